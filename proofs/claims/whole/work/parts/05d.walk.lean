theorem hwX5_wants_0 : (.fieldLink RX5 17 "FortyBelts$Machine" "from" "I" : Cond) ∈ wsX5_wants := (List.mem_cons_of_mem _ (List.mem_append_left _ (List.mem_of_getElem? (i := 0) rfl)))
theorem hwX5_wants_1 : (.fieldLink RX5 20 "FortyBelts$Machine" "to" "I" : Cond) ∈ wsX5_wants := (List.mem_cons_of_mem _ (List.mem_append_left _ (List.mem_of_getElem? (i := 1) rfl)))
theorem hcX5_wants_X5 : ∀ w ∈ wsX50, w ∈ wsX5_wants := fun _ h => (List.mem_cons_of_mem _ (List.mem_append_right _ h))
set_option maxHeartbeats 4000000 in
set_option maxRecDepth 100000 in
theorem J_X5_wants {D : va_G} {KA : Nat → ClassId} {zs : ZS} {ad : Nat → Nat} {ids : List Nat} {sz : Nat} (l : Launch) (hI : ∀ c, c < 52 ∧ ¬ c = 19 → c ∈ ids) {a0 : Nat} {a1 : Int64} {a3 : Int64} (ok_a0 : okM ids a0) {σ : St} {post : Int32 → St → Prop} (h : wX5_wants ids a0 a1 a3 σ post) : Met l yX5_wants wsX5_wants rmX5_wants (va_Pc [.ref (ad a0), .long a1, .long a3] (xIn D KA zs layX stX ad ids sz σ)) (va_Qi post (xOut D KA layX stX ad ids) (xA ad ids sz)) 0 0 (xA ad ids sz) := by
  refine Met.ofW (cc := cX5_wants) (maxL := 5) (ret := (some .boolean)) (by decide) rfl ?_
  intro p e s m args below meth c s₁ B hml hv
  obtain ⟨hav, hsz, hK, hZ, hP, hD⟩ := hv
  have hx := B.exec
  have hb := B.bytes
  have hr := B.returns
  have hts := atoms_spec (ws := wsX5_wants) B.pre
  have hown : s.vm.findClass RX5 = some m.cls := findClass_of_methodNamed B.named
  have hlocks := B.notSynchronized
  subst hsz
  have hA : ∀ q : Nat, s.heap.size ≤ q → xA ad ids s.heap.size q := fun q h => Or.inr h
  have hW : xW D KA layX stX ad ids (xA ad ids s.heap.size) s.heap σ s.heap [] := ⟨hP, xA_D (D := D) hD, va_S.rf⟩
  have kr : ∀ (v : Int32) (σ : St) (H : Heap) (locs : List Loc) (ls : Array Slot) (pc : Nat), xW D KA layX stX ad ids (xA ad ids s.heap.size) s.heap σ H locs → isB v → post v σ → decode cX5_wants pc = .ok (.ireturn, 1) → W p l e rmX5_wants s m args below meth c H locs 0 0 (MQ below (va_Qi post (xOut D KA layX stX ad ids) (xA ad ids s.heap.size)) args s 0 0 (xA ad ids s.heap.size)) (F0 m pc ls [.int v]) := fun v σ H locs ls pc hW hz h hd => x_zret hx hb hr hlocks hW hz h hd
  have hl := lv_entry ([.ref (ad a0), .long a1, .long a3]) (n := 5) (Nat.le_of_ble_eq_true rfl)
  rw [show entryFrame m args 5 = entryFrame m ([.ref (ad a0), .long a1, .long a3] : List Value).toArray 5 from by rw [hav]]
  rw [lg_entry_eq]
  generalize (lg_sl ([.ref (ad a0), .long a1, .long a3]) ++ List.replicate (5 - (lg_sl ([.ref (ad a0), .long a1, .long a3])).length) Slot.unset).toArray = ls at hl ⊢
  have hl : lv_has ls 5 [(0, .ref (ad a0)), (1, .long a1), (3, .long a3)] := hl
  show W p l e rmX5_wants s m args below meth c s.heap [] 0 0 _ _
  generalize MQ below (va_Qi post (xOut D KA layX stX ad ids) (xA ad ids s.heap.size)) args s 0 0 (xA ad ids s.heap.size) = Q at kr ⊢
  have blk29 : ∀ (s0 : Int32) (σ : St) (H : Heap) (locs : List Loc) (ls : Array Slot), xW D KA layX stX ad ids (xA ad ids s.heap.size) s.heap σ H locs → lv_has ls 5 [] → wX5_wants_29 ids post s0 σ → W p l e rmX5_wants s m args below meth c H locs 0 0 Q (F0 m 29 ls [.int s0]) := by
    intro   s0 σ H locs ls hW hl h
    unfold wX5_wants_29 at h
    obtain ⟨hz1, h⟩ := h
    exact kr _ _ _ _ _ _ hW hz1 h dX5_wants_29
  have blk28 : ∀ (σ : St) (H : Heap) (locs : List Loc) (ls : Array Slot), xW D KA layX stX ad ids (xA ad ids s.heap.size) s.heap σ H locs → lv_has ls 5 [] → wX5_wants_28 ids post  σ → W p l e rmX5_wants s m args below meth c H locs 0 0 Q (F0 m 28 ls []) := by
    intro    σ H locs ls hW hl h
    unfold wX5_wants_28 at h
    refine lv_iconst (v := 0) hx hb dX5_wants_28 (by decide) ?_
    exact blk29   (0 : Int32) _ _ _ _ hW (lv_sub hl [] rfl) h
  have main : ∀ (H : Heap) (locs : List Loc) (ls : Array Slot), xW D KA layX stX ad ids (xA ad ids s.heap.size) s.heap σ H locs → lv_has ls 5 [(0, .ref (ad a0)), (1, .long a1), (3, .long a3)] → W p l e rmX5_wants s m args below meth c H locs 0 0 Q (F0 m 0 ls []) := by
    intro H locs ls hW hl
    unfold wX5_wants at h
    refine lv_aload_n hx hb dX5_wants_0 rfl (lv_at hl 0 rfl) ?_
    refine xgX5_1 hx hb hts hown hK hW a0 hcX5_wants_X5 ok_a0.1 (lay_okM ok_a0) (hts _ hwX5_wants_0) dX5_wants_1 ?_
    refine lv_i2l hx hb dX5_wants_4 rfl ?_
    refine lv_lload_n hx hb dX5_wants_5 rfl (lv_at hl 2 rfl) ?_
    refine lv_lmul hx hb dX5_wants_6 ?_
    refine lv_lload_n hx hb dX5_wants_7 rfl (lv_at hl 1 rfl) ?_
    refine W.lcmp hx hb dX5_wants_8 ?_
    refine lv_if_gt (tgt := 28) hx hb dX5_wants_9 (by decide) (fun c1001 => ?_) (fun c1001 => ?_)
    · have h := h.1 c1001
      exact blk28    _ _ _ _ hW (lv_sub hl [] rfl) h
    · have h := h.2 c1001
      refine lv_lload_n hx hb dX5_wants_12 rfl (lv_at hl 1 rfl) ?_
      refine lv_aload_n hx hb dX5_wants_13 rfl (lv_at hl 0 rfl) ?_
      refine xgX5_2 hx hb hts hown hK hW a0 hcX5_wants_X5 ok_a0.1 (lay_okM ok_a0) (hts _ hwX5_wants_1) dX5_wants_14 ?_
      refine lv_i2l hx hb dX5_wants_17 rfl ?_
      refine lv_lload_n hx hb dX5_wants_18 rfl (lv_at hl 2 rfl) ?_
      refine lv_lmul hx hb dX5_wants_19 ?_
      refine W.lcmp hx hb dX5_wants_20 ?_
      refine lv_if_gt (tgt := 28) hx hb dX5_wants_21 (by decide) (fun c1002 => ?_) (fun c1002 => ?_)
      · have h := h.1 c1002
        exact blk28    _ _ _ _ hW (lv_sub hl [] rfl) h
      · have h := h.2 c1002
        refine lv_iconst (v := 1) hx hb dX5_wants_24 (by decide) ?_
        refine lv_goto (tgt := 29) hx hb dX5_wants_25 (by decide) ?_
        exact blk29   (1 : Int32) _ _ _ _ hW (lv_sub hl [] rfl) h
  exact main _ _ _ hW hl
theorem hwX6_wellRunning_0 : (.fieldLink RX6 59 "FortyBelts$Mill" "machineCount" "I" : Cond) ∈ wsX6_wellRunning := (List.mem_cons_of_mem _ (List.mem_append_left _ (List.mem_append_left _ (List.mem_of_getElem? (i := 0) rfl))))
theorem hwX6_wellRunning_1 : (.fieldLink RX6 33 "FortyBelts$Mill" "machines" "[LFortyBelts$Machine;" : Cond) ∈ wsX6_wellRunning := (List.mem_cons_of_mem _ (List.mem_append_left _ (List.mem_append_left _ (List.mem_of_getElem? (i := 1) rfl))))
theorem hwX6_wellRunning_2 : (.fieldLink RX6 116 "FortyBelts$Machine" "on" "Z" : Cond) ∈ wsX6_wellRunning := (List.mem_cons_of_mem _ (List.mem_append_left _ (List.mem_append_left _ (List.mem_of_getElem? (i := 2) rfl))))
theorem hwX6_wellRunning_3 : (.fieldLink RX6 21 "FortyBelts$Mill" "above" "[J" : Cond) ∈ wsX6_wellRunning := (List.mem_cons_of_mem _ (List.mem_append_left _ (List.mem_append_left _ (List.mem_of_getElem? (i := 3) rfl))))
theorem hwX6_wellRunning_4 : (.fieldLink RX6 117 "FortyBelts$Machine" "shaft" "I" : Cond) ∈ wsX6_wellRunning := (List.mem_cons_of_mem _ (List.mem_append_left _ (List.mem_append_left _ (List.mem_of_getElem? (i := 4) rfl))))
theorem hwX6_wellRunning_5 : (.fieldLink RX6 25 "FortyBelts$Mill" "below" "[J" : Cond) ∈ wsX6_wellRunning := (List.mem_cons_of_mem _ (List.mem_append_left _ (List.mem_append_left _ (List.mem_of_getElem? (i := 5) rfl))))
theorem hcX6_wellRunning_X6 : ∀ w ∈ wsX60, w ∈ wsX6_wellRunning := fun _ h => (List.mem_cons_of_mem _ (List.mem_append_left _ (List.mem_append_right _ h)))
theorem hcX6_wellRunning_X5 : ∀ w ∈ wsX50, w ∈ wsX6_wellRunning := fun _ h => (List.mem_cons_of_mem _ (List.mem_append_right _ h))
set_option maxHeartbeats 4000000 in
set_option maxRecDepth 100000 in
theorem J_X6_wellRunning {D : va_G} {KA : Nat → ClassId} {zs : ZS} {ad : Nat → Nat} {ids : List Nat} {sz : Nat} (l : Launch) (hI : ∀ c, c < 52 ∧ ¬ c = 19 → c ∈ ids)   {σ : St} {post : Int32 → St → Prop} (h : wX6_wellRunning ids  σ post) : Met l yX6_wellRunning wsX6_wellRunning rmX6_wellRunning (va_Pc [.ref (ad 1)] (xIn D KA zs layX stX ad ids sz σ)) (va_Qi post (xOut D KA layX stX ad ids) (xA ad ids sz)) 0 0 (xA ad ids sz) := by
  refine Met.ofW (cc := cX6_wellRunning) (maxL := 4) (ret := (some .int)) (by decide) rfl ?_
  intro p e s m args below meth c s₁ B hml hv
  obtain ⟨hav, hsz, hK, hZ, hP, hD⟩ := hv
  have hx := B.exec
  have hb := B.bytes
  have hr := B.returns
  have hts := atoms_spec (ws := wsX6_wellRunning) B.pre
  have hown : s.vm.findClass RX6 = some m.cls := findClass_of_methodNamed B.named
  have hlocks := B.notSynchronized
  subst hsz
  have hA : ∀ q : Nat, s.heap.size ≤ q → xA ad ids s.heap.size q := fun q h => Or.inr h
  have hW : xW D KA layX stX ad ids (xA ad ids s.heap.size) s.heap σ s.heap [] := ⟨hP, xA_D (D := D) hD, va_S.rf⟩
  have kr : ∀ (v : Int32) (σ : St) (H : Heap) (locs : List Loc) (ls : Array Slot) (pc : Nat), xW D KA layX stX ad ids (xA ad ids s.heap.size) s.heap σ H locs → post v σ → decode cX6_wellRunning pc = .ok (.ireturn, 1) → W p l e rmX6_wellRunning s m args below meth c H locs 0 0 (MQ below (va_Qi post (xOut D KA layX stX ad ids) (xA ad ids s.heap.size)) args s 0 0 (xA ad ids s.heap.size)) (F0 m pc ls [.int v]) := fun v σ H locs ls pc hW h hd => x_iret hx hb hr hlocks hW h hd
  have hl := lv_entry ([.ref (ad 1)]) (n := 4) (Nat.le_of_ble_eq_true rfl)
  rw [show entryFrame m args 4 = entryFrame m ([.ref (ad 1)] : List Value).toArray 4 from by rw [hav]]
  rw [lg_entry_eq]
  generalize (lg_sl ([.ref (ad 1)]) ++ List.replicate (4 - (lg_sl ([.ref (ad 1)])).length) Slot.unset).toArray = ls at hl ⊢
  have hl : lv_has ls 4 [(0, .ref (ad 1))] := hl
  show W p l e rmX6_wellRunning s m args below meth c s.heap [] 0 0 _ _
  generalize MQ below (va_Qi post (xOut D KA layX stX ad ids) (xA ad ids s.heap.size)) args s 0 0 (xA ad ids s.heap.size) = Q at kr ⊢
  have blk57 : ∀ (k4 : Int32 → Int32 → St → Prop) (hk4 : ∀ (x1 : Int32) (x2 : Int32) (σ : St) (H : Heap) (locs : List Loc) (ls : Array Slot), xW D KA layX stX ad ids (xA ad ids s.heap.size) s.heap σ H locs → lv_has ls 4 [(0, .ref (ad 1)), (1, .int x1), (2, .int x2)] → k4 x1 x2 σ → W p l e rmX6_wellRunning s m args below meth c H locs 0 0 Q (F0 m 4 ls [])) (x1 : Int32) (x2 : Int32) (σ : St) (H : Heap) (locs : List Loc) (ls : Array Slot), xW D KA layX stX ad ids (xA ad ids s.heap.size) s.heap σ H locs → lv_has ls 4 [(0, .ref (ad 1)), (1, .int x1), (2, .int x2)] → wX6_wellRunning_57 ids k4 post x1 x2 σ → W p l e rmX6_wellRunning s m args below meth c H locs 0 0 Q (F0 m 57 ls []) := by
    intro  k4 hk4 x1 x2 σ H locs ls hW hl h
    unfold wX6_wellRunning_57 at h
    obtain ⟨v1, hv1⟩ : ∃ y : Int32, y = x2 + (1 : Int32) := ⟨_, rfl⟩
    have h := h v1 hv1
    refine lv_iinc (v := v1) (lv' := [(2, .int v1), (0, .ref (ad 1)), (1, .int x1)]) hx hb dX6_wellRunning_57 hl (k := 2) rfl (by rw [hv1]; rfl) (by decide) rfl (fun ls hl => ?_)
    refine lv_goto (tgt := 4) hx hb dX6_wellRunning_60 (by decide) ?_
    exact hk4 x1 v1 _ _ _ _ hW (lv_sub hl [1, 2, 0] rfl) h
  have blk51 : ∀ (k4 : Int32 → Int32 → St → Prop) (hk4 : ∀ (x1 : Int32) (x2 : Int32) (σ : St) (H : Heap) (locs : List Loc) (ls : Array Slot), xW D KA layX stX ad ids (xA ad ids s.heap.size) s.heap σ H locs → lv_has ls 4 [(0, .ref (ad 1)), (1, .int x1), (2, .int x2)] → k4 x1 x2 σ → W p l e rmX6_wellRunning s m args below meth c H locs 0 0 Q (F0 m 4 ls [])) (x1 : Int32) (x2 : Int32) (σ : St) (H : Heap) (locs : List Loc) (ls : Array Slot), xW D KA layX stX ad ids (xA ad ids s.heap.size) s.heap σ H locs → lv_has ls 4 [(0, .ref (ad 1)), (1, .int x1), (2, .int x2)] → wX6_wellRunning_51 ids k4 post x1 x2 σ → W p l e rmX6_wellRunning s m args below meth c H locs 0 0 Q (F0 m 51 ls []) := by
    intro  k4 hk4 x1 x2 σ H locs ls hW hl h
    unfold wX6_wellRunning_51 at h
    refine lv_iload_n hx hb dX6_wellRunning_51 rfl (lv_at hl 1 rfl) ?_
    refine lv_iconst (v := 1) hx hb dX6_wellRunning_52 (by decide) ?_
    refine lv_iload_n hx hb dX6_wellRunning_53 rfl (lv_at hl 2 rfl) ?_
    refine lv_ishl hx hb dX6_wellRunning_54 ?_
    refine lv_ior hx hb dX6_wellRunning_55 ?_
    refine lv_topi (fun v2 hv2 => ?_)
    have h := h v2 hv2
    refine lv_istore_n (lv' := [(1, .int v2), (0, .ref (ad 1)), (2, .int x2)]) hx hb dX6_wellRunning_56 rfl hl (by decide) rfl (fun ls hl => ?_)
    exact blk57  k4 hk4 v2 x2 _ _ _ _ hW (lv_sub hl [1, 0, 2] rfl) h
  have blk4 : ∀ (n : Nat) (x1 : Int32) (x2 : Int32) (σ : St) (H : Heap) (locs : List Loc) (ls : Array Slot), xW D KA layX stX ad ids (xA ad ids s.heap.size) s.heap σ H locs → lv_has ls 4 [(0, .ref (ad 1)), (1, .int x1), (2, .int x2)] → wX6_wellRunning_4 ids post  n x1 x2 σ → W p l e rmX6_wellRunning s m args below meth c H locs 0 0 Q (F0 m 4 ls []) := by
    intro    n
    induction n with
    | zero => intro x1 x2 σ H locs ls hW hl h; exact (h : False).elim
    | succ n ih =>
      intro x1 x2 σ H locs ls hW hl h
      have hk4 : ∀ (x1 : Int32) (x2 : Int32) (σ : St) (H : Heap) (locs : List Loc) (ls : Array Slot), xW D KA layX stX ad ids (xA ad ids s.heap.size) s.heap σ H locs → lv_has ls 4 [(0, .ref (ad 1)), (1, .int x1), (2, .int x2)] → (wX6_wellRunning_4 ids post  n) x1 x2 σ → W p l e rmX6_wellRunning s m args below meth c H locs 0 0 Q (F0 m 4 ls []) := fun x1 x2 σ H locs ls hW hl h => ih x1 x2 σ H locs ls hW hl h
      rw [wX6_wellRunning_4_s] at h
      try dsimp only at h
      generalize wX6_wellRunning_4 ids post  n = k4 at h hk4
      refine lv_iload_n hx hb dX6_wellRunning_4 rfl (lv_at hl 2 rfl) ?_
      refine lv_aload_n hx hb dX6_wellRunning_5 rfl (lv_at hl 0 rfl) ?_
      refine xgX6_1 hx hb hts hown hK hW 1 hcX6_wellRunning_X6 (hI 1 (by decide)) lX_1 (hts _ hwX6_wellRunning_0) dX6_wellRunning_6 ?_
      refine lv_icmp_ge (tgt := 63) hx hb dX6_wellRunning_9 (by decide) (fun c3 => ?_) (fun c3 => ?_)
      · have h := h.1 c3
        refine lv_iload_n hx hb dX6_wellRunning_63 rfl (lv_at hl 1 rfl) ?_
        exact kr _ _ _ _ _ _ hW h dX6_wellRunning_64
      · have h := h.2 c3
        refine lv_aload_n hx hb dX6_wellRunning_12 rfl (lv_at hl 0 rfl) ?_
        refine xgX6_10r hx hb hts hown hK hW 1 hcX6_wellRunning_X6 (hI 1 (by decide)) lX_1 (hts _ hwX6_wellRunning_1) (sX_1_10 _) dX6_wellRunning_13 ?_
        refine lv_iload_n hx hb dX6_wellRunning_16 rfl (lv_at hl 2 rfl) ?_
        obtain ⟨hi4, h⟩ := h
        obtain ⟨o5, hr6, ok_o5, h⟩ := h
        refine x_ald hx hb hK hW 9 1 (hI 9 (by decide)) lX_9 rfl hi4 ((sX_9 _ _).trans hr6) dX6_wellRunning_17 ?_
        refine lv_astore_n (lv' := [(3, .ref (ad o5)), (0, .ref (ad 1)), (1, .int x1), (2, .int x2)]) hx hb dX6_wellRunning_18 rfl hl (by decide) rfl (fun ls hl => ?_)
        refine lv_aload_n hx hb dX6_wellRunning_19 rfl (lv_at hl 0 rfl) ?_
        refine xgX5_5 hx hb hts hown hK hW o5 hcX6_wellRunning_X5 ok_o5.1 (lay_okM ok_o5) (hts _ hwX6_wellRunning_2) dX6_wellRunning_20 ?_
        refine lv_if_eq (tgt := 51) hx hb dX6_wellRunning_23 (by decide) (fun c7 => ?_) (fun c7 => ?_)
        · have h := h.1 c7
          exact blk51  k4 hk4 x1 x2 _ _ _ _ hW (lv_sub hl [1, 2, 3] rfl) h
        · have h := h.2 c7
          refine lv_aload_n hx hb dX6_wellRunning_26 rfl (lv_at hl 0 rfl) ?_
          refine lv_aload_n hx hb dX6_wellRunning_27 rfl (lv_at hl 1 rfl) ?_
          refine xgX6_7r hx hb hts hown hK hW 1 hcX6_wellRunning_X6 (hI 1 (by decide)) lX_1 (hts _ hwX6_wellRunning_3) (sX_1_7 _) dX6_wellRunning_28 ?_
          refine lv_aload_n hx hb dX6_wellRunning_31 rfl (lv_at hl 0 rfl) ?_
          refine xgX5_0 hx hb hts hown hK hW o5 hcX6_wellRunning_X5 ok_o5.1 (lay_okM ok_o5) (hts _ hwX6_wellRunning_4) dX6_wellRunning_32 ?_
          obtain ⟨hi8, h⟩ := h
          refine x_lald hx hb hK hW 6 (hI 6 (by decide)) lX_6 hi8 dX6_wellRunning_35 ?_
          refine lv_aload_n hx hb dX6_wellRunning_36 rfl (lv_at hl 1 rfl) ?_
          refine xgX6_8r hx hb hts hown hK hW 1 hcX6_wellRunning_X6 (hI 1 (by decide)) lX_1 (hts _ hwX6_wellRunning_5) (sX_1_8 _) dX6_wellRunning_37 ?_
          refine lv_aload_n hx hb dX6_wellRunning_40 rfl (lv_at hl 0 rfl) ?_
          refine xgX5_0 hx hb hts hown hK hW o5 hcX6_wellRunning_X5 ok_o5.1 (lay_okM ok_o5) (hts _ hwX6_wellRunning_4) dX6_wellRunning_41 ?_
          refine x_lald hx hb hK hW 7 (hI 7 (by decide)) lX_7 hi8 dX6_wellRunning_44 ?_
          refine x_calli (va_runV (As := [.long (gJ σ 6 (gI σ o5 0).toNatClampNeg), .long (gJ σ 7 (gI σ o5 0).toNatClampNeg)]) (rest := []) ⟨hx, hb, hml, hown, hts⟩ (J_X5_wants l hI ok_o5 h) (cwV 2 hts gX6_wellRunning_X5_wants rfl rfl rfl hdV_X5_wants ⟨Nat.le_of_ble_eq_true rfl, Nat.le_of_ble_eq_true rfl⟩) (x_preV (ci := 5) hK hZ hA hW ok_o5.1 (lay_okM ok_o5) rfl) rfl rfl hl.1 rfl (lv_room (Nat.le_of_ble_eq_true rfl)) dX6_wellRunning_45 ⟨Nat.zero_le _, Nat.zero_le _⟩) hW hA (fun r11 σ10 H locs h hW => ?_)
          try dsimp only at h
          refine lv_if_eq (tgt := 57) hx hb dX6_wellRunning_48 (by decide) (fun c12 => ?_) (fun c12 => ?_)
          · have h := h.1 c12
            exact blk57  k4 hk4 x1 x2 _ _ _ _ hW (lv_sub hl [1, 2, 3] rfl) h
          · have h := h.2 c12
            exact blk51  k4 hk4 x1 x2 _ _ _ _ hW (lv_sub hl [1, 2, 3] rfl) h
  have main : ∀ (H : Heap) (locs : List Loc) (ls : Array Slot), xW D KA layX stX ad ids (xA ad ids s.heap.size) s.heap σ H locs → lv_has ls 4 [(0, .ref (ad 1))] → W p l e rmX6_wellRunning s m args below meth c H locs 0 0 Q (F0 m 0 ls []) := by
    intro H locs ls hW hl
    unfold wX6_wellRunning at h
    refine lv_iconst (v := 0) hx hb dX6_wellRunning_0 (by decide) ?_
    refine lv_istore_n (lv' := [(1, .int (0 : Int32)), (0, .ref (ad 1))]) hx hb dX6_wellRunning_1 rfl hl (by decide) rfl (fun ls hl => ?_)
    refine lv_iconst (v := 0) hx hb dX6_wellRunning_2 (by decide) ?_
    refine lv_istore_n (lv' := [(2, .int (0 : Int32)), (1, .int (0 : Int32)), (0, .ref (ad 1))]) hx hb dX6_wellRunning_3 rfl hl (by decide) rfl (fun ls hl => ?_)
    obtain ⟨n, h⟩ := h
    exact blk4    n (0 : Int32) (0 : Int32) _ _ _ _ hW (lv_sub hl [2, 1, 0] rfl) h
  exact main _ _ _ hW hl
theorem hwX11_weigh_0 : (.fieldLink RX11 265 "FortyBelts" "chosenWell" "I" : Cond) ∈ wsX11_weigh := (List.mem_cons_of_mem _ (List.mem_append_left _ (List.mem_append_left _ (List.mem_append_left _ (List.mem_append_left _ (List.mem_append_left _ (List.mem_append_left _ (List.mem_append_left _ (List.mem_append_left _ (List.mem_append_left _ (List.mem_append_left _ (List.mem_of_getElem? (i := 1) rfl))))))))))))
theorem hwX11_weigh_1 : (.fieldLink RX11 268 "FortyBelts" "chosenChanged" "I" : Cond) ∈ wsX11_weigh := (List.mem_cons_of_mem _ (List.mem_append_left _ (List.mem_append_left _ (List.mem_append_left _ (List.mem_append_left _ (List.mem_append_left _ (List.mem_append_left _ (List.mem_append_left _ (List.mem_append_left _ (List.mem_append_left _ (List.mem_append_left _ (List.mem_of_getElem? (i := 2) rfl))))))))))))
theorem hwX11_weigh_2 : (.fieldLink RX11 65 "FortyBelts" "tried" "[I" : Cond) ∈ wsX11_weigh := (List.mem_cons_of_mem _ (List.mem_append_left _ (List.mem_append_left _ (List.mem_append_left _ (List.mem_append_left _ (List.mem_append_left _ (List.mem_append_left _ (List.mem_append_left _ (List.mem_append_left _ (List.mem_append_left _ (List.mem_append_left _ (List.mem_of_getElem? (i := 3) rfl))))))))))))
theorem hwX11_weigh_3 : (.fieldLink RX11 68 "FortyBelts" "chosen" "[I" : Cond) ∈ wsX11_weigh := (List.mem_cons_of_mem _ (List.mem_append_left _ (List.mem_append_left _ (List.mem_append_left _ (List.mem_append_left _ (List.mem_append_left _ (List.mem_append_left _ (List.mem_append_left _ (List.mem_append_left _ (List.mem_append_left _ (List.mem_append_left _ (List.mem_of_getElem? (i := 4) rfl))))))))))))
theorem hwX11_weigh_4 : (.methodLink RX11 348 arraycopyName : Cond) ∈ wsX11_weigh := (List.mem_cons_of_mem _ (List.mem_append_left _ (List.mem_append_left _ (List.mem_append_left _ (List.mem_append_left _ (List.mem_append_left _ (List.mem_append_left _ (List.mem_append_left _ (List.mem_append_left _ (List.mem_append_left _ (List.mem_append_left _ (List.mem_of_getElem? (i := 5) rfl))))))))))))
theorem hwX11_weigh_5 : (.native arraycopyName : Cond) ∈ wsX11_weigh := (List.mem_cons_of_mem _ (List.mem_append_left _ (List.mem_append_left _ (List.mem_append_left _ (List.mem_append_left _ (List.mem_append_left _ (List.mem_append_left _ (List.mem_append_left _ (List.mem_append_left _ (List.mem_append_left _ (List.mem_append_left _ (List.mem_of_getElem? (i := 6) rfl))))))))))))
theorem hwX11_weigh_6 : (.static arraycopyName : Cond) ∈ wsX11_weigh := (List.mem_cons_of_mem _ (List.mem_append_left _ (List.mem_append_left _ (List.mem_append_left _ (List.mem_append_left _ (List.mem_append_left _ (List.mem_append_left _ (List.mem_append_left _ (List.mem_append_left _ (List.mem_append_left _ (List.mem_append_left _ (List.mem_of_getElem? (i := 7) rfl))))))))))))
theorem hwX11_weigh_7 : (.initialized "java/lang/System" : Cond) ∈ wsX11_weigh := (List.mem_cons_of_mem _ (List.mem_append_left _ (List.mem_append_left _ (List.mem_append_left _ (List.mem_append_left _ (List.mem_append_left _ (List.mem_append_left _ (List.mem_append_left _ (List.mem_append_left _ (List.mem_append_left _ (List.mem_append_left _ (List.mem_of_getElem? (i := 8) rfl))))))))))))
theorem hwX11_weigh_8 : (.fieldLink RX11 10 "FortyBelts" "mill" "LFortyBelts$Mill;" : Cond) ∈ wsX11_weigh := (List.mem_cons_of_mem _ (List.mem_append_left _ (List.mem_append_left _ (List.mem_append_left _ (List.mem_append_left _ (List.mem_append_left _ (List.mem_append_left _ (List.mem_append_left _ (List.mem_append_left _ (List.mem_append_left _ (List.mem_append_left _ (List.mem_of_getElem? (i := 0) rfl))))))))))))
theorem hcX11_weigh_X11 : ∀ w ∈ wsX110, w ∈ wsX11_weigh := fun _ h => (List.mem_cons_of_mem _ (List.mem_append_left _ (List.mem_append_left _ (List.mem_append_left _ (List.mem_append_left _ (List.mem_append_left _ (List.mem_append_left _ (List.mem_append_left _ (List.mem_append_left _ (List.mem_append_right _ h))))))))))
set_option maxHeartbeats 4000000 in
set_option maxRecDepth 100000 in
theorem J_X11_weigh {D : va_G} {KA : Nat → ClassId} {zs : ZS} {ad : Nat → Nat} {ids : List Nat} {sz : Nat} (l : Launch) (hI : ∀ c, c < 52 ∧ ¬ c = 19 → c ∈ ids) {a1 : Int32}  {σ : St} {post : St → Prop} (h : wX11_weigh ids a1 σ post) : Met l yX11_weigh wsX11_weigh rmX11_weigh (va_Pc [.ref (ad 0), .int a1] (xIn D KA zs layX stX ad ids sz σ)) (va_Qv post (xOut D KA layX stX ad ids) (xA ad ids sz)) 0 0 (xA ad ids sz) := by
  refine Met.ofW (cc := cX11_weigh) (maxL := 3) (ret := none) (by decide) rfl ?_
  intro p e s m args below meth c s₁ B hml hv
  obtain ⟨hav, hsz, hK, hZ, hP, hD⟩ := hv
  have hx := B.exec
  have hb := B.bytes
  have hr := B.returns
  have hts := atoms_spec (ws := wsX11_weigh) B.pre
  have hown : s.vm.findClass RX11 = some m.cls := findClass_of_methodNamed B.named
  have hlocks := B.notSynchronized
  subst hsz
  have hA : ∀ q : Nat, s.heap.size ≤ q → xA ad ids s.heap.size q := fun q h => Or.inr h
  have hW : xW D KA layX stX ad ids (xA ad ids s.heap.size) s.heap σ s.heap [] := ⟨hP, xA_D (D := D) hD, va_S.rf⟩
  have kr : ∀ (σ : St) (H : Heap) (locs : List Loc) (ls : Array Slot) (pc : Nat), xW D KA layX stX ad ids (xA ad ids s.heap.size) s.heap σ H locs → post σ → decode cX11_weigh pc = .ok (.return_, 1) → W p l e rmX11_weigh s m args below meth c H locs 0 0 (MQ below (va_Qv post (xOut D KA layX stX ad ids) (xA ad ids s.heap.size)) args s 0 0 (xA ad ids s.heap.size)) (F0 m pc ls []) := fun σ H locs ls pc hW h hd => x_vret hx hb hr hlocks hW h hd
  have hl := lv_entry ([.ref (ad 0), .int a1]) (n := 3) (Nat.le_of_ble_eq_true rfl)
  rw [show entryFrame m args 3 = entryFrame m ([.ref (ad 0), .int a1] : List Value).toArray 3 from by rw [hav]]
  rw [lg_entry_eq]
  generalize (lg_sl ([.ref (ad 0), .int a1]) ++ List.replicate (3 - (lg_sl ([.ref (ad 0), .int a1])).length) Slot.unset).toArray = ls at hl ⊢
  have hl : lv_has ls 3 [(0, .ref (ad 0)), (1, .int a1)] := hl
  show W p l e rmX11_weigh s m args below meth c s.heap [] 0 0 _ _
  generalize MQ below (va_Qv post (xOut D KA layX stX ad ids) (xA ad ids s.heap.size)) args s 0 0 (xA ad ids s.heap.size) = Q at kr ⊢
  have blk66 : ∀ (σ : St) (H : Heap) (locs : List Loc) (ls : Array Slot), xW D KA layX stX ad ids (xA ad ids s.heap.size) s.heap σ H locs → lv_has ls 3 [] → wX11_weigh_66 ids post  σ → W p l e rmX11_weigh s m args below meth c H locs 0 0 Q (F0 m 66 ls []) := by
    intro    σ H locs ls hW hl h
    unfold wX11_weigh_66 at h
    exact kr _ _ _ _ _ hW h dX11_weigh_66
  have blk42 : ∀ (x1 : Int32) (x2 : Int32) (σ : St) (H : Heap) (locs : List Loc) (ls : Array Slot), xW D KA layX stX ad ids (xA ad ids s.heap.size) s.heap σ H locs → lv_has ls 3 [(0, .ref (ad 0)), (1, .int x1), (2, .int x2)] → wX11_weigh_42 ids post x1 x2 σ → W p l e rmX11_weigh s m args below meth c H locs 0 0 Q (F0 m 42 ls []) := by
    intro   x1 x2 σ H locs ls hW hl h
    unfold wX11_weigh_42 at h
    refine lv_aload_n hx hb dX11_weigh_42 rfl (lv_at hl 0 rfl) ?_
    refine lv_iload_n hx hb dX11_weigh_43 rfl (lv_at hl 2 rfl) ?_
    refine xpX11_9 hx hb hts hown hK hW 0 hcX11_weigh_X11 (hI 0 (by decide)) lX_0 (hts _ hwX11_weigh_0) dX11_weigh_44 (fun σ1 H locs hσ1 hW => ?_)
    have h := h σ1 hσ1
    refine lv_aload_n hx hb dX11_weigh_47 rfl (lv_at hl 0 rfl) ?_
    refine lv_iload_n hx hb dX11_weigh_48 rfl (lv_at hl 1 rfl) ?_
    refine xpX11_10 hx hb hts hown hK hW 0 hcX11_weigh_X11 (hI 0 (by decide)) lX_0 (hts _ hwX11_weigh_1) dX11_weigh_49 (fun σ2 H locs hσ2 hW => ?_)
    have h := h σ2 hσ2
    refine lv_aload_n hx hb dX11_weigh_52 rfl (lv_at hl 0 rfl) ?_
    refine xgX11_7r hx hb hts hown hK hW 0 hcX11_weigh_X11 (hI 0 (by decide)) lX_0 (hts _ hwX11_weigh_2) (sX_0_7 _) dX11_weigh_53 ?_
    refine lv_iconst (v := 0) hx hb dX11_weigh_56 (by decide) ?_
    refine lv_aload_n hx hb dX11_weigh_57 rfl (lv_at hl 0 rfl) ?_
    refine xgX11_8r hx hb hts hown hK hW 0 hcX11_weigh_X11 (hI 0 (by decide)) lX_0 (hts _ hwX11_weigh_3) (sX_0_8 _) dX11_weigh_58 ?_
    refine lv_iconst (v := 0) hx hb dX11_weigh_61 (by decide) ?_
    refine lv_iconst (v := 4) hx hb dX11_weigh_62 (by decide) ?_
    obtain ⟨⟨hy3, hy4, hy5, hy6, hy7⟩, h⟩ := h
    refine x_copy hx hb (hml.trans hl.1.symm) hown (hts _ hwX11_weigh_4) (hts _ hwX11_weigh_5) (hts _ hwX11_weigh_6) (hts _ hwX11_weigh_7) 17 18 hK hW (hI 17 (by decide)) lX_17 (hI 18 (by decide)) lX_18 hy3 hy4 hy5 hy6 hy7 (Nat.le_of_ble_eq_true rfl) (Nat.le_of_ble_eq_true rfl) dX11_weigh_63 (fun σ8 H locs hσ8 hW => ?_)
    have h := h σ8 hσ8
    exact blk66    _ _ _ _ hW (lv_sub hl [] rfl) h
  have main : ∀ (H : Heap) (locs : List Loc) (ls : Array Slot), xW D KA layX stX ad ids (xA ad ids s.heap.size) s.heap σ H locs → lv_has ls 3 [(0, .ref (ad 0)), (1, .int a1)] → W p l e rmX11_weigh s m args below meth c H locs 0 0 Q (F0 m 0 ls []) := by
    intro H locs ls hW hl
    unfold wX11_weigh at h
    refine lv_aload_n hx hb dX11_weigh_0 rfl (lv_at hl 0 rfl) ?_
    refine xgX11_0r hx hb hts hown hK hW 0 hcX11_weigh_X11 (hI 0 (by decide)) lX_0 (hts _ hwX11_weigh_8) (sX_0_0 _) dX11_weigh_1 ?_
    refine x_callv (va_runV (As := []) (rest := []) ⟨hx, hb, hml, hown, hts⟩ (J_X6_spin l hI h) (cwV 0 hts gX11_weigh_X6_spin rfl rfl rfl hdV_X6_spin ⟨Nat.le_of_ble_eq_true rfl, Nat.le_of_ble_eq_true rfl⟩) (x_preV (ci := 6) hK hZ hA hW (hI 1 (by decide)) lX_1 rfl) rfl rfl hl.1 rfl (lv_room (Nat.le_of_ble_eq_true rfl)) dX11_weigh_4 ⟨Nat.zero_le _, Nat.zero_le _⟩) hW hA (fun σ1001 H locs h hW => ?_)
    try dsimp only at h
    refine lv_aload_n hx hb dX11_weigh_7 rfl (lv_at hl 0 rfl) ?_
    refine xgX11_0r hx hb hts hown hK hW 0 hcX11_weigh_X11 (hI 0 (by decide)) lX_0 (hts _ hwX11_weigh_8) (sX_0_0 _) dX11_weigh_8 ?_
    refine x_calli (va_runV (As := []) (rest := []) ⟨hx, hb, hml, hown, hts⟩ (J_X6_wellRunning l hI h) (cwV 0 hts gX11_weigh_X6_wellRunning rfl rfl rfl hdV_X6_wellRunning ⟨Nat.le_of_ble_eq_true rfl, Nat.le_of_ble_eq_true rfl⟩) (x_preV (ci := 6) hK hZ hA hW (hI 1 (by decide)) lX_1 rfl) rfl rfl hl.1 rfl (lv_room (Nat.le_of_ble_eq_true rfl)) dX11_weigh_11 ⟨Nat.zero_le _, Nat.zero_le _⟩) hW hA (fun r1003 σ1002 H locs h hW => ?_)
    try dsimp only at h
    refine x_calli (va_runS (As := [.int r1003]) (rest := []) ⟨hx, hb, hml, hown, hts⟩ (J_J6_bitCount_0f7a4 l hI h) (va_cwS 1 hts gX11_weigh_J6_bitCount_0f7a4 rfl rfl rfl hdS_J6_bitCount_0f7a4 ⟨Nat.le_of_ble_eq_true rfl, Nat.le_of_ble_eq_true rfl⟩) (x_preS hK hZ hA hW) rfl rfl hl.1 rfl (lv_room (Nat.le_of_ble_eq_true rfl)) dX11_weigh_14 ⟨Nat.zero_le _, Nat.zero_le _⟩) hW hA (fun r1005 σ1004 H locs h hW => ?_)
    try dsimp only at h
    refine lv_istore_n (lv' := [(2, .int r1005), (0, .ref (ad 0)), (1, .int a1)]) hx hb dX11_weigh_17 rfl hl (by decide) rfl (fun ls hl => ?_)
    refine lv_iload_n hx hb dX11_weigh_18 rfl (lv_at hl 0 rfl) ?_
    refine lv_aload_n hx hb dX11_weigh_19 rfl (lv_at hl 1 rfl) ?_
    refine xgX11_9 hx hb hts hown hK hW 0 hcX11_weigh_X11 (hI 0 (by decide)) lX_0 (hts _ hwX11_weigh_0) dX11_weigh_20 ?_
    refine lv_icmp_gt (tgt := 42) hx hb dX11_weigh_23 (by decide) (fun c1006 => ?_) (fun c1006 => ?_)
    · have h := h.1 c1006
      exact blk42   a1 r1005 _ _ _ _ hW (lv_sub hl [1, 2, 0] rfl) h
    · have h := h.2 c1006
      refine lv_iload_n hx hb dX11_weigh_26 rfl (lv_at hl 0 rfl) ?_
      refine lv_aload_n hx hb dX11_weigh_27 rfl (lv_at hl 1 rfl) ?_
      refine xgX11_9 hx hb hts hown hK hW 0 hcX11_weigh_X11 (hI 0 (by decide)) lX_0 (hts _ hwX11_weigh_0) dX11_weigh_28 ?_
      refine lv_icmp_ne (tgt := 66) hx hb dX11_weigh_31 (by decide) (fun c1007 => ?_) (fun c1007 => ?_)
      · have h := h.1 c1007
        exact blk66    _ _ _ _ hW (lv_sub hl [] rfl) h
      · have h := h.2 c1007
        refine lv_iload_n hx hb dX11_weigh_34 rfl (lv_at hl 2 rfl) ?_
        refine lv_aload_n hx hb dX11_weigh_35 rfl (lv_at hl 1 rfl) ?_
        refine xgX11_10 hx hb hts hown hK hW 0 hcX11_weigh_X11 (hI 0 (by decide)) lX_0 (hts _ hwX11_weigh_1) dX11_weigh_36 ?_
        refine lv_icmp_ge (tgt := 66) hx hb dX11_weigh_39 (by decide) (fun c1008 => ?_) (fun c1008 => ?_)
        · have h := h.1 c1008
          exact blk66    _ _ _ _ hW (lv_sub hl [] rfl) h
        · have h := h.2 c1008
          exact blk42   a1 r1005 _ _ _ _ hW (lv_sub hl [1, 2, 0] rfl) h
  exact main _ _ _ hW hl
theorem hwX11_tryDrums_0 : (.fieldLink RX11 10 "FortyBelts" "mill" "LFortyBelts$Mill;" : Cond) ∈ wsX11_tryDrums := (List.mem_cons_of_mem _ (List.mem_append_left _ (List.mem_append_left _ (List.mem_append_left _ (List.mem_append_left _ (List.mem_append_left _ (List.mem_append_left _ (List.mem_append_left _ (List.mem_append_left _ (List.mem_append_left _ (List.mem_append_left _ (List.mem_of_getElem? (i := 0) rfl))))))))))))
theorem hwX11_tryDrums_1 : (.fieldLink RX11 125 "FortyBelts$Mill" "drumCount" "I" : Cond) ∈ wsX11_tryDrums := (List.mem_cons_of_mem _ (List.mem_append_left _ (List.mem_append_left _ (List.mem_append_left _ (List.mem_append_left _ (List.mem_append_left _ (List.mem_append_left _ (List.mem_append_left _ (List.mem_append_left _ (List.mem_append_left _ (List.mem_append_left _ (List.mem_of_getElem? (i := 2) rfl))))))))))))
theorem hwX11_tryDrums_2 : (.fieldLink RX11 65 "FortyBelts" "tried" "[I" : Cond) ∈ wsX11_tryDrums := (List.mem_cons_of_mem _ (List.mem_append_left _ (List.mem_append_left _ (List.mem_append_left _ (List.mem_append_left _ (List.mem_append_left _ (List.mem_append_left _ (List.mem_append_left _ (List.mem_append_left _ (List.mem_append_left _ (List.mem_append_left _ (List.mem_of_getElem? (i := 3) rfl))))))))))))
theorem hwX11_tryDrums_3 : (.fieldLink RX11 421 "FortyBelts$Mill" "sizes" "[I" : Cond) ∈ wsX11_tryDrums := (List.mem_cons_of_mem _ (List.mem_append_left _ (List.mem_append_left _ (List.mem_append_left _ (List.mem_append_left _ (List.mem_append_left _ (List.mem_append_left _ (List.mem_append_left _ (List.mem_append_left _ (List.mem_append_left _ (List.mem_append_left _ (List.mem_of_getElem? (i := 4) rfl))))))))))))
theorem hwX11_tryDrums_4 : (.fieldLink RX11 271 "FortyBelts$Belt" "b" "I" : Cond) ∈ wsX11_tryDrums := (List.mem_cons_of_mem _ (List.mem_append_left _ (List.mem_append_left _ (List.mem_append_left _ (List.mem_append_left _ (List.mem_append_left _ (List.mem_append_left _ (List.mem_append_left _ (List.mem_append_left _ (List.mem_append_left _ (List.mem_append_left _ (List.mem_of_getElem? (i := 5) rfl))))))))))))
theorem hwX11_tryDrums_5 : (.fieldLink RX11 173 "FortyBelts$Belt" "drivenDrum" "I" : Cond) ∈ wsX11_tryDrums := (List.mem_cons_of_mem _ (List.mem_append_left _ (List.mem_append_left _ (List.mem_append_left _ (List.mem_append_left _ (List.mem_append_left _ (List.mem_append_left _ (List.mem_append_left _ (List.mem_append_left _ (List.mem_append_left _ (List.mem_append_left _ (List.mem_of_getElem? (i := 6) rfl))))))))))))
theorem hwX11_tryDrums_6 : (.fieldLink RX11 163 "FortyBelts$Mill" "belts" "[LFortyBelts$Belt;" : Cond) ∈ wsX11_tryDrums := (List.mem_cons_of_mem _ (List.mem_append_left _ (List.mem_append_left _ (List.mem_append_left _ (List.mem_append_left _ (List.mem_append_left _ (List.mem_append_left _ (List.mem_append_left _ (List.mem_append_left _ (List.mem_append_left _ (List.mem_append_left _ (List.mem_of_getElem? (i := 1) rfl))))))))))))
theorem hcX11_tryDrums_X11 : ∀ w ∈ wsX110, w ∈ wsX11_tryDrums := fun _ h => (List.mem_cons_of_mem _ (List.mem_append_left _ (List.mem_append_left _ (List.mem_append_left _ (List.mem_append_left _ (List.mem_append_left _ (List.mem_append_left _ (List.mem_append_left _ (List.mem_append_left _ (List.mem_append_right _ h))))))))))
theorem hcX11_tryDrums_X6 : ∀ w ∈ wsX60, w ∈ wsX11_tryDrums := fun _ h => (List.mem_cons_of_mem _ (List.mem_append_left _ (List.mem_append_left _ (List.mem_append_left _ (List.mem_append_left _ (List.mem_append_left _ (List.mem_append_left _ (List.mem_append_left _ (List.mem_append_right _ h)))))))))
theorem hcX11_tryDrums_X0 : ∀ w ∈ wsX00, w ∈ wsX11_tryDrums := fun _ h => (List.mem_cons_of_mem _ (List.mem_append_left _ (List.mem_append_left _ (List.mem_append_left _ (List.mem_append_left _ (List.mem_append_left _ (List.mem_append_left _ (List.mem_append_right _ h))))))))
theorem hcX11_tryDrums_X1 : ∀ w ∈ wsX10, w ∈ wsX11_tryDrums := fun _ h => (List.mem_cons_of_mem _ (List.mem_append_left _ (List.mem_append_left _ (List.mem_append_left _ (List.mem_append_left _ (List.mem_append_left _ (List.mem_append_right _ h)))))))
theorem hcX11_tryDrums_X2 : ∀ w ∈ wsX20, w ∈ wsX11_tryDrums := fun _ h => (List.mem_cons_of_mem _ (List.mem_append_left _ (List.mem_append_left _ (List.mem_append_left _ (List.mem_append_left _ (List.mem_append_right _ h))))))
theorem hcX11_tryDrums_X3 : ∀ w ∈ wsX30, w ∈ wsX11_tryDrums := fun _ h => (List.mem_cons_of_mem _ (List.mem_append_left _ (List.mem_append_left _ (List.mem_append_left _ (List.mem_append_right _ h)))))
theorem hcX11_tryDrums_X4 : ∀ w ∈ wsX40, w ∈ wsX11_tryDrums := fun _ h => (List.mem_cons_of_mem _ (List.mem_append_left _ (List.mem_append_left _ (List.mem_append_right _ h))))
theorem hcX11_tryDrums_X10 : ∀ w ∈ wsX100, w ∈ wsX11_tryDrums := fun _ h => (List.mem_cons_of_mem _ (List.mem_append_left _ (List.mem_append_right _ h)))
theorem hBX11_tryDrums : xHB wsX11_tryDrums := ⟨hcX11_tryDrums_X0, hcX11_tryDrums_X1, hcX11_tryDrums_X2, hcX11_tryDrums_X3, hcX11_tryDrums_X4, hcX11_tryDrums_X10⟩
set_option maxHeartbeats 4000000 in
set_option maxRecDepth 100000 in
theorem JO_X11_tryDrums {D : va_G} {KA : Nat → ClassId} {zs : ZS} {ad : Nat → Nat} {ids : List Nat} {sz : Nat} (l : Launch) (hI : ∀ c, c < 52 ∧ ¬ c = 19 → c ∈ ids) (d : Nat) {rec : Nat → Int32 → Int32 → Int32 → St → (St → Prop) → Prop} (hrec0 : ∀ {a1 a2 a3 : Int32} {σ : St} {post : St → Prop} {sz : Nat}, rec 0 a1 a2 a3 σ post → Met l yX11_tryDrums wsX11_tryDrums (rmgT d) (va_Pc [.ref (ad 0), .int a1, .int a2, .int a3] (xIn D KA zs layX stX ad ids sz σ)) (va_Qv post (xOut D KA layX stX ad ids) (xA ad ids sz)) 0 0 (xA ad ids sz)) {a1 : Int32} {a2 : Int32} {a3 : Int32}  {σ : St} {post : St → Prop} (h : wX11_tryDrums rec ids a1 a2 a3 σ post) : Met l yX11_tryDrums wsX11_tryDrums (rmgT (d + 1)) (va_Pc [.ref (ad 0), .int a1, .int a2, .int a3] (xIn D KA zs layX stX ad ids sz σ)) (va_Qv post (xOut D KA layX stX ad ids) (xA ad ids sz)) 0 0 (xA ad ids sz) := by
  refine Met.ofW (cc := cX11_tryDrums) (maxL := 6) (ret := none) (by decide) rfl ?_
  intro p e s m args below meth c s₁ B hml hv
  obtain ⟨hav, hsz, hK, hZ, hP, hD⟩ := hv
  have hx := B.exec
  have hb := B.bytes
  have hr := B.returns
  have hts := atoms_spec (ws := wsX11_tryDrums) B.pre
  have hown : s.vm.findClass RX11 = some m.cls := findClass_of_methodNamed B.named
  have hlocks := B.notSynchronized
  subst hsz
  have hA : ∀ q : Nat, s.heap.size ≤ q → xA ad ids s.heap.size q := fun q h => Or.inr h
  have hW : xW D KA layX stX ad ids (xA ad ids s.heap.size) s.heap σ s.heap [] := ⟨hP, xA_D (D := D) hD, va_S.rf⟩
  have kr : ∀ (σ : St) (H : Heap) (locs : List Loc) (ls : Array Slot) (pc : Nat), xW D KA layX stX ad ids (xA ad ids s.heap.size) s.heap σ H locs → post σ → decode cX11_tryDrums pc = .ok (.return_, 1) → W p l e (rmgT (d + 1)) s m args below meth c H locs 0 0 (MQ below (va_Qv post (xOut D KA layX stX ad ids) (xA ad ids s.heap.size)) args s 0 0 (xA ad ids s.heap.size)) (F0 m pc ls []) := fun σ H locs ls pc hW h hd => x_vret hx hb hr hlocks hW h hd
  have hl := lv_entry ([.ref (ad 0), .int a1, .int a2, .int a3]) (n := 6) (Nat.le_of_ble_eq_true rfl)
  rw [show entryFrame m args 6 = entryFrame m ([.ref (ad 0), .int a1, .int a2, .int a3] : List Value).toArray 6 from by rw [hav]]
  rw [lg_entry_eq]
  generalize (lg_sl ([.ref (ad 0), .int a1, .int a2, .int a3]) ++ List.replicate (6 - (lg_sl ([.ref (ad 0), .int a1, .int a2, .int a3])).length) Slot.unset).toArray = ls at hl ⊢
  have hl : lv_has ls 6 [(0, .ref (ad 0)), (1, .int a1), (2, .int a2), (3, .int a3)] := hl
  show W p l e (rmgT (d + 1)) s m args below meth c s.heap [] 0 0 _ _
  generalize MQ below (va_Qv post (xOut D KA layX stX ad ids) (xA ad ids s.heap.size)) args s 0 0 (xA ad ids s.heap.size) = Q at kr ⊢
  have blk102 : ∀ (x1 : Int32) (x2 : Int32) (x3 : Int32) (x4 : Nat) (ok_x4 : okB ids x4) (k28 : Int32 → St → Prop) (hk28 : ∀ (x5 : Int32) (σ : St) (H : Heap) (locs : List Loc) (ls : Array Slot), xW D KA layX stX ad ids (xA ad ids s.heap.size) s.heap σ H locs → lv_has ls 6 [(0, .ref (ad 0)), (1, .int x1), (2, .int x2), (3, .int x3), (4, .ref (ad x4)), (5, .int x5)] → k28 x5 σ → W p l e (rmgT (d + 1)) s m args below meth c H locs 0 0 Q (F0 m 28 ls [])) (x5 : Int32) (σ : St) (H : Heap) (locs : List Loc) (ls : Array Slot), xW D KA layX stX ad ids (xA ad ids s.heap.size) s.heap σ H locs → lv_has ls 6 [(0, .ref (ad 0)), (1, .int x1), (2, .int x2), (3, .int x3), (4, .ref (ad x4)), (5, .int x5)] → wX11_tryDrums_102 rec ids k28 post x1 x2 x3 x4 x5 σ → W p l e (rmgT (d + 1)) s m args below meth c H locs 0 0 Q (F0 m 102 ls []) := by
    intro x1 x2 x3 x4 ok_x4 k28 hk28 x5 σ H locs ls hW hl h
    unfold wX11_tryDrums_102 at h
    obtain ⟨v1, hv1⟩ : ∃ y : Int32, y = x5 + (1 : Int32) := ⟨_, rfl⟩
    have h := h v1 hv1
    refine lv_iinc (v := v1) (lv' := [(5, .int v1), (0, .ref (ad 0)), (1, .int x1), (2, .int x2), (3, .int x3), (4, .ref (ad x4))]) hx hb dX11_tryDrums_102 hl (k := 5) rfl (by rw [hv1]; rfl) (by decide) rfl (fun ls hl => ?_)
    refine lv_goto (tgt := 28) hx hb dX11_tryDrums_105 (by decide) ?_
    exact hk28 v1 _ _ _ _ hW (lv_sub hl [1, 2, 3, 4, 5, 0] rfl) h
  have blk99 : ∀ (x1 : Int32) (x2 : Int32) (x3 : Int32) (x4 : Nat) (ok_x4 : okB ids x4) (k28 : Int32 → St → Prop) (hk28 : ∀ (x5 : Int32) (σ : St) (H : Heap) (locs : List Loc) (ls : Array Slot), xW D KA layX stX ad ids (xA ad ids s.heap.size) s.heap σ H locs → lv_has ls 6 [(0, .ref (ad 0)), (1, .int x1), (2, .int x2), (3, .int x3), (4, .ref (ad x4)), (5, .int x5)] → k28 x5 σ → W p l e (rmgT (d + 1)) s m args below meth c H locs 0 0 Q (F0 m 28 ls [])) (x5 : Int32) (s1 : Int32) (s2 : Int32) (s3 : Int32) (σ : St) (H : Heap) (locs : List Loc) (ls : Array Slot), xW D KA layX stX ad ids (xA ad ids s.heap.size) s.heap σ H locs → lv_has ls 6 [(0, .ref (ad 0)), (1, .int x1), (2, .int x2), (3, .int x3), (4, .ref (ad x4)), (5, .int x5)] → wX11_tryDrums_99 rec ids k28 post x1 x2 x3 x4 x5 s1 s2 s3 σ → W p l e (rmgT (d + 1)) s m args below meth c H locs 0 0 Q (F0 m 99 ls [.int s3, .int s2, .int s1, .ref (ad 0)]) := by
    intro x1 x2 x3 x4 ok_x4 k28 hk28 x5 s1 s2 s3 σ H locs ls hW hl h
    unfold wX11_tryDrums_99 at h
    refine x_callv (va_runV (As := [.int s1, .int s2, .int s3]) (rest := []) ⟨hx, hb, hml, hown, hts⟩ (hrec0 h) (cwV 3 hts gX11_tryDrums_X11_tryDrums rfl rfl rfl hdV_X11_tryDrums ⟨rmgT_f d, rmgT_l d (Nat.le_of_ble_eq_true rfl)⟩) (x_preV (ci := 11) hK hZ hA hW (hI 0 (by decide)) lX_0 rfl) rfl rfl hl.1 rfl (lv_room (Nat.le_of_ble_eq_true rfl)) dX11_tryDrums_99 ⟨Nat.zero_le _, Nat.zero_le _⟩) hW hA (fun σ2 H locs h hW => ?_)
    try dsimp only at h
    exact blk102 x1 x2 x3 x4 ok_x4 k28 hk28 x5 _ _ _ _ hW (lv_sub hl [0, 1, 2, 3, 4, 5] rfl) h
  have blk28 : ∀ (x1 : Int32) (x2 : Int32) (x3 : Int32) (x4 : Nat) (ok_x4 : okB ids x4) (n : Nat) (x5 : Int32) (σ : St) (H : Heap) (locs : List Loc) (ls : Array Slot), xW D KA layX stX ad ids (xA ad ids s.heap.size) s.heap σ H locs → lv_has ls 6 [(0, .ref (ad 0)), (1, .int x1), (2, .int x2), (3, .int x3), (4, .ref (ad x4)), (5, .int x5)] → wX11_tryDrums_28 rec ids post x1 x2 x3 x4 n x5 σ → W p l e (rmgT (d + 1)) s m args below meth c H locs 0 0 Q (F0 m 28 ls []) := by
    intro   x1 x2 x3 x4 ok_x4 n
    induction n with
    | zero => intro x5 σ H locs ls hW hl h; exact (h : False).elim
    | succ n ih =>
      intro x5 σ H locs ls hW hl h
      have hk28 : ∀ (x5 : Int32) (σ : St) (H : Heap) (locs : List Loc) (ls : Array Slot), xW D KA layX stX ad ids (xA ad ids s.heap.size) s.heap σ H locs → lv_has ls 6 [(0, .ref (ad 0)), (1, .int x1), (2, .int x2), (3, .int x3), (4, .ref (ad x4)), (5, .int x5)] → (wX11_tryDrums_28 rec ids post x1 x2 x3 x4 n) x5 σ → W p l e (rmgT (d + 1)) s m args below meth c H locs 0 0 Q (F0 m 28 ls []) := fun x5 σ H locs ls hW hl h => ih x5 σ H locs ls hW hl h
      rw [wX11_tryDrums_28_s] at h
      try dsimp only at h
      generalize wX11_tryDrums_28 rec ids post x1 x2 x3 x4 n = k28 at h hk28
      refine lv_iload hx hb dX11_tryDrums_28 (lv_at hl 5 rfl) ?_
      refine lv_aload_n hx hb dX11_tryDrums_30 rfl (lv_at hl 0 rfl) ?_
      refine xgX11_0r hx hb hts hown hK hW 0 hcX11_tryDrums_X11 (hI 0 (by decide)) lX_0 (hts _ hwX11_tryDrums_0) (sX_0_0 _) dX11_tryDrums_31 ?_
      refine xgX6_2 hx hb hts hown hK hW 1 hcX11_tryDrums_X6 (hI 1 (by decide)) lX_1 (hts _ hwX11_tryDrums_1) dX11_tryDrums_34 ?_
      refine lv_icmp_ge (tgt := 108) hx hb dX11_tryDrums_37 (by decide) (fun c3 => ?_) (fun c3 => ?_)
      · have h := h.1 c3
        exact kr _ _ _ _ _ hW h dX11_tryDrums_108
      · have h := h.2 c3
        refine lv_iload_n hx hb dX11_tryDrums_40 rfl (lv_at hl 2 rfl) ?_
        refine lv_iload hx hb dX11_tryDrums_41 (lv_at hl 5 rfl) ?_
        refine lv_ishr hx hb dX11_tryDrums_43 ?_
        refine lv_iconst (v := 1) hx hb dX11_tryDrums_44 (by decide) ?_
        refine lv_iand hx hb dX11_tryDrums_45 ?_
        refine lv_if_ne (tgt := 102) hx hb dX11_tryDrums_46 (by decide) (fun c4 => ?_) (fun c4 => ?_)
        · have h := h.1 c4
          exact blk102 x1 x2 x3 x4 ok_x4 k28 hk28 x5 _ _ _ _ hW (lv_sub hl [0, 1, 2, 3, 4, 5] rfl) h
        · have h := h.2 c4
          refine lv_aload_n hx hb dX11_tryDrums_49 rfl (lv_at hl 0 rfl) ?_
          refine xgX11_7r hx hb hts hown hK hW 0 hcX11_tryDrums_X11 (hI 0 (by decide)) lX_0 (hts _ hwX11_tryDrums_2) (sX_0_7 _) dX11_tryDrums_50 ?_
          refine lv_iload_n hx hb dX11_tryDrums_53 rfl (lv_at hl 1 rfl) ?_
          refine lv_iload hx hb dX11_tryDrums_54 (lv_at hl 5 rfl) ?_
          obtain ⟨hi5, h⟩ := h
          refine x_iast hx hb hK hW 17 (hI 17 (by decide)) lX_17 hi5 dX11_tryDrums_56 (fun σ6 H locs hσ6 hW => ?_)
          have h := h σ6 hσ6
          refine lv_aload hx hb dX11_tryDrums_57 (lv_at hl 4 rfl) ?_
          refine lv_aload_n hx hb dX11_tryDrums_59 rfl (lv_at hl 0 rfl) ?_
          refine xgX11_0r hx hb hts hown hK hW 0 hcX11_tryDrums_X11 (hI 0 (by decide)) lX_0 (hts _ hwX11_tryDrums_0) (sX_0_0 _) dX11_tryDrums_60 ?_
          refine xgX6_11r hx hb hts hown hK hW 1 hcX11_tryDrums_X6 (hI 1 (by decide)) lX_1 (hts _ hwX11_tryDrums_3) (sX_1_11 _) dX11_tryDrums_63 ?_
          refine lv_iload hx hb dX11_tryDrums_66 (lv_at hl 5 rfl) ?_
          obtain ⟨hi7, h⟩ := h
          refine x_iald hx hb hK hW 10 (hI 10 (by decide)) lX_10 hi7 dX11_tryDrums_68 ?_
          refine xpB_7 hx hb hts hown hK hW x4 hBX11_tryDrums ok_x4 (hts _ hwX11_tryDrums_4) dX11_tryDrums_69 (fun σ8 H locs hσ8 hW => ?_)
          have h := h σ8 hσ8
          refine lv_aload_n hx hb dX11_tryDrums_72 rfl (lv_at hl 0 rfl) ?_
          refine lv_iload_n hx hb dX11_tryDrums_73 rfl (lv_at hl 1 rfl) ?_
          refine lv_iconst (v := 1) hx hb dX11_tryDrums_74 (by decide) ?_
          refine lv_iadd hx hb dX11_tryDrums_75 ?_
          refine lv_iload_n hx hb dX11_tryDrums_76 rfl (lv_at hl 2 rfl) ?_
          refine lv_iconst (v := 1) hx hb dX11_tryDrums_77 (by decide) ?_
          refine lv_iload hx hb dX11_tryDrums_78 (lv_at hl 5 rfl) ?_
          refine lv_ishl hx hb dX11_tryDrums_80 ?_
          refine lv_ior hx hb dX11_tryDrums_81 ?_
          refine lv_iload hx hb dX11_tryDrums_82 (lv_at hl 5 rfl) ?_
          refine lv_aload hx hb dX11_tryDrums_84 (lv_at hl 4 rfl) ?_
          refine xgB_5 hx hb hts hown hK hW x4 hBX11_tryDrums ok_x4 (hts _ hwX11_tryDrums_5) (fun _ h => h) dX11_tryDrums_86 ?_
          refine lv_icmp_ne (tgt := 96) hx hb dX11_tryDrums_89 (by decide) (fun c9 => ?_) (fun c9 => ?_)
          · have h := h.1 c9
            refine lv_iload_n hx hb dX11_tryDrums_96 rfl (lv_at hl 3 rfl) ?_
            refine lv_iconst (v := 1) hx hb dX11_tryDrums_97 (by decide) ?_
            refine lv_iadd hx hb dX11_tryDrums_98 ?_
            exact blk99 x1 x2 x3 x4 ok_x4 k28 hk28 x5 (x1 + (1 : Int32)) (x2 ||| ((1 : Int32) <<< (x5 &&& 31))) (x3 + (1 : Int32)) _ _ _ _ hW (lv_sub hl [0, 1, 2, 3, 4, 5] rfl) h
          · have h := h.2 c9
            refine lv_iload_n hx hb dX11_tryDrums_92 rfl (lv_at hl 3 rfl) ?_
            refine lv_goto (tgt := 99) hx hb dX11_tryDrums_93 (by decide) ?_
            exact blk99 x1 x2 x3 x4 ok_x4 k28 hk28 x5 (x1 + (1 : Int32)) (x2 ||| ((1 : Int32) <<< (x5 &&& 31))) x3 _ _ _ _ hW (lv_sub hl [0, 1, 2, 3, 4, 5] rfl) h
  have main : ∀ (H : Heap) (locs : List Loc) (ls : Array Slot), xW D KA layX stX ad ids (xA ad ids s.heap.size) s.heap σ H locs → lv_has ls 6 [(0, .ref (ad 0)), (1, .int a1), (2, .int a2), (3, .int a3)] → W p l e (rmgT (d + 1)) s m args below meth c H locs 0 0 Q (F0 m 0 ls []) := by
    intro H locs ls hW hl
    unfold wX11_tryDrums at h
    refine lv_iload_n hx hb dX11_tryDrums_0 rfl (lv_at hl 1 rfl) ?_
    refine lv_aload_n hx hb dX11_tryDrums_1 rfl (lv_at hl 0 rfl) ?_
    refine x_calli (va_runV (As := []) (rest := [.int a1]) ⟨hx, hb, hml, hown, hts⟩ (J_X11_freeBelts l hI h) (cwV 0 hts gX11_tryDrums_X11_freeBelts rfl rfl rfl hdV_X11_freeBelts ⟨rmgT_of d (Nat.le_of_ble_eq_true rfl), rmgT_ol d (Nat.le_of_ble_eq_true rfl)⟩) (x_preV (ci := 11) hK hZ hA hW (hI 0 (by decide)) lX_0 rfl) rfl rfl hl.1 rfl (lv_room (Nat.le_of_ble_eq_true rfl)) dX11_tryDrums_2 ⟨Nat.zero_le _, Nat.zero_le _⟩) hW hA (fun r1002 σ1001 H locs h hW => ?_)
    try dsimp only at h
    refine lv_icmp_lt (tgt := 14) hx hb dX11_tryDrums_5 (by decide) (fun c1003 => ?_) (fun c1003 => ?_)
    · have h := h.1 c1003
      refine lv_aload_n hx hb dX11_tryDrums_14 rfl (lv_at hl 0 rfl) ?_
      refine xgX11_0r hx hb hts hown hK hW 0 hcX11_tryDrums_X11 (hI 0 (by decide)) lX_0 (hts _ hwX11_tryDrums_0) (sX_0_0 _) dX11_tryDrums_15 ?_
      refine xgX6_12r hx hb hts hown hK hW 1 hcX11_tryDrums_X6 (hI 1 (by decide)) lX_1 (hts _ hwX11_tryDrums_6) (sX_1_12 _) dX11_tryDrums_18 ?_
      refine lv_iload_n hx hb dX11_tryDrums_21 rfl (lv_at hl 1 rfl) ?_
      obtain ⟨hi1004, h⟩ := h
      obtain ⟨o1005, hr1006, ok_o1005, h⟩ := h
      refine x_ald hx hb hK hW 11 0 (hI 11 (by decide)) lX_11 rfl hi1004 ((sX_11 _ _).trans hr1006) dX11_tryDrums_22 ?_
      refine lv_astore (lv' := [(4, .ref (ad o1005)), (0, .ref (ad 0)), (1, .int a1), (2, .int a2), (3, .int a3)]) hx hb dX11_tryDrums_23 hl (by decide) rfl (fun ls hl => ?_)
      refine lv_iconst (v := 0) hx hb dX11_tryDrums_25 (by decide) ?_
      refine lv_istore (lv' := [(5, .int (0 : Int32)), (4, .ref (ad o1005)), (0, .ref (ad 0)), (1, .int a1), (2, .int a2), (3, .int a3)]) hx hb dX11_tryDrums_26 hl (by decide) rfl (fun ls hl => ?_)
      obtain ⟨n, h⟩ := h
      exact blk28   a1 a2 a3 o1005 ok_o1005 n (0 : Int32) _ _ _ _ hW (lv_sub hl [2, 3, 4, 5, 1, 0] rfl) h
    · have h := h.2 c1003
      refine lv_aload_n hx hb dX11_tryDrums_8 rfl (lv_at hl 0 rfl) ?_
      refine lv_iload_n hx hb dX11_tryDrums_9 rfl (lv_at hl 3 rfl) ?_
      refine x_callv (va_runV (As := [.int a3]) (rest := []) ⟨hx, hb, hml, hown, hts⟩ (J_X11_weigh l hI h) (cwV 1 hts gX11_tryDrums_X11_weigh rfl rfl rfl hdV_X11_weigh ⟨rmgT_of d (Nat.le_of_ble_eq_true rfl), rmgT_ol d (Nat.le_of_ble_eq_true rfl)⟩) (x_preV (ci := 11) hK hZ hA hW (hI 0 (by decide)) lX_0 rfl) rfl rfl hl.1 rfl (lv_room (Nat.le_of_ble_eq_true rfl)) dX11_tryDrums_10 ⟨Nat.zero_le _, Nat.zero_le _⟩) hW hA (fun σ1008 H locs h hW => ?_)
      try dsimp only at h
      exact kr _ _ _ _ _ hW h dX11_tryDrums_13
  exact main _ _ _ hW hl
theorem JGT {D : va_G} {KA : Nat → ClassId} {zs : ZS} {ad : Nat → Nat} {ids : List Nat} (l : Launch) (hI : ∀ c, c < 52 ∧ ¬ c = 19 → c ∈ ids) : ∀ d : Nat, (∀ {a1 a2 a3 : Int32} {σ : St} {post : St → Prop} {sz : Nat}, wgT ids d 0 a1 a2 a3 σ post → Met l yX11_tryDrums wsX11_tryDrums (rmgT d) (va_Pc [.ref (ad 0), .int a1, .int a2, .int a3] (xIn D KA zs layX stX ad ids sz σ)) (va_Qv post (xOut D KA layX stX ad ids) (xA ad ids sz)) 0 0 (xA ad ids sz)) := by
  intro d
  induction d with
  | zero => exact fun h => (h : False).elim
  | succ d ih =>
    have ih0 := @ih
    intro a1 a2 a3 σ post sz h
    exact JO_X11_tryDrums l hI d (rec := wgT ids d) (fun h => ih0 h) h
theorem JGT_0 {D : va_G} {KA : Nat → ClassId} {zs : ZS} {ad : Nat → Nat} {ids : List Nat} (l : Launch) (hI : ∀ c, c < 52 ∧ ¬ c = 19 → c ∈ ids) {a1 a2 a3 : Int32} {σ : St} {post : St → Prop} {sz : Nat} (h : wgT ids 10 0 a1 a2 a3 σ post) : Met l yX11_tryDrums wsX11_tryDrums (rmgT 10) (va_Pc [.ref (ad 0), .int a1, .int a2, .int a3] (xIn D KA zs layX stX ad ids sz σ)) (va_Qv post (xOut D KA layX stX ad ids) (xA ad ids sz)) 0 0 (xA ad ids sz) := (JGT l hI 10) h
theorem hwX11_findChosen_0 : (.fieldLink RX11 265 "FortyBelts" "chosenWell" "I" : Cond) ∈ wsX11_findChosen := (List.mem_cons_of_mem _ (List.mem_append_left _ (List.mem_append_left _ (List.mem_append_left _ (List.mem_append_left _ (List.mem_append_left _ (List.mem_append_left _ (List.mem_append_left _ (List.mem_append_left _ (List.mem_append_left _ (List.mem_append_left _ (List.mem_of_getElem? (i := 0) rfl))))))))))))
theorem hwX11_findChosen_1 : (.fieldLink RX11 10 "FortyBelts" "mill" "LFortyBelts$Mill;" : Cond) ∈ wsX11_findChosen := (List.mem_cons_of_mem _ (List.mem_append_left _ (List.mem_append_left _ (List.mem_append_left _ (List.mem_append_left _ (List.mem_append_left _ (List.mem_append_left _ (List.mem_append_left _ (List.mem_append_left _ (List.mem_append_left _ (List.mem_append_left _ (List.mem_of_getElem? (i := 1) rfl))))))))))))
theorem hwX11_findChosen_2 : (.fieldLink RX11 163 "FortyBelts$Mill" "belts" "[LFortyBelts$Belt;" : Cond) ∈ wsX11_findChosen := (List.mem_cons_of_mem _ (List.mem_append_left _ (List.mem_append_left _ (List.mem_append_left _ (List.mem_append_left _ (List.mem_append_left _ (List.mem_append_left _ (List.mem_append_left _ (List.mem_append_left _ (List.mem_append_left _ (List.mem_append_left _ (List.mem_of_getElem? (i := 2) rfl))))))))))))
theorem hwX11_findChosen_3 : (.fieldLink RX11 173 "FortyBelts$Belt" "drivenDrum" "I" : Cond) ∈ wsX11_findChosen := (List.mem_cons_of_mem _ (List.mem_append_left _ (List.mem_append_left _ (List.mem_append_left _ (List.mem_append_left _ (List.mem_append_left _ (List.mem_append_left _ (List.mem_append_left _ (List.mem_append_left _ (List.mem_append_left _ (List.mem_append_left _ (List.mem_of_getElem? (i := 3) rfl))))))))))))
theorem hcX11_findChosen_X11 : ∀ w ∈ wsX110, w ∈ wsX11_findChosen := fun _ h => (List.mem_cons_of_mem _ (List.mem_append_left _ (List.mem_append_left _ (List.mem_append_left _ (List.mem_append_left _ (List.mem_append_left _ (List.mem_append_left _ (List.mem_append_left _ (List.mem_append_left _ (List.mem_append_right _ h))))))))))
theorem hcX11_findChosen_X6 : ∀ w ∈ wsX60, w ∈ wsX11_findChosen := fun _ h => (List.mem_cons_of_mem _ (List.mem_append_left _ (List.mem_append_left _ (List.mem_append_left _ (List.mem_append_left _ (List.mem_append_left _ (List.mem_append_left _ (List.mem_append_left _ (List.mem_append_right _ h)))))))))
theorem hcX11_findChosen_X0 : ∀ w ∈ wsX00, w ∈ wsX11_findChosen := fun _ h => (List.mem_cons_of_mem _ (List.mem_append_left _ (List.mem_append_left _ (List.mem_append_left _ (List.mem_append_left _ (List.mem_append_left _ (List.mem_append_left _ (List.mem_append_right _ h))))))))
theorem hcX11_findChosen_X1 : ∀ w ∈ wsX10, w ∈ wsX11_findChosen := fun _ h => (List.mem_cons_of_mem _ (List.mem_append_left _ (List.mem_append_left _ (List.mem_append_left _ (List.mem_append_left _ (List.mem_append_left _ (List.mem_append_right _ h)))))))
theorem hcX11_findChosen_X2 : ∀ w ∈ wsX20, w ∈ wsX11_findChosen := fun _ h => (List.mem_cons_of_mem _ (List.mem_append_left _ (List.mem_append_left _ (List.mem_append_left _ (List.mem_append_left _ (List.mem_append_right _ h))))))
theorem hcX11_findChosen_X3 : ∀ w ∈ wsX30, w ∈ wsX11_findChosen := fun _ h => (List.mem_cons_of_mem _ (List.mem_append_left _ (List.mem_append_left _ (List.mem_append_left _ (List.mem_append_right _ h)))))
theorem hcX11_findChosen_X4 : ∀ w ∈ wsX40, w ∈ wsX11_findChosen := fun _ h => (List.mem_cons_of_mem _ (List.mem_append_left _ (List.mem_append_left _ (List.mem_append_right _ h))))
theorem hcX11_findChosen_X10 : ∀ w ∈ wsX100, w ∈ wsX11_findChosen := fun _ h => (List.mem_cons_of_mem _ (List.mem_append_left _ (List.mem_append_right _ h)))
theorem hBX11_findChosen : xHB wsX11_findChosen := ⟨hcX11_findChosen_X0, hcX11_findChosen_X1, hcX11_findChosen_X2, hcX11_findChosen_X3, hcX11_findChosen_X4, hcX11_findChosen_X10⟩
set_option maxHeartbeats 4000000 in
set_option maxRecDepth 100000 in
theorem J_X11_findChosen {D : va_G} {KA : Nat → ClassId} {zs : ZS} {ad : Nat → Nat} {ids : List Nat} {sz : Nat} (l : Launch) (hI : ∀ c, c < 52 ∧ ¬ c = 19 → c ∈ ids)   {σ : St} {post : Int32 → St → Prop} (h : wX11_findChosen ids  σ post) : Met l yX11_findChosen wsX11_findChosen rmX11_findChosen (va_Pc [.ref (ad 0)] (xIn D KA zs layX stX ad ids sz σ)) (va_Qi post (xOut D KA layX stX ad ids) (xA ad ids sz)) 0 0 (xA ad ids sz) := by
  refine Met.ofW (cc := cX11_findChosen) (maxL := 3) (ret := (some .boolean)) (by decide) rfl ?_
  intro p e s m args below meth c s₁ B hml hv
  obtain ⟨hav, hsz, hK, hZ, hP, hD⟩ := hv
  have hx := B.exec
  have hb := B.bytes
  have hr := B.returns
  have hts := atoms_spec (ws := wsX11_findChosen) B.pre
  have hown : s.vm.findClass RX11 = some m.cls := findClass_of_methodNamed B.named
  have hlocks := B.notSynchronized
  subst hsz
  have hA : ∀ q : Nat, s.heap.size ≤ q → xA ad ids s.heap.size q := fun q h => Or.inr h
  have hW : xW D KA layX stX ad ids (xA ad ids s.heap.size) s.heap σ s.heap [] := ⟨hP, xA_D (D := D) hD, va_S.rf⟩
  have kr : ∀ (v : Int32) (σ : St) (H : Heap) (locs : List Loc) (ls : Array Slot) (pc : Nat), xW D KA layX stX ad ids (xA ad ids s.heap.size) s.heap σ H locs → isB v → post v σ → decode cX11_findChosen pc = .ok (.ireturn, 1) → W p l e rmX11_findChosen s m args below meth c H locs 0 0 (MQ below (va_Qi post (xOut D KA layX stX ad ids) (xA ad ids s.heap.size)) args s 0 0 (xA ad ids s.heap.size)) (F0 m pc ls [.int v]) := fun v σ H locs ls pc hW hz h hd => x_zret hx hb hr hlocks hW hz h hd
  have hl := lv_entry ([.ref (ad 0)]) (n := 3) (Nat.le_of_ble_eq_true rfl)
  rw [show entryFrame m args 3 = entryFrame m ([.ref (ad 0)] : List Value).toArray 3 from by rw [hav]]
  rw [lg_entry_eq]
  generalize (lg_sl ([.ref (ad 0)]) ++ List.replicate (3 - (lg_sl ([.ref (ad 0)])).length) Slot.unset).toArray = ls at hl ⊢
  have hl : lv_has ls 3 [(0, .ref (ad 0))] := hl
  show W p l e rmX11_findChosen s m args below meth c s.heap [] 0 0 _ _
  generalize MQ below (va_Qi post (xOut D KA layX stX ad ids) (xA ad ids s.heap.size)) args s 0 0 (xA ad ids s.heap.size) = Q at kr ⊢
  have blk82 : ∀ (s0 : Int32) (σ : St) (H : Heap) (locs : List Loc) (ls : Array Slot), xW D KA layX stX ad ids (xA ad ids s.heap.size) s.heap σ H locs → lv_has ls 3 [] → wX11_findChosen_82 ids post s0 σ → W p l e rmX11_findChosen s m args below meth c H locs 0 0 Q (F0 m 82 ls [.int s0]) := by
    intro   s0 σ H locs ls hW hl h
    unfold wX11_findChosen_82 at h
    obtain ⟨hz1, h⟩ := h
    exact kr _ _ _ _ _ _ hW hz1 h dX11_findChosen_82
  have blk26 : ∀ (n : Nat) (x2 : Int32) (σ : St) (H : Heap) (locs : List Loc) (ls : Array Slot), xW D KA layX stX ad ids (xA ad ids s.heap.size) s.heap σ H locs → lv_has ls 3 [(0, .ref (ad 0)), (2, .int x2)] → wX11_findChosen_26 ids post  n x2 σ → W p l e rmX11_findChosen s m args below meth c H locs 0 0 Q (F0 m 26 ls []) := by
    intro    n
    induction n with
    | zero => intro x2 σ H locs ls hW hl h; exact (h : False).elim
    | succ n ih =>
      intro x2 σ H locs ls hW hl h
      have hk26 : ∀ (x2 : Int32) (σ : St) (H : Heap) (locs : List Loc) (ls : Array Slot), xW D KA layX stX ad ids (xA ad ids s.heap.size) s.heap σ H locs → lv_has ls 3 [(0, .ref (ad 0)), (2, .int x2)] → (wX11_findChosen_26 ids post  n) x2 σ → W p l e rmX11_findChosen s m args below meth c H locs 0 0 Q (F0 m 26 ls []) := fun x2 σ H locs ls hW hl h => ih x2 σ H locs ls hW hl h
      rw [wX11_findChosen_26_s] at h
      try dsimp only at h
      generalize wX11_findChosen_26 ids post  n = k26 at h hk26
      refine lv_iload_n hx hb dX11_findChosen_26 rfl (lv_at hl 1 rfl) ?_
      refine lv_aload_n hx hb dX11_findChosen_27 rfl (lv_at hl 0 rfl) ?_
      refine x_calli (va_runV (As := []) (rest := [.int x2]) ⟨hx, hb, hml, hown, hts⟩ (J_X11_freeBelts l hI h) (cwV 0 hts gX11_findChosen_X11_freeBelts rfl rfl rfl hdV_X11_freeBelts ⟨Nat.le_of_ble_eq_true rfl, Nat.le_of_ble_eq_true rfl⟩) (x_preV (ci := 11) hK hZ hA hW (hI 0 (by decide)) lX_0 rfl) rfl rfl hl.1 rfl (lv_room (Nat.le_of_ble_eq_true rfl)) dX11_findChosen_28 ⟨Nat.zero_le _, Nat.zero_le _⟩) hW hA (fun r3 σ2 H locs h hW => ?_)
      try dsimp only at h
      refine lv_icmp_ge (tgt := 69) hx hb dX11_findChosen_31 (by decide) (fun c4 => ?_) (fun c4 => ?_)
      · have h := h.1 c4
        refine lv_aload_n hx hb dX11_findChosen_69 rfl (lv_at hl 0 rfl) ?_
        refine xgX11_9 hx hb hts hown hK hW 0 hcX11_findChosen_X11 (hI 0 (by decide)) lX_0 (hts _ hwX11_findChosen_0) dX11_findChosen_70 ?_
        refine lv_iconst (v := (-1)) hx hb dX11_findChosen_73 (by decide) ?_
        refine lv_icmp_eq (tgt := 81) hx hb dX11_findChosen_74 (by decide) (fun c5 => ?_) (fun c5 => ?_)
        · have h := h.1 c5
          refine lv_iconst (v := 0) hx hb dX11_findChosen_81 (by decide) ?_
          exact blk82   (0 : Int32) _ _ _ _ hW (lv_sub hl [] rfl) h
        · have h := h.2 c5
          refine lv_iconst (v := 1) hx hb dX11_findChosen_77 (by decide) ?_
          refine lv_goto (tgt := 82) hx hb dX11_findChosen_78 (by decide) ?_
          exact blk82   (1 : Int32) _ _ _ _ hW (lv_sub hl [] rfl) h
      · have h := h.2 c4
        refine lv_aload_n hx hb dX11_findChosen_34 rfl (lv_at hl 0 rfl) ?_
        refine xgX11_0r hx hb hts hown hK hW 0 hcX11_findChosen_X11 (hI 0 (by decide)) lX_0 (hts _ hwX11_findChosen_1) (sX_0_0 _) dX11_findChosen_35 ?_
        refine lv_aload_n hx hb dX11_findChosen_38 rfl (lv_at hl 0 rfl) ?_
        refine xgX11_0r hx hb hts hown hK hW 0 hcX11_findChosen_X11 (hI 0 (by decide)) lX_0 (hts _ hwX11_findChosen_1) (sX_0_0 _) dX11_findChosen_39 ?_
        refine xgX6_12r hx hb hts hown hK hW 1 hcX11_findChosen_X6 (hI 1 (by decide)) lX_1 (hts _ hwX11_findChosen_2) (sX_1_12 _) dX11_findChosen_42 ?_
        refine lv_iload_n hx hb dX11_findChosen_45 rfl (lv_at hl 1 rfl) ?_
        obtain ⟨hi6, h⟩ := h
        obtain ⟨o7, hr8, ok_o7, h⟩ := h
        refine x_ald hx hb hK hW 11 0 (hI 11 (by decide)) lX_11 rfl hi6 ((sX_11 _ _).trans hr8) dX11_findChosen_46 ?_
        refine lv_iconst (v := 1) hx hb dX11_findChosen_47 (by decide) ?_
        refine lv_aload_n hx hb dX11_findChosen_48 rfl (lv_at hl 0 rfl) ?_
        refine xgX11_0r hx hb hts hown hK hW 0 hcX11_findChosen_X11 (hI 0 (by decide)) lX_0 (hts _ hwX11_findChosen_1) (sX_0_0 _) dX11_findChosen_49 ?_
        refine xgX6_12r hx hb hts hown hK hW 1 hcX11_findChosen_X6 (hI 1 (by decide)) lX_1 (hts _ hwX11_findChosen_2) (sX_1_12 _) dX11_findChosen_52 ?_
        refine lv_iload_n hx hb dX11_findChosen_55 rfl (lv_at hl 1 rfl) ?_
        obtain ⟨o10, hr11, ok_o10, h⟩ := h
        refine x_ald hx hb hK hW 11 0 (hI 11 (by decide)) lX_11 rfl hi6 ((sX_11 _ _).trans hr11) dX11_findChosen_56 ?_
        refine xgB_5 hx hb hts hown hK hW o10 hBX11_findChosen ok_o10 (hts _ hwX11_findChosen_3) (fun _ h => h) dX11_findChosen_57 ?_
        refine x_callv (va_runV (As := [.ref (ad o7), .int (1 : Int32), .int (gI σ2 o10 5)]) (rest := []) ⟨hx, hb, hml, hown, hts⟩ (J_X6_putDrum l hI ok_o7 h) (cwV 3 hts gX11_findChosen_X6_putDrum rfl rfl rfl hdV_X6_putDrum ⟨Nat.le_of_ble_eq_true rfl, Nat.le_of_ble_eq_true rfl⟩) (x_preV (ci := 6) hK hZ hA hW (hI 1 (by decide)) lX_1 rfl) rfl rfl hl.1 rfl (lv_room (Nat.le_of_ble_eq_true rfl)) dX11_findChosen_60 ⟨Nat.zero_le _, Nat.zero_le _⟩) hW hA (fun σ12 H locs h hW => ?_)
        try dsimp only at h
        obtain ⟨v13, hv13⟩ : ∃ y : Int32, y = x2 + (1 : Int32) := ⟨_, rfl⟩
        have h := h v13 hv13
        refine lv_iinc (v := v13) (lv' := [(2, .int v13), (0, .ref (ad 0))]) hx hb dX11_findChosen_63 hl (k := 1) rfl (by rw [hv13]; rfl) (by decide) rfl (fun ls hl => ?_)
        refine lv_goto (tgt := 26) hx hb dX11_findChosen_66 (by decide) ?_
        exact hk26 v13 _ _ _ _ hW (lv_sub hl [1, 0] rfl) h
  have main : ∀ (H : Heap) (locs : List Loc) (ls : Array Slot), xW D KA layX stX ad ids (xA ad ids s.heap.size) s.heap σ H locs → lv_has ls 3 [(0, .ref (ad 0))] → W p l e rmX11_findChosen s m args below meth c H locs 0 0 Q (F0 m 0 ls []) := by
    intro H locs ls hW hl
    unfold wX11_findChosen at h
    refine lv_aload_n hx hb dX11_findChosen_0 rfl (lv_at hl 0 rfl) ?_
    refine lv_iconst (v := (-1)) hx hb dX11_findChosen_1 (by decide) ?_
    refine xpX11_9 hx hb hts hown hK hW 0 hcX11_findChosen_X11 (hI 0 (by decide)) lX_0 (hts _ hwX11_findChosen_0) dX11_findChosen_2 (fun σ1001 H locs hσ1001 hW => ?_)
    have h := h σ1001 hσ1001
    refine lv_aload_n hx hb dX11_findChosen_5 rfl (lv_at hl 0 rfl) ?_
    refine x_calli (va_runV (As := []) (rest := []) ⟨hx, hb, hml, hown, hts⟩ (J_X11_stayingDrums l hI h) (cwV 0 hts gX11_findChosen_X11_stayingDrums rfl rfl rfl hdV_X11_stayingDrums ⟨Nat.le_of_ble_eq_true rfl, Nat.le_of_ble_eq_true rfl⟩) (x_preV (ci := 11) hK hZ hA hW (hI 0 (by decide)) lX_0 rfl) rfl rfl hl.1 rfl (lv_room (Nat.le_of_ble_eq_true rfl)) dX11_findChosen_6 ⟨Nat.zero_le _, Nat.zero_le _⟩) hW hA (fun r1003 σ1002 H locs h hW => ?_)
    try dsimp only at h
    refine lv_istore_n (lv' := [(1, .int r1003), (0, .ref (ad 0))]) hx hb dX11_findChosen_9 rfl hl (by decide) rfl (fun ls hl => ?_)
    refine lv_iload_n hx hb dX11_findChosen_10 rfl (lv_at hl 0 rfl) ?_
    refine lv_iconst (v := (-1)) hx hb dX11_findChosen_11 (by decide) ?_
    refine lv_icmp_ne (tgt := 17) hx hb dX11_findChosen_12 (by decide) (fun c1004 => ?_) (fun c1004 => ?_)
    · have h := h.1 c1004
      refine lv_aload_n hx hb dX11_findChosen_17 rfl (lv_at hl 1 rfl) ?_
      refine lv_iconst (v := 0) hx hb dX11_findChosen_18 (by decide) ?_
      refine lv_iload_n hx hb dX11_findChosen_19 rfl (lv_at hl 0 rfl) ?_
      refine lv_iconst (v := 0) hx hb dX11_findChosen_20 (by decide) ?_
      refine x_callv (va_runV (As := [.int (0 : Int32), .int r1003, .int (0 : Int32)]) (rest := []) ⟨hx, hb, hml, hown, hts⟩ (JGT_0 l hI h) (cwV 3 hts gX11_findChosen_X11_tryDrums rfl rfl rfl hdV_X11_tryDrums ⟨Nat.le_of_ble_eq_true rfl, Nat.le_of_ble_eq_true rfl⟩) (x_preV (ci := 11) hK hZ hA hW (hI 0 (by decide)) lX_0 rfl) rfl rfl hl.1 rfl (lv_room (Nat.le_of_ble_eq_true rfl)) dX11_findChosen_21 ⟨Nat.zero_le _, Nat.zero_le _⟩) hW hA (fun σ1005 H locs h hW => ?_)
      try dsimp only at h
      refine lv_iconst (v := 0) hx hb dX11_findChosen_24 (by decide) ?_
      refine lv_istore_n (lv' := [(2, .int (0 : Int32)), (1, .int r1003), (0, .ref (ad 0))]) hx hb dX11_findChosen_25 rfl hl (by decide) rfl (fun ls hl => ?_)
      obtain ⟨n, h⟩ := h
      exact blk26    n (0 : Int32) _ _ _ _ hW (lv_sub hl [2, 0] rfl) h
    · have h := h.2 c1004
      refine lv_iconst (v := 0) hx hb dX11_findChosen_15 (by decide) ?_
      exact kr _ _ _ _ _ _ hW isB_0 h dX11_findChosen_16
  exact main _ _ _ hW hl
theorem hwX11_choose_0 : (.fieldLink RX11 268 "FortyBelts" "chosenChanged" "I" : Cond) ∈ wsX11_choose := (List.mem_cons_of_mem _ (List.mem_append_left _ (List.mem_append_left _ (List.mem_append_left _ (List.mem_append_left _ (List.mem_append_left _ (List.mem_append_left _ (List.mem_append_left _ (List.mem_append_left _ (List.mem_append_left _ (List.mem_append_left _ (List.mem_of_getElem? (i := 2) rfl))))))))))))
theorem hwX11_choose_1 : (.fieldLink RX11 265 "FortyBelts" "chosenWell" "I" : Cond) ∈ wsX11_choose := (List.mem_cons_of_mem _ (List.mem_append_left _ (List.mem_append_left _ (List.mem_append_left _ (List.mem_append_left _ (List.mem_append_left _ (List.mem_append_left _ (List.mem_append_left _ (List.mem_append_left _ (List.mem_append_left _ (List.mem_append_left _ (List.mem_of_getElem? (i := 1) rfl))))))))))))
theorem hwX11_choose_2 : (.fieldLink RX11 68 "FortyBelts" "chosen" "[I" : Cond) ∈ wsX11_choose := (List.mem_cons_of_mem _ (List.mem_append_left _ (List.mem_append_left _ (List.mem_append_left _ (List.mem_append_left _ (List.mem_append_left _ (List.mem_append_left _ (List.mem_append_left _ (List.mem_append_left _ (List.mem_append_left _ (List.mem_append_left _ (List.mem_of_getElem? (i := 0) rfl))))))))))))
theorem hcX11_choose_X11 : ∀ w ∈ wsX110, w ∈ wsX11_choose := fun _ h => (List.mem_cons_of_mem _ (List.mem_append_left _ (List.mem_append_left _ (List.mem_append_left _ (List.mem_append_left _ (List.mem_append_left _ (List.mem_append_left _ (List.mem_append_left _ (List.mem_append_left _ (List.mem_append_right _ h))))))))))
set_option maxHeartbeats 4000000 in
set_option maxRecDepth 100000 in
theorem J_X11_choose {D : va_G} {KA : Nat → ClassId} {zs : ZS} {ad : Nat → Nat} {ids : List Nat} {sz : Nat} (l : Launch) (hI : ∀ c, c < 52 ∧ ¬ c = 19 → c ∈ ids) {a1 : Int32}  {σ : St} {post : Int32 → St → Prop} (h : wX11_choose ids a1 σ post) : Met l yX11_choose wsX11_choose rmX11_choose (va_Pc [.ref (ad 0), .int a1] (xIn D KA zs layX stX ad ids sz σ)) (va_Qi post (xOut D KA layX stX ad ids) (xA ad ids sz)) 0 0 (xA ad ids sz) := by
  refine Met.ofW (cc := cX11_choose) (maxL := 3) (ret := (some .int)) (by decide) rfl ?_
  intro p e s m args below meth c s₁ B hml hv
  obtain ⟨hav, hsz, hK, hZ, hP, hD⟩ := hv
  have hx := B.exec
  have hb := B.bytes
  have hr := B.returns
  have hts := atoms_spec (ws := wsX11_choose) B.pre
  have hown : s.vm.findClass RX11 = some m.cls := findClass_of_methodNamed B.named
  have hlocks := B.notSynchronized
  subst hsz
  have hA : ∀ q : Nat, s.heap.size ≤ q → xA ad ids s.heap.size q := fun q h => Or.inr h
  have hW : xW D KA layX stX ad ids (xA ad ids s.heap.size) s.heap σ s.heap [] := ⟨hP, xA_D (D := D) hD, va_S.rf⟩
  have kr : ∀ (v : Int32) (σ : St) (H : Heap) (locs : List Loc) (ls : Array Slot) (pc : Nat), xW D KA layX stX ad ids (xA ad ids s.heap.size) s.heap σ H locs → post v σ → decode cX11_choose pc = .ok (.ireturn, 1) → W p l e rmX11_choose s m args below meth c H locs 0 0 (MQ below (va_Qi post (xOut D KA layX stX ad ids) (xA ad ids s.heap.size)) args s 0 0 (xA ad ids s.heap.size)) (F0 m pc ls [.int v]) := fun v σ H locs ls pc hW h hd => x_iret hx hb hr hlocks hW h hd
  have hl := lv_entry ([.ref (ad 0), .int a1]) (n := 3) (Nat.le_of_ble_eq_true rfl)
  rw [show entryFrame m args 3 = entryFrame m ([.ref (ad 0), .int a1] : List Value).toArray 3 from by rw [hav]]
  rw [lg_entry_eq]
  generalize (lg_sl ([.ref (ad 0), .int a1]) ++ List.replicate (3 - (lg_sl ([.ref (ad 0), .int a1])).length) Slot.unset).toArray = ls at hl ⊢
  have hl : lv_has ls 3 [(0, .ref (ad 0)), (1, .int a1)] := hl
  show W p l e rmX11_choose s m args below meth c s.heap [] 0 0 _ _
  generalize MQ below (va_Qi post (xOut D KA layX stX ad ids) (xA ad ids s.heap.size)) args s 0 0 (xA ad ids s.heap.size) = Q at kr ⊢
  have blk68 : ∀ (s0 : Int32) (σ : St) (H : Heap) (locs : List Loc) (ls : Array Slot), xW D KA layX stX ad ids (xA ad ids s.heap.size) s.heap σ H locs → lv_has ls 3 [] → wX11_choose_68 ids post s0 σ → W p l e rmX11_choose s m args below meth c H locs 0 0 Q (F0 m 68 ls [.int s0]) := by
    intro   s0 σ H locs ls hW hl h
    unfold wX11_choose_68 at h
    exact kr _ _ _ _ _ _ hW h dX11_choose_68
  have blk30 : ∀ (x1 : Int32) (x2 : Int32) (σ : St) (H : Heap) (locs : List Loc) (ls : Array Slot), xW D KA layX stX ad ids (xA ad ids s.heap.size) s.heap σ H locs → lv_has ls 3 [(0, .ref (ad 0)), (1, .int x1), (2, .int x2)] → wX11_choose_30 ids post x1 x2 σ → W p l e rmX11_choose s m args below meth c H locs 0 0 Q (F0 m 30 ls []) := by
    intro   x1 x2 σ H locs ls hW hl h
    unfold wX11_choose_30 at h
    refine lv_aload_n hx hb dX11_choose_30 rfl (lv_at hl 0 rfl) ?_
    refine x_calli (va_runV (As := []) (rest := []) ⟨hx, hb, hml, hown, hts⟩ (J_X11_findChosen l hI h) (cwV 0 hts gX11_choose_X11_findChosen rfl rfl rfl hdV_X11_findChosen ⟨Nat.le_of_ble_eq_true rfl, Nat.le_of_ble_eq_true rfl⟩) (x_preV (ci := 11) hK hZ hA hW (hI 0 (by decide)) lX_0 rfl) rfl rfl hl.1 rfl (lv_room (Nat.le_of_ble_eq_true rfl)) dX11_choose_31 ⟨Nat.zero_le _, Nat.zero_le _⟩) hW hA (fun r2 σ1 H locs h hW => ?_)
    try dsimp only at h
    refine lv_if_ne (tgt := 39) hx hb dX11_choose_34 (by decide) (fun c3 => ?_) (fun c3 => ?_)
    · have h := h.1 c3
      refine lv_iload_n hx hb dX11_choose_39 rfl (lv_at hl 2 rfl) ?_
      refine lv_if_eq (tgt := 53) hx hb dX11_choose_40 (by decide) (fun c4 => ?_) (fun c4 => ?_)
      · have h := h.1 c4
        refine lv_iload_n hx hb dX11_choose_53 rfl (lv_at hl 1 rfl) ?_
        refine lv_if_ne (tgt := 64) hx hb dX11_choose_54 (by decide) (fun c5 => ?_) (fun c5 => ?_)
        · have h := h.1 c5
          refine lv_aload_n hx hb dX11_choose_64 rfl (lv_at hl 0 rfl) ?_
          refine xgX11_10 hx hb hts hown hK hW 0 hcX11_choose_X11 (hI 0 (by decide)) lX_0 (hts _ hwX11_choose_0) dX11_choose_65 ?_
          exact blk68   (gI σ1 0 10) _ _ _ _ hW (lv_sub hl [] rfl) h
        · have h := h.2 c5
          refine lv_aload_n hx hb dX11_choose_57 rfl (lv_at hl 0 rfl) ?_
          refine xgX11_9 hx hb hts hown hK hW 0 hcX11_choose_X11 (hI 0 (by decide)) lX_0 (hts _ hwX11_choose_1) dX11_choose_58 ?_
          refine lv_goto (tgt := 68) hx hb dX11_choose_61 (by decide) ?_
          exact blk68   (gI σ1 0 9) _ _ _ _ hW (lv_sub hl [] rfl) h
      · have h := h.2 c4
        refine lv_aload_n hx hb dX11_choose_43 rfl (lv_at hl 0 rfl) ?_
        refine xgX11_8r hx hb hts hown hK hW 0 hcX11_choose_X11 (hI 0 (by decide)) lX_0 (hts _ hwX11_choose_2) (sX_0_8 _) dX11_choose_44 ?_
        refine lv_iload_n hx hb dX11_choose_47 rfl (lv_at hl 1 rfl) ?_
        refine lv_bipush (v := 10) hx hb dX11_choose_48 (by decide) ?_
        refine lv_isub hx hb dX11_choose_50 ?_
        obtain ⟨hi6, h⟩ := h
        refine x_iald hx hb hK hW 18 (hI 18 (by decide)) lX_18 hi6 dX11_choose_51 ?_
        exact kr _ _ _ _ _ _ hW h dX11_choose_52
    · have h := h.2 c3
      refine lv_iconst (v := (-1)) hx hb dX11_choose_37 (by decide) ?_
      exact kr _ _ _ _ _ _ hW h dX11_choose_38
  have main : ∀ (H : Heap) (locs : List Loc) (ls : Array Slot), xW D KA layX stX ad ids (xA ad ids s.heap.size) s.heap σ H locs → lv_has ls 3 [(0, .ref (ad 0)), (1, .int a1)] → W p l e rmX11_choose s m args below meth c H locs 0 0 Q (F0 m 0 ls []) := by
    intro H locs ls hW hl
    unfold wX11_choose at h
    refine lv_iload_n hx hb dX11_choose_0 rfl (lv_at hl 1 rfl) ?_
    refine lv_bipush (v := 10) hx hb dX11_choose_1 (by decide) ?_
    refine lv_bipush (v := 9) hx hb dX11_choose_3 (by decide) ?_
    refine lv_aload_n hx hb dX11_choose_5 rfl (lv_at hl 0 rfl) ?_
    refine x_calli (va_runV (As := []) (rest := [.int (9 : Int32), .int (10 : Int32), .int a1]) ⟨hx, hb, hml, hown, hts⟩ (J_X11_freeBelts l hI h) (cwV 0 hts gX11_choose_X11_freeBelts rfl rfl rfl hdV_X11_freeBelts ⟨Nat.le_of_ble_eq_true rfl, Nat.le_of_ble_eq_true rfl⟩) (x_preV (ci := 11) hK hZ hA hW (hI 0 (by decide)) lX_0 rfl) rfl rfl hl.1 rfl (lv_room (Nat.le_of_ble_eq_true rfl)) dX11_choose_6 ⟨Nat.zero_le _, Nat.zero_le _⟩) hW hA (fun r1002 σ1001 H locs h hW => ?_)
    try dsimp only at h
    refine lv_iadd hx hb dX11_choose_9 ?_
    refine x_calli (va_runS (As := [.int a1, .int (10 : Int32), .int ((9 : Int32) + r1002)]) (rest := []) ⟨hx, hb, hml, hown, hts⟩ (J_X11_within l hI h) (va_cwS 3 hts gX11_choose_X11_within rfl rfl rfl hdS_X11_within ⟨Nat.le_of_ble_eq_true rfl, Nat.le_of_ble_eq_true rfl⟩) (x_preS hK hZ hA hW) rfl rfl hl.1 rfl (lv_room (Nat.le_of_ble_eq_true rfl)) dX11_choose_10 ⟨Nat.zero_le _, Nat.zero_le _⟩) hW hA (fun r1004 σ1003 H locs h hW => ?_)
    try dsimp only at h
    refine lv_istore_n (lv' := [(2, .int r1004), (0, .ref (ad 0)), (1, .int a1)]) hx hb dX11_choose_13 rfl hl (by decide) rfl (fun ls hl => ?_)
    refine lv_iload_n hx hb dX11_choose_14 rfl (lv_at hl 2 rfl) ?_
    refine lv_if_eq (tgt := 30) hx hb dX11_choose_15 (by decide) (fun c1005 => ?_) (fun c1005 => ?_)
    · have h := h.1 c1005
      exact blk30   a1 r1004 _ _ _ _ hW (lv_sub hl [1, 2, 0] rfl) h
    · have h := h.2 c1005
      refine lv_iload_n hx hb dX11_choose_18 rfl (lv_at hl 2 rfl) ?_
      refine lv_iconst (v := 1) hx hb dX11_choose_19 (by decide) ?_
      refine lv_icmp_eq (tgt := 30) hx hb dX11_choose_20 (by decide) (fun c1006 => ?_) (fun c1006 => ?_)
      · have h := h.1 c1006
        exact blk30   a1 r1004 _ _ _ _ hW (lv_sub hl [1, 2, 0] rfl) h
      · have h := h.2 c1006
        refine lv_iload_n hx hb dX11_choose_23 rfl (lv_at hl 0 rfl) ?_
        refine lv_if_ne (tgt := 30) hx hb dX11_choose_24 (by decide) (fun c1007 => ?_) (fun c1007 => ?_)
        · have h := h.1 c1007
          exact blk30   a1 r1004 _ _ _ _ hW (lv_sub hl [1, 2, 0] rfl) h
        · have h := h.2 c1007
          refine lv_bipush (v := (-2)) hx hb dX11_choose_27 (by decide) ?_
          exact kr _ _ _ _ _ _ hW h dX11_choose_29
  exact main _ _ _ hW hl
theorem hwX8_holds_0 : (.fieldLink RX8 17 "FortyBelts$Sheet" "size" "I" : Cond) ∈ wsX8_holds := (List.mem_cons_of_mem _ (List.mem_append_left _ (List.mem_of_getElem? (i := 0) rfl)))
theorem hcX8_holds_X8 : ∀ w ∈ wsX80, w ∈ wsX8_holds := fun _ h => (List.mem_cons_of_mem _ (List.mem_append_right _ h))
set_option maxHeartbeats 4000000 in
set_option maxRecDepth 100000 in
theorem J_X8_holds {D : va_G} {KA : Nat → ClassId} {zs : ZS} {ad : Nat → Nat} {ids : List Nat} {sz : Nat} (l : Launch) (hI : ∀ c, c < 52 ∧ ¬ c = 19 → c ∈ ids) {a0 : Nat} {a1 : Int32} {a2 : Int32} (ok_a0 : okS ids a0) {σ : St} {post : Int32 → St → Prop} (h : wX8_holds ids a0 a1 a2 σ post) : Met l yX8_holds wsX8_holds rmX8_holds (va_Pc [.ref (ad a0), .int a1, .int a2] (xIn D KA zs layX stX ad ids sz σ)) (va_Qi post (xOut D KA layX stX ad ids) (xA ad ids sz)) 0 0 (xA ad ids sz) := by
  refine Met.ofW (cc := cX8_holds) (maxL := 3) (ret := (some .boolean)) (by decide) rfl ?_
  intro p e s m args below meth c s₁ B hml hv
  obtain ⟨hav, hsz, hK, hZ, hP, hD⟩ := hv
  have hx := B.exec
  have hb := B.bytes
  have hr := B.returns
  have hts := atoms_spec (ws := wsX8_holds) B.pre
  have hown : s.vm.findClass RX8 = some m.cls := findClass_of_methodNamed B.named
  have hlocks := B.notSynchronized
  subst hsz
  have hA : ∀ q : Nat, s.heap.size ≤ q → xA ad ids s.heap.size q := fun q h => Or.inr h
  have hW : xW D KA layX stX ad ids (xA ad ids s.heap.size) s.heap σ s.heap [] := ⟨hP, xA_D (D := D) hD, va_S.rf⟩
  have kr : ∀ (v : Int32) (σ : St) (H : Heap) (locs : List Loc) (ls : Array Slot) (pc : Nat), xW D KA layX stX ad ids (xA ad ids s.heap.size) s.heap σ H locs → isB v → post v σ → decode cX8_holds pc = .ok (.ireturn, 1) → W p l e rmX8_holds s m args below meth c H locs 0 0 (MQ below (va_Qi post (xOut D KA layX stX ad ids) (xA ad ids s.heap.size)) args s 0 0 (xA ad ids s.heap.size)) (F0 m pc ls [.int v]) := fun v σ H locs ls pc hW hz h hd => x_zret hx hb hr hlocks hW hz h hd
  have hl := lv_entry ([.ref (ad a0), .int a1, .int a2]) (n := 3) (Nat.le_of_ble_eq_true rfl)
  rw [show entryFrame m args 3 = entryFrame m ([.ref (ad a0), .int a1, .int a2] : List Value).toArray 3 from by rw [hav]]
  rw [lg_entry_eq]
  generalize (lg_sl ([.ref (ad a0), .int a1, .int a2]) ++ List.replicate (3 - (lg_sl ([.ref (ad a0), .int a1, .int a2])).length) Slot.unset).toArray = ls at hl ⊢
  have hl : lv_has ls 3 [(0, .ref (ad a0)), (1, .int a1), (2, .int a2)] := hl
  show W p l e rmX8_holds s m args below meth c s.heap [] 0 0 _ _
  generalize MQ below (va_Qi post (xOut D KA layX stX ad ids) (xA ad ids s.heap.size)) args s 0 0 (xA ad ids s.heap.size) = Q at kr ⊢
  have blk31 : ∀ (s0 : Int32) (σ : St) (H : Heap) (locs : List Loc) (ls : Array Slot), xW D KA layX stX ad ids (xA ad ids s.heap.size) s.heap σ H locs → lv_has ls 3 [] → wX8_holds_31 ids post s0 σ → W p l e rmX8_holds s m args below meth c H locs 0 0 Q (F0 m 31 ls [.int s0]) := by
    intro   s0 σ H locs ls hW hl h
    unfold wX8_holds_31 at h
    obtain ⟨hz1, h⟩ := h
    exact kr _ _ _ _ _ _ hW hz1 h dX8_holds_31
  have blk30 : ∀ (σ : St) (H : Heap) (locs : List Loc) (ls : Array Slot), xW D KA layX stX ad ids (xA ad ids s.heap.size) s.heap σ H locs → lv_has ls 3 [] → wX8_holds_30 ids post  σ → W p l e rmX8_holds s m args below meth c H locs 0 0 Q (F0 m 30 ls []) := by
    intro    σ H locs ls hW hl h
    unfold wX8_holds_30 at h
    refine lv_iconst (v := 0) hx hb dX8_holds_30 (by decide) ?_
    exact blk31   (0 : Int32) _ _ _ _ hW (lv_sub hl [] rfl) h
  have main : ∀ (H : Heap) (locs : List Loc) (ls : Array Slot), xW D KA layX stX ad ids (xA ad ids s.heap.size) s.heap σ H locs → lv_has ls 3 [(0, .ref (ad a0)), (1, .int a1), (2, .int a2)] → W p l e rmX8_holds s m args below meth c H locs 0 0 Q (F0 m 0 ls []) := by
    intro H locs ls hW hl
    unfold wX8_holds at h
    refine lv_iload_n hx hb dX8_holds_0 rfl (lv_at hl 1 rfl) ?_
    refine lv_if_lt (tgt := 30) hx hb dX8_holds_1 (by decide) (fun c1001 => ?_) (fun c1001 => ?_)
    · have h := h.1 c1001
      exact blk30    _ _ _ _ hW (lv_sub hl [] rfl) h
    · have h := h.2 c1001
      refine lv_iload_n hx hb dX8_holds_4 rfl (lv_at hl 2 rfl) ?_
      refine lv_if_lt (tgt := 30) hx hb dX8_holds_5 (by decide) (fun c1002 => ?_) (fun c1002 => ?_)
      · have h := h.1 c1002
        exact blk30    _ _ _ _ hW (lv_sub hl [] rfl) h
      · have h := h.2 c1002
        refine lv_iload_n hx hb dX8_holds_8 rfl (lv_at hl 2 rfl) ?_
        refine lv_aload_n hx hb dX8_holds_9 rfl (lv_at hl 0 rfl) ?_
        refine xgX8_1 hx hb hts hown hK hW a0 hcX8_holds_X8 ok_a0.1 (lay_okS ok_a0) (hts _ hwX8_holds_0) dX8_holds_10 ?_
        refine lv_icmp_gt (tgt := 30) hx hb dX8_holds_13 (by decide) (fun c1003 => ?_) (fun c1003 => ?_)
        · have h := h.1 c1003
          exact blk30    _ _ _ _ hW (lv_sub hl [] rfl) h
        · have h := h.2 c1003
          refine lv_iload_n hx hb dX8_holds_16 rfl (lv_at hl 1 rfl) ?_
          refine lv_aload_n hx hb dX8_holds_17 rfl (lv_at hl 0 rfl) ?_
          refine xgX8_1 hx hb hts hown hK hW a0 hcX8_holds_X8 ok_a0.1 (lay_okS ok_a0) (hts _ hwX8_holds_0) dX8_holds_18 ?_
          refine lv_iload_n hx hb dX8_holds_21 rfl (lv_at hl 2 rfl) ?_
          refine lv_isub hx hb dX8_holds_22 ?_
          refine lv_icmp_gt (tgt := 30) hx hb dX8_holds_23 (by decide) (fun c1004 => ?_) (fun c1004 => ?_)
          · have h := h.1 c1004
            exact blk30    _ _ _ _ hW (lv_sub hl [] rfl) h
          · have h := h.2 c1004
            refine lv_iconst (v := 1) hx hb dX8_holds_26 (by decide) ?_
            refine lv_goto (tgt := 31) hx hb dX8_holds_27 (by decide) ?_
            exact blk31   (1 : Int32) _ _ _ _ hW (lv_sub hl [] rfl) h
  exact main _ _ _ hW hl
theorem hwX11_copy_0 : (.fieldLink RX11 60 "FortyBelts" "sheets" "[LFortyBelts$Sheet;" : Cond) ∈ wsX11_copy := (List.mem_cons_of_mem _ (List.mem_append_left _ (List.mem_append_left _ (List.mem_of_getElem? (i := 0) rfl))))
theorem hwX11_copy_1 : (.fieldLink RX11 333 "FortyBelts$Sheet" "sort" "I" : Cond) ∈ wsX11_copy := (List.mem_cons_of_mem _ (List.mem_append_left _ (List.mem_append_left _ (List.mem_of_getElem? (i := 1) rfl))))
theorem hwX11_copy_2 : (.fieldLink RX11 345 "FortyBelts$Sheet" "items" "[I" : Cond) ∈ wsX11_copy := (List.mem_cons_of_mem _ (List.mem_append_left _ (List.mem_append_left _ (List.mem_of_getElem? (i := 2) rfl))))
theorem hwX11_copy_3 : (.methodLink RX11 348 arraycopyName : Cond) ∈ wsX11_copy := (List.mem_cons_of_mem _ (List.mem_append_left _ (List.mem_append_left _ (List.mem_of_getElem? (i := 3) rfl))))
theorem hwX11_copy_4 : (.native arraycopyName : Cond) ∈ wsX11_copy := (List.mem_cons_of_mem _ (List.mem_append_left _ (List.mem_append_left _ (List.mem_of_getElem? (i := 4) rfl))))
theorem hwX11_copy_5 : (.static arraycopyName : Cond) ∈ wsX11_copy := (List.mem_cons_of_mem _ (List.mem_append_left _ (List.mem_append_left _ (List.mem_of_getElem? (i := 5) rfl))))
theorem hwX11_copy_6 : (.initialized "java/lang/System" : Cond) ∈ wsX11_copy := (List.mem_cons_of_mem _ (List.mem_append_left _ (List.mem_append_left _ (List.mem_of_getElem? (i := 6) rfl))))
theorem hcX11_copy_X11 : ∀ w ∈ wsX110, w ∈ wsX11_copy := fun _ h => (List.mem_cons_of_mem _ (List.mem_append_left _ (List.mem_append_right _ h)))
theorem hcX11_copy_X8 : ∀ w ∈ wsX80, w ∈ wsX11_copy := fun _ h => (List.mem_cons_of_mem _ (List.mem_append_right _ h))
set_option maxHeartbeats 4000000 in
set_option maxRecDepth 100000 in
theorem J_X11_copy {D : va_G} {KA : Nat → ClassId} {zs : ZS} {ad : Nat → Nat} {ids : List Nat} {sz : Nat} (l : Launch) (hI : ∀ c, c < 52 ∧ ¬ c = 19 → c ∈ ids) {a1 : Int32} {a2 : Int32} {a3 : Int32} {a4 : Int32} {a5 : Int32}  {σ : St} {post : Int32 → St → Prop} (h : wX11_copy ids a1 a2 a3 a4 a5 σ post) : Met l yX11_copy wsX11_copy rmX11_copy (va_Pc [.ref (ad 0), .int a1, .int a2, .int a3, .int a4, .int a5] (xIn D KA zs layX stX ad ids sz σ)) (va_Qi post (xOut D KA layX stX ad ids) (xA ad ids sz)) 0 0 (xA ad ids sz) := by
  refine Met.ofW (cc := cX11_copy) (maxL := 8) (ret := (some .int)) (by decide) rfl ?_
  intro p e s m args below meth c s₁ B hml hv
  obtain ⟨hav, hsz, hK, hZ, hP, hD⟩ := hv
  have hx := B.exec
  have hb := B.bytes
  have hr := B.returns
  have hts := atoms_spec (ws := wsX11_copy) B.pre
  have hown : s.vm.findClass RX11 = some m.cls := findClass_of_methodNamed B.named
  have hlocks := B.notSynchronized
  subst hsz
  have hA : ∀ q : Nat, s.heap.size ≤ q → xA ad ids s.heap.size q := fun q h => Or.inr h
  have hW : xW D KA layX stX ad ids (xA ad ids s.heap.size) s.heap σ s.heap [] := ⟨hP, xA_D (D := D) hD, va_S.rf⟩
  have kr : ∀ (v : Int32) (σ : St) (H : Heap) (locs : List Loc) (ls : Array Slot) (pc : Nat), xW D KA layX stX ad ids (xA ad ids s.heap.size) s.heap σ H locs → post v σ → decode cX11_copy pc = .ok (.ireturn, 1) → W p l e rmX11_copy s m args below meth c H locs 0 0 (MQ below (va_Qi post (xOut D KA layX stX ad ids) (xA ad ids s.heap.size)) args s 0 0 (xA ad ids s.heap.size)) (F0 m pc ls [.int v]) := fun v σ H locs ls pc hW h hd => x_iret hx hb hr hlocks hW h hd
  have hl := lv_entry ([.ref (ad 0), .int a1, .int a2, .int a3, .int a4, .int a5]) (n := 8) (Nat.le_of_ble_eq_true rfl)
  rw [show entryFrame m args 8 = entryFrame m ([.ref (ad 0), .int a1, .int a2, .int a3, .int a4, .int a5] : List Value).toArray 8 from by rw [hav]]
  rw [lg_entry_eq]
  generalize (lg_sl ([.ref (ad 0), .int a1, .int a2, .int a3, .int a4, .int a5]) ++ List.replicate (8 - (lg_sl ([.ref (ad 0), .int a1, .int a2, .int a3, .int a4, .int a5])).length) Slot.unset).toArray = ls at hl ⊢
  have hl : lv_has ls 8 [(0, .ref (ad 0)), (1, .int a1), (2, .int a2), (3, .int a3), (4, .int a4), (5, .int a5)] := hl
  show W p l e rmX11_copy s m args below meth c s.heap [] 0 0 _ _
  generalize MQ below (va_Qi post (xOut D KA layX stX ad ids) (xA ad ids s.heap.size)) args s 0 0 (xA ad ids s.heap.size) = Q at kr ⊢
  have blk93 : ∀ (σ : St) (H : Heap) (locs : List Loc) (ls : Array Slot), xW D KA layX stX ad ids (xA ad ids s.heap.size) s.heap σ H locs → lv_has ls 8 [] → wX11_copy_93 ids post  σ → W p l e rmX11_copy s m args below meth c H locs 0 0 Q (F0 m 93 ls []) := by
    intro    σ H locs ls hW hl h
    unfold wX11_copy_93 at h
    refine lv_bipush (v := (-12)) hx hb dX11_copy_93 (by decide) ?_
    exact kr _ _ _ _ _ _ hW h dX11_copy_95
  have blk51 : ∀ (σ : St) (H : Heap) (locs : List Loc) (ls : Array Slot), xW D KA layX stX ad ids (xA ad ids s.heap.size) s.heap σ H locs → lv_has ls 8 [] → wX11_copy_51 ids post  σ → W p l e rmX11_copy s m args below meth c H locs 0 0 Q (F0 m 51 ls []) := by
    intro    σ H locs ls hW hl h
    unfold wX11_copy_51 at h
    refine lv_bipush (v := (-11)) hx hb dX11_copy_51 (by decide) ?_
    exact kr _ _ _ _ _ _ hW h dX11_copy_53
  have blk14 : ∀ (σ : St) (H : Heap) (locs : List Loc) (ls : Array Slot), xW D KA layX stX ad ids (xA ad ids s.heap.size) s.heap σ H locs → lv_has ls 8 [] → wX11_copy_14 ids post  σ → W p l e rmX11_copy s m args below meth c H locs 0 0 Q (F0 m 14 ls []) := by
    intro    σ H locs ls hW hl h
    unfold wX11_copy_14 at h
    refine lv_bipush (v := (-2)) hx hb dX11_copy_14 (by decide) ?_
    exact kr _ _ _ _ _ _ hW h dX11_copy_16
  have main : ∀ (H : Heap) (locs : List Loc) (ls : Array Slot), xW D KA layX stX ad ids (xA ad ids s.heap.size) s.heap σ H locs → lv_has ls 8 [(0, .ref (ad 0)), (1, .int a1), (2, .int a2), (3, .int a3), (4, .int a4), (5, .int a5)] → W p l e rmX11_copy s m args below meth c H locs 0 0 Q (F0 m 0 ls []) := by
    intro H locs ls hW hl
    unfold wX11_copy at h
    refine lv_iload_n hx hb dX11_copy_0 rfl (lv_at hl 1 rfl) ?_
    refine x_calli (va_runS (As := [.int a1]) (rest := []) ⟨hx, hb, hml, hown, hts⟩ (J_X11_isSheet l hI h) (va_cwS 1 hts gX11_copy_X11_isSheet rfl rfl rfl hdS_X11_isSheet ⟨Nat.le_of_ble_eq_true rfl, Nat.le_of_ble_eq_true rfl⟩) (x_preS hK hZ hA hW) rfl rfl hl.1 rfl (lv_room (Nat.le_of_ble_eq_true rfl)) dX11_copy_1 ⟨Nat.zero_le _, Nat.zero_le _⟩) hW hA (fun r1002 σ1001 H locs h hW => ?_)
    try dsimp only at h
    refine lv_if_eq (tgt := 14) hx hb dX11_copy_4 (by decide) (fun c1003 => ?_) (fun c1003 => ?_)
    · have h := h.1 c1003
      exact blk14    _ _ _ _ hW (lv_sub hl [] rfl) h
    · have h := h.2 c1003
      refine lv_iload_n hx hb dX11_copy_7 rfl (lv_at hl 3 rfl) ?_
      refine x_calli (va_runS (As := [.int a3]) (rest := []) ⟨hx, hb, hml, hown, hts⟩ (J_X11_isSheet l hI h) (va_cwS 1 hts gX11_copy_X11_isSheet rfl rfl rfl hdS_X11_isSheet ⟨Nat.le_of_ble_eq_true rfl, Nat.le_of_ble_eq_true rfl⟩) (x_preS hK hZ hA hW) rfl rfl hl.1 rfl (lv_room (Nat.le_of_ble_eq_true rfl)) dX11_copy_8 ⟨Nat.zero_le _, Nat.zero_le _⟩) hW hA (fun r1005 σ1004 H locs h hW => ?_)
      try dsimp only at h
      refine lv_if_ne (tgt := 17) hx hb dX11_copy_11 (by decide) (fun c1006 => ?_) (fun c1006 => ?_)
      · have h := h.1 c1006
        refine lv_aload_n hx hb dX11_copy_17 rfl (lv_at hl 0 rfl) ?_
        refine xgX11_6r hx hb hts hown hK hW 0 hcX11_copy_X11 (hI 0 (by decide)) lX_0 (hts _ hwX11_copy_0) (sX_0_6 _) dX11_copy_18 ?_
        refine lv_iload_n hx hb dX11_copy_21 rfl (lv_at hl 1 rfl) ?_
        obtain ⟨hi1007, h⟩ := h
        refine x_ald hx hb hK hW 16 2 (hI 16 (by decide)) lX_16 rfl hi1007 (st_aokS hi1007) dX11_copy_22 ?_
        refine lv_astore (lv' := [(6, .ref (ad (44 + 2 * a1.toNatClampNeg))), (0, .ref (ad 0)), (1, .int a1), (2, .int a2), (3, .int a3), (4, .int a4), (5, .int a5)]) hx hb dX11_copy_23 hl (by decide) rfl (fun ls hl => ?_)
        refine lv_aload_n hx hb dX11_copy_25 rfl (lv_at hl 1 rfl) ?_
        refine xgX11_6r hx hb hts hown hK hW 0 hcX11_copy_X11 (hI 0 (by decide)) lX_0 (hts _ hwX11_copy_0) (sX_0_6 _) dX11_copy_26 ?_
        refine lv_iload_n hx hb dX11_copy_29 rfl (lv_at hl 4 rfl) ?_
        obtain ⟨hi1008, h⟩ := h
        refine x_ald hx hb hK hW 16 2 (hI 16 (by decide)) lX_16 rfl hi1008 (st_aokS hi1008) dX11_copy_30 ?_
        refine lv_astore (lv' := [(7, .ref (ad (44 + 2 * a3.toNatClampNeg))), (6, .ref (ad (44 + 2 * a1.toNatClampNeg))), (0, .ref (ad 0)), (1, .int a1), (2, .int a2), (3, .int a3), (4, .int a4), (5, .int a5)]) hx hb dX11_copy_31 hl (by decide) rfl (fun ls hl => ?_)
        refine lv_aload hx hb dX11_copy_33 (lv_at hl 1 rfl) ?_
        refine xgX8_0 hx hb hts hown hK hW (44 + 2 * a1.toNatClampNeg) hcX11_copy_X8 (okS_of hI hi1007).1 (lay_okS (okS_of hI hi1007)) (hts _ hwX11_copy_1) dX11_copy_35 ?_
        refine lv_iconst (v := (-1)) hx hb dX11_copy_38 (by decide) ?_
        refine lv_icmp_eq (tgt := 51) hx hb dX11_copy_39 (by decide) (fun c1009 => ?_) (fun c1009 => ?_)
        · have h := h.1 c1009
          exact blk51    _ _ _ _ hW (lv_sub hl [] rfl) h
        · have h := h.2 c1009
          refine lv_aload hx hb dX11_copy_42 (lv_at hl 0 rfl) ?_
          refine xgX8_0 hx hb hts hown hK hW (44 + 2 * a3.toNatClampNeg) hcX11_copy_X8 (okS_of hI hi1008).1 (lay_okS (okS_of hI hi1008)) (hts _ hwX11_copy_1) dX11_copy_44 ?_
          refine lv_iconst (v := (-1)) hx hb dX11_copy_47 (by decide) ?_
          refine lv_icmp_ne (tgt := 54) hx hb dX11_copy_48 (by decide) (fun c1010 => ?_) (fun c1010 => ?_)
          · have h := h.1 c1010
            refine lv_aload hx hb dX11_copy_54 (lv_at hl 1 rfl) ?_
            refine xgX8_0 hx hb hts hown hK hW (44 + 2 * a1.toNatClampNeg) hcX11_copy_X8 (okS_of hI hi1007).1 (lay_okS (okS_of hI hi1007)) (hts _ hwX11_copy_1) dX11_copy_56 ?_
            refine lv_aload hx hb dX11_copy_59 (lv_at hl 0 rfl) ?_
            refine xgX8_0 hx hb hts hown hK hW (44 + 2 * a3.toNatClampNeg) hcX11_copy_X8 (okS_of hI hi1008).1 (lay_okS (okS_of hI hi1008)) (hts _ hwX11_copy_1) dX11_copy_61 ?_
            refine lv_icmp_eq (tgt := 70) hx hb dX11_copy_64 (by decide) (fun c1011 => ?_) (fun c1011 => ?_)
            · have h := h.1 c1011
              refine lv_aload hx hb dX11_copy_70 (lv_at hl 1 rfl) ?_
              refine lv_iload_n hx hb dX11_copy_72 rfl (lv_at hl 4 rfl) ?_
              refine lv_iload hx hb dX11_copy_73 (lv_at hl 7 rfl) ?_
              refine x_calli (va_runV (As := [.int a2, .int a5]) (rest := []) ⟨hx, hb, hml, hown, hts⟩ (J_X8_holds l hI (okS_of hI hi1007) h) (cwV 2 hts gX11_copy_X8_holds rfl rfl rfl hdV_X8_holds ⟨Nat.le_of_ble_eq_true rfl, Nat.le_of_ble_eq_true rfl⟩) (x_preV (ci := 8) hK hZ hA hW (okS_of hI hi1007).1 (lay_okS (okS_of hI hi1007)) rfl) rfl rfl hl.1 rfl (lv_room (Nat.le_of_ble_eq_true rfl)) dX11_copy_75 ⟨Nat.zero_le _, Nat.zero_le _⟩) hW hA (fun r1013 σ1012 H locs h hW => ?_)
              try dsimp only at h
              refine lv_if_eq (tgt := 93) hx hb dX11_copy_78 (by decide) (fun c1014 => ?_) (fun c1014 => ?_)
              · have h := h.1 c1014
                exact blk93    _ _ _ _ hW (lv_sub hl [] rfl) h
              · have h := h.2 c1014
                refine lv_aload hx hb dX11_copy_81 (lv_at hl 0 rfl) ?_
                refine lv_iload hx hb dX11_copy_83 (lv_at hl 6 rfl) ?_
                refine lv_iload hx hb dX11_copy_85 (lv_at hl 7 rfl) ?_
                refine x_calli (va_runV (As := [.int a4, .int a5]) (rest := []) ⟨hx, hb, hml, hown, hts⟩ (J_X8_holds l hI (okS_of hI hi1008) h) (cwV 2 hts gX11_copy_X8_holds rfl rfl rfl hdV_X8_holds ⟨Nat.le_of_ble_eq_true rfl, Nat.le_of_ble_eq_true rfl⟩) (x_preV (ci := 8) hK hZ hA hW (okS_of hI hi1008).1 (lay_okS (okS_of hI hi1008)) rfl) rfl rfl hl.1 rfl (lv_room (Nat.le_of_ble_eq_true rfl)) dX11_copy_87 ⟨Nat.zero_le _, Nat.zero_le _⟩) hW hA (fun r1016 σ1015 H locs h hW => ?_)
                try dsimp only at h
                refine lv_if_ne (tgt := 96) hx hb dX11_copy_90 (by decide) (fun c1017 => ?_) (fun c1017 => ?_)
                · have h := h.1 c1017
                  refine lv_aload hx hb dX11_copy_96 (lv_at hl 1 rfl) ?_
                  refine xgX8_2r hx hb hts hown hK hW (44 + 2 * a1.toNatClampNeg) hcX11_copy_X8 (okS_of hI hi1007).1 (lay_okS (okS_of hI hi1007)) (hts _ hwX11_copy_2) (st_okS1 (okS_of hI hi1007)) dX11_copy_98 ?_
                  refine lv_iload_n hx hb dX11_copy_101 rfl (lv_at hl 4 rfl) ?_
                  refine lv_aload hx hb dX11_copy_102 (lv_at hl 0 rfl) ?_
                  refine xgX8_2r hx hb hts hown hK hW (44 + 2 * a3.toNatClampNeg) hcX11_copy_X8 (okS_of hI hi1008).1 (lay_okS (okS_of hI hi1008)) (hts _ hwX11_copy_2) (st_okS1 (okS_of hI hi1008)) dX11_copy_104 ?_
                  refine lv_iload hx hb dX11_copy_107 (lv_at hl 6 rfl) ?_
                  refine lv_iload hx hb dX11_copy_109 (lv_at hl 7 rfl) ?_
                  obtain ⟨⟨hy1018, hy1019, hy1020, hy1021, hy1022⟩, h⟩ := h
                  refine x_copy hx hb (hml.trans hl.1.symm) hown (hts _ hwX11_copy_3) (hts _ hwX11_copy_4) (hts _ hwX11_copy_5) (hts _ hwX11_copy_6) ((44 + 2 * a1.toNatClampNeg) + 1) ((44 + 2 * a3.toNatClampNeg) + 1) hK hW (hI _ (okS_lt1 (okS_of hI hi1007))) (lay_okS1 (okS_of hI hi1007)) (hI _ (okS_lt1 (okS_of hI hi1008))) (lay_okS1 (okS_of hI hi1008)) hy1018 hy1019 hy1020 hy1021 hy1022 (Nat.le_of_ble_eq_true rfl) (Nat.le_of_ble_eq_true rfl) dX11_copy_111 (fun σ1023 H locs hσ1023 hW => ?_)
                  have h := h σ1023 hσ1023
                  refine lv_iload hx hb dX11_copy_114 (lv_at hl 7 rfl) ?_
                  exact kr _ _ _ _ _ _ hW h dX11_copy_116
                · have h := h.2 c1017
                  exact blk93    _ _ _ _ hW (lv_sub hl [] rfl) h
            · have h := h.2 c1011
              refine lv_bipush (v := (-13)) hx hb dX11_copy_67 (by decide) ?_
              exact kr _ _ _ _ _ _ hW h dX11_copy_69
          · have h := h.2 c1010
            exact blk51    _ _ _ _ hW (lv_sub hl [] rfl) h
      · have h := h.2 c1006
        exact blk14    _ _ _ _ hW (lv_sub hl [] rfl) h
  exact main _ _ _ hW hl
theorem hwX11_cost_0 : (.fieldLink RX11 54 "FortyBelts" "names" "[I" : Cond) ∈ wsX11_cost := (List.mem_cons_of_mem _ (List.mem_append_left _ (List.mem_append_left _ (List.mem_append_left _ (List.mem_of_getElem? (i := 0) rfl)))))
theorem hwX11_cost_1 : (.fieldLink RX11 25 "FortyBelts" "texts" "[LFortyBelts$Text;" : Cond) ∈ wsX11_cost := (List.mem_cons_of_mem _ (List.mem_append_left _ (List.mem_append_left _ (List.mem_append_left _ (List.mem_of_getElem? (i := 1) rfl)))))
theorem hwX11_cost_2 : (.fieldLink RX11 243 "FortyBelts" "rule" "I" : Cond) ∈ wsX11_cost := (List.mem_cons_of_mem _ (List.mem_append_left _ (List.mem_append_left _ (List.mem_append_left _ (List.mem_of_getElem? (i := 2) rfl)))))
theorem hwX11_cost_3 : (.methodLink RX11 395 Lib.Math.min.name : Cond) ∈ wsX11_cost := (List.mem_cons_of_mem _ (List.mem_append_left _ (List.mem_append_left _ (List.mem_append_left _ (List.mem_of_getElem? (i := 3) rfl)))))
theorem hwX11_cost_4 : (.static Lib.Math.min.name : Cond) ∈ wsX11_cost := (List.mem_cons_of_mem _ (List.mem_append_left _ (List.mem_append_left _ (List.mem_append_left _ (List.mem_of_getElem? (i := 4) rfl)))))
theorem hwX11_cost_5 : (.initialized "java/lang/Math" : Cond) ∈ wsX11_cost := (List.mem_cons_of_mem _ (List.mem_append_left _ (List.mem_append_left _ (List.mem_append_left _ (List.mem_of_getElem? (i := 5) rfl)))))
theorem hwX11_cost_6 : (.code Lib.Math.min.name Lib.Math.min.code 2 (some .int) : Cond) ∈ wsX11_cost := (List.mem_cons_of_mem _ (List.mem_append_left _ (List.mem_append_left _ (List.mem_append_left _ (List.mem_of_getElem? (i := 6) rfl)))))
theorem hwX11_cost_7 : (.methodLink RX11 400 Lib.Math.max.name : Cond) ∈ wsX11_cost := (List.mem_cons_of_mem _ (List.mem_append_left _ (List.mem_append_left _ (List.mem_append_left _ (List.mem_of_getElem? (i := 7) rfl)))))
theorem hwX11_cost_8 : (.static Lib.Math.max.name : Cond) ∈ wsX11_cost := (List.mem_cons_of_mem _ (List.mem_append_left _ (List.mem_append_left _ (List.mem_append_left _ (List.mem_of_getElem? (i := 8) rfl)))))
theorem hwX11_cost_9 : (.code Lib.Math.max.name Lib.Math.max.code 2 (some .int) : Cond) ∈ wsX11_cost := (List.mem_cons_of_mem _ (List.mem_append_left _ (List.mem_append_left _ (List.mem_append_left _ (List.mem_of_getElem? (i := 9) rfl)))))
theorem hcX11_cost_X11 : ∀ w ∈ wsX110, w ∈ wsX11_cost := fun _ h => (List.mem_cons_of_mem _ (List.mem_append_left _ (List.mem_append_right _ h)))
set_option maxHeartbeats 4000000 in
set_option maxRecDepth 100000 in
theorem J_X11_cost {D : va_G} {KA : Nat → ClassId} {zs : ZS} {ad : Nat → Nat} {ids : List Nat} {sz : Nat} (l : Launch) (hI : ∀ c, c < 52 ∧ ¬ c = 19 → c ∈ ids) {a1 : Int32}  {σ : St} {post : Int32 → St → Prop} (h : wX11_cost ids a1 σ post) : Met l yX11_cost wsX11_cost rmX11_cost (va_Pc [.ref (ad 0), .int a1] (xIn D KA zs layX stX ad ids sz σ)) (va_Qi post (xOut D KA layX stX ad ids) (xA ad ids sz)) 0 0 (xA ad ids sz) := by
  refine Met.ofW (cc := cX11_cost) (maxL := 2) (ret := (some .int)) (by decide) rfl ?_
  intro p e s m args below meth c s₁ B hml hv
  obtain ⟨hav, hsz, hK, hZ, hP, hD⟩ := hv
  have hx := B.exec
  have hb := B.bytes
  have hr := B.returns
  have hts := atoms_spec (ws := wsX11_cost) B.pre
  have hown : s.vm.findClass RX11 = some m.cls := findClass_of_methodNamed B.named
  have hlocks := B.notSynchronized
  subst hsz
  have hA : ∀ q : Nat, s.heap.size ≤ q → xA ad ids s.heap.size q := fun q h => Or.inr h
  have hW : xW D KA layX stX ad ids (xA ad ids s.heap.size) s.heap σ s.heap [] := ⟨hP, xA_D (D := D) hD, va_S.rf⟩
  have kr : ∀ (v : Int32) (σ : St) (H : Heap) (locs : List Loc) (ls : Array Slot) (pc : Nat), xW D KA layX stX ad ids (xA ad ids s.heap.size) s.heap σ H locs → post v σ → decode cX11_cost pc = .ok (.ireturn, 1) → W p l e rmX11_cost s m args below meth c H locs 0 0 (MQ below (va_Qi post (xOut D KA layX stX ad ids) (xA ad ids s.heap.size)) args s 0 0 (xA ad ids s.heap.size)) (F0 m pc ls [.int v]) := fun v σ H locs ls pc hW h hd => x_iret hx hb hr hlocks hW h hd
  have hl := lv_entry ([.ref (ad 0), .int a1]) (n := 2) (Nat.le_of_ble_eq_true rfl)
  rw [show entryFrame m args 2 = entryFrame m ([.ref (ad 0), .int a1] : List Value).toArray 2 from by rw [hav]]
  rw [lg_entry_eq]
  generalize (lg_sl ([.ref (ad 0), .int a1]) ++ List.replicate (2 - (lg_sl ([.ref (ad 0), .int a1])).length) Slot.unset).toArray = ls at hl ⊢
  have hl : lv_has ls 2 [(0, .ref (ad 0)), (1, .int a1)] := hl
  show W p l e rmX11_cost s m args below meth c s.heap [] 0 0 _ _
  generalize MQ below (va_Qi post (xOut D KA layX stX ad ids) (xA ad ids s.heap.size)) args s 0 0 (xA ad ids s.heap.size) = Q at kr ⊢
  have main : ∀ (H : Heap) (locs : List Loc) (ls : Array Slot), xW D KA layX stX ad ids (xA ad ids s.heap.size) s.heap σ H locs → lv_has ls 2 [(0, .ref (ad 0)), (1, .int a1)] → W p l e rmX11_cost s m args below meth c H locs 0 0 Q (F0 m 0 ls []) := by
    intro H locs ls hW hl
    unfold wX11_cost at h
    refine lv_aload_n hx hb dX11_cost_0 rfl (lv_at hl 0 rfl) ?_
    refine xgX11_5r hx hb hts hown hK hW 0 hcX11_cost_X11 (hI 0 (by decide)) lX_0 (hts _ hwX11_cost_0) (sX_0_5 _) dX11_cost_1 ?_
    refine lv_iconst (v := 0) hx hb dX11_cost_4 (by decide) ?_
    refine x_callv (va_runS (As := [.ref (ad 15), .int (0 : Int32)]) (rest := []) ⟨hx, hb, hml, hown, hts⟩ (J_J7_fill_53178 l hI (hI 15 (by decide)) lX_15 h) (va_cwS 2 hts gX11_cost_J7_fill_53178 rfl rfl rfl hdS_J7_fill_53178 ⟨Nat.le_of_ble_eq_true rfl, Nat.le_of_ble_eq_true rfl⟩) (x_preS hK hZ hA hW) rfl rfl hl.1 rfl (lv_room (Nat.le_of_ble_eq_true rfl)) dX11_cost_5 ⟨Nat.zero_le _, Nat.zero_le _⟩) hW hA (fun σ1001 H locs h hW => ?_)
    try dsimp only at h
    refine lv_aload_n hx hb dX11_cost_8 rfl (lv_at hl 0 rfl) ?_
    refine xgX11_5r hx hb hts hown hK hW 0 hcX11_cost_X11 (hI 0 (by decide)) lX_0 (hts _ hwX11_cost_0) (sX_0_5 _) dX11_cost_9 ?_
    refine lv_iconst (v := 4) hx hb dX11_cost_12 (by decide) ?_
    refine lv_iload_n hx hb dX11_cost_13 rfl (lv_at hl 1 rfl) ?_
    obtain ⟨hi1002, h⟩ := h
    refine x_iast hx hb hK hW 15 (hI 15 (by decide)) lX_15 hi1002 dX11_cost_14 (fun σ1003 H locs hσ1003 hW => ?_)
    have h := h σ1003 hσ1003
    refine lv_iconst (v := 1) hx hb dX11_cost_15 (by decide) ?_
    refine lv_sipush (v := 999) hx hb dX11_cost_16 (by decide) ?_
    refine lv_aload_n hx hb dX11_cost_19 rfl (lv_at hl 0 rfl) ?_
    refine xgX11_2r hx hb hts hown hK hW 0 hcX11_cost_X11 (hI 0 (by decide)) lX_0 (hts _ hwX11_cost_1) (sX_0_2 _) dX11_cost_20 ?_
    refine lv_aload_n hx hb dX11_cost_23 rfl (lv_at hl 0 rfl) ?_
    refine xgX11_4 hx hb hts hown hK hW 0 hcX11_cost_X11 (hI 0 (by decide)) lX_0 (hts _ hwX11_cost_2) dX11_cost_24 ?_
    obtain ⟨hi1004, h⟩ := h
    refine x_ald hx hb hK hW 14 3 (hI 14 (by decide)) lX_14 rfl hi1004 (st_aokT hi1004) dX11_cost_27 ?_
    refine lv_iconst (v := 2) hx hb dX11_cost_28 (by decide) ?_
    refine lv_aload_n hx hb dX11_cost_29 rfl (lv_at hl 0 rfl) ?_
    refine xgX11_5r hx hb hts hown hK hW 0 hcX11_cost_X11 (hI 0 (by decide)) lX_0 (hts _ hwX11_cost_0) (sX_0_5 _) dX11_cost_30 ?_
    refine x_calli (va_runV (As := [.int (2 : Int32), .ref (ad 15)]) (rest := [.int (999 : Int32), .int (1 : Int32)]) ⟨hx, hb, hml, hown, hts⟩ (J_X9_says l (fun c h => hI c (n7_lt h)) (fun _ _ => rfl) (okT_of hI hi1004) (hI 15 (by decide)) lX_15 h) (cwV 2 hts gX11_cost_X9_says rfl rfl rfl hdV_X9_says ⟨Nat.le_of_ble_eq_true rfl, Nat.le_of_ble_eq_true rfl⟩) (x_preV (ci := 9) hK hZ hA hW (okT_of hI hi1004).1 (lay_okT (okT_of hI hi1004)) rfl) rfl rfl hl.1 rfl (lv_room (Nat.le_of_ble_eq_true rfl)) dX11_cost_33 ⟨Nat.zero_le _, Nat.zero_le _⟩) hW hA (fun r1006 σ1005 H locs h hW => ?_)
    try dsimp only at h
    refine va_mmin hx hb (hml.trans hl.1.symm) hown (hts _ hwX11_cost_3) (hts _ hwX11_cost_4) (hts _ hwX11_cost_5) (hts _ hwX11_cost_6) (Nat.le_of_ble_eq_true rfl) (Nat.le_of_ble_eq_true rfl) (Nat.le_of_ble_eq_true rfl) (Nat.le_of_ble_eq_true rfl) dX11_cost_36 ?_
    refine va_mmax hx hb (hml.trans hl.1.symm) hown (hts _ hwX11_cost_7) (hts _ hwX11_cost_8) (hts _ hwX11_cost_5) (hts _ hwX11_cost_9) (Nat.le_of_ble_eq_true rfl) (Nat.le_of_ble_eq_true rfl) (Nat.le_of_ble_eq_true rfl) (Nat.le_of_ble_eq_true rfl) dX11_cost_39 ?_
    exact kr _ _ _ _ _ _ hW h dX11_cost_42
  exact main _ _ _ hW hl
theorem hwX11_count_0 : (.fieldLink RX11 10 "FortyBelts" "mill" "LFortyBelts$Mill;" : Cond) ∈ wsX11_count := (List.mem_cons_of_mem _ (List.mem_append_left _ (List.mem_append_left _ (List.mem_append_left _ (List.mem_of_getElem? (i := 0) rfl)))))
theorem hwX11_count_1 : (.fieldLink RX11 75 "FortyBelts$Mill" "shaftCount" "I" : Cond) ∈ wsX11_count := (List.mem_cons_of_mem _ (List.mem_append_left _ (List.mem_append_left _ (List.mem_append_left _ (List.mem_of_getElem? (i := 1) rfl)))))
theorem hwX11_count_2 : (.fieldLink RX11 92 "FortyBelts$Mill" "machineCount" "I" : Cond) ∈ wsX11_count := (List.mem_cons_of_mem _ (List.mem_append_left _ (List.mem_append_left _ (List.mem_append_left _ (List.mem_of_getElem? (i := 2) rfl)))))
theorem hwX11_count_3 : (.fieldLink RX11 125 "FortyBelts$Mill" "drumCount" "I" : Cond) ∈ wsX11_count := (List.mem_cons_of_mem _ (List.mem_append_left _ (List.mem_append_left _ (List.mem_append_left _ (List.mem_of_getElem? (i := 3) rfl)))))
theorem hwX11_count_4 : (.fieldLink RX11 145 "FortyBelts$Mill" "beltCount" "I" : Cond) ∈ wsX11_count := (List.mem_cons_of_mem _ (List.mem_append_left _ (List.mem_append_left _ (List.mem_append_left _ (List.mem_of_getElem? (i := 4) rfl)))))
theorem hwX11_count_5 : (.fieldLink RX11 50 "FortyBelts" "textCount" "I" : Cond) ∈ wsX11_count := (List.mem_cons_of_mem _ (List.mem_append_left _ (List.mem_append_left _ (List.mem_append_left _ (List.mem_of_getElem? (i := 5) rfl)))))
theorem hwX11_count_6 : (.fieldLink RX11 19 "FortyBelts" "reader" "LFortyBelts$Reader;" : Cond) ∈ wsX11_count := (List.mem_cons_of_mem _ (List.mem_append_left _ (List.mem_append_left _ (List.mem_append_left _ (List.mem_of_getElem? (i := 6) rfl)))))
theorem hwX11_count_7 : (.fieldLink RX11 240 "FortyBelts$Reader" "fed" "I" : Cond) ∈ wsX11_count := (List.mem_cons_of_mem _ (List.mem_append_left _ (List.mem_append_left _ (List.mem_append_left _ (List.mem_of_getElem? (i := 7) rfl)))))
theorem hwX11_count_8 : (.fieldLink RX11 243 "FortyBelts" "rule" "I" : Cond) ∈ wsX11_count := (List.mem_cons_of_mem _ (List.mem_append_left _ (List.mem_append_left _ (List.mem_append_left _ (List.mem_of_getElem? (i := 8) rfl)))))
theorem hcX11_count_X11 : ∀ w ∈ wsX110, w ∈ wsX11_count := fun _ h => (List.mem_cons_of_mem _ (List.mem_append_left _ (List.mem_append_left _ (List.mem_append_right _ h))))
theorem hcX11_count_X6 : ∀ w ∈ wsX60, w ∈ wsX11_count := fun _ h => (List.mem_cons_of_mem _ (List.mem_append_left _ (List.mem_append_right _ h)))
theorem hcX11_count_X7 : ∀ w ∈ wsX70, w ∈ wsX11_count := fun _ h => (List.mem_cons_of_mem _ (List.mem_append_right _ h))
set_option maxHeartbeats 4000000 in
set_option maxRecDepth 100000 in
theorem J_X11_count {D : va_G} {KA : Nat → ClassId} {zs : ZS} {ad : Nat → Nat} {ids : List Nat} {sz : Nat} (l : Launch) (hI : ∀ c, c < 52 ∧ ¬ c = 19 → c ∈ ids) {a1 : Int32}  {σ : St} {post : Int32 → St → Prop} (h : wX11_count ids a1 σ post) : Met l yX11_count wsX11_count rmX11_count (va_Pc [.ref (ad 0), .int a1] (xIn D KA zs layX stX ad ids sz σ)) (va_Qi post (xOut D KA layX stX ad ids) (xA ad ids sz)) 0 0 (xA ad ids sz) := by
  refine Met.ofW (cc := cX11_count) (maxL := 2) (ret := (some .int)) (by decide) rfl ?_
  intro p e s m args below meth c s₁ B hml hv
  obtain ⟨hav, hsz, hK, hZ, hP, hD⟩ := hv
  have hx := B.exec
  have hb := B.bytes
  have hr := B.returns
  have hts := atoms_spec (ws := wsX11_count) B.pre
  have hown : s.vm.findClass RX11 = some m.cls := findClass_of_methodNamed B.named
  have hlocks := B.notSynchronized
  subst hsz
  have hA : ∀ q : Nat, s.heap.size ≤ q → xA ad ids s.heap.size q := fun q h => Or.inr h
  have hW : xW D KA layX stX ad ids (xA ad ids s.heap.size) s.heap σ s.heap [] := ⟨hP, xA_D (D := D) hD, va_S.rf⟩
  have kr : ∀ (v : Int32) (σ : St) (H : Heap) (locs : List Loc) (ls : Array Slot) (pc : Nat), xW D KA layX stX ad ids (xA ad ids s.heap.size) s.heap σ H locs → post v σ → decode cX11_count pc = .ok (.ireturn, 1) → W p l e rmX11_count s m args below meth c H locs 0 0 (MQ below (va_Qi post (xOut D KA layX stX ad ids) (xA ad ids s.heap.size)) args s 0 0 (xA ad ids s.heap.size)) (F0 m pc ls [.int v]) := fun v σ H locs ls pc hW h hd => x_iret hx hb hr hlocks hW h hd
  have hl := lv_entry ([.ref (ad 0), .int a1]) (n := 2) (Nat.le_of_ble_eq_true rfl)
  rw [show entryFrame m args 2 = entryFrame m ([.ref (ad 0), .int a1] : List Value).toArray 2 from by rw [hav]]
  rw [lg_entry_eq]
  generalize (lg_sl ([.ref (ad 0), .int a1]) ++ List.replicate (2 - (lg_sl ([.ref (ad 0), .int a1])).length) Slot.unset).toArray = ls at hl ⊢
  have hl : lv_has ls 2 [(0, .ref (ad 0)), (1, .int a1)] := hl
  show W p l e rmX11_count s m args below meth c s.heap [] 0 0 _ _
  generalize MQ below (va_Qi post (xOut D KA layX stX ad ids) (xA ad ids s.heap.size)) args s 0 0 (xA ad ids s.heap.size) = Q at kr ⊢
  have main : ∀ (H : Heap) (locs : List Loc) (ls : Array Slot), xW D KA layX stX ad ids (xA ad ids s.heap.size) s.heap σ H locs → lv_has ls 2 [(0, .ref (ad 0)), (1, .int a1)] → W p l e rmX11_count s m args below meth c H locs 0 0 Q (F0 m 0 ls []) := by
    intro H locs ls hW hl
    unfold wX11_count at h
    refine lv_iload_n hx hb dX11_count_0 rfl (lv_at hl 1 rfl) ?_
    refine lv_topi (fun v1001 hv1001 => ?_)
    have h := h v1001 hv1001
    obtain ⟨hcase, h⟩ := h
    by_cases hc1_0 : v1001 = (0 : Int32)
    · have h := hcase hc1_0
      clear hcase
      refine lv_tableIn (tgt := 44) hx hb dX11_count_1 (by rw [hc1_0] <;> decide) (by rw [hc1_0] <;> decide) (by rw [hc1_0]; rfl) (by decide) ?_
      refine lv_aload_n hx hb dX11_count_44 rfl (lv_at hl 0 rfl) ?_
      refine xgX11_0r hx hb hts hown hK hW 0 hcX11_count_X11 (hI 0 (by decide)) lX_0 (hts _ hwX11_count_0) (sX_0_0 _) dX11_count_45 ?_
      refine xgX6_0 hx hb hts hown hK hW 1 hcX11_count_X6 (hI 1 (by decide)) lX_1 (hts _ hwX11_count_1) dX11_count_48 ?_
      exact kr _ _ _ _ _ _ hW h dX11_count_51
    clear hcase
    obtain ⟨hcase, h⟩ := h
    by_cases hc1_1 : v1001 = (1 : Int32)
    · have h := hcase hc1_1
      clear hcase
      refine lv_tableIn (tgt := 52) hx hb dX11_count_1 (by rw [hc1_1] <;> decide) (by rw [hc1_1] <;> decide) (by rw [hc1_1]; rfl) (by decide) ?_
      refine lv_aload_n hx hb dX11_count_52 rfl (lv_at hl 0 rfl) ?_
      refine xgX11_0r hx hb hts hown hK hW 0 hcX11_count_X11 (hI 0 (by decide)) lX_0 (hts _ hwX11_count_0) (sX_0_0 _) dX11_count_53 ?_
      refine xgX6_1 hx hb hts hown hK hW 1 hcX11_count_X6 (hI 1 (by decide)) lX_1 (hts _ hwX11_count_2) dX11_count_56 ?_
      exact kr _ _ _ _ _ _ hW h dX11_count_59
    clear hcase
    obtain ⟨hcase, h⟩ := h
    by_cases hc1_2 : v1001 = (2 : Int32)
    · have h := hcase hc1_2
      clear hcase
      refine lv_tableIn (tgt := 60) hx hb dX11_count_1 (by rw [hc1_2] <;> decide) (by rw [hc1_2] <;> decide) (by rw [hc1_2]; rfl) (by decide) ?_
      refine lv_aload_n hx hb dX11_count_60 rfl (lv_at hl 0 rfl) ?_
      refine xgX11_0r hx hb hts hown hK hW 0 hcX11_count_X11 (hI 0 (by decide)) lX_0 (hts _ hwX11_count_0) (sX_0_0 _) dX11_count_61 ?_
      refine xgX6_2 hx hb hts hown hK hW 1 hcX11_count_X6 (hI 1 (by decide)) lX_1 (hts _ hwX11_count_3) dX11_count_64 ?_
      exact kr _ _ _ _ _ _ hW h dX11_count_67
    clear hcase
    obtain ⟨hcase, h⟩ := h
    by_cases hc1_3 : v1001 = (3 : Int32)
    · have h := hcase hc1_3
      clear hcase
      refine lv_tableIn (tgt := 68) hx hb dX11_count_1 (by rw [hc1_3] <;> decide) (by rw [hc1_3] <;> decide) (by rw [hc1_3]; rfl) (by decide) ?_
      refine lv_aload_n hx hb dX11_count_68 rfl (lv_at hl 0 rfl) ?_
      refine xgX11_0r hx hb hts hown hK hW 0 hcX11_count_X11 (hI 0 (by decide)) lX_0 (hts _ hwX11_count_0) (sX_0_0 _) dX11_count_69 ?_
      refine xgX6_3 hx hb hts hown hK hW 1 hcX11_count_X6 (hI 1 (by decide)) lX_1 (hts _ hwX11_count_4) dX11_count_72 ?_
      exact kr _ _ _ _ _ _ hW h dX11_count_75
    clear hcase
    obtain ⟨hcase, h⟩ := h
    by_cases hc1_4 : v1001 = (4 : Int32)
    · have h := hcase hc1_4
      clear hcase
      refine lv_tableIn (tgt := 76) hx hb dX11_count_1 (by rw [hc1_4] <;> decide) (by rw [hc1_4] <;> decide) (by rw [hc1_4]; rfl) (by decide) ?_
      refine lv_aload_n hx hb dX11_count_76 rfl (lv_at hl 0 rfl) ?_
      refine xgX11_3 hx hb hts hown hK hW 0 hcX11_count_X11 (hI 0 (by decide)) lX_0 (hts _ hwX11_count_5) dX11_count_77 ?_
      exact kr _ _ _ _ _ _ hW h dX11_count_80
    clear hcase
    obtain ⟨hcase, h⟩ := h
    by_cases hc1_5 : v1001 = (5 : Int32)
    · have h := hcase hc1_5
      clear hcase
      refine lv_tableIn (tgt := 81) hx hb dX11_count_1 (by rw [hc1_5] <;> decide) (by rw [hc1_5] <;> decide) (by rw [hc1_5]; rfl) (by decide) ?_
      refine lv_aload_n hx hb dX11_count_81 rfl (lv_at hl 0 rfl) ?_
      refine xgX11_1r hx hb hts hown hK hW 0 hcX11_count_X11 (hI 0 (by decide)) lX_0 (hts _ hwX11_count_6) (sX_0_1 _) dX11_count_82 ?_
      refine xgX7_1 hx hb hts hown hK hW 2 hcX11_count_X7 (hI 2 (by decide)) lX_2 (hts _ hwX11_count_7) dX11_count_85 ?_
      exact kr _ _ _ _ _ _ hW h dX11_count_88
    clear hcase
    obtain ⟨hcase, h⟩ := h
    by_cases hc1_6 : v1001 = (6 : Int32)
    · have h := hcase hc1_6
      clear hcase
      refine lv_tableIn (tgt := 89) hx hb dX11_count_1 (by rw [hc1_6] <;> decide) (by rw [hc1_6] <;> decide) (by rw [hc1_6]; rfl) (by decide) ?_
      refine lv_aload_n hx hb dX11_count_89 rfl (lv_at hl 0 rfl) ?_
      refine xgX11_4 hx hb hts hown hK hW 0 hcX11_count_X11 (hI 0 (by decide)) lX_0 (hts _ hwX11_count_8) dX11_count_90 ?_
      exact kr _ _ _ _ _ _ hW h dX11_count_93
    clear hcase
    have h := h ⟨hc1_0, hc1_1, hc1_2, hc1_3, hc1_4, hc1_5, hc1_6⟩
    refine lv_tableOut (tgt := 94) hx hb dX11_count_1 (tsw_out v1001 (0) (6) (fun k h1 h2 => ?_)) (by decide) ?_
    · rcases (show k = 0 ∨ k = 1 ∨ k = 2 ∨ k = 3 ∨ k = 4 ∨ k = 5 ∨ k = 6 by omega) with rfl | rfl | rfl | rfl | rfl | rfl | rfl
      · exact hc1_0
      · exact hc1_1
      · exact hc1_2
      · exact hc1_3
      · exact hc1_4
      · exact hc1_5
      · exact hc1_6
    refine lv_bipush (v := (-2)) hx hb dX11_count_94 (by decide) ?_
    exact kr _ _ _ _ _ _ hW h dX11_count_96
  exact main _ _ _ hW hl
theorem hwX11_cut_0 : (.fieldLink RX11 271 "FortyBelts$Belt" "b" "I" : Cond) ∈ wsX11_cut := (List.mem_cons_of_mem _ (List.mem_append_left _ (List.mem_append_left _ (List.mem_append_left _ (List.mem_append_left _ (List.mem_append_left _ (List.mem_append_left _ (List.mem_append_left _ (List.mem_append_left _ (List.mem_append_left _ (List.mem_append_left _ (List.mem_append_left _ (List.mem_of_getElem? (i := 2) rfl)))))))))))))
theorem hwX11_cut_1 : (.fieldLink RX11 10 "FortyBelts" "mill" "LFortyBelts$Mill;" : Cond) ∈ wsX11_cut := (List.mem_cons_of_mem _ (List.mem_append_left _ (List.mem_append_left _ (List.mem_append_left _ (List.mem_append_left _ (List.mem_append_left _ (List.mem_append_left _ (List.mem_append_left _ (List.mem_append_left _ (List.mem_append_left _ (List.mem_append_left _ (List.mem_append_left _ (List.mem_of_getElem? (i := 0) rfl)))))))))))))
theorem hwX11_cut_2 : (.fieldLink RX11 163 "FortyBelts$Mill" "belts" "[LFortyBelts$Belt;" : Cond) ∈ wsX11_cut := (List.mem_cons_of_mem _ (List.mem_append_left _ (List.mem_append_left _ (List.mem_append_left _ (List.mem_append_left _ (List.mem_append_left _ (List.mem_append_left _ (List.mem_append_left _ (List.mem_append_left _ (List.mem_append_left _ (List.mem_append_left _ (List.mem_append_left _ (List.mem_of_getElem? (i := 1) rfl)))))))))))))
theorem hcX11_cut_X0 : ∀ w ∈ wsX00, w ∈ wsX11_cut := fun _ h => (List.mem_cons_of_mem _ (List.mem_append_left _ (List.mem_append_left _ (List.mem_append_left _ (List.mem_append_left _ (List.mem_append_left _ (List.mem_append_left _ (List.mem_append_left _ (List.mem_append_right _ h)))))))))
theorem hcX11_cut_X1 : ∀ w ∈ wsX10, w ∈ wsX11_cut := fun _ h => (List.mem_cons_of_mem _ (List.mem_append_left _ (List.mem_append_left _ (List.mem_append_left _ (List.mem_append_left _ (List.mem_append_left _ (List.mem_append_left _ (List.mem_append_right _ h))))))))
theorem hcX11_cut_X2 : ∀ w ∈ wsX20, w ∈ wsX11_cut := fun _ h => (List.mem_cons_of_mem _ (List.mem_append_left _ (List.mem_append_left _ (List.mem_append_left _ (List.mem_append_left _ (List.mem_append_left _ (List.mem_append_right _ h)))))))
theorem hcX11_cut_X3 : ∀ w ∈ wsX30, w ∈ wsX11_cut := fun _ h => (List.mem_cons_of_mem _ (List.mem_append_left _ (List.mem_append_left _ (List.mem_append_left _ (List.mem_append_left _ (List.mem_append_right _ h))))))
theorem hcX11_cut_X4 : ∀ w ∈ wsX40, w ∈ wsX11_cut := fun _ h => (List.mem_cons_of_mem _ (List.mem_append_left _ (List.mem_append_left _ (List.mem_append_left _ (List.mem_append_right _ h)))))
theorem hcX11_cut_X10 : ∀ w ∈ wsX100, w ∈ wsX11_cut := fun _ h => (List.mem_cons_of_mem _ (List.mem_append_left _ (List.mem_append_left _ (List.mem_append_right _ h))))
theorem hcX11_cut_X11 : ∀ w ∈ wsX110, w ∈ wsX11_cut := fun _ h => (List.mem_cons_of_mem _ (List.mem_append_left _ (List.mem_append_left _ (List.mem_append_left _ (List.mem_append_left _ (List.mem_append_left _ (List.mem_append_left _ (List.mem_append_left _ (List.mem_append_left _ (List.mem_append_left _ (List.mem_append_right _ h)))))))))))
theorem hcX11_cut_X6 : ∀ w ∈ wsX60, w ∈ wsX11_cut := fun _ h => (List.mem_cons_of_mem _ (List.mem_append_left _ (List.mem_append_left _ (List.mem_append_left _ (List.mem_append_left _ (List.mem_append_left _ (List.mem_append_left _ (List.mem_append_left _ (List.mem_append_left _ (List.mem_append_right _ h))))))))))
theorem hBX11_cut : xHB wsX11_cut := ⟨hcX11_cut_X0, hcX11_cut_X1, hcX11_cut_X2, hcX11_cut_X3, hcX11_cut_X4, hcX11_cut_X10⟩
set_option maxHeartbeats 4000000 in
set_option maxRecDepth 100000 in
theorem J_X11_cut {D : va_G} {KA : Nat → ClassId} {zs : ZS} {ad : Nat → Nat} {ids : List Nat} {sz : Nat} (l : Launch) (hI : ∀ c, c < 52 ∧ ¬ c = 19 → c ∈ ids) {a1 : Int32} {a2 : Int32}  {σ : St} {post : Int32 → St → Prop} (h : wX11_cut ids a1 a2 σ post) : Met l yX11_cut wsX11_cut rmX11_cut (va_Pc [.ref (ad 0), .int a1, .int a2] (xIn D KA zs layX stX ad ids sz σ)) (va_Qi post (xOut D KA layX stX ad ids) (xA ad ids sz)) 0 0 (xA ad ids sz) := by
  refine Met.ofW (cc := cX11_cut) (maxL := 11) (ret := (some .int)) (by decide) rfl ?_
  intro p e s m args below meth c s₁ B hml hv
  obtain ⟨hav, hsz, hK, hZ, hP, hD⟩ := hv
  have hx := B.exec
  have hb := B.bytes
  have hr := B.returns
  have hts := atoms_spec (ws := wsX11_cut) B.pre
  have hown : s.vm.findClass RX11 = some m.cls := findClass_of_methodNamed B.named
  have hlocks := B.notSynchronized
  subst hsz
  have hA : ∀ q : Nat, s.heap.size ≤ q → xA ad ids s.heap.size q := fun q h => Or.inr h
  have hW : xW D KA layX stX ad ids (xA ad ids s.heap.size) s.heap σ s.heap [] := ⟨hP, xA_D (D := D) hD, va_S.rf⟩
  have kr : ∀ (v : Int32) (σ : St) (H : Heap) (locs : List Loc) (ls : Array Slot) (pc : Nat), xW D KA layX stX ad ids (xA ad ids s.heap.size) s.heap σ H locs → post v σ → decode cX11_cut pc = .ok (.ireturn, 1) → W p l e rmX11_cut s m args below meth c H locs 0 0 (MQ below (va_Qi post (xOut D KA layX stX ad ids) (xA ad ids s.heap.size)) args s 0 0 (xA ad ids s.heap.size)) (F0 m pc ls [.int v]) := fun v σ H locs ls pc hW h hd => x_iret hx hb hr hlocks hW h hd
  have hl := lv_entry ([.ref (ad 0), .int a1, .int a2]) (n := 11) (Nat.le_of_ble_eq_true rfl)
  rw [show entryFrame m args 11 = entryFrame m ([.ref (ad 0), .int a1, .int a2] : List Value).toArray 11 from by rw [hav]]
  rw [lg_entry_eq]
  generalize (lg_sl ([.ref (ad 0), .int a1, .int a2]) ++ List.replicate (11 - (lg_sl ([.ref (ad 0), .int a1, .int a2])).length) Slot.unset).toArray = ls at hl ⊢
  have hl : lv_has ls 11 [(0, .ref (ad 0)), (1, .int a1), (2, .int a2)] := hl
  show W p l e rmX11_cut s m args below meth c s.heap [] 0 0 _ _
  generalize MQ below (va_Qi post (xOut D KA layX stX ad ids) (xA ad ids s.heap.size)) args s 0 0 (xA ad ids s.heap.size) = Q at kr ⊢
  have blk152 : ∀ (s0 : Int32) (σ : St) (H : Heap) (locs : List Loc) (ls : Array Slot), xW D KA layX stX ad ids (xA ad ids s.heap.size) s.heap σ H locs → lv_has ls 11 [] → wX11_cut_152 ids post s0 σ → W p l e rmX11_cut s m args below meth c H locs 0 0 Q (F0 m 152 ls [.int s0]) := by
    intro   s0 σ H locs ls hW hl h
    unfold wX11_cut_152 at h
    exact kr _ _ _ _ _ _ hW h dX11_cut_152
  have blk121 : ∀ (x2 : Int32) (x3 : Nat) (ok_x3 : okB ids x3) (x4 : Int32) (k48 : Int32 → Int32 → Int32 → Int32 → St → Prop) (hk48 : ∀ (x5 : Int32) (x6 : Int32) (x7 : Int32) (x8 : Int32) (σ : St) (H : Heap) (locs : List Loc) (ls : Array Slot), xW D KA layX stX ad ids (xA ad ids s.heap.size) s.heap σ H locs → lv_has ls 11 [(0, .ref (ad 0)), (2, .int x2), (3, .ref (ad x3)), (4, .int x4), (5, .int x5), (6, .int x6), (7, .int x7), (8, .int x8)] → k48 x5 x6 x7 x8 σ → W p l e rmX11_cut s m args below meth c H locs 0 0 Q (F0 m 48 ls [])) (x5 : Int32) (x6 : Int32) (x7 : Int32) (x8 : Int32) (σ : St) (H : Heap) (locs : List Loc) (ls : Array Slot), xW D KA layX stX ad ids (xA ad ids s.heap.size) s.heap σ H locs → lv_has ls 11 [(0, .ref (ad 0)), (2, .int x2), (3, .ref (ad x3)), (4, .int x4), (5, .int x5), (6, .int x6), (7, .int x7), (8, .int x8)] → wX11_cut_121 ids k48 post x2 x3 x4 x5 x6 x7 x8 σ → W p l e rmX11_cut s m args below meth c H locs 0 0 Q (F0 m 121 ls []) := by
    intro x2 x3 ok_x3 x4 k48 hk48 x5 x6 x7 x8 σ H locs ls hW hl h
    unfold wX11_cut_121 at h
    obtain ⟨v1, hv1⟩ : ∃ y : Int32, y = x8 + (1 : Int32) := ⟨_, rfl⟩
    have h := h v1 hv1
    refine lv_iinc (v := v1) (lv' := [(8, .int v1), (0, .ref (ad 0)), (2, .int x2), (3, .ref (ad x3)), (4, .int x4), (5, .int x5), (6, .int x6), (7, .int x7)]) hx hb dX11_cut_121 hl (k := 7) rfl (by rw [hv1]; rfl) (by decide) rfl (fun ls hl => ?_)
    refine lv_goto (tgt := 48) hx hb dX11_cut_124 (by decide) ?_
    exact hk48 x5 x6 x7 v1 _ _ _ _ hW (lv_sub hl [1, 2, 3, 4, 5, 6, 7, 0] rfl) h
  have blk109 : ∀ (x2 : Int32) (x3 : Nat) (ok_x3 : okB ids x3) (x4 : Int32) (k48 : Int32 → Int32 → Int32 → Int32 → St → Prop) (hk48 : ∀ (x5 : Int32) (x6 : Int32) (x7 : Int32) (x8 : Int32) (σ : St) (H : Heap) (locs : List Loc) (ls : Array Slot), xW D KA layX stX ad ids (xA ad ids s.heap.size) s.heap σ H locs → lv_has ls 11 [(0, .ref (ad 0)), (2, .int x2), (3, .ref (ad x3)), (4, .int x4), (5, .int x5), (6, .int x6), (7, .int x7), (8, .int x8)] → k48 x5 x6 x7 x8 σ → W p l e rmX11_cut s m args below meth c H locs 0 0 Q (F0 m 48 ls [])) (x8 : Int32) (x9 : Int32) (x10 : Int32) (σ : St) (H : Heap) (locs : List Loc) (ls : Array Slot), xW D KA layX stX ad ids (xA ad ids s.heap.size) s.heap σ H locs → lv_has ls 11 [(0, .ref (ad 0)), (2, .int x2), (3, .ref (ad x3)), (4, .int x4), (8, .int x8), (9, .int x9), (10, .int x10)] → wX11_cut_109 ids k48 post x2 x3 x4 x8 x9 x10 σ → W p l e rmX11_cut s m args below meth c H locs 0 0 Q (F0 m 109 ls []) := by
    intro x2 x3 ok_x3 x4 k48 hk48 x8 x9 x10 σ H locs ls hW hl h
    unfold wX11_cut_109 at h
    refine lv_iload hx hb dX11_cut_109 (lv_at hl 4 rfl) ?_
    refine lv_istore (lv' := [(5, .int x8), (0, .ref (ad 0)), (2, .int x2), (3, .ref (ad x3)), (4, .int x4), (8, .int x8), (9, .int x9), (10, .int x10)]) hx hb dX11_cut_111 hl (by decide) rfl (fun ls hl => ?_)
    refine lv_iload hx hb dX11_cut_113 (lv_at hl 6 rfl) ?_
    refine lv_istore (lv' := [(6, .int x9), (5, .int x8), (0, .ref (ad 0)), (2, .int x2), (3, .ref (ad x3)), (4, .int x4), (8, .int x8), (9, .int x9), (10, .int x10)]) hx hb dX11_cut_115 hl (by decide) rfl (fun ls hl => ?_)
    refine lv_iload hx hb dX11_cut_117 (lv_at hl 8 rfl) ?_
    refine lv_istore (lv' := [(7, .int x10), (6, .int x9), (5, .int x8), (0, .ref (ad 0)), (2, .int x2), (3, .ref (ad x3)), (4, .int x4), (8, .int x8), (9, .int x9), (10, .int x10)]) hx hb dX11_cut_119 hl (by decide) rfl (fun ls hl => ?_)
    exact blk121 x2 x3 ok_x3 x4 k48 hk48 x8 x9 x10 x8 _ _ _ _ hW (lv_sub hl [3, 4, 5, 6, 2, 1, 0, 7] rfl) h
  have blk48 : ∀ (x2 : Int32) (x3 : Nat) (ok_x3 : okB ids x3) (x4 : Int32) (n : Nat) (x5 : Int32) (x6 : Int32) (x7 : Int32) (x8 : Int32) (σ : St) (H : Heap) (locs : List Loc) (ls : Array Slot), xW D KA layX stX ad ids (xA ad ids s.heap.size) s.heap σ H locs → lv_has ls 11 [(0, .ref (ad 0)), (2, .int x2), (3, .ref (ad x3)), (4, .int x4), (5, .int x5), (6, .int x6), (7, .int x7), (8, .int x8)] → wX11_cut_48 ids post x2 x3 x4 n x5 x6 x7 x8 σ → W p l e rmX11_cut s m args below meth c H locs 0 0 Q (F0 m 48 ls []) := by
    intro   x2 x3 ok_x3 x4 n
    induction n with
    | zero => intro x5 x6 x7 x8 σ H locs ls hW hl h; exact (h : False).elim
    | succ n ih =>
      intro x5 x6 x7 x8 σ H locs ls hW hl h
      have hk48 : ∀ (x5 : Int32) (x6 : Int32) (x7 : Int32) (x8 : Int32) (σ : St) (H : Heap) (locs : List Loc) (ls : Array Slot), xW D KA layX stX ad ids (xA ad ids s.heap.size) s.heap σ H locs → lv_has ls 11 [(0, .ref (ad 0)), (2, .int x2), (3, .ref (ad x3)), (4, .int x4), (5, .int x5), (6, .int x6), (7, .int x7), (8, .int x8)] → (wX11_cut_48 ids post x2 x3 x4 n) x5 x6 x7 x8 σ → W p l e rmX11_cut s m args below meth c H locs 0 0 Q (F0 m 48 ls []) := fun x5 x6 x7 x8 σ H locs ls hW hl h => ih x5 x6 x7 x8 σ H locs ls hW hl h
      rw [wX11_cut_48_s] at h
      try dsimp only at h
      generalize wX11_cut_48 ids post x2 x3 x4 n = k48 at h hk48
      refine lv_iload hx hb dX11_cut_48 (lv_at hl 7 rfl) ?_
      refine lv_bipush (v := 99) hx hb dX11_cut_50 (by decide) ?_
      refine lv_icmp_gt (tgt := 127) hx hb dX11_cut_52 (by decide) (fun c2 => ?_) (fun c2 => ?_)
      · have h := h.1 c2
        refine lv_aload_n hx hb dX11_cut_127 rfl (lv_at hl 2 rfl) ?_
        refine lv_iload hx hb dX11_cut_128 (lv_at hl 3 rfl) ?_
        refine xpB_7 hx hb hts hown hK hW x3 hBX11_cut ok_x3 (hts _ hwX11_cut_0) dX11_cut_130 (fun σ3 H locs hσ3 hW => ?_)
        have h := h σ3 hσ3
        refine lv_iload_n hx hb dX11_cut_133 rfl (lv_at hl 1 rfl) ?_
        refine lv_if_ne (tgt := 140) hx hb dX11_cut_134 (by decide) (fun c4 => ?_) (fun c4 => ?_)
        · have h := h.1 c4
          refine lv_iload_n hx hb dX11_cut_140 rfl (lv_at hl 1 rfl) ?_
          refine lv_iconst (v := 1) hx hb dX11_cut_141 (by decide) ?_
          refine lv_icmp_ne (tgt := 150) hx hb dX11_cut_142 (by decide) (fun c5 => ?_) (fun c5 => ?_)
          · have h := h.1 c5
            refine lv_iload hx hb dX11_cut_150 (lv_at hl 6 rfl) ?_
            exact blk152   x7 _ _ _ _ hW (lv_sub hl [] rfl) h
          · have h := h.2 c5
            refine lv_iload hx hb dX11_cut_145 (lv_at hl 5 rfl) ?_
            refine lv_goto (tgt := 152) hx hb dX11_cut_147 (by decide) ?_
            exact blk152   x6 _ _ _ _ hW (lv_sub hl [] rfl) h
        · have h := h.2 c4
          refine lv_iload hx hb dX11_cut_137 (lv_at hl 4 rfl) ?_
          exact kr _ _ _ _ _ _ hW h dX11_cut_139
      · have h := h.2 c2
        refine lv_aload_n hx hb dX11_cut_55 rfl (lv_at hl 2 rfl) ?_
        refine lv_iload hx hb dX11_cut_56 (lv_at hl 7 rfl) ?_
        refine xpB_7 hx hb hts hown hK hW x3 hBX11_cut ok_x3 (hts _ hwX11_cut_0) dX11_cut_58 (fun σ6 H locs hσ6 hW => ?_)
        have h := h σ6 hσ6
        refine lv_aload_n hx hb dX11_cut_61 rfl (lv_at hl 0 rfl) ?_
        refine xgX11_0r hx hb hts hown hK hW 0 hcX11_cut_X11 (hI 0 (by decide)) lX_0 (hts _ hwX11_cut_1) (sX_0_0 _) dX11_cut_62 ?_
        refine x_callv (va_runV (As := []) (rest := []) ⟨hx, hb, hml, hown, hts⟩ (J_X6_spin l hI h) (cwV 0 hts gX11_cut_X6_spin rfl rfl rfl hdV_X6_spin ⟨Nat.le_of_ble_eq_true rfl, Nat.le_of_ble_eq_true rfl⟩) (x_preV (ci := 6) hK hZ hA hW (hI 1 (by decide)) lX_1 rfl) rfl rfl hl.1 rfl (lv_room (Nat.le_of_ble_eq_true rfl)) dX11_cut_65 ⟨Nat.zero_le _, Nat.zero_le _⟩) hW hA (fun σ7 H locs h hW => ?_)
        try dsimp only at h
        refine lv_aload_n hx hb dX11_cut_68 rfl (lv_at hl 0 rfl) ?_
        refine xgX11_0r hx hb hts hown hK hW 0 hcX11_cut_X11 (hI 0 (by decide)) lX_0 (hts _ hwX11_cut_1) (sX_0_0 _) dX11_cut_69 ?_
        refine x_calli (va_runV (As := []) (rest := []) ⟨hx, hb, hml, hown, hts⟩ (J_X6_wellRunning l hI h) (cwV 0 hts gX11_cut_X6_wellRunning rfl rfl rfl hdV_X6_wellRunning ⟨Nat.le_of_ble_eq_true rfl, Nat.le_of_ble_eq_true rfl⟩) (x_preV (ci := 6) hK hZ hA hW (hI 1 (by decide)) lX_1 rfl) rfl rfl hl.1 rfl (lv_room (Nat.le_of_ble_eq_true rfl)) dX11_cut_72 ⟨Nat.zero_le _, Nat.zero_le _⟩) hW hA (fun r9 σ8 H locs h hW => ?_)
        try dsimp only at h
        refine x_calli (va_runS (As := [.int r9]) (rest := []) ⟨hx, hb, hml, hown, hts⟩ (J_J6_bitCount_0f7a4 l hI h) (va_cwS 1 hts gX11_cut_J6_bitCount_0f7a4 rfl rfl rfl hdS_J6_bitCount_0f7a4 ⟨Nat.le_of_ble_eq_true rfl, Nat.le_of_ble_eq_true rfl⟩) (x_preS hK hZ hA hW) rfl rfl hl.1 rfl (lv_room (Nat.le_of_ble_eq_true rfl)) dX11_cut_75 ⟨Nat.zero_le _, Nat.zero_le _⟩) hW hA (fun r11 σ10 H locs h hW => ?_)
        try dsimp only at h
        refine lv_istore (lv' := [(9, .int r11), (0, .ref (ad 0)), (2, .int x2), (3, .ref (ad x3)), (4, .int x4), (5, .int x5), (6, .int x6), (7, .int x7), (8, .int x8)]) hx hb dX11_cut_78 hl (by decide) rfl (fun ls hl => ?_)
        refine lv_aload_n hx hb dX11_cut_80 rfl (lv_at hl 1 rfl) ?_
        refine lv_iload hx hb dX11_cut_81 (lv_at hl 8 rfl) ?_
        refine x_calli (va_runV (As := [.int x8]) (rest := []) ⟨hx, hb, hml, hown, hts⟩ (J_X11_cost l hI h) (cwV 1 hts gX11_cut_X11_cost rfl rfl rfl hdV_X11_cost ⟨Nat.le_of_ble_eq_true rfl, Nat.le_of_ble_eq_true rfl⟩) (x_preV (ci := 11) hK hZ hA hW (hI 0 (by decide)) lX_0 rfl) rfl rfl hl.1 rfl (lv_room (Nat.le_of_ble_eq_true rfl)) dX11_cut_83 ⟨Nat.zero_le _, Nat.zero_le _⟩) hW hA (fun r13 σ12 H locs h hW => ?_)
        try dsimp only at h
        refine lv_istore (lv' := [(10, .int r13), (9, .int r11), (0, .ref (ad 0)), (2, .int x2), (3, .ref (ad x3)), (4, .int x4), (5, .int x5), (6, .int x6), (7, .int x7), (8, .int x8)]) hx hb dX11_cut_86 hl (by decide) rfl (fun ls hl => ?_)
        refine lv_iload hx hb dX11_cut_88 (lv_at hl 1 rfl) ?_
        refine lv_iload hx hb dX11_cut_90 (lv_at hl 7 rfl) ?_
        refine lv_icmp_gt (tgt := 109) hx hb dX11_cut_92 (by decide) (fun c14 => ?_) (fun c14 => ?_)
        · have h := h.1 c14
          exact blk109 x2 x3 ok_x3 x4 k48 hk48 x8 r11 r13 _ _ _ _ hW (lv_sub hl [2, 3, 4, 5, 9, 1, 0] rfl) h
        · have h := h.2 c14
          refine lv_iload hx hb dX11_cut_95 (lv_at hl 1 rfl) ?_
          refine lv_iload hx hb dX11_cut_97 (lv_at hl 7 rfl) ?_
          refine lv_icmp_ne (tgt := 121) hx hb dX11_cut_99 (by decide) (fun c15 => ?_) (fun c15 => ?_)
          · have h := h.1 c15
            exact blk121 x2 x3 ok_x3 x4 k48 hk48 x5 x6 x7 x8 _ _ _ _ hW (lv_sub hl [2, 3, 4, 5, 6, 7, 8, 9] rfl) h
          · have h := h.2 c15
            refine lv_iload hx hb dX11_cut_102 (lv_at hl 0 rfl) ?_
            refine lv_iload hx hb dX11_cut_104 (lv_at hl 8 rfl) ?_
            refine lv_icmp_ge (tgt := 121) hx hb dX11_cut_106 (by decide) (fun c16 => ?_) (fun c16 => ?_)
            · have h := h.1 c16
              exact blk121 x2 x3 ok_x3 x4 k48 hk48 x5 x6 x7 x8 _ _ _ _ hW (lv_sub hl [2, 3, 4, 5, 6, 7, 8, 9] rfl) h
            · have h := h.2 c16
              exact blk109 x2 x3 ok_x3 x4 k48 hk48 x8 r11 r13 _ _ _ _ hW (lv_sub hl [2, 3, 4, 5, 9, 1, 0] rfl) h
  have blk17 : ∀ (σ : St) (H : Heap) (locs : List Loc) (ls : Array Slot), xW D KA layX stX ad ids (xA ad ids s.heap.size) s.heap σ H locs → lv_has ls 11 [] → wX11_cut_17 ids post  σ → W p l e rmX11_cut s m args below meth c H locs 0 0 Q (F0 m 17 ls []) := by
    intro    σ H locs ls hW hl h
    unfold wX11_cut_17 at h
    refine lv_bipush (v := (-2)) hx hb dX11_cut_17 (by decide) ?_
    exact kr _ _ _ _ _ _ hW h dX11_cut_19
  have main : ∀ (H : Heap) (locs : List Loc) (ls : Array Slot), xW D KA layX stX ad ids (xA ad ids s.heap.size) s.heap σ H locs → lv_has ls 11 [(0, .ref (ad 0)), (1, .int a1), (2, .int a2)] → W p l e rmX11_cut s m args below meth c H locs 0 0 Q (F0 m 0 ls []) := by
    intro H locs ls hW hl
    unfold wX11_cut at h
    refine lv_aload_n hx hb dX11_cut_0 rfl (lv_at hl 0 rfl) ?_
    refine lv_iload_n hx hb dX11_cut_1 rfl (lv_at hl 1 rfl) ?_
    refine x_calli (va_runV (As := [.int a1]) (rest := []) ⟨hx, hb, hml, hown, hts⟩ (J_X11_isBelt l hI h) (cwV 1 hts gX11_cut_X11_isBelt rfl rfl rfl hdV_X11_isBelt ⟨Nat.le_of_ble_eq_true rfl, Nat.le_of_ble_eq_true rfl⟩) (x_preV (ci := 11) hK hZ hA hW (hI 0 (by decide)) lX_0 rfl) rfl rfl hl.1 rfl (lv_room (Nat.le_of_ble_eq_true rfl)) dX11_cut_2 ⟨Nat.zero_le _, Nat.zero_le _⟩) hW hA (fun r1002 σ1001 H locs h hW => ?_)
    try dsimp only at h
    refine lv_if_eq (tgt := 17) hx hb dX11_cut_5 (by decide) (fun c1003 => ?_) (fun c1003 => ?_)
    · have h := h.1 c1003
      exact blk17    _ _ _ _ hW (lv_sub hl [] rfl) h
    · have h := h.2 c1003
      refine lv_iload_n hx hb dX11_cut_8 rfl (lv_at hl 2 rfl) ?_
      refine lv_iconst (v := 0) hx hb dX11_cut_9 (by decide) ?_
      refine lv_iconst (v := 2) hx hb dX11_cut_10 (by decide) ?_
      refine x_calli (va_runS (As := [.int a2, .int (0 : Int32), .int (2 : Int32)]) (rest := []) ⟨hx, hb, hml, hown, hts⟩ (J_X11_within l hI h) (va_cwS 3 hts gX11_cut_X11_within rfl rfl rfl hdS_X11_within ⟨Nat.le_of_ble_eq_true rfl, Nat.le_of_ble_eq_true rfl⟩) (x_preS hK hZ hA hW) rfl rfl hl.1 rfl (lv_room (Nat.le_of_ble_eq_true rfl)) dX11_cut_11 ⟨Nat.zero_le _, Nat.zero_le _⟩) hW hA (fun r1005 σ1004 H locs h hW => ?_)
      try dsimp only at h
      refine lv_if_ne (tgt := 20) hx hb dX11_cut_14 (by decide) (fun c1006 => ?_) (fun c1006 => ?_)
      · have h := h.1 c1006
        refine lv_aload_n hx hb dX11_cut_20 rfl (lv_at hl 0 rfl) ?_
        refine xgX11_0r hx hb hts hown hK hW 0 hcX11_cut_X11 (hI 0 (by decide)) lX_0 (hts _ hwX11_cut_1) (sX_0_0 _) dX11_cut_21 ?_
        refine xgX6_12r hx hb hts hown hK hW 1 hcX11_cut_X6 (hI 1 (by decide)) lX_1 (hts _ hwX11_cut_2) (sX_1_12 _) dX11_cut_24 ?_
        refine lv_iload_n hx hb dX11_cut_27 rfl (lv_at hl 1 rfl) ?_
        obtain ⟨hi1007, h⟩ := h
        obtain ⟨o1008, hr1009, ok_o1008, h⟩ := h
        refine x_ald hx hb hK hW 11 0 (hI 11 (by decide)) lX_11 rfl hi1007 ((sX_11 _ _).trans hr1009) dX11_cut_28 ?_
        refine lv_astore_n (lv' := [(3, .ref (ad o1008)), (0, .ref (ad 0)), (1, .int a1), (2, .int a2)]) hx hb dX11_cut_29 rfl hl (by decide) rfl (fun ls hl => ?_)
        refine lv_aload_n hx hb dX11_cut_30 rfl (lv_at hl 0 rfl) ?_
        refine xgB_7 hx hb hts hown hK hW o1008 hBX11_cut ok_o1008 (hts _ hwX11_cut_0) (fun _ h => h) dX11_cut_31 ?_
        refine lv_topi (fun v1010 hv1010 => ?_)
        have h := h v1010 hv1010
        refine lv_istore (lv' := [(4, .int v1010), (3, .ref (ad o1008)), (0, .ref (ad 0)), (1, .int a1), (2, .int a2)]) hx hb dX11_cut_34 hl (by decide) rfl (fun ls hl => ?_)
        refine lv_iconst (v := 0) hx hb dX11_cut_36 (by decide) ?_
        refine lv_istore (lv' := [(5, .int (0 : Int32)), (4, .int v1010), (3, .ref (ad o1008)), (0, .ref (ad 0)), (1, .int a1), (2, .int a2)]) hx hb dX11_cut_37 hl (by decide) rfl (fun ls hl => ?_)
        refine lv_iconst (v := (-1)) hx hb dX11_cut_39 (by decide) ?_
        refine lv_istore (lv' := [(6, .int (-1 : Int32)), (5, .int (0 : Int32)), (4, .int v1010), (3, .ref (ad o1008)), (0, .ref (ad 0)), (1, .int a1), (2, .int a2)]) hx hb dX11_cut_40 hl (by decide) rfl (fun ls hl => ?_)
        refine lv_iconst (v := 0) hx hb dX11_cut_42 (by decide) ?_
        refine lv_istore (lv' := [(7, .int (0 : Int32)), (6, .int (-1 : Int32)), (5, .int (0 : Int32)), (4, .int v1010), (3, .ref (ad o1008)), (0, .ref (ad 0)), (1, .int a1), (2, .int a2)]) hx hb dX11_cut_43 hl (by decide) rfl (fun ls hl => ?_)
        refine lv_iconst (v := 1) hx hb dX11_cut_45 (by decide) ?_
        refine lv_istore (lv' := [(8, .int (1 : Int32)), (7, .int (0 : Int32)), (6, .int (-1 : Int32)), (5, .int (0 : Int32)), (4, .int v1010), (3, .ref (ad o1008)), (0, .ref (ad 0)), (1, .int a1), (2, .int a2)]) hx hb dX11_cut_46 hl (by decide) rfl (fun ls hl => ?_)
        obtain ⟨n, h⟩ := h
        exact blk48   a2 o1008 ok_o1008 v1010 n (0 : Int32) (-1 : Int32) (0 : Int32) (1 : Int32) _ _ _ _ hW (lv_sub hl [6, 8, 5, 4, 3, 2, 1, 0] rfl) h
      · have h := h.2 c1006
        exact blk17    _ _ _ _ hW (lv_sub hl [] rfl) h
  exact main _ _ _ hW hl
set_option maxHeartbeats 4000000 in
set_option maxRecDepth 100000 in
theorem J_X3_wrap {D : va_G} {KA : Nat → ClassId} {zs : ZS} {ad : Nat → Nat} {ids : List Nat} {sz : Nat} (l : Launch) (hI : ∀ c, c < 52 ∧ ¬ c = 19 → c ∈ ids) {a0 : Nat} (ok_a0 : okB ids a0) {σ : St} {post : Int32 → St → Prop} (h : wX3_wrap ids a0 σ post) : Met l yX3_wrap wsX3_wrap rmX3_wrap (va_Pc [.ref (ad a0)] (xIn D KA zs layX stX ad ids sz σ)) (va_Qi post (xOut D KA layX stX ad ids) (xA ad ids sz)) 0 0 (xA ad ids sz) := by
  refine Met.ofW (cc := cX3_wrap) (maxL := 1) (ret := (some .int)) (by decide) rfl ?_
  intro p e s m args below meth c s₁ B hml hv
  obtain ⟨hav, hsz, hK, hZ, hP, hD⟩ := hv
  have hx := B.exec
  have hb := B.bytes
  have hr := B.returns
  have hts := atoms_spec (ws := wsX3_wrap) B.pre
  have hown : s.vm.findClass RX3 = some m.cls := findClass_of_methodNamed B.named
  have hlocks := B.notSynchronized
  subst hsz
  have hA : ∀ q : Nat, s.heap.size ≤ q → xA ad ids s.heap.size q := fun q h => Or.inr h
  have hW : xW D KA layX stX ad ids (xA ad ids s.heap.size) s.heap σ s.heap [] := ⟨hP, xA_D (D := D) hD, va_S.rf⟩
  have kr : ∀ (v : Int32) (σ : St) (H : Heap) (locs : List Loc) (ls : Array Slot) (pc : Nat), xW D KA layX stX ad ids (xA ad ids s.heap.size) s.heap σ H locs → post v σ → decode cX3_wrap pc = .ok (.ireturn, 1) → W p l e rmX3_wrap s m args below meth c H locs 0 0 (MQ below (va_Qi post (xOut D KA layX stX ad ids) (xA ad ids s.heap.size)) args s 0 0 (xA ad ids s.heap.size)) (F0 m pc ls [.int v]) := fun v σ H locs ls pc hW h hd => x_iret hx hb hr hlocks hW h hd
  have hl := lv_entry ([.ref (ad a0)]) (n := 1) (Nat.le_of_ble_eq_true rfl)
  rw [show entryFrame m args 1 = entryFrame m ([.ref (ad a0)] : List Value).toArray 1 from by rw [hav]]
  rw [lg_entry_eq]
  generalize (lg_sl ([.ref (ad a0)]) ++ List.replicate (1 - (lg_sl ([.ref (ad a0)])).length) Slot.unset).toArray = ls at hl ⊢
  have hl : lv_has ls 1 [(0, .ref (ad a0))] := hl
  show W p l e rmX3_wrap s m args below meth c s.heap [] 0 0 _ _
  generalize MQ below (va_Qi post (xOut D KA layX stX ad ids) (xA ad ids s.heap.size)) args s 0 0 (xA ad ids s.heap.size) = Q at kr ⊢
  have main : ∀ (H : Heap) (locs : List Loc) (ls : Array Slot), xW D KA layX stX ad ids (xA ad ids s.heap.size) s.heap σ H locs → lv_has ls 1 [(0, .ref (ad a0))] → W p l e rmX3_wrap s m args below meth c H locs 0 0 Q (F0 m 0 ls []) := by
    intro H locs ls hW hl
    unfold wX3_wrap at h
    refine lv_aload_n hx hb dX3_wrap_0 rfl (lv_at hl 0 rfl) ?_
    refine x_calli (x_runSUB (As := []) (rest := []) ⟨hx, hb, hml, hown, hts⟩ (J_X0_wrap l hI ok_a0 h) (va_cwSU 0 hts gX3_wrap_X0_wrap_s7 rfl rfl rfl hdSU_X0_wrap ⟨Nat.le_of_ble_eq_true rfl, Nat.le_of_ble_eq_true rfl⟩) hK hZ hA hW ok_a0 rfl rfl hl.1 rfl (lv_room (Nat.le_of_ble_eq_true rfl)) dX3_wrap_1 ⟨Nat.zero_le _, Nat.zero_le _⟩) hW hA (fun r1002 σ1001 H locs h hW => ?_)
    try dsimp only at h
    refine lv_bipush (v := 15) hx hb dX3_wrap_4 (by decide) ?_
    refine lv_iadd hx hb dX3_wrap_6 ?_
    exact kr _ _ _ _ _ _ hW h dX3_wrap_7
  exact main _ _ _ hW hl
set_option maxHeartbeats 4000000 in
set_option maxRecDepth 100000 in
theorem J_X4_wrap {D : va_G} {KA : Nat → ClassId} {zs : ZS} {ad : Nat → Nat} {ids : List Nat} {sz : Nat} (l : Launch) (hI : ∀ c, c < 52 ∧ ¬ c = 19 → c ∈ ids) {a0 : Nat} (ok_a0 : okB ids a0) {σ : St} {post : Int32 → St → Prop} (h : wX4_wrap ids a0 σ post) : Met l yX4_wrap wsX4_wrap rmX4_wrap (va_Pc [.ref (ad a0)] (xIn D KA zs layX stX ad ids sz σ)) (va_Qi post (xOut D KA layX stX ad ids) (xA ad ids sz)) 0 0 (xA ad ids sz) := by
  refine Met.ofW (cc := cX4_wrap) (maxL := 1) (ret := (some .int)) (by decide) rfl ?_
  intro p e s m args below meth c s₁ B hml hv
  obtain ⟨hav, hsz, hK, hZ, hP, hD⟩ := hv
  have hx := B.exec
  have hb := B.bytes
  have hr := B.returns
  have hts := atoms_spec (ws := wsX4_wrap) B.pre
  have hown : s.vm.findClass RX4 = some m.cls := findClass_of_methodNamed B.named
  have hlocks := B.notSynchronized
  subst hsz
  have hA : ∀ q : Nat, s.heap.size ≤ q → xA ad ids s.heap.size q := fun q h => Or.inr h
  have hW : xW D KA layX stX ad ids (xA ad ids s.heap.size) s.heap σ s.heap [] := ⟨hP, xA_D (D := D) hD, va_S.rf⟩
  have kr : ∀ (v : Int32) (σ : St) (H : Heap) (locs : List Loc) (ls : Array Slot) (pc : Nat), xW D KA layX stX ad ids (xA ad ids s.heap.size) s.heap σ H locs → post v σ → decode cX4_wrap pc = .ok (.ireturn, 1) → W p l e rmX4_wrap s m args below meth c H locs 0 0 (MQ below (va_Qi post (xOut D KA layX stX ad ids) (xA ad ids s.heap.size)) args s 0 0 (xA ad ids s.heap.size)) (F0 m pc ls [.int v]) := fun v σ H locs ls pc hW h hd => x_iret hx hb hr hlocks hW h hd
  have hl := lv_entry ([.ref (ad a0)]) (n := 1) (Nat.le_of_ble_eq_true rfl)
  rw [show entryFrame m args 1 = entryFrame m ([.ref (ad a0)] : List Value).toArray 1 from by rw [hav]]
  rw [lg_entry_eq]
  generalize (lg_sl ([.ref (ad a0)]) ++ List.replicate (1 - (lg_sl ([.ref (ad a0)])).length) Slot.unset).toArray = ls at hl ⊢
  have hl : lv_has ls 1 [(0, .ref (ad a0))] := hl
  show W p l e rmX4_wrap s m args below meth c s.heap [] 0 0 _ _
  generalize MQ below (va_Qi post (xOut D KA layX stX ad ids) (xA ad ids s.heap.size)) args s 0 0 (xA ad ids s.heap.size) = Q at kr ⊢
  have main : ∀ (H : Heap) (locs : List Loc) (ls : Array Slot), xW D KA layX stX ad ids (xA ad ids s.heap.size) s.heap σ H locs → lv_has ls 1 [(0, .ref (ad a0))] → W p l e rmX4_wrap s m args below meth c H locs 0 0 Q (F0 m 0 ls []) := by
    intro H locs ls hW hl
    unfold wX4_wrap at h
    refine lv_aload_n hx hb dX4_wrap_0 rfl (lv_at hl 0 rfl) ?_
    refine x_calli (x_runSUB (As := []) (rest := []) ⟨hx, hb, hml, hown, hts⟩ (J_X3_wrap l hI ok_a0 h) (va_cwSU 0 hts gX4_wrap_X3_wrap_s7 rfl rfl rfl hdSU_X3_wrap ⟨Nat.le_of_ble_eq_true rfl, Nat.le_of_ble_eq_true rfl⟩) hK hZ hA hW ok_a0 rfl rfl hl.1 rfl (lv_room (Nat.le_of_ble_eq_true rfl)) dX4_wrap_1 ⟨Nat.zero_le _, Nat.zero_le _⟩) hW hA (fun r1002 σ1001 H locs h hW => ?_)
    try dsimp only at h
    refine lv_iconst (v := 5) hx hb dX4_wrap_4 (by decide) ?_
    refine lv_isub hx hb dX4_wrap_5 ?_
    exact kr _ _ _ _ _ _ hW h dX4_wrap_6
  exact main _ _ _ hW hl
theorem hwX6_shaftsFrom_0 : (.fieldLink RX6 65 "FortyBelts$Mill" "beltCount" "I" : Cond) ∈ wsX6_shaftsFrom := (List.mem_cons_of_mem _ (List.mem_append_left _ (List.mem_append_left _ (List.mem_append_left _ (List.mem_append_left _ (List.mem_append_left _ (List.mem_append_left _ (List.mem_append_left _ (List.mem_of_getElem? (i := 0) rfl)))))))))
theorem hwX6_shaftsFrom_1 : (.fieldLink RX6 42 "FortyBelts$Mill" "belts" "[LFortyBelts$Belt;" : Cond) ∈ wsX6_shaftsFrom := (List.mem_cons_of_mem _ (List.mem_append_left _ (List.mem_append_left _ (List.mem_append_left _ (List.mem_append_left _ (List.mem_append_left _ (List.mem_append_left _ (List.mem_append_left _ (List.mem_of_getElem? (i := 1) rfl)))))))))
theorem hwX6_shaftsFrom_2 : (.fieldLink RX6 46 "FortyBelts$Mill" "order" "[I" : Cond) ∈ wsX6_shaftsFrom := (List.mem_cons_of_mem _ (List.mem_append_left _ (List.mem_append_left _ (List.mem_append_left _ (List.mem_append_left _ (List.mem_append_left _ (List.mem_append_left _ (List.mem_append_left _ (List.mem_of_getElem? (i := 2) rfl)))))))))
theorem hwX6_shaftsFrom_3 : (.fieldLink RX6 89 "FortyBelts$Belt" "on" "Z" : Cond) ∈ wsX6_shaftsFrom := (List.mem_cons_of_mem _ (List.mem_append_left _ (List.mem_append_left _ (List.mem_append_left _ (List.mem_append_left _ (List.mem_append_left _ (List.mem_append_left _ (List.mem_append_left _ (List.mem_of_getElem? (i := 3) rfl)))))))))
theorem hwX6_shaftsFrom_4 : (.fieldLink RX6 86 "FortyBelts$Belt" "driver" "I" : Cond) ∈ wsX6_shaftsFrom := (List.mem_cons_of_mem _ (List.mem_append_left _ (List.mem_append_left _ (List.mem_append_left _ (List.mem_append_left _ (List.mem_append_left _ (List.mem_append_left _ (List.mem_append_left _ (List.mem_of_getElem? (i := 4) rfl)))))))))
theorem hwX6_shaftsFrom_5 : (.fieldLink RX6 68 "FortyBelts$Belt" "driven" "I" : Cond) ∈ wsX6_shaftsFrom := (List.mem_cons_of_mem _ (List.mem_append_left _ (List.mem_append_left _ (List.mem_append_left _ (List.mem_append_left _ (List.mem_append_left _ (List.mem_append_left _ (List.mem_append_left _ (List.mem_of_getElem? (i := 5) rfl)))))))))
theorem hcX6_shaftsFrom_X6 : ∀ w ∈ wsX60, w ∈ wsX6_shaftsFrom := fun _ h => (List.mem_cons_of_mem _ (List.mem_append_left _ (List.mem_append_left _ (List.mem_append_left _ (List.mem_append_left _ (List.mem_append_left _ (List.mem_append_left _ (List.mem_append_right _ h))))))))
theorem hcX6_shaftsFrom_X0 : ∀ w ∈ wsX00, w ∈ wsX6_shaftsFrom := fun _ h => (List.mem_cons_of_mem _ (List.mem_append_left _ (List.mem_append_left _ (List.mem_append_left _ (List.mem_append_left _ (List.mem_append_left _ (List.mem_append_right _ h)))))))
theorem hcX6_shaftsFrom_X1 : ∀ w ∈ wsX10, w ∈ wsX6_shaftsFrom := fun _ h => (List.mem_cons_of_mem _ (List.mem_append_left _ (List.mem_append_left _ (List.mem_append_left _ (List.mem_append_left _ (List.mem_append_right _ h))))))
theorem hcX6_shaftsFrom_X2 : ∀ w ∈ wsX20, w ∈ wsX6_shaftsFrom := fun _ h => (List.mem_cons_of_mem _ (List.mem_append_left _ (List.mem_append_left _ (List.mem_append_left _ (List.mem_append_right _ h)))))
theorem hcX6_shaftsFrom_X3 : ∀ w ∈ wsX30, w ∈ wsX6_shaftsFrom := fun _ h => (List.mem_cons_of_mem _ (List.mem_append_left _ (List.mem_append_left _ (List.mem_append_right _ h))))
theorem hcX6_shaftsFrom_X4 : ∀ w ∈ wsX40, w ∈ wsX6_shaftsFrom := fun _ h => (List.mem_cons_of_mem _ (List.mem_append_left _ (List.mem_append_right _ h)))
theorem hcX6_shaftsFrom_X10 : ∀ w ∈ wsX100, w ∈ wsX6_shaftsFrom := fun _ h => (List.mem_cons_of_mem _ (List.mem_append_right _ h))
theorem hBX6_shaftsFrom : xHB wsX6_shaftsFrom := ⟨hcX6_shaftsFrom_X0, hcX6_shaftsFrom_X1, hcX6_shaftsFrom_X2, hcX6_shaftsFrom_X3, hcX6_shaftsFrom_X4, hcX6_shaftsFrom_X10⟩
set_option maxHeartbeats 4000000 in
set_option maxRecDepth 100000 in
theorem J_X6_shaftsFrom {D : va_G} {KA : Nat → ClassId} {zs : ZS} {ad : Nat → Nat} {ids : List Nat} {sz : Nat} (l : Launch) (hI : ∀ c, c < 52 ∧ ¬ c = 19 → c ∈ ids) {a1 : Int32}  {σ : St} {post : Int32 → St → Prop} (h : wX6_shaftsFrom ids a1 σ post) : Met l yX6_shaftsFrom wsX6_shaftsFrom rmX6_shaftsFrom (va_Pc [.ref (ad 1), .int a1] (xIn D KA zs layX stX ad ids sz σ)) (va_Qi post (xOut D KA layX stX ad ids) (xA ad ids sz)) 0 0 (xA ad ids sz) := by
  refine Met.ofW (cc := cX6_shaftsFrom) (maxL := 5) (ret := (some .int)) (by decide) rfl ?_
  intro p e s m args below meth c s₁ B hml hv
  obtain ⟨hav, hsz, hK, hZ, hP, hD⟩ := hv
  have hx := B.exec
  have hb := B.bytes
  have hr := B.returns
  have hts := atoms_spec (ws := wsX6_shaftsFrom) B.pre
  have hown : s.vm.findClass RX6 = some m.cls := findClass_of_methodNamed B.named
  have hlocks := B.notSynchronized
  subst hsz
  have hA : ∀ q : Nat, s.heap.size ≤ q → xA ad ids s.heap.size q := fun q h => Or.inr h
  have hW : xW D KA layX stX ad ids (xA ad ids s.heap.size) s.heap σ s.heap [] := ⟨hP, xA_D (D := D) hD, va_S.rf⟩
  have kr : ∀ (v : Int32) (σ : St) (H : Heap) (locs : List Loc) (ls : Array Slot) (pc : Nat), xW D KA layX stX ad ids (xA ad ids s.heap.size) s.heap σ H locs → post v σ → decode cX6_shaftsFrom pc = .ok (.ireturn, 1) → W p l e rmX6_shaftsFrom s m args below meth c H locs 0 0 (MQ below (va_Qi post (xOut D KA layX stX ad ids) (xA ad ids s.heap.size)) args s 0 0 (xA ad ids s.heap.size)) (F0 m pc ls [.int v]) := fun v σ H locs ls pc hW h hd => x_iret hx hb hr hlocks hW h hd
  have hl := lv_entry ([.ref (ad 1), .int a1]) (n := 5) (Nat.le_of_ble_eq_true rfl)
  rw [show entryFrame m args 5 = entryFrame m ([.ref (ad 1), .int a1] : List Value).toArray 5 from by rw [hav]]
  rw [lg_entry_eq]
  generalize (lg_sl ([.ref (ad 1), .int a1]) ++ List.replicate (5 - (lg_sl ([.ref (ad 1), .int a1])).length) Slot.unset).toArray = ls at hl ⊢
  have hl : lv_has ls 5 [(0, .ref (ad 1)), (1, .int a1)] := hl
  show W p l e rmX6_shaftsFrom s m args below meth c s.heap [] 0 0 _ _
  generalize MQ below (va_Qi post (xOut D KA layX stX ad ids) (xA ad ids s.heap.size)) args s 0 0 (xA ad ids s.heap.size) = Q at kr ⊢
  have blk58 : ∀ (k6 : Int32 → Int32 → St → Prop) (hk6 : ∀ (x2 : Int32) (x3 : Int32) (σ : St) (H : Heap) (locs : List Loc) (ls : Array Slot), xW D KA layX stX ad ids (xA ad ids s.heap.size) s.heap σ H locs → lv_has ls 5 [(0, .ref (ad 1)), (2, .int x2), (3, .int x3)] → k6 x2 x3 σ → W p l e rmX6_shaftsFrom s m args below meth c H locs 0 0 Q (F0 m 6 ls [])) (x2 : Int32) (x3 : Int32) (σ : St) (H : Heap) (locs : List Loc) (ls : Array Slot), xW D KA layX stX ad ids (xA ad ids s.heap.size) s.heap σ H locs → lv_has ls 5 [(0, .ref (ad 1)), (2, .int x2), (3, .int x3)] → wX6_shaftsFrom_58 ids k6 post x2 x3 σ → W p l e rmX6_shaftsFrom s m args below meth c H locs 0 0 Q (F0 m 58 ls []) := by
    intro  k6 hk6 x2 x3 σ H locs ls hW hl h
    unfold wX6_shaftsFrom_58 at h
    obtain ⟨v1, hv1⟩ : ∃ y : Int32, y = x3 + (1 : Int32) := ⟨_, rfl⟩
    have h := h v1 hv1
    refine lv_iinc (v := v1) (lv' := [(3, .int v1), (0, .ref (ad 1)), (2, .int x2)]) hx hb dX6_shaftsFrom_58 hl (k := 2) rfl (by rw [hv1]; rfl) (by decide) rfl (fun ls hl => ?_)
    refine lv_goto (tgt := 6) hx hb dX6_shaftsFrom_61 (by decide) ?_
    exact hk6 x2 v1 _ _ _ _ hW (lv_sub hl [1, 2, 0] rfl) h
  have blk6 : ∀ (n : Nat) (x2 : Int32) (x3 : Int32) (σ : St) (H : Heap) (locs : List Loc) (ls : Array Slot), xW D KA layX stX ad ids (xA ad ids s.heap.size) s.heap σ H locs → lv_has ls 5 [(0, .ref (ad 1)), (2, .int x2), (3, .int x3)] → wX6_shaftsFrom_6 ids post  n x2 x3 σ → W p l e rmX6_shaftsFrom s m args below meth c H locs 0 0 Q (F0 m 6 ls []) := by
    intro    n
    induction n with
    | zero => intro x2 x3 σ H locs ls hW hl h; exact (h : False).elim
    | succ n ih =>
      intro x2 x3 σ H locs ls hW hl h
      have hk6 : ∀ (x2 : Int32) (x3 : Int32) (σ : St) (H : Heap) (locs : List Loc) (ls : Array Slot), xW D KA layX stX ad ids (xA ad ids s.heap.size) s.heap σ H locs → lv_has ls 5 [(0, .ref (ad 1)), (2, .int x2), (3, .int x3)] → (wX6_shaftsFrom_6 ids post  n) x2 x3 σ → W p l e rmX6_shaftsFrom s m args below meth c H locs 0 0 Q (F0 m 6 ls []) := fun x2 x3 σ H locs ls hW hl h => ih x2 x3 σ H locs ls hW hl h
      rw [wX6_shaftsFrom_6_s] at h
      try dsimp only at h
      generalize wX6_shaftsFrom_6 ids post  n = k6 at h hk6
      refine lv_iload_n hx hb dX6_shaftsFrom_6 rfl (lv_at hl 2 rfl) ?_
      refine lv_aload_n hx hb dX6_shaftsFrom_7 rfl (lv_at hl 0 rfl) ?_
      refine xgX6_3 hx hb hts hown hK hW 1 hcX6_shaftsFrom_X6 (hI 1 (by decide)) lX_1 (hts _ hwX6_shaftsFrom_0) dX6_shaftsFrom_8 ?_
      refine lv_icmp_ge (tgt := 64) hx hb dX6_shaftsFrom_11 (by decide) (fun c2 => ?_) (fun c2 => ?_)
      · have h := h.1 c2
        refine lv_iload_n hx hb dX6_shaftsFrom_64 rfl (lv_at hl 1 rfl) ?_
        exact kr _ _ _ _ _ _ hW h dX6_shaftsFrom_65
      · have h := h.2 c2
        refine lv_aload_n hx hb dX6_shaftsFrom_14 rfl (lv_at hl 0 rfl) ?_
        refine xgX6_12r hx hb hts hown hK hW 1 hcX6_shaftsFrom_X6 (hI 1 (by decide)) lX_1 (hts _ hwX6_shaftsFrom_1) (sX_1_12 _) dX6_shaftsFrom_15 ?_
        refine lv_aload_n hx hb dX6_shaftsFrom_18 rfl (lv_at hl 0 rfl) ?_
        refine xgX6_13r hx hb hts hown hK hW 1 hcX6_shaftsFrom_X6 (hI 1 (by decide)) lX_1 (hts _ hwX6_shaftsFrom_2) (sX_1_13 _) dX6_shaftsFrom_19 ?_
        refine lv_iload_n hx hb dX6_shaftsFrom_22 rfl (lv_at hl 2 rfl) ?_
        obtain ⟨hi3, h⟩ := h
        refine x_iald hx hb hK hW 12 (hI 12 (by decide)) lX_12 hi3 dX6_shaftsFrom_23 ?_
        obtain ⟨hi4, h⟩ := h
        obtain ⟨o5, hr6, ok_o5, h⟩ := h
        refine x_ald hx hb hK hW 11 0 (hI 11 (by decide)) lX_11 rfl hi4 ((sX_11 _ _).trans hr6) dX6_shaftsFrom_24 ?_
        refine lv_astore (lv' := [(4, .ref (ad o5)), (0, .ref (ad 1)), (2, .int x2), (3, .int x3)]) hx hb dX6_shaftsFrom_25 hl (by decide) rfl (fun ls hl => ?_)
        refine lv_aload hx hb dX6_shaftsFrom_27 (lv_at hl 0 rfl) ?_
        refine xgB_8 hx hb hts hown hK hW o5 hBX6_shaftsFrom ok_o5 (hts _ hwX6_shaftsFrom_3) (fun _ h => h) dX6_shaftsFrom_29 ?_
        refine lv_if_eq (tgt := 58) hx hb dX6_shaftsFrom_32 (by decide) (fun c7 => ?_) (fun c7 => ?_)
        · have h := h.1 c7
          exact blk58  k6 hk6 x2 x3 _ _ _ _ hW (lv_sub hl [1, 2, 3] rfl) h
        · have h := h.2 c7
          refine lv_iload_n hx hb dX6_shaftsFrom_35 rfl (lv_at hl 2 rfl) ?_
          refine lv_aload hx hb dX6_shaftsFrom_36 (lv_at hl 0 rfl) ?_
          refine xgB_1 hx hb hts hown hK hW o5 hBX6_shaftsFrom ok_o5 (hts _ hwX6_shaftsFrom_4) (fun _ h => h) dX6_shaftsFrom_38 ?_
          refine lv_ishr hx hb dX6_shaftsFrom_41 ?_
          refine lv_iconst (v := 1) hx hb dX6_shaftsFrom_42 (by decide) ?_
          refine lv_iand hx hb dX6_shaftsFrom_43 ?_
          refine lv_iconst (v := 1) hx hb dX6_shaftsFrom_44 (by decide) ?_
          refine lv_icmp_ne (tgt := 58) hx hb dX6_shaftsFrom_45 (by decide) (fun c8 => ?_) (fun c8 => ?_)
          · have h := h.1 c8
            exact blk58  k6 hk6 x2 x3 _ _ _ _ hW (lv_sub hl [1, 2, 3] rfl) h
          · have h := h.2 c8
            refine lv_iload_n hx hb dX6_shaftsFrom_48 rfl (lv_at hl 2 rfl) ?_
            refine lv_iconst (v := 1) hx hb dX6_shaftsFrom_49 (by decide) ?_
            refine lv_aload hx hb dX6_shaftsFrom_50 (lv_at hl 0 rfl) ?_
            refine xgB_2 hx hb hts hown hK hW o5 hBX6_shaftsFrom ok_o5 (hts _ hwX6_shaftsFrom_5) (fun _ h => h) dX6_shaftsFrom_52 ?_
            refine lv_ishl hx hb dX6_shaftsFrom_55 ?_
            refine lv_ior hx hb dX6_shaftsFrom_56 ?_
            refine lv_topi (fun v9 hv9 => ?_)
            have h := h v9 hv9
            refine lv_istore_n (lv' := [(2, .int v9), (4, .ref (ad o5)), (0, .ref (ad 1)), (3, .int x3)]) hx hb dX6_shaftsFrom_57 rfl hl (by decide) rfl (fun ls hl => ?_)
            exact blk58  k6 hk6 v9 x3 _ _ _ _ hW (lv_sub hl [2, 0, 3] rfl) h
  have main : ∀ (H : Heap) (locs : List Loc) (ls : Array Slot), xW D KA layX stX ad ids (xA ad ids s.heap.size) s.heap σ H locs → lv_has ls 5 [(0, .ref (ad 1)), (1, .int a1)] → W p l e rmX6_shaftsFrom s m args below meth c H locs 0 0 Q (F0 m 0 ls []) := by
    intro H locs ls hW hl
    unfold wX6_shaftsFrom at h
    refine lv_iconst (v := 1) hx hb dX6_shaftsFrom_0 (by decide) ?_
    refine lv_iload_n hx hb dX6_shaftsFrom_1 rfl (lv_at hl 1 rfl) ?_
    refine lv_ishl hx hb dX6_shaftsFrom_2 ?_
    refine lv_topi (fun v1001 hv1001 => ?_)
    have h := h v1001 hv1001
    refine lv_istore_n (lv' := [(2, .int v1001), (0, .ref (ad 1)), (1, .int a1)]) hx hb dX6_shaftsFrom_3 rfl hl (by decide) rfl (fun ls hl => ?_)
    refine lv_iconst (v := 0) hx hb dX6_shaftsFrom_4 (by decide) ?_
    refine lv_istore_n (lv' := [(3, .int (0 : Int32)), (2, .int v1001), (0, .ref (ad 1)), (1, .int a1)]) hx hb dX6_shaftsFrom_5 rfl hl (by decide) rfl (fun ls hl => ?_)
    obtain ⟨n, h⟩ := h
    exact blk6    n v1001 (0 : Int32) _ _ _ _ hW (lv_sub hl [2, 1, 0] rfl) h
  exact main _ _ _ hW hl
