theorem hwX7_readBoth_0 : (.fieldLink RX7 38 "FortyBelts$Reader" "token" "I" : Cond) ∈ wsX7_readBoth := (List.mem_cons_of_mem _ (List.mem_append_left _ (List.mem_append_left _ (List.mem_append_left _ (List.mem_of_getElem? (i := 0) rfl)))))
theorem hwX7_readBoth_1 : (.fieldLink RX7 19 "FortyBelts$Reader" "text" "LFortyBelts$Text;" : Cond) ∈ wsX7_readBoth := (List.mem_cons_of_mem _ (List.mem_append_left _ (List.mem_append_left _ (List.mem_append_left _ (List.mem_of_getElem? (i := 1) rfl)))))
theorem hcX7_readBoth_X7 : ∀ w ∈ wsX70, w ∈ wsX7_readBoth := fun _ h => (List.mem_cons_of_mem _ (List.mem_append_left _ (List.mem_append_right _ h)))
set_option maxHeartbeats 4000000 in
set_option maxRecDepth 100000 in
theorem JO_X7_readBoth {D : va_G} {KA : Nat → ClassId} {zs : ZS} {ad : Nat → Nat} {ids : List Nat} {sz : Nat} (l : Launch) (hI : ∀ c, n7 c → c ∈ ids) {st : Nat → Nat → Option Nat} (hst : ∀ c, n7 c → st c = stX c) (d : Nat) {rec : Nat → Int32 → St → (Int32 → St → Prop) → Prop} (hrec0 : ∀ {a1 : Int32} {σ : St} {post : Int32 → St → Prop} {sz : Nat}, rec 0 a1 σ post → Met l yX7_readEither wsX7_readEither (rmgX d) (va_Pc [.ref (ad 2), .int a1] (xIn D KA zs layX st ad ids sz σ)) (va_Qi post (xOut D KA layX st ad ids) (xA ad ids sz)) 0 0 (xA ad ids sz)) (hrec1 : ∀ {a1 : Int32} {σ : St} {post : Int32 → St → Prop} {sz : Nat}, rec 1 a1 σ post → Met l yX7_readBoth wsX7_readBoth (rmgX d) (va_Pc [.ref (ad 2), .int a1] (xIn D KA zs layX st ad ids sz σ)) (va_Qi post (xOut D KA layX st ad ids) (xA ad ids sz)) 0 0 (xA ad ids sz)) (hrec2 : ∀ {a1 : Int32} {σ : St} {post : Int32 → St → Prop} {sz : Nat}, rec 2 a1 σ post → Met l yX7_readNot wsX7_readNot (rmgX d) (va_Pc [.ref (ad 2), .int a1] (xIn D KA zs layX st ad ids sz σ)) (va_Qi post (xOut D KA layX st ad ids) (xA ad ids sz)) 0 0 (xA ad ids sz)) (hrec3 : ∀ {a1 : Int32} {σ : St} {post : Int32 → St → Prop} {sz : Nat}, rec 3 a1 σ post → Met l yX7_readCompared wsX7_readCompared (rmgX d) (va_Pc [.ref (ad 2), .int a1] (xIn D KA zs layX st ad ids sz σ)) (va_Qi post (xOut D KA layX st ad ids) (xA ad ids sz)) 0 0 (xA ad ids sz)) (hrec4 : ∀ {a1 : Int32} {σ : St} {post : Int32 → St → Prop} {sz : Nat}, rec 4 a1 σ post → Met l yX7_readSum wsX7_readSum (rmgX d) (va_Pc [.ref (ad 2), .int a1] (xIn D KA zs layX st ad ids sz σ)) (va_Qi post (xOut D KA layX st ad ids) (xA ad ids sz)) 0 0 (xA ad ids sz)) (hrec5 : ∀ {a1 : Int32} {σ : St} {post : Int32 → St → Prop} {sz : Nat}, rec 5 a1 σ post → Met l yX7_readTerm wsX7_readTerm (rmgX d) (va_Pc [.ref (ad 2), .int a1] (xIn D KA zs layX st ad ids sz σ)) (va_Qi post (xOut D KA layX st ad ids) (xA ad ids sz)) 0 0 (xA ad ids sz)) (hrec6 : ∀ {a1 : Int32} {σ : St} {post : Int32 → St → Prop} {sz : Nat}, rec 6 a1 σ post → Met l yX7_readOne wsX7_readOne (rmgX d) (va_Pc [.ref (ad 2), .int a1] (xIn D KA zs layX st ad ids sz σ)) (va_Qi post (xOut D KA layX st ad ids) (xA ad ids sz)) 0 0 (xA ad ids sz)) (hrec7 : ∀ {a1 : Int32} {σ : St} {post : Int32 → St → Prop} {sz : Nat}, rec 7 a1 σ post → Met l yX7_readNegated wsX7_readNegated (rmgX d) (va_Pc [.ref (ad 2), .int a1] (xIn D KA zs layX st ad ids sz σ)) (va_Qi post (xOut D KA layX st ad ids) (xA ad ids sz)) 0 0 (xA ad ids sz)) (hrec8 : ∀ {a1 : Int32} {σ : St} {post : Int32 → St → Prop} {sz : Nat}, rec 8 a1 σ post → Met l yX7_readBracketed wsX7_readBracketed (rmgX d) (va_Pc [.ref (ad 2), .int a1] (xIn D KA zs layX st ad ids sz σ)) (va_Qi post (xOut D KA layX st ad ids) (xA ad ids sz)) 0 0 (xA ad ids sz)) {a1 : Int32}  {σ : St} {post : Int32 → St → Prop} (h : wX7_readBoth rec ids a1 σ post) : Met l yX7_readBoth wsX7_readBoth (rmgX (d + 1)) (va_Pc [.ref (ad 2), .int a1] (xIn D KA zs layX st ad ids sz σ)) (va_Qi post (xOut D KA layX st ad ids) (xA ad ids sz)) 0 0 (xA ad ids sz) := by
  refine Met.ofW (cc := cX7_readBoth) (maxL := 4) (ret := (some .boolean)) (by decide) rfl ?_
  intro p e s m args below meth c s₁ B hml hv
  obtain ⟨hav, hsz, hK, hZ, hP, hD⟩ := hv
  have hx := B.exec
  have hb := B.bytes
  have hr := B.returns
  have hts := atoms_spec (ws := wsX7_readBoth) B.pre
  have hown : s.vm.findClass RX7 = some m.cls := findClass_of_methodNamed B.named
  have hlocks := B.notSynchronized
  subst hsz
  have hA : ∀ q : Nat, s.heap.size ≤ q → xA ad ids s.heap.size q := fun q h => Or.inr h
  have hW : xW D KA layX st ad ids (xA ad ids s.heap.size) s.heap σ s.heap [] := ⟨hP, xA_D (D := D) hD, va_S.rf⟩
  have kr : ∀ (v : Int32) (σ : St) (H : Heap) (locs : List Loc) (ls : Array Slot) (pc : Nat), xW D KA layX st ad ids (xA ad ids s.heap.size) s.heap σ H locs → isB v → post v σ → decode cX7_readBoth pc = .ok (.ireturn, 1) → W p l e (rmgX (d + 1)) s m args below meth c H locs 0 0 (MQ below (va_Qi post (xOut D KA layX st ad ids) (xA ad ids s.heap.size)) args s 0 0 (xA ad ids s.heap.size)) (F0 m pc ls [.int v]) := fun v σ H locs ls pc hW hz h hd => x_zret hx hb hr hlocks hW hz h hd
  have hl := lv_entry ([.ref (ad 2), .int a1]) (n := 4) (Nat.le_of_ble_eq_true rfl)
  rw [show entryFrame m args 4 = entryFrame m ([.ref (ad 2), .int a1] : List Value).toArray 4 from by rw [hav]]
  rw [lg_entry_eq]
  generalize (lg_sl ([.ref (ad 2), .int a1]) ++ List.replicate (4 - (lg_sl ([.ref (ad 2), .int a1])).length) Slot.unset).toArray = ls at hl ⊢
  have hl : lv_has ls 4 [(0, .ref (ad 2)), (1, .int a1)] := hl
  show W p l e (rmgX (d + 1)) s m args below meth c s.heap [] 0 0 _ _
  generalize MQ below (va_Qi post (xOut D KA layX st ad ids) (xA ad ids s.heap.size)) args s 0 0 (xA ad ids s.heap.size) = Q at kr ⊢
  have blk53 : ∀ (x2 : Int32) (σ : St) (H : Heap) (locs : List Loc) (ls : Array Slot), xW D KA layX st ad ids (xA ad ids s.heap.size) s.heap σ H locs → lv_has ls 4 [(2, .int x2)] → wX7_readBoth_53 rec ids post x2 σ → W p l e (rmgX (d + 1)) s m args below meth c H locs 0 0 Q (F0 m 53 ls []) := by
    intro   x2 σ H locs ls hW hl h
    unfold wX7_readBoth_53 at h
    refine lv_iload_n hx hb dX7_readBoth_53 rfl (lv_at hl 0 rfl) ?_
    obtain ⟨hz1, h⟩ := h
    exact kr _ _ _ _ _ _ hW hz1 h dX7_readBoth_54
  have blk8 : ∀ (x1 : Int32) (n : Nat) (x2 : Int32) (x3 : Int32) (σ : St) (H : Heap) (locs : List Loc) (ls : Array Slot), xW D KA layX st ad ids (xA ad ids s.heap.size) s.heap σ H locs → lv_has ls 4 [(0, .ref (ad 2)), (1, .int x1), (2, .int x2), (3, .int x3)] → wX7_readBoth_8 rec ids post x1 n x2 x3 σ → W p l e (rmgX (d + 1)) s m args below meth c H locs 0 0 Q (F0 m 8 ls []) := by
    intro   x1 n
    induction n with
    | zero => intro x2 x3 σ H locs ls hW hl h; exact (h : False).elim
    | succ n ih =>
      intro x2 x3 σ H locs ls hW hl h
      have hk8 : ∀ (x2 : Int32) (x3 : Int32) (σ : St) (H : Heap) (locs : List Loc) (ls : Array Slot), xW D KA layX st ad ids (xA ad ids s.heap.size) s.heap σ H locs → lv_has ls 4 [(0, .ref (ad 2)), (1, .int x1), (2, .int x2), (3, .int x3)] → (wX7_readBoth_8 rec ids post x1 n) x2 x3 σ → W p l e (rmgX (d + 1)) s m args below meth c H locs 0 0 Q (F0 m 8 ls []) := fun x2 x3 σ H locs ls hW hl h => ih x2 x3 σ H locs ls hW hl h
      rw [wX7_readBoth_8_s] at h
      try dsimp only at h
      generalize wX7_readBoth_8 rec ids post x1 n = k8 at h hk8
      refine lv_iload_n hx hb dX7_readBoth_8 rfl (lv_at hl 3 rfl) ?_
      refine lv_sipush (v := 160) hx hb dX7_readBoth_9 (by decide) ?_
      refine lv_icmp_ge (tgt := 53) hx hb dX7_readBoth_12 (by decide) (fun c2 => ?_) (fun c2 => ?_)
      · have h := h.1 c2
        exact blk53   x2 _ _ _ _ hW (lv_sub hl [2] rfl) h
      · have h := h.2 c2
        refine lv_iload_n hx hb dX7_readBoth_15 rfl (lv_at hl 2 rfl) ?_
        refine lv_if_eq (tgt := 53) hx hb dX7_readBoth_16 (by decide) (fun c3 => ?_) (fun c3 => ?_)
        · have h := h.1 c3
          exact blk53   x2 _ _ _ _ hW (lv_sub hl [2] rfl) h
        · have h := h.2 c3
          refine lv_aload_n hx hb dX7_readBoth_19 rfl (lv_at hl 0 rfl) ?_
          refine xgX7_3 hx hb hts hown hK hW 2 hcX7_readBoth_X7 (hI 2 (by decide)) lX_2 (hts _ hwX7_readBoth_0) dX7_readBoth_20 ?_
          refine lv_bipush (v := 8) hx hb dX7_readBoth_23 (by decide) ?_
          refine lv_icmp_ne (tgt := 53) hx hb dX7_readBoth_25 (by decide) (fun c4 => ?_) (fun c4 => ?_)
          · have h := h.1 c4
            exact blk53   x2 _ _ _ _ hW (lv_sub hl [2] rfl) h
          · have h := h.2 c4
            refine lv_aload_n hx hb dX7_readBoth_28 rfl (lv_at hl 0 rfl) ?_
            refine x_callv (va_runV (As := []) (rest := []) ⟨hx, hb, hml, hown, hts⟩ (J_X7_next l hI hst h) (cwV 0 hts gX7_readBoth_X7_next rfl rfl rfl hdV_X7_next ⟨rmgX_of d (Nat.le_of_ble_eq_true rfl), rmgX_ol d (Nat.le_of_ble_eq_true rfl)⟩) (x_preV (ci := 7) hK hZ hA hW (hI 2 (by decide)) lX_2 rfl) rfl rfl hl.1 rfl (lv_room (Nat.le_of_ble_eq_true rfl)) dX7_readBoth_29 ⟨Nat.zero_le _, Nat.zero_le _⟩) hW hA (fun σ5 H locs h hW => ?_)
            try dsimp only at h
            refine lv_aload_n hx hb dX7_readBoth_32 rfl (lv_at hl 0 rfl) ?_
            refine lv_iload_n hx hb dX7_readBoth_33 rfl (lv_at hl 1 rfl) ?_
            refine x_calli (va_runV (As := [.int x1]) (rest := []) ⟨hx, hb, hml, hown, hts⟩ (hrec2 h) (cwV 1 hts gX7_readBoth_X7_readNot rfl rfl rfl hdV_X7_readNot ⟨rmgX_f d, rmgX_l d (Nat.le_of_ble_eq_true rfl)⟩) (x_preV (ci := 7) hK hZ hA hW (hI 2 (by decide)) lX_2 rfl) rfl rfl hl.1 rfl (lv_room (Nat.le_of_ble_eq_true rfl)) dX7_readBoth_34 ⟨Nat.zero_le _, Nat.zero_le _⟩) hW hA (fun r7 σ6 H locs h hW => ?_)
            try dsimp only at h
            refine lv_istore_n (lv' := [(2, .int r7), (0, .ref (ad 2)), (1, .int x1), (3, .int x3)]) hx hb dX7_readBoth_37 rfl hl (by decide) rfl (fun ls hl => ?_)
            refine lv_aload_n hx hb dX7_readBoth_38 rfl (lv_at hl 1 rfl) ?_
            obtain ⟨t8, hr9, ok10, h⟩ := h
            refine xgX7_6r hx hb hts hown hK hW 2 hcX7_readBoth_X7 (hI 2 (by decide)) lX_2 (hts _ hwX7_readBoth_1) (s7_2_6 hst hr9) dX7_readBoth_39 ?_
            refine lv_bipush (v := 38) hx hb dX7_readBoth_42 (by decide) ?_
            refine x_callv (va_runV (As := [.int (38 : Int32)]) (rest := []) ⟨hx, hb, hml, hown, hts⟩ (J_X9_addSign l hI hst ok10 h) (cwV 1 hts gX7_readBoth_X9_addSign rfl rfl rfl hdV_X9_addSign ⟨rmgX_of d (Nat.le_of_ble_eq_true rfl), rmgX_ol d (Nat.le_of_ble_eq_true rfl)⟩) (x_preV (ci := 9) hK hZ hA hW ok10.1 (lay_okT ok10) rfl) rfl rfl hl.1 rfl (lv_room (Nat.le_of_ble_eq_true rfl)) dX7_readBoth_44 ⟨Nat.zero_le _, Nat.zero_le _⟩) hW hA (fun σ11 H locs h hW => ?_)
            try dsimp only at h
            obtain ⟨v12, hv12⟩ : ∃ y : Int32, y = x3 + (1 : Int32) := ⟨_, rfl⟩
            have h := h v12 hv12
            refine lv_iinc (v := v12) (lv' := [(3, .int v12), (2, .int r7), (0, .ref (ad 2)), (1, .int x1)]) hx hb dX7_readBoth_47 hl (k := 3) rfl (by rw [hv12]; rfl) (by decide) rfl (fun ls hl => ?_)
            refine lv_goto (tgt := 8) hx hb dX7_readBoth_50 (by decide) ?_
            exact hk8 r7 v12 _ _ _ _ hW (lv_sub hl [2, 3, 1, 0] rfl) h
  have main : ∀ (H : Heap) (locs : List Loc) (ls : Array Slot), xW D KA layX st ad ids (xA ad ids s.heap.size) s.heap σ H locs → lv_has ls 4 [(0, .ref (ad 2)), (1, .int a1)] → W p l e (rmgX (d + 1)) s m args below meth c H locs 0 0 Q (F0 m 0 ls []) := by
    intro H locs ls hW hl
    unfold wX7_readBoth at h
    refine lv_aload_n hx hb dX7_readBoth_0 rfl (lv_at hl 0 rfl) ?_
    refine lv_iload_n hx hb dX7_readBoth_1 rfl (lv_at hl 1 rfl) ?_
    refine x_calli (va_runV (As := [.int a1]) (rest := []) ⟨hx, hb, hml, hown, hts⟩ (hrec2 h) (cwV 1 hts gX7_readBoth_X7_readNot rfl rfl rfl hdV_X7_readNot ⟨rmgX_f d, rmgX_l d (Nat.le_of_ble_eq_true rfl)⟩) (x_preV (ci := 7) hK hZ hA hW (hI 2 (by decide)) lX_2 rfl) rfl rfl hl.1 rfl (lv_room (Nat.le_of_ble_eq_true rfl)) dX7_readBoth_2 ⟨Nat.zero_le _, Nat.zero_le _⟩) hW hA (fun r1002 σ1001 H locs h hW => ?_)
    try dsimp only at h
    refine lv_istore_n (lv' := [(2, .int r1002), (0, .ref (ad 2)), (1, .int a1)]) hx hb dX7_readBoth_5 rfl hl (by decide) rfl (fun ls hl => ?_)
    refine lv_iconst (v := 0) hx hb dX7_readBoth_6 (by decide) ?_
    refine lv_istore_n (lv' := [(3, .int (0 : Int32)), (2, .int r1002), (0, .ref (ad 2)), (1, .int a1)]) hx hb dX7_readBoth_7 rfl hl (by decide) rfl (fun ls hl => ?_)
    obtain ⟨n, h⟩ := h
    exact blk8   a1 n r1002 (0 : Int32) _ _ _ _ hW (lv_sub hl [2, 3, 1, 0] rfl) h
  exact main _ _ _ hW hl
theorem hwX7_readNot_0 : (.fieldLink RX7 38 "FortyBelts$Reader" "token" "I" : Cond) ∈ wsX7_readNot := (List.mem_cons_of_mem _ (List.mem_append_left _ (List.mem_append_left _ (List.mem_append_left _ (List.mem_of_getElem? (i := 0) rfl)))))
theorem hwX7_readNot_1 : (.fieldLink RX7 19 "FortyBelts$Reader" "text" "LFortyBelts$Text;" : Cond) ∈ wsX7_readNot := (List.mem_cons_of_mem _ (List.mem_append_left _ (List.mem_append_left _ (List.mem_append_left _ (List.mem_of_getElem? (i := 1) rfl)))))
theorem hcX7_readNot_X7 : ∀ w ∈ wsX70, w ∈ wsX7_readNot := fun _ h => (List.mem_cons_of_mem _ (List.mem_append_left _ (List.mem_append_right _ h)))
set_option maxHeartbeats 4000000 in
set_option maxRecDepth 100000 in
theorem JO_X7_readNot {D : va_G} {KA : Nat → ClassId} {zs : ZS} {ad : Nat → Nat} {ids : List Nat} {sz : Nat} (l : Launch) (hI : ∀ c, n7 c → c ∈ ids) {st : Nat → Nat → Option Nat} (hst : ∀ c, n7 c → st c = stX c) (d : Nat) {rec : Nat → Int32 → St → (Int32 → St → Prop) → Prop} (hrec0 : ∀ {a1 : Int32} {σ : St} {post : Int32 → St → Prop} {sz : Nat}, rec 0 a1 σ post → Met l yX7_readEither wsX7_readEither (rmgX d) (va_Pc [.ref (ad 2), .int a1] (xIn D KA zs layX st ad ids sz σ)) (va_Qi post (xOut D KA layX st ad ids) (xA ad ids sz)) 0 0 (xA ad ids sz)) (hrec1 : ∀ {a1 : Int32} {σ : St} {post : Int32 → St → Prop} {sz : Nat}, rec 1 a1 σ post → Met l yX7_readBoth wsX7_readBoth (rmgX d) (va_Pc [.ref (ad 2), .int a1] (xIn D KA zs layX st ad ids sz σ)) (va_Qi post (xOut D KA layX st ad ids) (xA ad ids sz)) 0 0 (xA ad ids sz)) (hrec2 : ∀ {a1 : Int32} {σ : St} {post : Int32 → St → Prop} {sz : Nat}, rec 2 a1 σ post → Met l yX7_readNot wsX7_readNot (rmgX d) (va_Pc [.ref (ad 2), .int a1] (xIn D KA zs layX st ad ids sz σ)) (va_Qi post (xOut D KA layX st ad ids) (xA ad ids sz)) 0 0 (xA ad ids sz)) (hrec3 : ∀ {a1 : Int32} {σ : St} {post : Int32 → St → Prop} {sz : Nat}, rec 3 a1 σ post → Met l yX7_readCompared wsX7_readCompared (rmgX d) (va_Pc [.ref (ad 2), .int a1] (xIn D KA zs layX st ad ids sz σ)) (va_Qi post (xOut D KA layX st ad ids) (xA ad ids sz)) 0 0 (xA ad ids sz)) (hrec4 : ∀ {a1 : Int32} {σ : St} {post : Int32 → St → Prop} {sz : Nat}, rec 4 a1 σ post → Met l yX7_readSum wsX7_readSum (rmgX d) (va_Pc [.ref (ad 2), .int a1] (xIn D KA zs layX st ad ids sz σ)) (va_Qi post (xOut D KA layX st ad ids) (xA ad ids sz)) 0 0 (xA ad ids sz)) (hrec5 : ∀ {a1 : Int32} {σ : St} {post : Int32 → St → Prop} {sz : Nat}, rec 5 a1 σ post → Met l yX7_readTerm wsX7_readTerm (rmgX d) (va_Pc [.ref (ad 2), .int a1] (xIn D KA zs layX st ad ids sz σ)) (va_Qi post (xOut D KA layX st ad ids) (xA ad ids sz)) 0 0 (xA ad ids sz)) (hrec6 : ∀ {a1 : Int32} {σ : St} {post : Int32 → St → Prop} {sz : Nat}, rec 6 a1 σ post → Met l yX7_readOne wsX7_readOne (rmgX d) (va_Pc [.ref (ad 2), .int a1] (xIn D KA zs layX st ad ids sz σ)) (va_Qi post (xOut D KA layX st ad ids) (xA ad ids sz)) 0 0 (xA ad ids sz)) (hrec7 : ∀ {a1 : Int32} {σ : St} {post : Int32 → St → Prop} {sz : Nat}, rec 7 a1 σ post → Met l yX7_readNegated wsX7_readNegated (rmgX d) (va_Pc [.ref (ad 2), .int a1] (xIn D KA zs layX st ad ids sz σ)) (va_Qi post (xOut D KA layX st ad ids) (xA ad ids sz)) 0 0 (xA ad ids sz)) (hrec8 : ∀ {a1 : Int32} {σ : St} {post : Int32 → St → Prop} {sz : Nat}, rec 8 a1 σ post → Met l yX7_readBracketed wsX7_readBracketed (rmgX d) (va_Pc [.ref (ad 2), .int a1] (xIn D KA zs layX st ad ids sz σ)) (va_Qi post (xOut D KA layX st ad ids) (xA ad ids sz)) 0 0 (xA ad ids sz)) {a1 : Int32}  {σ : St} {post : Int32 → St → Prop} (h : wX7_readNot rec ids a1 σ post) : Met l yX7_readNot wsX7_readNot (rmgX (d + 1)) (va_Pc [.ref (ad 2), .int a1] (xIn D KA zs layX st ad ids sz σ)) (va_Qi post (xOut D KA layX st ad ids) (xA ad ids sz)) 0 0 (xA ad ids sz) := by
  refine Met.ofW (cc := cX7_readNot) (maxL := 3) (ret := (some .boolean)) (by decide) rfl ?_
  intro p e s m args below meth c s₁ B hml hv
  obtain ⟨hav, hsz, hK, hZ, hP, hD⟩ := hv
  have hx := B.exec
  have hb := B.bytes
  have hr := B.returns
  have hts := atoms_spec (ws := wsX7_readNot) B.pre
  have hown : s.vm.findClass RX7 = some m.cls := findClass_of_methodNamed B.named
  have hlocks := B.notSynchronized
  subst hsz
  have hA : ∀ q : Nat, s.heap.size ≤ q → xA ad ids s.heap.size q := fun q h => Or.inr h
  have hW : xW D KA layX st ad ids (xA ad ids s.heap.size) s.heap σ s.heap [] := ⟨hP, xA_D (D := D) hD, va_S.rf⟩
  have kr : ∀ (v : Int32) (σ : St) (H : Heap) (locs : List Loc) (ls : Array Slot) (pc : Nat), xW D KA layX st ad ids (xA ad ids s.heap.size) s.heap σ H locs → isB v → post v σ → decode cX7_readNot pc = .ok (.ireturn, 1) → W p l e (rmgX (d + 1)) s m args below meth c H locs 0 0 (MQ below (va_Qi post (xOut D KA layX st ad ids) (xA ad ids s.heap.size)) args s 0 0 (xA ad ids s.heap.size)) (F0 m pc ls [.int v]) := fun v σ H locs ls pc hW hz h hd => x_zret hx hb hr hlocks hW hz h hd
  have hl := lv_entry ([.ref (ad 2), .int a1]) (n := 3) (Nat.le_of_ble_eq_true rfl)
  rw [show entryFrame m args 3 = entryFrame m ([.ref (ad 2), .int a1] : List Value).toArray 3 from by rw [hav]]
  rw [lg_entry_eq]
  generalize (lg_sl ([.ref (ad 2), .int a1]) ++ List.replicate (3 - (lg_sl ([.ref (ad 2), .int a1])).length) Slot.unset).toArray = ls at hl ⊢
  have hl : lv_has ls 3 [(0, .ref (ad 2)), (1, .int a1)] := hl
  show W p l e (rmgX (d + 1)) s m args below meth c s.heap [] 0 0 _ _
  generalize MQ below (va_Qi post (xOut D KA layX st ad ids) (xA ad ids s.heap.size)) args s 0 0 (xA ad ids s.heap.size) = Q at kr ⊢
  have main : ∀ (H : Heap) (locs : List Loc) (ls : Array Slot), xW D KA layX st ad ids (xA ad ids s.heap.size) s.heap σ H locs → lv_has ls 3 [(0, .ref (ad 2)), (1, .int a1)] → W p l e (rmgX (d + 1)) s m args below meth c H locs 0 0 Q (F0 m 0 ls []) := by
    intro H locs ls hW hl
    unfold wX7_readNot at h
    refine lv_aload_n hx hb dX7_readNot_0 rfl (lv_at hl 0 rfl) ?_
    refine xgX7_3 hx hb hts hown hK hW 2 hcX7_readNot_X7 (hI 2 (by decide)) lX_2 (hts _ hwX7_readNot_0) dX7_readNot_1 ?_
    refine lv_bipush (v := 9) hx hb dX7_readNot_4 (by decide) ?_
    refine lv_icmp_eq (tgt := 15) hx hb dX7_readNot_6 (by decide) (fun c1001 => ?_) (fun c1001 => ?_)
    · have h := h.1 c1001
      refine lv_iload_n hx hb dX7_readNot_15 rfl (lv_at hl 1 rfl) ?_
      refine lv_iconst (v := 5) hx hb dX7_readNot_16 (by decide) ?_
      refine lv_icmp_lt (tgt := 22) hx hb dX7_readNot_17 (by decide) (fun c1002 => ?_) (fun c1002 => ?_)
      · have h := h.1 c1002
        refine lv_aload_n hx hb dX7_readNot_22 rfl (lv_at hl 0 rfl) ?_
        refine x_callv (va_runV (As := []) (rest := []) ⟨hx, hb, hml, hown, hts⟩ (J_X7_next l hI hst h) (cwV 0 hts gX7_readNot_X7_next rfl rfl rfl hdV_X7_next ⟨rmgX_of d (Nat.le_of_ble_eq_true rfl), rmgX_ol d (Nat.le_of_ble_eq_true rfl)⟩) (x_preV (ci := 7) hK hZ hA hW (hI 2 (by decide)) lX_2 rfl) rfl rfl hl.1 rfl (lv_room (Nat.le_of_ble_eq_true rfl)) dX7_readNot_23 ⟨Nat.zero_le _, Nat.zero_le _⟩) hW hA (fun σ1003 H locs h hW => ?_)
        try dsimp only at h
        refine lv_aload_n hx hb dX7_readNot_26 rfl (lv_at hl 0 rfl) ?_
        refine lv_iload_n hx hb dX7_readNot_27 rfl (lv_at hl 1 rfl) ?_
        refine lv_iconst (v := 1) hx hb dX7_readNot_28 (by decide) ?_
        refine lv_iadd hx hb dX7_readNot_29 ?_
        refine x_calli (va_runV (As := [.int (a1 + (1 : Int32))]) (rest := []) ⟨hx, hb, hml, hown, hts⟩ (hrec2 h) (cwV 1 hts gX7_readNot_X7_readNot rfl rfl rfl hdV_X7_readNot ⟨rmgX_f d, rmgX_l d (Nat.le_of_ble_eq_true rfl)⟩) (x_preV (ci := 7) hK hZ hA hW (hI 2 (by decide)) lX_2 rfl) rfl rfl hl.1 rfl (lv_room (Nat.le_of_ble_eq_true rfl)) dX7_readNot_30 ⟨Nat.zero_le _, Nat.zero_le _⟩) hW hA (fun r1005 σ1004 H locs h hW => ?_)
        try dsimp only at h
        refine lv_istore_n (lv' := [(2, .int r1005), (0, .ref (ad 2)), (1, .int a1)]) hx hb dX7_readNot_33 rfl hl (by decide) rfl (fun ls hl => ?_)
        refine lv_aload_n hx hb dX7_readNot_34 rfl (lv_at hl 1 rfl) ?_
        obtain ⟨t1006, hr1007, ok1008, h⟩ := h
        refine xgX7_6r hx hb hts hown hK hW 2 hcX7_readNot_X7 (hI 2 (by decide)) lX_2 (hts _ hwX7_readNot_1) (s7_2_6 hst hr1007) dX7_readNot_35 ?_
        refine lv_bipush (v := 33) hx hb dX7_readNot_38 (by decide) ?_
        refine x_callv (va_runV (As := [.int (33 : Int32)]) (rest := []) ⟨hx, hb, hml, hown, hts⟩ (J_X9_addSign l hI hst ok1008 h) (cwV 1 hts gX7_readNot_X9_addSign rfl rfl rfl hdV_X9_addSign ⟨rmgX_of d (Nat.le_of_ble_eq_true rfl), rmgX_ol d (Nat.le_of_ble_eq_true rfl)⟩) (x_preV (ci := 9) hK hZ hA hW ok1008.1 (lay_okT ok1008) rfl) rfl rfl hl.1 rfl (lv_room (Nat.le_of_ble_eq_true rfl)) dX7_readNot_40 ⟨Nat.zero_le _, Nat.zero_le _⟩) hW hA (fun σ1009 H locs h hW => ?_)
        try dsimp only at h
        refine lv_iload_n hx hb dX7_readNot_43 rfl (lv_at hl 0 rfl) ?_
        obtain ⟨hz1010, h⟩ := h
        exact kr _ _ _ _ _ _ hW hz1010 h dX7_readNot_44
      · have h := h.2 c1002
        refine lv_iconst (v := 0) hx hb dX7_readNot_20 (by decide) ?_
        exact kr _ _ _ _ _ _ hW isB_0 h dX7_readNot_21
    · have h := h.2 c1001
      refine lv_aload_n hx hb dX7_readNot_9 rfl (lv_at hl 0 rfl) ?_
      refine lv_iload_n hx hb dX7_readNot_10 rfl (lv_at hl 1 rfl) ?_
      refine x_calli (va_runV (As := [.int a1]) (rest := []) ⟨hx, hb, hml, hown, hts⟩ (hrec3 h) (cwV 1 hts gX7_readNot_X7_readCompared rfl rfl rfl hdV_X7_readCompared ⟨rmgX_f d, rmgX_l d (Nat.le_of_ble_eq_true rfl)⟩) (x_preV (ci := 7) hK hZ hA hW (hI 2 (by decide)) lX_2 rfl) rfl rfl hl.1 rfl (lv_room (Nat.le_of_ble_eq_true rfl)) dX7_readNot_11 ⟨Nat.zero_le _, Nat.zero_le _⟩) hW hA (fun r1012 σ1011 H locs h hW => ?_)
      try dsimp only at h
      obtain ⟨hz1013, h⟩ := h
      exact kr _ _ _ _ _ _ hW hz1013 h dX7_readNot_14
  exact main _ _ _ hW hl
theorem hwX7_readCompared_0 : (.fieldLink RX7 19 "FortyBelts$Reader" "text" "LFortyBelts$Text;" : Cond) ∈ wsX7_readCompared := (List.mem_cons_of_mem _ (List.mem_append_left _ (List.mem_append_left _ (List.mem_append_left _ (List.mem_of_getElem? (i := 1) rfl)))))
theorem hwX7_readCompared_1 : (.fieldLink RX7 38 "FortyBelts$Reader" "token" "I" : Cond) ∈ wsX7_readCompared := (List.mem_cons_of_mem _ (List.mem_append_left _ (List.mem_append_left _ (List.mem_append_left _ (List.mem_of_getElem? (i := 0) rfl)))))
theorem hcX7_readCompared_X7 : ∀ w ∈ wsX70, w ∈ wsX7_readCompared := fun _ h => (List.mem_cons_of_mem _ (List.mem_append_left _ (List.mem_append_right _ h)))
set_option maxHeartbeats 4000000 in
set_option maxRecDepth 100000 in
theorem JO_X7_readCompared {D : va_G} {KA : Nat → ClassId} {zs : ZS} {ad : Nat → Nat} {ids : List Nat} {sz : Nat} (l : Launch) (hI : ∀ c, n7 c → c ∈ ids) {st : Nat → Nat → Option Nat} (hst : ∀ c, n7 c → st c = stX c) (d : Nat) {rec : Nat → Int32 → St → (Int32 → St → Prop) → Prop} (hrec0 : ∀ {a1 : Int32} {σ : St} {post : Int32 → St → Prop} {sz : Nat}, rec 0 a1 σ post → Met l yX7_readEither wsX7_readEither (rmgX d) (va_Pc [.ref (ad 2), .int a1] (xIn D KA zs layX st ad ids sz σ)) (va_Qi post (xOut D KA layX st ad ids) (xA ad ids sz)) 0 0 (xA ad ids sz)) (hrec1 : ∀ {a1 : Int32} {σ : St} {post : Int32 → St → Prop} {sz : Nat}, rec 1 a1 σ post → Met l yX7_readBoth wsX7_readBoth (rmgX d) (va_Pc [.ref (ad 2), .int a1] (xIn D KA zs layX st ad ids sz σ)) (va_Qi post (xOut D KA layX st ad ids) (xA ad ids sz)) 0 0 (xA ad ids sz)) (hrec2 : ∀ {a1 : Int32} {σ : St} {post : Int32 → St → Prop} {sz : Nat}, rec 2 a1 σ post → Met l yX7_readNot wsX7_readNot (rmgX d) (va_Pc [.ref (ad 2), .int a1] (xIn D KA zs layX st ad ids sz σ)) (va_Qi post (xOut D KA layX st ad ids) (xA ad ids sz)) 0 0 (xA ad ids sz)) (hrec3 : ∀ {a1 : Int32} {σ : St} {post : Int32 → St → Prop} {sz : Nat}, rec 3 a1 σ post → Met l yX7_readCompared wsX7_readCompared (rmgX d) (va_Pc [.ref (ad 2), .int a1] (xIn D KA zs layX st ad ids sz σ)) (va_Qi post (xOut D KA layX st ad ids) (xA ad ids sz)) 0 0 (xA ad ids sz)) (hrec4 : ∀ {a1 : Int32} {σ : St} {post : Int32 → St → Prop} {sz : Nat}, rec 4 a1 σ post → Met l yX7_readSum wsX7_readSum (rmgX d) (va_Pc [.ref (ad 2), .int a1] (xIn D KA zs layX st ad ids sz σ)) (va_Qi post (xOut D KA layX st ad ids) (xA ad ids sz)) 0 0 (xA ad ids sz)) (hrec5 : ∀ {a1 : Int32} {σ : St} {post : Int32 → St → Prop} {sz : Nat}, rec 5 a1 σ post → Met l yX7_readTerm wsX7_readTerm (rmgX d) (va_Pc [.ref (ad 2), .int a1] (xIn D KA zs layX st ad ids sz σ)) (va_Qi post (xOut D KA layX st ad ids) (xA ad ids sz)) 0 0 (xA ad ids sz)) (hrec6 : ∀ {a1 : Int32} {σ : St} {post : Int32 → St → Prop} {sz : Nat}, rec 6 a1 σ post → Met l yX7_readOne wsX7_readOne (rmgX d) (va_Pc [.ref (ad 2), .int a1] (xIn D KA zs layX st ad ids sz σ)) (va_Qi post (xOut D KA layX st ad ids) (xA ad ids sz)) 0 0 (xA ad ids sz)) (hrec7 : ∀ {a1 : Int32} {σ : St} {post : Int32 → St → Prop} {sz : Nat}, rec 7 a1 σ post → Met l yX7_readNegated wsX7_readNegated (rmgX d) (va_Pc [.ref (ad 2), .int a1] (xIn D KA zs layX st ad ids sz σ)) (va_Qi post (xOut D KA layX st ad ids) (xA ad ids sz)) 0 0 (xA ad ids sz)) (hrec8 : ∀ {a1 : Int32} {σ : St} {post : Int32 → St → Prop} {sz : Nat}, rec 8 a1 σ post → Met l yX7_readBracketed wsX7_readBracketed (rmgX d) (va_Pc [.ref (ad 2), .int a1] (xIn D KA zs layX st ad ids sz σ)) (va_Qi post (xOut D KA layX st ad ids) (xA ad ids sz)) 0 0 (xA ad ids sz)) {a1 : Int32}  {σ : St} {post : Int32 → St → Prop} (h : wX7_readCompared rec ids a1 σ post) : Met l yX7_readCompared wsX7_readCompared (rmgX (d + 1)) (va_Pc [.ref (ad 2), .int a1] (xIn D KA zs layX st ad ids sz σ)) (va_Qi post (xOut D KA layX st ad ids) (xA ad ids sz)) 0 0 (xA ad ids sz) := by
  refine Met.ofW (cc := cX7_readCompared) (maxL := 4) (ret := (some .boolean)) (by decide) rfl ?_
  intro p e s m args below meth c s₁ B hml hv
  obtain ⟨hav, hsz, hK, hZ, hP, hD⟩ := hv
  have hx := B.exec
  have hb := B.bytes
  have hr := B.returns
  have hts := atoms_spec (ws := wsX7_readCompared) B.pre
  have hown : s.vm.findClass RX7 = some m.cls := findClass_of_methodNamed B.named
  have hlocks := B.notSynchronized
  subst hsz
  have hA : ∀ q : Nat, s.heap.size ≤ q → xA ad ids s.heap.size q := fun q h => Or.inr h
  have hW : xW D KA layX st ad ids (xA ad ids s.heap.size) s.heap σ s.heap [] := ⟨hP, xA_D (D := D) hD, va_S.rf⟩
  have kr : ∀ (v : Int32) (σ : St) (H : Heap) (locs : List Loc) (ls : Array Slot) (pc : Nat), xW D KA layX st ad ids (xA ad ids s.heap.size) s.heap σ H locs → isB v → post v σ → decode cX7_readCompared pc = .ok (.ireturn, 1) → W p l e (rmgX (d + 1)) s m args below meth c H locs 0 0 (MQ below (va_Qi post (xOut D KA layX st ad ids) (xA ad ids s.heap.size)) args s 0 0 (xA ad ids s.heap.size)) (F0 m pc ls [.int v]) := fun v σ H locs ls pc hW hz h hd => x_zret hx hb hr hlocks hW hz h hd
  have hl := lv_entry ([.ref (ad 2), .int a1]) (n := 4) (Nat.le_of_ble_eq_true rfl)
  rw [show entryFrame m args 4 = entryFrame m ([.ref (ad 2), .int a1] : List Value).toArray 4 from by rw [hav]]
  rw [lg_entry_eq]
  generalize (lg_sl ([.ref (ad 2), .int a1]) ++ List.replicate (4 - (lg_sl ([.ref (ad 2), .int a1])).length) Slot.unset).toArray = ls at hl ⊢
  have hl : lv_has ls 4 [(0, .ref (ad 2)), (1, .int a1)] := hl
  show W p l e (rmgX (d + 1)) s m args below meth c s.heap [] 0 0 _ _
  generalize MQ below (va_Qi post (xOut D KA layX st ad ids) (xA ad ids s.heap.size)) args s 0 0 (xA ad ids s.heap.size) = Q at kr ⊢
  have blk45 : ∀ (x2 : Int32) (σ : St) (H : Heap) (locs : List Loc) (ls : Array Slot), xW D KA layX st ad ids (xA ad ids s.heap.size) s.heap σ H locs → lv_has ls 4 [(2, .int x2)] → wX7_readCompared_45 rec ids post x2 σ → W p l e (rmgX (d + 1)) s m args below meth c H locs 0 0 Q (F0 m 45 ls []) := by
    intro   x2 σ H locs ls hW hl h
    unfold wX7_readCompared_45 at h
    refine lv_iload_n hx hb dX7_readCompared_45 rfl (lv_at hl 0 rfl) ?_
    obtain ⟨hz1, h⟩ := h
    exact kr _ _ _ _ _ _ hW hz1 h dX7_readCompared_46
  have blk27 : ∀ (x1 : Int32) (x3 : Int32) (σ : St) (H : Heap) (locs : List Loc) (ls : Array Slot), xW D KA layX st ad ids (xA ad ids s.heap.size) s.heap σ H locs → lv_has ls 4 [(0, .ref (ad 2)), (1, .int x1), (3, .int x3)] → wX7_readCompared_27 rec ids post x1 x3 σ → W p l e (rmgX (d + 1)) s m args below meth c H locs 0 0 Q (F0 m 27 ls []) := by
    intro   x1 x3 σ H locs ls hW hl h
    unfold wX7_readCompared_27 at h
    refine lv_aload_n hx hb dX7_readCompared_27 rfl (lv_at hl 0 rfl) ?_
    refine x_callv (va_runV (As := []) (rest := []) ⟨hx, hb, hml, hown, hts⟩ (J_X7_next l hI hst h) (cwV 0 hts gX7_readCompared_X7_next rfl rfl rfl hdV_X7_next ⟨rmgX_of d (Nat.le_of_ble_eq_true rfl), rmgX_ol d (Nat.le_of_ble_eq_true rfl)⟩) (x_preV (ci := 7) hK hZ hA hW (hI 2 (by decide)) lX_2 rfl) rfl rfl hl.1 rfl (lv_room (Nat.le_of_ble_eq_true rfl)) dX7_readCompared_28 ⟨Nat.zero_le _, Nat.zero_le _⟩) hW hA (fun σ2 H locs h hW => ?_)
    try dsimp only at h
    refine lv_aload_n hx hb dX7_readCompared_31 rfl (lv_at hl 0 rfl) ?_
    refine lv_iload_n hx hb dX7_readCompared_32 rfl (lv_at hl 1 rfl) ?_
    refine x_calli (va_runV (As := [.int x1]) (rest := []) ⟨hx, hb, hml, hown, hts⟩ (hrec4 h) (cwV 1 hts gX7_readCompared_X7_readSum rfl rfl rfl hdV_X7_readSum ⟨rmgX_f d, rmgX_l d (Nat.le_of_ble_eq_true rfl)⟩) (x_preV (ci := 7) hK hZ hA hW (hI 2 (by decide)) lX_2 rfl) rfl rfl hl.1 rfl (lv_room (Nat.le_of_ble_eq_true rfl)) dX7_readCompared_33 ⟨Nat.zero_le _, Nat.zero_le _⟩) hW hA (fun r4 σ3 H locs h hW => ?_)
    try dsimp only at h
    refine lv_istore_n (lv' := [(2, .int r4), (0, .ref (ad 2)), (1, .int x1), (3, .int x3)]) hx hb dX7_readCompared_36 rfl hl (by decide) rfl (fun ls hl => ?_)
    refine lv_aload_n hx hb dX7_readCompared_37 rfl (lv_at hl 1 rfl) ?_
    obtain ⟨t5, hr6, ok7, h⟩ := h
    refine xgX7_6r hx hb hts hown hK hW 2 hcX7_readCompared_X7 (hI 2 (by decide)) lX_2 (hts _ hwX7_readCompared_0) (s7_2_6 hst hr6) dX7_readCompared_38 ?_
    refine lv_iload_n hx hb dX7_readCompared_41 rfl (lv_at hl 3 rfl) ?_
    refine x_callv (va_runV (As := [.int x3]) (rest := []) ⟨hx, hb, hml, hown, hts⟩ (J_X9_addSign l hI hst ok7 h) (cwV 1 hts gX7_readCompared_X9_addSign rfl rfl rfl hdV_X9_addSign ⟨rmgX_of d (Nat.le_of_ble_eq_true rfl), rmgX_ol d (Nat.le_of_ble_eq_true rfl)⟩) (x_preV (ci := 9) hK hZ hA hW ok7.1 (lay_okT ok7) rfl) rfl rfl hl.1 rfl (lv_room (Nat.le_of_ble_eq_true rfl)) dX7_readCompared_42 ⟨Nat.zero_le _, Nat.zero_le _⟩) hW hA (fun σ8 H locs h hW => ?_)
    try dsimp only at h
    exact blk45   r4 _ _ _ _ hW (lv_sub hl [0] rfl) h
  have main : ∀ (H : Heap) (locs : List Loc) (ls : Array Slot), xW D KA layX st ad ids (xA ad ids s.heap.size) s.heap σ H locs → lv_has ls 4 [(0, .ref (ad 2)), (1, .int a1)] → W p l e (rmgX (d + 1)) s m args below meth c H locs 0 0 Q (F0 m 0 ls []) := by
    intro H locs ls hW hl
    unfold wX7_readCompared at h
    refine lv_aload_n hx hb dX7_readCompared_0 rfl (lv_at hl 0 rfl) ?_
    refine lv_iload_n hx hb dX7_readCompared_1 rfl (lv_at hl 1 rfl) ?_
    refine x_calli (va_runV (As := [.int a1]) (rest := []) ⟨hx, hb, hml, hown, hts⟩ (hrec4 h) (cwV 1 hts gX7_readCompared_X7_readSum rfl rfl rfl hdV_X7_readSum ⟨rmgX_f d, rmgX_l d (Nat.le_of_ble_eq_true rfl)⟩) (x_preV (ci := 7) hK hZ hA hW (hI 2 (by decide)) lX_2 rfl) rfl rfl hl.1 rfl (lv_room (Nat.le_of_ble_eq_true rfl)) dX7_readCompared_2 ⟨Nat.zero_le _, Nat.zero_le _⟩) hW hA (fun r1002 σ1001 H locs h hW => ?_)
    try dsimp only at h
    refine lv_istore_n (lv' := [(2, .int r1002), (0, .ref (ad 2)), (1, .int a1)]) hx hb dX7_readCompared_5 rfl hl (by decide) rfl (fun ls hl => ?_)
    refine lv_aload_n hx hb dX7_readCompared_6 rfl (lv_at hl 1 rfl) ?_
    refine xgX7_3 hx hb hts hown hK hW 2 hcX7_readCompared_X7 (hI 2 (by decide)) lX_2 (hts _ hwX7_readCompared_1) dX7_readCompared_7 ?_
    refine lv_topi (fun v1003 hv1003 => ?_)
    have h := h v1003 hv1003
    refine lv_istore_n (lv' := [(3, .int v1003), (2, .int r1002), (0, .ref (ad 2)), (1, .int a1)]) hx hb dX7_readCompared_10 rfl hl (by decide) rfl (fun ls hl => ?_)
    refine lv_iload_n hx hb dX7_readCompared_11 rfl (lv_at hl 1 rfl) ?_
    refine lv_if_eq (tgt := 45) hx hb dX7_readCompared_12 (by decide) (fun c1004 => ?_) (fun c1004 => ?_)
    · have h := h.1 c1004
      exact blk45   r1002 _ _ _ _ hW (lv_sub hl [1] rfl) h
    · have h := h.2 c1004
      refine lv_iload_n hx hb dX7_readCompared_15 rfl (lv_at hl 0 rfl) ?_
      refine lv_bipush (v := 60) hx hb dX7_readCompared_16 (by decide) ?_
      refine lv_icmp_eq (tgt := 27) hx hb dX7_readCompared_18 (by decide) (fun c1005 => ?_) (fun c1005 => ?_)
      · have h := h.1 c1005
        exact blk27   a1 v1003 _ _ _ _ hW (lv_sub hl [2, 3, 0] rfl) h
      · have h := h.2 c1005
        refine lv_iload_n hx hb dX7_readCompared_21 rfl (lv_at hl 0 rfl) ?_
        refine lv_bipush (v := 61) hx hb dX7_readCompared_22 (by decide) ?_
        refine lv_icmp_ne (tgt := 45) hx hb dX7_readCompared_24 (by decide) (fun c1006 => ?_) (fun c1006 => ?_)
        · have h := h.1 c1006
          exact blk45   r1002 _ _ _ _ hW (lv_sub hl [1] rfl) h
        · have h := h.2 c1006
          exact blk27   a1 v1003 _ _ _ _ hW (lv_sub hl [2, 3, 0] rfl) h
  exact main _ _ _ hW hl
theorem hwX7_readSum_0 : (.fieldLink RX7 38 "FortyBelts$Reader" "token" "I" : Cond) ∈ wsX7_readSum := (List.mem_cons_of_mem _ (List.mem_append_left _ (List.mem_append_left _ (List.mem_append_left _ (List.mem_of_getElem? (i := 0) rfl)))))
theorem hwX7_readSum_1 : (.fieldLink RX7 19 "FortyBelts$Reader" "text" "LFortyBelts$Text;" : Cond) ∈ wsX7_readSum := (List.mem_cons_of_mem _ (List.mem_append_left _ (List.mem_append_left _ (List.mem_append_left _ (List.mem_of_getElem? (i := 1) rfl)))))
theorem hcX7_readSum_X7 : ∀ w ∈ wsX70, w ∈ wsX7_readSum := fun _ h => (List.mem_cons_of_mem _ (List.mem_append_left _ (List.mem_append_right _ h)))
set_option maxHeartbeats 4000000 in
set_option maxRecDepth 100000 in
theorem JO_X7_readSum {D : va_G} {KA : Nat → ClassId} {zs : ZS} {ad : Nat → Nat} {ids : List Nat} {sz : Nat} (l : Launch) (hI : ∀ c, n7 c → c ∈ ids) {st : Nat → Nat → Option Nat} (hst : ∀ c, n7 c → st c = stX c) (d : Nat) {rec : Nat → Int32 → St → (Int32 → St → Prop) → Prop} (hrec0 : ∀ {a1 : Int32} {σ : St} {post : Int32 → St → Prop} {sz : Nat}, rec 0 a1 σ post → Met l yX7_readEither wsX7_readEither (rmgX d) (va_Pc [.ref (ad 2), .int a1] (xIn D KA zs layX st ad ids sz σ)) (va_Qi post (xOut D KA layX st ad ids) (xA ad ids sz)) 0 0 (xA ad ids sz)) (hrec1 : ∀ {a1 : Int32} {σ : St} {post : Int32 → St → Prop} {sz : Nat}, rec 1 a1 σ post → Met l yX7_readBoth wsX7_readBoth (rmgX d) (va_Pc [.ref (ad 2), .int a1] (xIn D KA zs layX st ad ids sz σ)) (va_Qi post (xOut D KA layX st ad ids) (xA ad ids sz)) 0 0 (xA ad ids sz)) (hrec2 : ∀ {a1 : Int32} {σ : St} {post : Int32 → St → Prop} {sz : Nat}, rec 2 a1 σ post → Met l yX7_readNot wsX7_readNot (rmgX d) (va_Pc [.ref (ad 2), .int a1] (xIn D KA zs layX st ad ids sz σ)) (va_Qi post (xOut D KA layX st ad ids) (xA ad ids sz)) 0 0 (xA ad ids sz)) (hrec3 : ∀ {a1 : Int32} {σ : St} {post : Int32 → St → Prop} {sz : Nat}, rec 3 a1 σ post → Met l yX7_readCompared wsX7_readCompared (rmgX d) (va_Pc [.ref (ad 2), .int a1] (xIn D KA zs layX st ad ids sz σ)) (va_Qi post (xOut D KA layX st ad ids) (xA ad ids sz)) 0 0 (xA ad ids sz)) (hrec4 : ∀ {a1 : Int32} {σ : St} {post : Int32 → St → Prop} {sz : Nat}, rec 4 a1 σ post → Met l yX7_readSum wsX7_readSum (rmgX d) (va_Pc [.ref (ad 2), .int a1] (xIn D KA zs layX st ad ids sz σ)) (va_Qi post (xOut D KA layX st ad ids) (xA ad ids sz)) 0 0 (xA ad ids sz)) (hrec5 : ∀ {a1 : Int32} {σ : St} {post : Int32 → St → Prop} {sz : Nat}, rec 5 a1 σ post → Met l yX7_readTerm wsX7_readTerm (rmgX d) (va_Pc [.ref (ad 2), .int a1] (xIn D KA zs layX st ad ids sz σ)) (va_Qi post (xOut D KA layX st ad ids) (xA ad ids sz)) 0 0 (xA ad ids sz)) (hrec6 : ∀ {a1 : Int32} {σ : St} {post : Int32 → St → Prop} {sz : Nat}, rec 6 a1 σ post → Met l yX7_readOne wsX7_readOne (rmgX d) (va_Pc [.ref (ad 2), .int a1] (xIn D KA zs layX st ad ids sz σ)) (va_Qi post (xOut D KA layX st ad ids) (xA ad ids sz)) 0 0 (xA ad ids sz)) (hrec7 : ∀ {a1 : Int32} {σ : St} {post : Int32 → St → Prop} {sz : Nat}, rec 7 a1 σ post → Met l yX7_readNegated wsX7_readNegated (rmgX d) (va_Pc [.ref (ad 2), .int a1] (xIn D KA zs layX st ad ids sz σ)) (va_Qi post (xOut D KA layX st ad ids) (xA ad ids sz)) 0 0 (xA ad ids sz)) (hrec8 : ∀ {a1 : Int32} {σ : St} {post : Int32 → St → Prop} {sz : Nat}, rec 8 a1 σ post → Met l yX7_readBracketed wsX7_readBracketed (rmgX d) (va_Pc [.ref (ad 2), .int a1] (xIn D KA zs layX st ad ids sz σ)) (va_Qi post (xOut D KA layX st ad ids) (xA ad ids sz)) 0 0 (xA ad ids sz)) {a1 : Int32}  {σ : St} {post : Int32 → St → Prop} (h : wX7_readSum rec ids a1 σ post) : Met l yX7_readSum wsX7_readSum (rmgX (d + 1)) (va_Pc [.ref (ad 2), .int a1] (xIn D KA zs layX st ad ids sz σ)) (va_Qi post (xOut D KA layX st ad ids) (xA ad ids sz)) 0 0 (xA ad ids sz) := by
  refine Met.ofW (cc := cX7_readSum) (maxL := 5) (ret := (some .boolean)) (by decide) rfl ?_
  intro p e s m args below meth c s₁ B hml hv
  obtain ⟨hav, hsz, hK, hZ, hP, hD⟩ := hv
  have hx := B.exec
  have hb := B.bytes
  have hr := B.returns
  have hts := atoms_spec (ws := wsX7_readSum) B.pre
  have hown : s.vm.findClass RX7 = some m.cls := findClass_of_methodNamed B.named
  have hlocks := B.notSynchronized
  subst hsz
  have hA : ∀ q : Nat, s.heap.size ≤ q → xA ad ids s.heap.size q := fun q h => Or.inr h
  have hW : xW D KA layX st ad ids (xA ad ids s.heap.size) s.heap σ s.heap [] := ⟨hP, xA_D (D := D) hD, va_S.rf⟩
  have kr : ∀ (v : Int32) (σ : St) (H : Heap) (locs : List Loc) (ls : Array Slot) (pc : Nat), xW D KA layX st ad ids (xA ad ids s.heap.size) s.heap σ H locs → isB v → post v σ → decode cX7_readSum pc = .ok (.ireturn, 1) → W p l e (rmgX (d + 1)) s m args below meth c H locs 0 0 (MQ below (va_Qi post (xOut D KA layX st ad ids) (xA ad ids s.heap.size)) args s 0 0 (xA ad ids s.heap.size)) (F0 m pc ls [.int v]) := fun v σ H locs ls pc hW hz h hd => x_zret hx hb hr hlocks hW hz h hd
  have hl := lv_entry ([.ref (ad 2), .int a1]) (n := 5) (Nat.le_of_ble_eq_true rfl)
  rw [show entryFrame m args 5 = entryFrame m ([.ref (ad 2), .int a1] : List Value).toArray 5 from by rw [hav]]
  rw [lg_entry_eq]
  generalize (lg_sl ([.ref (ad 2), .int a1]) ++ List.replicate (5 - (lg_sl ([.ref (ad 2), .int a1])).length) Slot.unset).toArray = ls at hl ⊢
  have hl : lv_has ls 5 [(0, .ref (ad 2)), (1, .int a1)] := hl
  show W p l e (rmgX (d + 1)) s m args below meth c s.heap [] 0 0 _ _
  generalize MQ below (va_Qi post (xOut D KA layX st ad ids) (xA ad ids s.heap.size)) args s 0 0 (xA ad ids s.heap.size) = Q at kr ⊢
  have blk68 : ∀ (x2 : Int32) (σ : St) (H : Heap) (locs : List Loc) (ls : Array Slot), xW D KA layX st ad ids (xA ad ids s.heap.size) s.heap σ H locs → lv_has ls 5 [(2, .int x2)] → wX7_readSum_68 rec ids post x2 σ → W p l e (rmgX (d + 1)) s m args below meth c H locs 0 0 Q (F0 m 68 ls []) := by
    intro   x2 σ H locs ls hW hl h
    unfold wX7_readSum_68 at h
    refine lv_iload_n hx hb dX7_readSum_68 rfl (lv_at hl 0 rfl) ?_
    obtain ⟨hz1, h⟩ := h
    exact kr _ _ _ _ _ _ hW hz1 h dX7_readSum_69
  have blk37 : ∀ (x1 : Int32) (k8 : Int32 → Int32 → St → Prop) (hk8 : ∀ (x2 : Int32) (x3 : Int32) (σ : St) (H : Heap) (locs : List Loc) (ls : Array Slot), xW D KA layX st ad ids (xA ad ids s.heap.size) s.heap σ H locs → lv_has ls 5 [(0, .ref (ad 2)), (1, .int x1), (2, .int x2), (3, .int x3)] → k8 x2 x3 σ → W p l e (rmgX (d + 1)) s m args below meth c H locs 0 0 Q (F0 m 8 ls [])) (x3 : Int32) (σ : St) (H : Heap) (locs : List Loc) (ls : Array Slot), xW D KA layX st ad ids (xA ad ids s.heap.size) s.heap σ H locs → lv_has ls 5 [(0, .ref (ad 2)), (1, .int x1), (3, .int x3)] → wX7_readSum_37 rec ids k8 post x1 x3 σ → W p l e (rmgX (d + 1)) s m args below meth c H locs 0 0 Q (F0 m 37 ls []) := by
    intro x1 k8 hk8 x3 σ H locs ls hW hl h
    unfold wX7_readSum_37 at h
    refine lv_aload_n hx hb dX7_readSum_37 rfl (lv_at hl 0 rfl) ?_
    refine xgX7_3 hx hb hts hown hK hW 2 hcX7_readSum_X7 (hI 2 (by decide)) lX_2 (hts _ hwX7_readSum_0) dX7_readSum_38 ?_
    refine lv_topi (fun v2 hv2 => ?_)
    have h := h v2 hv2
    refine lv_istore (lv' := [(4, .int v2), (0, .ref (ad 2)), (1, .int x1), (3, .int x3)]) hx hb dX7_readSum_41 hl (by decide) rfl (fun ls hl => ?_)
    refine lv_aload_n hx hb dX7_readSum_43 rfl (lv_at hl 1 rfl) ?_
    refine x_callv (va_runV (As := []) (rest := []) ⟨hx, hb, hml, hown, hts⟩ (J_X7_next l hI hst h) (cwV 0 hts gX7_readSum_X7_next rfl rfl rfl hdV_X7_next ⟨rmgX_of d (Nat.le_of_ble_eq_true rfl), rmgX_ol d (Nat.le_of_ble_eq_true rfl)⟩) (x_preV (ci := 7) hK hZ hA hW (hI 2 (by decide)) lX_2 rfl) rfl rfl hl.1 rfl (lv_room (Nat.le_of_ble_eq_true rfl)) dX7_readSum_44 ⟨Nat.zero_le _, Nat.zero_le _⟩) hW hA (fun σ3 H locs h hW => ?_)
    try dsimp only at h
    refine lv_aload_n hx hb dX7_readSum_47 rfl (lv_at hl 1 rfl) ?_
    refine lv_iload_n hx hb dX7_readSum_48 rfl (lv_at hl 2 rfl) ?_
    refine x_calli (va_runV (As := [.int x1]) (rest := []) ⟨hx, hb, hml, hown, hts⟩ (hrec5 h) (cwV 1 hts gX7_readSum_X7_readTerm rfl rfl rfl hdV_X7_readTerm ⟨rmgX_f d, rmgX_l d (Nat.le_of_ble_eq_true rfl)⟩) (x_preV (ci := 7) hK hZ hA hW (hI 2 (by decide)) lX_2 rfl) rfl rfl hl.1 rfl (lv_room (Nat.le_of_ble_eq_true rfl)) dX7_readSum_49 ⟨Nat.zero_le _, Nat.zero_le _⟩) hW hA (fun r5 σ4 H locs h hW => ?_)
    try dsimp only at h
    refine lv_istore_n (lv' := [(2, .int r5), (4, .int v2), (0, .ref (ad 2)), (1, .int x1), (3, .int x3)]) hx hb dX7_readSum_52 rfl hl (by decide) rfl (fun ls hl => ?_)
    refine lv_aload_n hx hb dX7_readSum_53 rfl (lv_at hl 2 rfl) ?_
    obtain ⟨t6, hr7, ok8, h⟩ := h
    refine xgX7_6r hx hb hts hown hK hW 2 hcX7_readSum_X7 (hI 2 (by decide)) lX_2 (hts _ hwX7_readSum_1) (s7_2_6 hst hr7) dX7_readSum_54 ?_
    refine lv_iload hx hb dX7_readSum_57 (lv_at hl 1 rfl) ?_
    refine x_callv (va_runV (As := [.int v2]) (rest := []) ⟨hx, hb, hml, hown, hts⟩ (J_X9_addSign l hI hst ok8 h) (cwV 1 hts gX7_readSum_X9_addSign rfl rfl rfl hdV_X9_addSign ⟨rmgX_of d (Nat.le_of_ble_eq_true rfl), rmgX_ol d (Nat.le_of_ble_eq_true rfl)⟩) (x_preV (ci := 9) hK hZ hA hW ok8.1 (lay_okT ok8) rfl) rfl rfl hl.1 rfl (lv_room (Nat.le_of_ble_eq_true rfl)) dX7_readSum_59 ⟨Nat.zero_le _, Nat.zero_le _⟩) hW hA (fun σ9 H locs h hW => ?_)
    try dsimp only at h
    obtain ⟨v10, hv10⟩ : ∃ y : Int32, y = x3 + (1 : Int32) := ⟨_, rfl⟩
    have h := h v10 hv10
    refine lv_iinc (v := v10) (lv' := [(3, .int v10), (2, .int r5), (4, .int v2), (0, .ref (ad 2)), (1, .int x1)]) hx hb dX7_readSum_62 hl (k := 4) rfl (by rw [hv10]; rfl) (by decide) rfl (fun ls hl => ?_)
    refine lv_goto (tgt := 8) hx hb dX7_readSum_65 (by decide) ?_
    exact hk8 r5 v10 _ _ _ _ hW (lv_sub hl [3, 4, 1, 0] rfl) h
  have blk8 : ∀ (x1 : Int32) (n : Nat) (x2 : Int32) (x3 : Int32) (σ : St) (H : Heap) (locs : List Loc) (ls : Array Slot), xW D KA layX st ad ids (xA ad ids s.heap.size) s.heap σ H locs → lv_has ls 5 [(0, .ref (ad 2)), (1, .int x1), (2, .int x2), (3, .int x3)] → wX7_readSum_8 rec ids post x1 n x2 x3 σ → W p l e (rmgX (d + 1)) s m args below meth c H locs 0 0 Q (F0 m 8 ls []) := by
    intro   x1 n
    induction n with
    | zero => intro x2 x3 σ H locs ls hW hl h; exact (h : False).elim
    | succ n ih =>
      intro x2 x3 σ H locs ls hW hl h
      have hk8 : ∀ (x2 : Int32) (x3 : Int32) (σ : St) (H : Heap) (locs : List Loc) (ls : Array Slot), xW D KA layX st ad ids (xA ad ids s.heap.size) s.heap σ H locs → lv_has ls 5 [(0, .ref (ad 2)), (1, .int x1), (2, .int x2), (3, .int x3)] → (wX7_readSum_8 rec ids post x1 n) x2 x3 σ → W p l e (rmgX (d + 1)) s m args below meth c H locs 0 0 Q (F0 m 8 ls []) := fun x2 x3 σ H locs ls hW hl h => ih x2 x3 σ H locs ls hW hl h
      rw [wX7_readSum_8_s] at h
      try dsimp only at h
      generalize wX7_readSum_8 rec ids post x1 n = k8 at h hk8
      refine lv_iload_n hx hb dX7_readSum_8 rfl (lv_at hl 3 rfl) ?_
      refine lv_sipush (v := 160) hx hb dX7_readSum_9 (by decide) ?_
      refine lv_icmp_ge (tgt := 68) hx hb dX7_readSum_12 (by decide) (fun c11 => ?_) (fun c11 => ?_)
      · have h := h.1 c11
        exact blk68   x2 _ _ _ _ hW (lv_sub hl [2] rfl) h
      · have h := h.2 c11
        refine lv_iload_n hx hb dX7_readSum_15 rfl (lv_at hl 2 rfl) ?_
        refine lv_if_eq (tgt := 68) hx hb dX7_readSum_16 (by decide) (fun c12 => ?_) (fun c12 => ?_)
        · have h := h.1 c12
          exact blk68   x2 _ _ _ _ hW (lv_sub hl [2] rfl) h
        · have h := h.2 c12
          refine lv_aload_n hx hb dX7_readSum_19 rfl (lv_at hl 0 rfl) ?_
          refine xgX7_3 hx hb hts hown hK hW 2 hcX7_readSum_X7 (hI 2 (by decide)) lX_2 (hts _ hwX7_readSum_0) dX7_readSum_20 ?_
          refine lv_bipush (v := 43) hx hb dX7_readSum_23 (by decide) ?_
          refine lv_icmp_eq (tgt := 37) hx hb dX7_readSum_25 (by decide) (fun c13 => ?_) (fun c13 => ?_)
          · have h := h.1 c13
            exact blk37 x1 k8 hk8 x3 _ _ _ _ hW (lv_sub hl [0, 1, 3] rfl) h
          · have h := h.2 c13
            refine lv_aload_n hx hb dX7_readSum_28 rfl (lv_at hl 0 rfl) ?_
            refine xgX7_3 hx hb hts hown hK hW 2 hcX7_readSum_X7 (hI 2 (by decide)) lX_2 (hts _ hwX7_readSum_0) dX7_readSum_29 ?_
            refine lv_bipush (v := 45) hx hb dX7_readSum_32 (by decide) ?_
            refine lv_icmp_ne (tgt := 68) hx hb dX7_readSum_34 (by decide) (fun c14 => ?_) (fun c14 => ?_)
            · have h := h.1 c14
              exact blk68   x2 _ _ _ _ hW (lv_sub hl [2] rfl) h
            · have h := h.2 c14
              exact blk37 x1 k8 hk8 x3 _ _ _ _ hW (lv_sub hl [0, 1, 3] rfl) h
  have main : ∀ (H : Heap) (locs : List Loc) (ls : Array Slot), xW D KA layX st ad ids (xA ad ids s.heap.size) s.heap σ H locs → lv_has ls 5 [(0, .ref (ad 2)), (1, .int a1)] → W p l e (rmgX (d + 1)) s m args below meth c H locs 0 0 Q (F0 m 0 ls []) := by
    intro H locs ls hW hl
    unfold wX7_readSum at h
    refine lv_aload_n hx hb dX7_readSum_0 rfl (lv_at hl 0 rfl) ?_
    refine lv_iload_n hx hb dX7_readSum_1 rfl (lv_at hl 1 rfl) ?_
    refine x_calli (va_runV (As := [.int a1]) (rest := []) ⟨hx, hb, hml, hown, hts⟩ (hrec5 h) (cwV 1 hts gX7_readSum_X7_readTerm rfl rfl rfl hdV_X7_readTerm ⟨rmgX_f d, rmgX_l d (Nat.le_of_ble_eq_true rfl)⟩) (x_preV (ci := 7) hK hZ hA hW (hI 2 (by decide)) lX_2 rfl) rfl rfl hl.1 rfl (lv_room (Nat.le_of_ble_eq_true rfl)) dX7_readSum_2 ⟨Nat.zero_le _, Nat.zero_le _⟩) hW hA (fun r1002 σ1001 H locs h hW => ?_)
    try dsimp only at h
    refine lv_istore_n (lv' := [(2, .int r1002), (0, .ref (ad 2)), (1, .int a1)]) hx hb dX7_readSum_5 rfl hl (by decide) rfl (fun ls hl => ?_)
    refine lv_iconst (v := 0) hx hb dX7_readSum_6 (by decide) ?_
    refine lv_istore_n (lv' := [(3, .int (0 : Int32)), (2, .int r1002), (0, .ref (ad 2)), (1, .int a1)]) hx hb dX7_readSum_7 rfl hl (by decide) rfl (fun ls hl => ?_)
    obtain ⟨n, h⟩ := h
    exact blk8   a1 n r1002 (0 : Int32) _ _ _ _ hW (lv_sub hl [2, 3, 1, 0] rfl) h
  exact main _ _ _ hW hl
theorem hwX7_readTerm_0 : (.fieldLink RX7 38 "FortyBelts$Reader" "token" "I" : Cond) ∈ wsX7_readTerm := (List.mem_cons_of_mem _ (List.mem_append_left _ (List.mem_append_left _ (List.mem_append_left _ (List.mem_of_getElem? (i := 0) rfl)))))
theorem hwX7_readTerm_1 : (.fieldLink RX7 19 "FortyBelts$Reader" "text" "LFortyBelts$Text;" : Cond) ∈ wsX7_readTerm := (List.mem_cons_of_mem _ (List.mem_append_left _ (List.mem_append_left _ (List.mem_append_left _ (List.mem_of_getElem? (i := 1) rfl)))))
theorem hcX7_readTerm_X7 : ∀ w ∈ wsX70, w ∈ wsX7_readTerm := fun _ h => (List.mem_cons_of_mem _ (List.mem_append_left _ (List.mem_append_right _ h)))
set_option maxHeartbeats 4000000 in
set_option maxRecDepth 100000 in
theorem JO_X7_readTerm {D : va_G} {KA : Nat → ClassId} {zs : ZS} {ad : Nat → Nat} {ids : List Nat} {sz : Nat} (l : Launch) (hI : ∀ c, n7 c → c ∈ ids) {st : Nat → Nat → Option Nat} (hst : ∀ c, n7 c → st c = stX c) (d : Nat) {rec : Nat → Int32 → St → (Int32 → St → Prop) → Prop} (hrec0 : ∀ {a1 : Int32} {σ : St} {post : Int32 → St → Prop} {sz : Nat}, rec 0 a1 σ post → Met l yX7_readEither wsX7_readEither (rmgX d) (va_Pc [.ref (ad 2), .int a1] (xIn D KA zs layX st ad ids sz σ)) (va_Qi post (xOut D KA layX st ad ids) (xA ad ids sz)) 0 0 (xA ad ids sz)) (hrec1 : ∀ {a1 : Int32} {σ : St} {post : Int32 → St → Prop} {sz : Nat}, rec 1 a1 σ post → Met l yX7_readBoth wsX7_readBoth (rmgX d) (va_Pc [.ref (ad 2), .int a1] (xIn D KA zs layX st ad ids sz σ)) (va_Qi post (xOut D KA layX st ad ids) (xA ad ids sz)) 0 0 (xA ad ids sz)) (hrec2 : ∀ {a1 : Int32} {σ : St} {post : Int32 → St → Prop} {sz : Nat}, rec 2 a1 σ post → Met l yX7_readNot wsX7_readNot (rmgX d) (va_Pc [.ref (ad 2), .int a1] (xIn D KA zs layX st ad ids sz σ)) (va_Qi post (xOut D KA layX st ad ids) (xA ad ids sz)) 0 0 (xA ad ids sz)) (hrec3 : ∀ {a1 : Int32} {σ : St} {post : Int32 → St → Prop} {sz : Nat}, rec 3 a1 σ post → Met l yX7_readCompared wsX7_readCompared (rmgX d) (va_Pc [.ref (ad 2), .int a1] (xIn D KA zs layX st ad ids sz σ)) (va_Qi post (xOut D KA layX st ad ids) (xA ad ids sz)) 0 0 (xA ad ids sz)) (hrec4 : ∀ {a1 : Int32} {σ : St} {post : Int32 → St → Prop} {sz : Nat}, rec 4 a1 σ post → Met l yX7_readSum wsX7_readSum (rmgX d) (va_Pc [.ref (ad 2), .int a1] (xIn D KA zs layX st ad ids sz σ)) (va_Qi post (xOut D KA layX st ad ids) (xA ad ids sz)) 0 0 (xA ad ids sz)) (hrec5 : ∀ {a1 : Int32} {σ : St} {post : Int32 → St → Prop} {sz : Nat}, rec 5 a1 σ post → Met l yX7_readTerm wsX7_readTerm (rmgX d) (va_Pc [.ref (ad 2), .int a1] (xIn D KA zs layX st ad ids sz σ)) (va_Qi post (xOut D KA layX st ad ids) (xA ad ids sz)) 0 0 (xA ad ids sz)) (hrec6 : ∀ {a1 : Int32} {σ : St} {post : Int32 → St → Prop} {sz : Nat}, rec 6 a1 σ post → Met l yX7_readOne wsX7_readOne (rmgX d) (va_Pc [.ref (ad 2), .int a1] (xIn D KA zs layX st ad ids sz σ)) (va_Qi post (xOut D KA layX st ad ids) (xA ad ids sz)) 0 0 (xA ad ids sz)) (hrec7 : ∀ {a1 : Int32} {σ : St} {post : Int32 → St → Prop} {sz : Nat}, rec 7 a1 σ post → Met l yX7_readNegated wsX7_readNegated (rmgX d) (va_Pc [.ref (ad 2), .int a1] (xIn D KA zs layX st ad ids sz σ)) (va_Qi post (xOut D KA layX st ad ids) (xA ad ids sz)) 0 0 (xA ad ids sz)) (hrec8 : ∀ {a1 : Int32} {σ : St} {post : Int32 → St → Prop} {sz : Nat}, rec 8 a1 σ post → Met l yX7_readBracketed wsX7_readBracketed (rmgX d) (va_Pc [.ref (ad 2), .int a1] (xIn D KA zs layX st ad ids sz σ)) (va_Qi post (xOut D KA layX st ad ids) (xA ad ids sz)) 0 0 (xA ad ids sz)) {a1 : Int32}  {σ : St} {post : Int32 → St → Prop} (h : wX7_readTerm rec ids a1 σ post) : Met l yX7_readTerm wsX7_readTerm (rmgX (d + 1)) (va_Pc [.ref (ad 2), .int a1] (xIn D KA zs layX st ad ids sz σ)) (va_Qi post (xOut D KA layX st ad ids) (xA ad ids sz)) 0 0 (xA ad ids sz) := by
  refine Met.ofW (cc := cX7_readTerm) (maxL := 4) (ret := (some .boolean)) (by decide) rfl ?_
  intro p e s m args below meth c s₁ B hml hv
  obtain ⟨hav, hsz, hK, hZ, hP, hD⟩ := hv
  have hx := B.exec
  have hb := B.bytes
  have hr := B.returns
  have hts := atoms_spec (ws := wsX7_readTerm) B.pre
  have hown : s.vm.findClass RX7 = some m.cls := findClass_of_methodNamed B.named
  have hlocks := B.notSynchronized
  subst hsz
  have hA : ∀ q : Nat, s.heap.size ≤ q → xA ad ids s.heap.size q := fun q h => Or.inr h
  have hW : xW D KA layX st ad ids (xA ad ids s.heap.size) s.heap σ s.heap [] := ⟨hP, xA_D (D := D) hD, va_S.rf⟩
  have kr : ∀ (v : Int32) (σ : St) (H : Heap) (locs : List Loc) (ls : Array Slot) (pc : Nat), xW D KA layX st ad ids (xA ad ids s.heap.size) s.heap σ H locs → isB v → post v σ → decode cX7_readTerm pc = .ok (.ireturn, 1) → W p l e (rmgX (d + 1)) s m args below meth c H locs 0 0 (MQ below (va_Qi post (xOut D KA layX st ad ids) (xA ad ids s.heap.size)) args s 0 0 (xA ad ids s.heap.size)) (F0 m pc ls [.int v]) := fun v σ H locs ls pc hW hz h hd => x_zret hx hb hr hlocks hW hz h hd
  have hl := lv_entry ([.ref (ad 2), .int a1]) (n := 4) (Nat.le_of_ble_eq_true rfl)
  rw [show entryFrame m args 4 = entryFrame m ([.ref (ad 2), .int a1] : List Value).toArray 4 from by rw [hav]]
  rw [lg_entry_eq]
  generalize (lg_sl ([.ref (ad 2), .int a1]) ++ List.replicate (4 - (lg_sl ([.ref (ad 2), .int a1])).length) Slot.unset).toArray = ls at hl ⊢
  have hl : lv_has ls 4 [(0, .ref (ad 2)), (1, .int a1)] := hl
  show W p l e (rmgX (d + 1)) s m args below meth c s.heap [] 0 0 _ _
  generalize MQ below (va_Qi post (xOut D KA layX st ad ids) (xA ad ids s.heap.size)) args s 0 0 (xA ad ids s.heap.size) = Q at kr ⊢
  have blk53 : ∀ (x2 : Int32) (σ : St) (H : Heap) (locs : List Loc) (ls : Array Slot), xW D KA layX st ad ids (xA ad ids s.heap.size) s.heap σ H locs → lv_has ls 4 [(2, .int x2)] → wX7_readTerm_53 rec ids post x2 σ → W p l e (rmgX (d + 1)) s m args below meth c H locs 0 0 Q (F0 m 53 ls []) := by
    intro   x2 σ H locs ls hW hl h
    unfold wX7_readTerm_53 at h
    refine lv_iload_n hx hb dX7_readTerm_53 rfl (lv_at hl 0 rfl) ?_
    obtain ⟨hz1, h⟩ := h
    exact kr _ _ _ _ _ _ hW hz1 h dX7_readTerm_54
  have blk8 : ∀ (x1 : Int32) (n : Nat) (x2 : Int32) (x3 : Int32) (σ : St) (H : Heap) (locs : List Loc) (ls : Array Slot), xW D KA layX st ad ids (xA ad ids s.heap.size) s.heap σ H locs → lv_has ls 4 [(0, .ref (ad 2)), (1, .int x1), (2, .int x2), (3, .int x3)] → wX7_readTerm_8 rec ids post x1 n x2 x3 σ → W p l e (rmgX (d + 1)) s m args below meth c H locs 0 0 Q (F0 m 8 ls []) := by
    intro   x1 n
    induction n with
    | zero => intro x2 x3 σ H locs ls hW hl h; exact (h : False).elim
    | succ n ih =>
      intro x2 x3 σ H locs ls hW hl h
      have hk8 : ∀ (x2 : Int32) (x3 : Int32) (σ : St) (H : Heap) (locs : List Loc) (ls : Array Slot), xW D KA layX st ad ids (xA ad ids s.heap.size) s.heap σ H locs → lv_has ls 4 [(0, .ref (ad 2)), (1, .int x1), (2, .int x2), (3, .int x3)] → (wX7_readTerm_8 rec ids post x1 n) x2 x3 σ → W p l e (rmgX (d + 1)) s m args below meth c H locs 0 0 Q (F0 m 8 ls []) := fun x2 x3 σ H locs ls hW hl h => ih x2 x3 σ H locs ls hW hl h
      rw [wX7_readTerm_8_s] at h
      try dsimp only at h
      generalize wX7_readTerm_8 rec ids post x1 n = k8 at h hk8
      refine lv_iload_n hx hb dX7_readTerm_8 rfl (lv_at hl 3 rfl) ?_
      refine lv_sipush (v := 160) hx hb dX7_readTerm_9 (by decide) ?_
      refine lv_icmp_ge (tgt := 53) hx hb dX7_readTerm_12 (by decide) (fun c2 => ?_) (fun c2 => ?_)
      · have h := h.1 c2
        exact blk53   x2 _ _ _ _ hW (lv_sub hl [2] rfl) h
      · have h := h.2 c2
        refine lv_iload_n hx hb dX7_readTerm_15 rfl (lv_at hl 2 rfl) ?_
        refine lv_if_eq (tgt := 53) hx hb dX7_readTerm_16 (by decide) (fun c3 => ?_) (fun c3 => ?_)
        · have h := h.1 c3
          exact blk53   x2 _ _ _ _ hW (lv_sub hl [2] rfl) h
        · have h := h.2 c3
          refine lv_aload_n hx hb dX7_readTerm_19 rfl (lv_at hl 0 rfl) ?_
          refine xgX7_3 hx hb hts hown hK hW 2 hcX7_readTerm_X7 (hI 2 (by decide)) lX_2 (hts _ hwX7_readTerm_0) dX7_readTerm_20 ?_
          refine lv_bipush (v := 42) hx hb dX7_readTerm_23 (by decide) ?_
          refine lv_icmp_ne (tgt := 53) hx hb dX7_readTerm_25 (by decide) (fun c4 => ?_) (fun c4 => ?_)
          · have h := h.1 c4
            exact blk53   x2 _ _ _ _ hW (lv_sub hl [2] rfl) h
          · have h := h.2 c4
            refine lv_aload_n hx hb dX7_readTerm_28 rfl (lv_at hl 0 rfl) ?_
            refine x_callv (va_runV (As := []) (rest := []) ⟨hx, hb, hml, hown, hts⟩ (J_X7_next l hI hst h) (cwV 0 hts gX7_readTerm_X7_next rfl rfl rfl hdV_X7_next ⟨rmgX_of d (Nat.le_of_ble_eq_true rfl), rmgX_ol d (Nat.le_of_ble_eq_true rfl)⟩) (x_preV (ci := 7) hK hZ hA hW (hI 2 (by decide)) lX_2 rfl) rfl rfl hl.1 rfl (lv_room (Nat.le_of_ble_eq_true rfl)) dX7_readTerm_29 ⟨Nat.zero_le _, Nat.zero_le _⟩) hW hA (fun σ5 H locs h hW => ?_)
            try dsimp only at h
            refine lv_aload_n hx hb dX7_readTerm_32 rfl (lv_at hl 0 rfl) ?_
            refine lv_iload_n hx hb dX7_readTerm_33 rfl (lv_at hl 1 rfl) ?_
            refine x_calli (va_runV (As := [.int x1]) (rest := []) ⟨hx, hb, hml, hown, hts⟩ (hrec6 h) (cwV 1 hts gX7_readTerm_X7_readOne rfl rfl rfl hdV_X7_readOne ⟨rmgX_f d, rmgX_l d (Nat.le_of_ble_eq_true rfl)⟩) (x_preV (ci := 7) hK hZ hA hW (hI 2 (by decide)) lX_2 rfl) rfl rfl hl.1 rfl (lv_room (Nat.le_of_ble_eq_true rfl)) dX7_readTerm_34 ⟨Nat.zero_le _, Nat.zero_le _⟩) hW hA (fun r7 σ6 H locs h hW => ?_)
            try dsimp only at h
            refine lv_istore_n (lv' := [(2, .int r7), (0, .ref (ad 2)), (1, .int x1), (3, .int x3)]) hx hb dX7_readTerm_37 rfl hl (by decide) rfl (fun ls hl => ?_)
            refine lv_aload_n hx hb dX7_readTerm_38 rfl (lv_at hl 1 rfl) ?_
            obtain ⟨t8, hr9, ok10, h⟩ := h
            refine xgX7_6r hx hb hts hown hK hW 2 hcX7_readTerm_X7 (hI 2 (by decide)) lX_2 (hts _ hwX7_readTerm_1) (s7_2_6 hst hr9) dX7_readTerm_39 ?_
            refine lv_bipush (v := 42) hx hb dX7_readTerm_42 (by decide) ?_
            refine x_callv (va_runV (As := [.int (42 : Int32)]) (rest := []) ⟨hx, hb, hml, hown, hts⟩ (J_X9_addSign l hI hst ok10 h) (cwV 1 hts gX7_readTerm_X9_addSign rfl rfl rfl hdV_X9_addSign ⟨rmgX_of d (Nat.le_of_ble_eq_true rfl), rmgX_ol d (Nat.le_of_ble_eq_true rfl)⟩) (x_preV (ci := 9) hK hZ hA hW ok10.1 (lay_okT ok10) rfl) rfl rfl hl.1 rfl (lv_room (Nat.le_of_ble_eq_true rfl)) dX7_readTerm_44 ⟨Nat.zero_le _, Nat.zero_le _⟩) hW hA (fun σ11 H locs h hW => ?_)
            try dsimp only at h
            obtain ⟨v12, hv12⟩ : ∃ y : Int32, y = x3 + (1 : Int32) := ⟨_, rfl⟩
            have h := h v12 hv12
            refine lv_iinc (v := v12) (lv' := [(3, .int v12), (2, .int r7), (0, .ref (ad 2)), (1, .int x1)]) hx hb dX7_readTerm_47 hl (k := 3) rfl (by rw [hv12]; rfl) (by decide) rfl (fun ls hl => ?_)
            refine lv_goto (tgt := 8) hx hb dX7_readTerm_50 (by decide) ?_
            exact hk8 r7 v12 _ _ _ _ hW (lv_sub hl [2, 3, 1, 0] rfl) h
  have main : ∀ (H : Heap) (locs : List Loc) (ls : Array Slot), xW D KA layX st ad ids (xA ad ids s.heap.size) s.heap σ H locs → lv_has ls 4 [(0, .ref (ad 2)), (1, .int a1)] → W p l e (rmgX (d + 1)) s m args below meth c H locs 0 0 Q (F0 m 0 ls []) := by
    intro H locs ls hW hl
    unfold wX7_readTerm at h
    refine lv_aload_n hx hb dX7_readTerm_0 rfl (lv_at hl 0 rfl) ?_
    refine lv_iload_n hx hb dX7_readTerm_1 rfl (lv_at hl 1 rfl) ?_
    refine x_calli (va_runV (As := [.int a1]) (rest := []) ⟨hx, hb, hml, hown, hts⟩ (hrec6 h) (cwV 1 hts gX7_readTerm_X7_readOne rfl rfl rfl hdV_X7_readOne ⟨rmgX_f d, rmgX_l d (Nat.le_of_ble_eq_true rfl)⟩) (x_preV (ci := 7) hK hZ hA hW (hI 2 (by decide)) lX_2 rfl) rfl rfl hl.1 rfl (lv_room (Nat.le_of_ble_eq_true rfl)) dX7_readTerm_2 ⟨Nat.zero_le _, Nat.zero_le _⟩) hW hA (fun r1002 σ1001 H locs h hW => ?_)
    try dsimp only at h
    refine lv_istore_n (lv' := [(2, .int r1002), (0, .ref (ad 2)), (1, .int a1)]) hx hb dX7_readTerm_5 rfl hl (by decide) rfl (fun ls hl => ?_)
    refine lv_iconst (v := 0) hx hb dX7_readTerm_6 (by decide) ?_
    refine lv_istore_n (lv' := [(3, .int (0 : Int32)), (2, .int r1002), (0, .ref (ad 2)), (1, .int a1)]) hx hb dX7_readTerm_7 rfl hl (by decide) rfl (fun ls hl => ?_)
    obtain ⟨n, h⟩ := h
    exact blk8   a1 n r1002 (0 : Int32) _ _ _ _ hW (lv_sub hl [2, 3, 1, 0] rfl) h
  exact main _ _ _ hW hl
set_option maxHeartbeats 4000000 in
set_option maxRecDepth 100000 in
theorem J_X9_addName {D : va_G} {KA : Nat → ClassId} {zs : ZS} {ad : Nat → Nat} {ids : List Nat} {sz : Nat} (l : Launch) (hI : ∀ c, n7 c → c ∈ ids) {st : Nat → Nat → Option Nat} (hst : ∀ c, n7 c → st c = stX c) {a0 : Nat} {a1 : Int32} (ok_a0 : okT ids a0) {σ : St} {post : St → Prop} (h : wX9_addName ids a0 a1 σ post) : Met l yX9_addName wsX9_addName rmX9_addName (va_Pc [.ref (ad a0), .int a1] (xIn D KA zs layX st ad ids sz σ)) (va_Qv post (xOut D KA layX st ad ids) (xA ad ids sz)) 0 0 (xA ad ids sz) := by
  refine Met.ofW (cc := cX9_addName) (maxL := 2) (ret := none) (by decide) rfl ?_
  intro p e s m args below meth c s₁ B hml hv
  obtain ⟨hav, hsz, hK, hZ, hP, hD⟩ := hv
  have hx := B.exec
  have hb := B.bytes
  have hr := B.returns
  have hts := atoms_spec (ws := wsX9_addName) B.pre
  have hown : s.vm.findClass RX9 = some m.cls := findClass_of_methodNamed B.named
  have hlocks := B.notSynchronized
  subst hsz
  have hA : ∀ q : Nat, s.heap.size ≤ q → xA ad ids s.heap.size q := fun q h => Or.inr h
  have hW : xW D KA layX st ad ids (xA ad ids s.heap.size) s.heap σ s.heap [] := ⟨hP, xA_D (D := D) hD, va_S.rf⟩
  have kr : ∀ (σ : St) (H : Heap) (locs : List Loc) (ls : Array Slot) (pc : Nat), xW D KA layX st ad ids (xA ad ids s.heap.size) s.heap σ H locs → post σ → decode cX9_addName pc = .ok (.return_, 1) → W p l e rmX9_addName s m args below meth c H locs 0 0 (MQ below (va_Qv post (xOut D KA layX st ad ids) (xA ad ids s.heap.size)) args s 0 0 (xA ad ids s.heap.size)) (F0 m pc ls []) := fun σ H locs ls pc hW h hd => x_vret hx hb hr hlocks hW h hd
  have hl := lv_entry ([.ref (ad a0), .int a1]) (n := 2) (Nat.le_of_ble_eq_true rfl)
  rw [show entryFrame m args 2 = entryFrame m ([.ref (ad a0), .int a1] : List Value).toArray 2 from by rw [hav]]
  rw [lg_entry_eq]
  generalize (lg_sl ([.ref (ad a0), .int a1]) ++ List.replicate (2 - (lg_sl ([.ref (ad a0), .int a1])).length) Slot.unset).toArray = ls at hl ⊢
  have hl : lv_has ls 2 [(0, .ref (ad a0)), (1, .int a1)] := hl
  show W p l e rmX9_addName s m args below meth c s.heap [] 0 0 _ _
  generalize MQ below (va_Qv post (xOut D KA layX st ad ids) (xA ad ids s.heap.size)) args s 0 0 (xA ad ids s.heap.size) = Q at kr ⊢
  have main : ∀ (H : Heap) (locs : List Loc) (ls : Array Slot), xW D KA layX st ad ids (xA ad ids s.heap.size) s.heap σ H locs → lv_has ls 2 [(0, .ref (ad a0)), (1, .int a1)] → W p l e rmX9_addName s m args below meth c H locs 0 0 Q (F0 m 0 ls []) := by
    intro H locs ls hW hl
    unfold wX9_addName at h
    refine lv_aload_n hx hb dX9_addName_0 rfl (lv_at hl 0 rfl) ?_
    refine lv_iconst (v := (-1)) hx hb dX9_addName_1 (by decide) ?_
    refine lv_iload_n hx hb dX9_addName_2 rfl (lv_at hl 1 rfl) ?_
    refine lv_isub hx hb dX9_addName_3 ?_
    refine x_callv (va_runV (As := [.int ((-1 : Int32) - a1)]) (rest := []) ⟨hx, hb, hml, hown, hts⟩ (J_X9_add l hI hst ok_a0 h) (cwV 1 hts gX9_addName_X9_add rfl rfl rfl hdV_X9_add ⟨Nat.le_of_ble_eq_true rfl, Nat.le_of_ble_eq_true rfl⟩) (x_preV (ci := 9) hK hZ hA hW ok_a0.1 (lay_okT ok_a0) rfl) rfl rfl hl.1 rfl (lv_room (Nat.le_of_ble_eq_true rfl)) dX9_addName_4 ⟨Nat.zero_le _, Nat.zero_le _⟩) hW hA (fun σ1001 H locs h hW => ?_)
    try dsimp only at h
    exact kr _ _ _ _ _ hW h dX9_addName_7
  exact main _ _ _ hW hl
set_option maxHeartbeats 4000000 in
set_option maxRecDepth 100000 in
theorem J_X9_addNumber {D : va_G} {KA : Nat → ClassId} {zs : ZS} {ad : Nat → Nat} {ids : List Nat} {sz : Nat} (l : Launch) (hI : ∀ c, n7 c → c ∈ ids) {st : Nat → Nat → Option Nat} (hst : ∀ c, n7 c → st c = stX c) {a0 : Nat} {a1 : Int32} (ok_a0 : okT ids a0) {σ : St} {post : St → Prop} (h : wX9_addNumber ids a0 a1 σ post) : Met l yX9_addNumber wsX9_addNumber rmX9_addNumber (va_Pc [.ref (ad a0), .int a1] (xIn D KA zs layX st ad ids sz σ)) (va_Qv post (xOut D KA layX st ad ids) (xA ad ids sz)) 0 0 (xA ad ids sz) := by
  refine Met.ofW (cc := cX9_addNumber) (maxL := 2) (ret := none) (by decide) rfl ?_
  intro p e s m args below meth c s₁ B hml hv
  obtain ⟨hav, hsz, hK, hZ, hP, hD⟩ := hv
  have hx := B.exec
  have hb := B.bytes
  have hr := B.returns
  have hts := atoms_spec (ws := wsX9_addNumber) B.pre
  have hown : s.vm.findClass RX9 = some m.cls := findClass_of_methodNamed B.named
  have hlocks := B.notSynchronized
  subst hsz
  have hA : ∀ q : Nat, s.heap.size ≤ q → xA ad ids s.heap.size q := fun q h => Or.inr h
  have hW : xW D KA layX st ad ids (xA ad ids s.heap.size) s.heap σ s.heap [] := ⟨hP, xA_D (D := D) hD, va_S.rf⟩
  have kr : ∀ (σ : St) (H : Heap) (locs : List Loc) (ls : Array Slot) (pc : Nat), xW D KA layX st ad ids (xA ad ids s.heap.size) s.heap σ H locs → post σ → decode cX9_addNumber pc = .ok (.return_, 1) → W p l e rmX9_addNumber s m args below meth c H locs 0 0 (MQ below (va_Qv post (xOut D KA layX st ad ids) (xA ad ids s.heap.size)) args s 0 0 (xA ad ids s.heap.size)) (F0 m pc ls []) := fun σ H locs ls pc hW h hd => x_vret hx hb hr hlocks hW h hd
  have hl := lv_entry ([.ref (ad a0), .int a1]) (n := 2) (Nat.le_of_ble_eq_true rfl)
  rw [show entryFrame m args 2 = entryFrame m ([.ref (ad a0), .int a1] : List Value).toArray 2 from by rw [hav]]
  rw [lg_entry_eq]
  generalize (lg_sl ([.ref (ad a0), .int a1]) ++ List.replicate (2 - (lg_sl ([.ref (ad a0), .int a1])).length) Slot.unset).toArray = ls at hl ⊢
  have hl : lv_has ls 2 [(0, .ref (ad a0)), (1, .int a1)] := hl
  show W p l e rmX9_addNumber s m args below meth c s.heap [] 0 0 _ _
  generalize MQ below (va_Qv post (xOut D KA layX st ad ids) (xA ad ids s.heap.size)) args s 0 0 (xA ad ids s.heap.size) = Q at kr ⊢
  have main : ∀ (H : Heap) (locs : List Loc) (ls : Array Slot), xW D KA layX st ad ids (xA ad ids s.heap.size) s.heap σ H locs → lv_has ls 2 [(0, .ref (ad a0)), (1, .int a1)] → W p l e rmX9_addNumber s m args below meth c H locs 0 0 Q (F0 m 0 ls []) := by
    intro H locs ls hW hl
    unfold wX9_addNumber at h
    refine lv_aload_n hx hb dX9_addNumber_0 rfl (lv_at hl 0 rfl) ?_
    refine lv_iload_n hx hb dX9_addNumber_1 rfl (lv_at hl 1 rfl) ?_
    refine x_callv (va_runV (As := [.int a1]) (rest := []) ⟨hx, hb, hml, hown, hts⟩ (J_X9_add l hI hst ok_a0 h) (cwV 1 hts gX9_addNumber_X9_add rfl rfl rfl hdV_X9_add ⟨Nat.le_of_ble_eq_true rfl, Nat.le_of_ble_eq_true rfl⟩) (x_preV (ci := 9) hK hZ hA hW ok_a0.1 (lay_okT ok_a0) rfl) rfl rfl hl.1 rfl (lv_room (Nat.le_of_ble_eq_true rfl)) dX9_addNumber_2 ⟨Nat.zero_le _, Nat.zero_le _⟩) hW hA (fun σ1001 H locs h hW => ?_)
    try dsimp only at h
    exact kr _ _ _ _ _ hW h dX9_addNumber_5
  exact main _ _ _ hW hl
theorem hwX7_readOne_0 : (.fieldLink RX7 38 "FortyBelts$Reader" "token" "I" : Cond) ∈ wsX7_readOne := (List.mem_cons_of_mem _ (List.mem_append_left _ (List.mem_append_left _ (List.mem_append_left _ (List.mem_of_getElem? (i := 0) rfl)))))
theorem hwX7_readOne_1 : (.fieldLink RX7 19 "FortyBelts$Reader" "text" "LFortyBelts$Text;" : Cond) ∈ wsX7_readOne := (List.mem_cons_of_mem _ (List.mem_append_left _ (List.mem_append_left _ (List.mem_append_left _ (List.mem_of_getElem? (i := 1) rfl)))))
theorem hwX7_readOne_2 : (.fieldLink RX7 72 "FortyBelts$Reader" "tokenValue" "I" : Cond) ∈ wsX7_readOne := (List.mem_cons_of_mem _ (List.mem_append_left _ (List.mem_append_left _ (List.mem_append_left _ (List.mem_of_getElem? (i := 2) rfl)))))
theorem hcX7_readOne_X7 : ∀ w ∈ wsX70, w ∈ wsX7_readOne := fun _ h => (List.mem_cons_of_mem _ (List.mem_append_left _ (List.mem_append_right _ h)))
set_option maxHeartbeats 4000000 in
set_option maxRecDepth 100000 in
theorem JO_X7_readOne {D : va_G} {KA : Nat → ClassId} {zs : ZS} {ad : Nat → Nat} {ids : List Nat} {sz : Nat} (l : Launch) (hI : ∀ c, n7 c → c ∈ ids) {st : Nat → Nat → Option Nat} (hst : ∀ c, n7 c → st c = stX c) (d : Nat) {rec : Nat → Int32 → St → (Int32 → St → Prop) → Prop} (hrec0 : ∀ {a1 : Int32} {σ : St} {post : Int32 → St → Prop} {sz : Nat}, rec 0 a1 σ post → Met l yX7_readEither wsX7_readEither (rmgX d) (va_Pc [.ref (ad 2), .int a1] (xIn D KA zs layX st ad ids sz σ)) (va_Qi post (xOut D KA layX st ad ids) (xA ad ids sz)) 0 0 (xA ad ids sz)) (hrec1 : ∀ {a1 : Int32} {σ : St} {post : Int32 → St → Prop} {sz : Nat}, rec 1 a1 σ post → Met l yX7_readBoth wsX7_readBoth (rmgX d) (va_Pc [.ref (ad 2), .int a1] (xIn D KA zs layX st ad ids sz σ)) (va_Qi post (xOut D KA layX st ad ids) (xA ad ids sz)) 0 0 (xA ad ids sz)) (hrec2 : ∀ {a1 : Int32} {σ : St} {post : Int32 → St → Prop} {sz : Nat}, rec 2 a1 σ post → Met l yX7_readNot wsX7_readNot (rmgX d) (va_Pc [.ref (ad 2), .int a1] (xIn D KA zs layX st ad ids sz σ)) (va_Qi post (xOut D KA layX st ad ids) (xA ad ids sz)) 0 0 (xA ad ids sz)) (hrec3 : ∀ {a1 : Int32} {σ : St} {post : Int32 → St → Prop} {sz : Nat}, rec 3 a1 σ post → Met l yX7_readCompared wsX7_readCompared (rmgX d) (va_Pc [.ref (ad 2), .int a1] (xIn D KA zs layX st ad ids sz σ)) (va_Qi post (xOut D KA layX st ad ids) (xA ad ids sz)) 0 0 (xA ad ids sz)) (hrec4 : ∀ {a1 : Int32} {σ : St} {post : Int32 → St → Prop} {sz : Nat}, rec 4 a1 σ post → Met l yX7_readSum wsX7_readSum (rmgX d) (va_Pc [.ref (ad 2), .int a1] (xIn D KA zs layX st ad ids sz σ)) (va_Qi post (xOut D KA layX st ad ids) (xA ad ids sz)) 0 0 (xA ad ids sz)) (hrec5 : ∀ {a1 : Int32} {σ : St} {post : Int32 → St → Prop} {sz : Nat}, rec 5 a1 σ post → Met l yX7_readTerm wsX7_readTerm (rmgX d) (va_Pc [.ref (ad 2), .int a1] (xIn D KA zs layX st ad ids sz σ)) (va_Qi post (xOut D KA layX st ad ids) (xA ad ids sz)) 0 0 (xA ad ids sz)) (hrec6 : ∀ {a1 : Int32} {σ : St} {post : Int32 → St → Prop} {sz : Nat}, rec 6 a1 σ post → Met l yX7_readOne wsX7_readOne (rmgX d) (va_Pc [.ref (ad 2), .int a1] (xIn D KA zs layX st ad ids sz σ)) (va_Qi post (xOut D KA layX st ad ids) (xA ad ids sz)) 0 0 (xA ad ids sz)) (hrec7 : ∀ {a1 : Int32} {σ : St} {post : Int32 → St → Prop} {sz : Nat}, rec 7 a1 σ post → Met l yX7_readNegated wsX7_readNegated (rmgX d) (va_Pc [.ref (ad 2), .int a1] (xIn D KA zs layX st ad ids sz σ)) (va_Qi post (xOut D KA layX st ad ids) (xA ad ids sz)) 0 0 (xA ad ids sz)) (hrec8 : ∀ {a1 : Int32} {σ : St} {post : Int32 → St → Prop} {sz : Nat}, rec 8 a1 σ post → Met l yX7_readBracketed wsX7_readBracketed (rmgX d) (va_Pc [.ref (ad 2), .int a1] (xIn D KA zs layX st ad ids sz σ)) (va_Qi post (xOut D KA layX st ad ids) (xA ad ids sz)) 0 0 (xA ad ids sz)) {a1 : Int32}  {σ : St} {post : Int32 → St → Prop} (h : wX7_readOne rec ids a1 σ post) : Met l yX7_readOne wsX7_readOne (rmgX (d + 1)) (va_Pc [.ref (ad 2), .int a1] (xIn D KA zs layX st ad ids sz σ)) (va_Qi post (xOut D KA layX st ad ids) (xA ad ids sz)) 0 0 (xA ad ids sz) := by
  refine Met.ofW (cc := cX7_readOne) (maxL := 2) (ret := (some .boolean)) (by decide) rfl ?_
  intro p e s m args below meth c s₁ B hml hv
  obtain ⟨hav, hsz, hK, hZ, hP, hD⟩ := hv
  have hx := B.exec
  have hb := B.bytes
  have hr := B.returns
  have hts := atoms_spec (ws := wsX7_readOne) B.pre
  have hown : s.vm.findClass RX7 = some m.cls := findClass_of_methodNamed B.named
  have hlocks := B.notSynchronized
  subst hsz
  have hA : ∀ q : Nat, s.heap.size ≤ q → xA ad ids s.heap.size q := fun q h => Or.inr h
  have hW : xW D KA layX st ad ids (xA ad ids s.heap.size) s.heap σ s.heap [] := ⟨hP, xA_D (D := D) hD, va_S.rf⟩
  have kr : ∀ (v : Int32) (σ : St) (H : Heap) (locs : List Loc) (ls : Array Slot) (pc : Nat), xW D KA layX st ad ids (xA ad ids s.heap.size) s.heap σ H locs → isB v → post v σ → decode cX7_readOne pc = .ok (.ireturn, 1) → W p l e (rmgX (d + 1)) s m args below meth c H locs 0 0 (MQ below (va_Qi post (xOut D KA layX st ad ids) (xA ad ids s.heap.size)) args s 0 0 (xA ad ids s.heap.size)) (F0 m pc ls [.int v]) := fun v σ H locs ls pc hW hz h hd => x_zret hx hb hr hlocks hW hz h hd
  have hl := lv_entry ([.ref (ad 2), .int a1]) (n := 2) (Nat.le_of_ble_eq_true rfl)
  rw [show entryFrame m args 2 = entryFrame m ([.ref (ad 2), .int a1] : List Value).toArray 2 from by rw [hav]]
  rw [lg_entry_eq]
  generalize (lg_sl ([.ref (ad 2), .int a1]) ++ List.replicate (2 - (lg_sl ([.ref (ad 2), .int a1])).length) Slot.unset).toArray = ls at hl ⊢
  have hl : lv_has ls 2 [(0, .ref (ad 2)), (1, .int a1)] := hl
  show W p l e (rmgX (d + 1)) s m args below meth c s.heap [] 0 0 _ _
  generalize MQ below (va_Qi post (xOut D KA layX st ad ids) (xA ad ids s.heap.size)) args s 0 0 (xA ad ids s.heap.size) = Q at kr ⊢
  have blk123 : ∀ (s0 : Int32) (σ : St) (H : Heap) (locs : List Loc) (ls : Array Slot), xW D KA layX st ad ids (xA ad ids s.heap.size) s.heap σ H locs → lv_has ls 2 [] → wX7_readOne_123 rec ids post s0 σ → W p l e (rmgX (d + 1)) s m args below meth c H locs 0 0 Q (F0 m 123 ls [.int s0]) := by
    intro   s0 σ H locs ls hW hl h
    unfold wX7_readOne_123 at h
    obtain ⟨hz1, h⟩ := h
    exact kr _ _ _ _ _ _ hW hz1 h dX7_readOne_123
  have blk122 : ∀ (σ : St) (H : Heap) (locs : List Loc) (ls : Array Slot), xW D KA layX st ad ids (xA ad ids s.heap.size) s.heap σ H locs → lv_has ls 2 [] → wX7_readOne_122 rec ids post  σ → W p l e (rmgX (d + 1)) s m args below meth c H locs 0 0 Q (F0 m 122 ls []) := by
    intro    σ H locs ls hW hl h
    unfold wX7_readOne_122 at h
    refine lv_iconst (v := 0) hx hb dX7_readOne_122 (by decide) ?_
    exact blk123   (0 : Int32) _ _ _ _ hW (lv_sub hl [] rfl) h
  have blk102 : ∀ (s0 : Int32) (σ : St) (H : Heap) (locs : List Loc) (ls : Array Slot), xW D KA layX st ad ids (xA ad ids s.heap.size) s.heap σ H locs → lv_has ls 2 [] → wX7_readOne_102 rec ids post s0 σ → W p l e (rmgX (d + 1)) s m args below meth c H locs 0 0 Q (F0 m 102 ls [.int s0]) := by
    intro   s0 σ H locs ls hW hl h
    unfold wX7_readOne_102 at h
    obtain ⟨hz2, h⟩ := h
    exact kr _ _ _ _ _ _ hW hz2 h dX7_readOne_102
  have blk101 : ∀ (σ : St) (H : Heap) (locs : List Loc) (ls : Array Slot), xW D KA layX st ad ids (xA ad ids s.heap.size) s.heap σ H locs → lv_has ls 2 [] → wX7_readOne_101 rec ids post  σ → W p l e (rmgX (d + 1)) s m args below meth c H locs 0 0 Q (F0 m 101 ls []) := by
    intro    σ H locs ls hW hl h
    unfold wX7_readOne_101 at h
    refine lv_iconst (v := 0) hx hb dX7_readOne_101 (by decide) ?_
    exact blk102   (0 : Int32) _ _ _ _ hW (lv_sub hl [] rfl) h
  have main : ∀ (H : Heap) (locs : List Loc) (ls : Array Slot), xW D KA layX st ad ids (xA ad ids s.heap.size) s.heap σ H locs → lv_has ls 2 [(0, .ref (ad 2)), (1, .int a1)] → W p l e (rmgX (d + 1)) s m args below meth c H locs 0 0 Q (F0 m 0 ls []) := by
    intro H locs ls hW hl
    unfold wX7_readOne at h
    refine lv_aload_n hx hb dX7_readOne_0 rfl (lv_at hl 0 rfl) ?_
    refine xgX7_3 hx hb hts hown hK hW 2 hcX7_readOne_X7 (hI 2 (by decide)) lX_2 (hts _ hwX7_readOne_0) dX7_readOne_1 ?_
    refine lv_topi (fun v1001 hv1001 => ?_)
    have h := h v1001 hv1001
    obtain ⟨hcase, h⟩ := h
    by_cases hc4_0 : v1001 = (2 : Int32)
    · have h := hcase hc4_0
      clear hcase
      refine lv_lookup (tgt := 48) hx hb dX7_readOne_4 (by decide) (by rw [hc4_0] <;> decide) (by decide) ?_
      refine lv_aload_n hx hb dX7_readOne_48 rfl (lv_at hl 0 rfl) ?_
      obtain ⟨t1002, hr1003, ok1004, h⟩ := h
      refine xgX7_6r hx hb hts hown hK hW 2 hcX7_readOne_X7 (hI 2 (by decide)) lX_2 (hts _ hwX7_readOne_1) (s7_2_6 hst hr1003) dX7_readOne_49 ?_
      refine lv_aload_n hx hb dX7_readOne_52 rfl (lv_at hl 0 rfl) ?_
      refine xgX7_5 hx hb hts hown hK hW 2 hcX7_readOne_X7 (hI 2 (by decide)) lX_2 (hts _ hwX7_readOne_2) dX7_readOne_53 ?_
      refine x_callv (va_runV (As := [.int (gI σ 2 5)]) (rest := []) ⟨hx, hb, hml, hown, hts⟩ (J_X9_addNumber l hI hst ok1004 h) (cwV 1 hts gX7_readOne_X9_addNumber rfl rfl rfl hdV_X9_addNumber ⟨rmgX_of d (Nat.le_of_ble_eq_true rfl), rmgX_ol d (Nat.le_of_ble_eq_true rfl)⟩) (x_preV (ci := 9) hK hZ hA hW ok1004.1 (lay_okT ok1004) rfl) rfl rfl hl.1 rfl (lv_room (Nat.le_of_ble_eq_true rfl)) dX7_readOne_56 ⟨Nat.zero_le _, Nat.zero_le _⟩) hW hA (fun σ1005 H locs h hW => ?_)
      try dsimp only at h
      refine lv_aload_n hx hb dX7_readOne_59 rfl (lv_at hl 0 rfl) ?_
      refine x_callv (va_runV (As := []) (rest := []) ⟨hx, hb, hml, hown, hts⟩ (J_X7_next l hI hst h) (cwV 0 hts gX7_readOne_X7_next rfl rfl rfl hdV_X7_next ⟨rmgX_of d (Nat.le_of_ble_eq_true rfl), rmgX_ol d (Nat.le_of_ble_eq_true rfl)⟩) (x_preV (ci := 7) hK hZ hA hW (hI 2 (by decide)) lX_2 rfl) rfl rfl hl.1 rfl (lv_room (Nat.le_of_ble_eq_true rfl)) dX7_readOne_60 ⟨Nat.zero_le _, Nat.zero_le _⟩) hW hA (fun σ1006 H locs h hW => ?_)
      try dsimp only at h
      refine lv_iconst (v := 1) hx hb dX7_readOne_63 (by decide) ?_
      exact kr _ _ _ _ _ _ hW isB_1 h dX7_readOne_64
    clear hcase
    obtain ⟨hcase, h⟩ := h
    by_cases hc4_1 : v1001 = (3 : Int32)
    · have h := hcase hc4_1
      clear hcase
      refine lv_lookup (tgt := 65) hx hb dX7_readOne_4 (by decide) (by rw [hc4_1] <;> decide) (by decide) ?_
      refine lv_aload_n hx hb dX7_readOne_65 rfl (lv_at hl 0 rfl) ?_
      obtain ⟨t1007, hr1008, ok1009, h⟩ := h
      refine xgX7_6r hx hb hts hown hK hW 2 hcX7_readOne_X7 (hI 2 (by decide)) lX_2 (hts _ hwX7_readOne_1) (s7_2_6 hst hr1008) dX7_readOne_66 ?_
      refine lv_aload_n hx hb dX7_readOne_69 rfl (lv_at hl 0 rfl) ?_
      refine xgX7_5 hx hb hts hown hK hW 2 hcX7_readOne_X7 (hI 2 (by decide)) lX_2 (hts _ hwX7_readOne_2) dX7_readOne_70 ?_
      refine x_callv (va_runV (As := [.int (gI σ 2 5)]) (rest := []) ⟨hx, hb, hml, hown, hts⟩ (J_X9_addName l hI hst ok1009 h) (cwV 1 hts gX7_readOne_X9_addName rfl rfl rfl hdV_X9_addName ⟨rmgX_of d (Nat.le_of_ble_eq_true rfl), rmgX_ol d (Nat.le_of_ble_eq_true rfl)⟩) (x_preV (ci := 9) hK hZ hA hW ok1009.1 (lay_okT ok1009) rfl) rfl rfl hl.1 rfl (lv_room (Nat.le_of_ble_eq_true rfl)) dX7_readOne_73 ⟨Nat.zero_le _, Nat.zero_le _⟩) hW hA (fun σ1010 H locs h hW => ?_)
      try dsimp only at h
      refine lv_aload_n hx hb dX7_readOne_76 rfl (lv_at hl 0 rfl) ?_
      refine x_callv (va_runV (As := []) (rest := []) ⟨hx, hb, hml, hown, hts⟩ (J_X7_next l hI hst h) (cwV 0 hts gX7_readOne_X7_next rfl rfl rfl hdV_X7_next ⟨rmgX_of d (Nat.le_of_ble_eq_true rfl), rmgX_ol d (Nat.le_of_ble_eq_true rfl)⟩) (x_preV (ci := 7) hK hZ hA hW (hI 2 (by decide)) lX_2 rfl) rfl rfl hl.1 rfl (lv_room (Nat.le_of_ble_eq_true rfl)) dX7_readOne_77 ⟨Nat.zero_le _, Nat.zero_le _⟩) hW hA (fun σ1011 H locs h hW => ?_)
      try dsimp only at h
      refine lv_iconst (v := 1) hx hb dX7_readOne_80 (by decide) ?_
      exact kr _ _ _ _ _ _ hW isB_1 h dX7_readOne_81
    clear hcase
    obtain ⟨hcase, h⟩ := h
    by_cases hc4_2 : v1001 = (40 : Int32)
    · have h := hcase hc4_2
      clear hcase
      refine lv_lookup (tgt := 103) hx hb dX7_readOne_4 (by decide) (by rw [hc4_2] <;> decide) (by decide) ?_
      refine lv_iload_n hx hb dX7_readOne_103 rfl (lv_at hl 1 rfl) ?_
      refine lv_iconst (v := 5) hx hb dX7_readOne_104 (by decide) ?_
      refine lv_icmp_ge (tgt := 122) hx hb dX7_readOne_105 (by decide) (fun c1012 => ?_) (fun c1012 => ?_)
      · have h := h.1 c1012
        exact blk122    _ _ _ _ hW (lv_sub hl [] rfl) h
      · have h := h.2 c1012
        refine lv_aload_n hx hb dX7_readOne_108 rfl (lv_at hl 0 rfl) ?_
        refine lv_iload_n hx hb dX7_readOne_109 rfl (lv_at hl 1 rfl) ?_
        refine lv_iconst (v := 1) hx hb dX7_readOne_110 (by decide) ?_
        refine lv_iadd hx hb dX7_readOne_111 ?_
        refine x_calli (va_runV (As := [.int (a1 + (1 : Int32))]) (rest := []) ⟨hx, hb, hml, hown, hts⟩ (hrec8 h) (cwV 1 hts gX7_readOne_X7_readBracketed rfl rfl rfl hdV_X7_readBracketed ⟨rmgX_f d, rmgX_l d (Nat.le_of_ble_eq_true rfl)⟩) (x_preV (ci := 7) hK hZ hA hW (hI 2 (by decide)) lX_2 rfl) rfl rfl hl.1 rfl (lv_room (Nat.le_of_ble_eq_true rfl)) dX7_readOne_112 ⟨Nat.zero_le _, Nat.zero_le _⟩) hW hA (fun r1014 σ1013 H locs h hW => ?_)
        try dsimp only at h
        refine lv_if_eq (tgt := 122) hx hb dX7_readOne_115 (by decide) (fun c1015 => ?_) (fun c1015 => ?_)
        · have h := h.1 c1015
          exact blk122    _ _ _ _ hW (lv_sub hl [] rfl) h
        · have h := h.2 c1015
          refine lv_iconst (v := 1) hx hb dX7_readOne_118 (by decide) ?_
          refine lv_goto (tgt := 123) hx hb dX7_readOne_119 (by decide) ?_
          exact blk123   (1 : Int32) _ _ _ _ hW (lv_sub hl [] rfl) h
    clear hcase
    obtain ⟨hcase, h⟩ := h
    by_cases hc4_3 : v1001 = (45 : Int32)
    · have h := hcase hc4_3
      clear hcase
      refine lv_lookup (tgt := 82) hx hb dX7_readOne_4 (by decide) (by rw [hc4_3] <;> decide) (by decide) ?_
      refine lv_iload_n hx hb dX7_readOne_82 rfl (lv_at hl 1 rfl) ?_
      refine lv_iconst (v := 5) hx hb dX7_readOne_83 (by decide) ?_
      refine lv_icmp_ge (tgt := 101) hx hb dX7_readOne_84 (by decide) (fun c1016 => ?_) (fun c1016 => ?_)
      · have h := h.1 c1016
        exact blk101    _ _ _ _ hW (lv_sub hl [] rfl) h
      · have h := h.2 c1016
        refine lv_aload_n hx hb dX7_readOne_87 rfl (lv_at hl 0 rfl) ?_
        refine lv_iload_n hx hb dX7_readOne_88 rfl (lv_at hl 1 rfl) ?_
        refine lv_iconst (v := 1) hx hb dX7_readOne_89 (by decide) ?_
        refine lv_iadd hx hb dX7_readOne_90 ?_
        refine x_calli (va_runV (As := [.int (a1 + (1 : Int32))]) (rest := []) ⟨hx, hb, hml, hown, hts⟩ (hrec7 h) (cwV 1 hts gX7_readOne_X7_readNegated rfl rfl rfl hdV_X7_readNegated ⟨rmgX_f d, rmgX_l d (Nat.le_of_ble_eq_true rfl)⟩) (x_preV (ci := 7) hK hZ hA hW (hI 2 (by decide)) lX_2 rfl) rfl rfl hl.1 rfl (lv_room (Nat.le_of_ble_eq_true rfl)) dX7_readOne_91 ⟨Nat.zero_le _, Nat.zero_le _⟩) hW hA (fun r1018 σ1017 H locs h hW => ?_)
        try dsimp only at h
        refine lv_if_eq (tgt := 101) hx hb dX7_readOne_94 (by decide) (fun c1019 => ?_) (fun c1019 => ?_)
        · have h := h.1 c1019
          exact blk101    _ _ _ _ hW (lv_sub hl [] rfl) h
        · have h := h.2 c1019
          refine lv_iconst (v := 1) hx hb dX7_readOne_97 (by decide) ?_
          refine lv_goto (tgt := 102) hx hb dX7_readOne_98 (by decide) ?_
          exact blk102   (1 : Int32) _ _ _ _ hW (lv_sub hl [] rfl) h
    clear hcase
    have h := h ⟨hc4_0, hc4_1, hc4_2, hc4_3⟩
    refine lv_lookup (tgt := 124) hx hb dX7_readOne_4 (by decide) (off := 120) (lsw_out v1001 _ _ (fun q hq => ?_)) (by decide) ?_
    · simp only [List.mem_cons, List.not_mem_nil, or_false] at hq
      rcases hq with rfl | rfl | rfl | rfl
      · exact fun hq => hc4_0 (Int32.toInt_inj.mp hq)
      · exact fun hq => hc4_1 (Int32.toInt_inj.mp hq)
      · exact fun hq => hc4_2 (Int32.toInt_inj.mp hq)
      · exact fun hq => hc4_3 (Int32.toInt_inj.mp hq)
    refine lv_iconst (v := 0) hx hb dX7_readOne_124 (by decide) ?_
    exact kr _ _ _ _ _ _ hW isB_0 h dX7_readOne_125
  exact main _ _ _ hW hl
theorem hwX7_readNegated_0 : (.fieldLink RX7 19 "FortyBelts$Reader" "text" "LFortyBelts$Text;" : Cond) ∈ wsX7_readNegated := (List.mem_cons_of_mem _ (List.mem_append_left _ (List.mem_append_left _ (List.mem_append_left _ (List.mem_of_getElem? (i := 0) rfl)))))
theorem hcX7_readNegated_X7 : ∀ w ∈ wsX70, w ∈ wsX7_readNegated := fun _ h => (List.mem_cons_of_mem _ (List.mem_append_left _ (List.mem_append_right _ h)))
set_option maxHeartbeats 4000000 in
set_option maxRecDepth 100000 in
theorem JO_X7_readNegated {D : va_G} {KA : Nat → ClassId} {zs : ZS} {ad : Nat → Nat} {ids : List Nat} {sz : Nat} (l : Launch) (hI : ∀ c, n7 c → c ∈ ids) {st : Nat → Nat → Option Nat} (hst : ∀ c, n7 c → st c = stX c) (d : Nat) {rec : Nat → Int32 → St → (Int32 → St → Prop) → Prop} (hrec0 : ∀ {a1 : Int32} {σ : St} {post : Int32 → St → Prop} {sz : Nat}, rec 0 a1 σ post → Met l yX7_readEither wsX7_readEither (rmgX d) (va_Pc [.ref (ad 2), .int a1] (xIn D KA zs layX st ad ids sz σ)) (va_Qi post (xOut D KA layX st ad ids) (xA ad ids sz)) 0 0 (xA ad ids sz)) (hrec1 : ∀ {a1 : Int32} {σ : St} {post : Int32 → St → Prop} {sz : Nat}, rec 1 a1 σ post → Met l yX7_readBoth wsX7_readBoth (rmgX d) (va_Pc [.ref (ad 2), .int a1] (xIn D KA zs layX st ad ids sz σ)) (va_Qi post (xOut D KA layX st ad ids) (xA ad ids sz)) 0 0 (xA ad ids sz)) (hrec2 : ∀ {a1 : Int32} {σ : St} {post : Int32 → St → Prop} {sz : Nat}, rec 2 a1 σ post → Met l yX7_readNot wsX7_readNot (rmgX d) (va_Pc [.ref (ad 2), .int a1] (xIn D KA zs layX st ad ids sz σ)) (va_Qi post (xOut D KA layX st ad ids) (xA ad ids sz)) 0 0 (xA ad ids sz)) (hrec3 : ∀ {a1 : Int32} {σ : St} {post : Int32 → St → Prop} {sz : Nat}, rec 3 a1 σ post → Met l yX7_readCompared wsX7_readCompared (rmgX d) (va_Pc [.ref (ad 2), .int a1] (xIn D KA zs layX st ad ids sz σ)) (va_Qi post (xOut D KA layX st ad ids) (xA ad ids sz)) 0 0 (xA ad ids sz)) (hrec4 : ∀ {a1 : Int32} {σ : St} {post : Int32 → St → Prop} {sz : Nat}, rec 4 a1 σ post → Met l yX7_readSum wsX7_readSum (rmgX d) (va_Pc [.ref (ad 2), .int a1] (xIn D KA zs layX st ad ids sz σ)) (va_Qi post (xOut D KA layX st ad ids) (xA ad ids sz)) 0 0 (xA ad ids sz)) (hrec5 : ∀ {a1 : Int32} {σ : St} {post : Int32 → St → Prop} {sz : Nat}, rec 5 a1 σ post → Met l yX7_readTerm wsX7_readTerm (rmgX d) (va_Pc [.ref (ad 2), .int a1] (xIn D KA zs layX st ad ids sz σ)) (va_Qi post (xOut D KA layX st ad ids) (xA ad ids sz)) 0 0 (xA ad ids sz)) (hrec6 : ∀ {a1 : Int32} {σ : St} {post : Int32 → St → Prop} {sz : Nat}, rec 6 a1 σ post → Met l yX7_readOne wsX7_readOne (rmgX d) (va_Pc [.ref (ad 2), .int a1] (xIn D KA zs layX st ad ids sz σ)) (va_Qi post (xOut D KA layX st ad ids) (xA ad ids sz)) 0 0 (xA ad ids sz)) (hrec7 : ∀ {a1 : Int32} {σ : St} {post : Int32 → St → Prop} {sz : Nat}, rec 7 a1 σ post → Met l yX7_readNegated wsX7_readNegated (rmgX d) (va_Pc [.ref (ad 2), .int a1] (xIn D KA zs layX st ad ids sz σ)) (va_Qi post (xOut D KA layX st ad ids) (xA ad ids sz)) 0 0 (xA ad ids sz)) (hrec8 : ∀ {a1 : Int32} {σ : St} {post : Int32 → St → Prop} {sz : Nat}, rec 8 a1 σ post → Met l yX7_readBracketed wsX7_readBracketed (rmgX d) (va_Pc [.ref (ad 2), .int a1] (xIn D KA zs layX st ad ids sz σ)) (va_Qi post (xOut D KA layX st ad ids) (xA ad ids sz)) 0 0 (xA ad ids sz)) {a1 : Int32}  {σ : St} {post : Int32 → St → Prop} (h : wX7_readNegated rec ids a1 σ post) : Met l yX7_readNegated wsX7_readNegated (rmgX (d + 1)) (va_Pc [.ref (ad 2), .int a1] (xIn D KA zs layX st ad ids sz σ)) (va_Qi post (xOut D KA layX st ad ids) (xA ad ids sz)) 0 0 (xA ad ids sz) := by
  refine Met.ofW (cc := cX7_readNegated) (maxL := 3) (ret := (some .boolean)) (by decide) rfl ?_
  intro p e s m args below meth c s₁ B hml hv
  obtain ⟨hav, hsz, hK, hZ, hP, hD⟩ := hv
  have hx := B.exec
  have hb := B.bytes
  have hr := B.returns
  have hts := atoms_spec (ws := wsX7_readNegated) B.pre
  have hown : s.vm.findClass RX7 = some m.cls := findClass_of_methodNamed B.named
  have hlocks := B.notSynchronized
  subst hsz
  have hA : ∀ q : Nat, s.heap.size ≤ q → xA ad ids s.heap.size q := fun q h => Or.inr h
  have hW : xW D KA layX st ad ids (xA ad ids s.heap.size) s.heap σ s.heap [] := ⟨hP, xA_D (D := D) hD, va_S.rf⟩
  have kr : ∀ (v : Int32) (σ : St) (H : Heap) (locs : List Loc) (ls : Array Slot) (pc : Nat), xW D KA layX st ad ids (xA ad ids s.heap.size) s.heap σ H locs → isB v → post v σ → decode cX7_readNegated pc = .ok (.ireturn, 1) → W p l e (rmgX (d + 1)) s m args below meth c H locs 0 0 (MQ below (va_Qi post (xOut D KA layX st ad ids) (xA ad ids s.heap.size)) args s 0 0 (xA ad ids s.heap.size)) (F0 m pc ls [.int v]) := fun v σ H locs ls pc hW hz h hd => x_zret hx hb hr hlocks hW hz h hd
  have hl := lv_entry ([.ref (ad 2), .int a1]) (n := 3) (Nat.le_of_ble_eq_true rfl)
  rw [show entryFrame m args 3 = entryFrame m ([.ref (ad 2), .int a1] : List Value).toArray 3 from by rw [hav]]
  rw [lg_entry_eq]
  generalize (lg_sl ([.ref (ad 2), .int a1]) ++ List.replicate (3 - (lg_sl ([.ref (ad 2), .int a1])).length) Slot.unset).toArray = ls at hl ⊢
  have hl : lv_has ls 3 [(0, .ref (ad 2)), (1, .int a1)] := hl
  show W p l e (rmgX (d + 1)) s m args below meth c s.heap [] 0 0 _ _
  generalize MQ below (va_Qi post (xOut D KA layX st ad ids) (xA ad ids s.heap.size)) args s 0 0 (xA ad ids s.heap.size) = Q at kr ⊢
  have main : ∀ (H : Heap) (locs : List Loc) (ls : Array Slot), xW D KA layX st ad ids (xA ad ids s.heap.size) s.heap σ H locs → lv_has ls 3 [(0, .ref (ad 2)), (1, .int a1)] → W p l e (rmgX (d + 1)) s m args below meth c H locs 0 0 Q (F0 m 0 ls []) := by
    intro H locs ls hW hl
    unfold wX7_readNegated at h
    refine lv_aload_n hx hb dX7_readNegated_0 rfl (lv_at hl 0 rfl) ?_
    refine x_callv (va_runV (As := []) (rest := []) ⟨hx, hb, hml, hown, hts⟩ (J_X7_next l hI hst h) (cwV 0 hts gX7_readNegated_X7_next rfl rfl rfl hdV_X7_next ⟨rmgX_of d (Nat.le_of_ble_eq_true rfl), rmgX_ol d (Nat.le_of_ble_eq_true rfl)⟩) (x_preV (ci := 7) hK hZ hA hW (hI 2 (by decide)) lX_2 rfl) rfl rfl hl.1 rfl (lv_room (Nat.le_of_ble_eq_true rfl)) dX7_readNegated_1 ⟨Nat.zero_le _, Nat.zero_le _⟩) hW hA (fun σ1001 H locs h hW => ?_)
    try dsimp only at h
    refine lv_aload_n hx hb dX7_readNegated_4 rfl (lv_at hl 0 rfl) ?_
    refine lv_iload_n hx hb dX7_readNegated_5 rfl (lv_at hl 1 rfl) ?_
    refine x_calli (va_runV (As := [.int a1]) (rest := []) ⟨hx, hb, hml, hown, hts⟩ (hrec6 h) (cwV 1 hts gX7_readNegated_X7_readOne rfl rfl rfl hdV_X7_readOne ⟨rmgX_f d, rmgX_l d (Nat.le_of_ble_eq_true rfl)⟩) (x_preV (ci := 7) hK hZ hA hW (hI 2 (by decide)) lX_2 rfl) rfl rfl hl.1 rfl (lv_room (Nat.le_of_ble_eq_true rfl)) dX7_readNegated_6 ⟨Nat.zero_le _, Nat.zero_le _⟩) hW hA (fun r1003 σ1002 H locs h hW => ?_)
    try dsimp only at h
    refine lv_istore_n (lv' := [(2, .int r1003), (0, .ref (ad 2)), (1, .int a1)]) hx hb dX7_readNegated_9 rfl hl (by decide) rfl (fun ls hl => ?_)
    refine lv_aload_n hx hb dX7_readNegated_10 rfl (lv_at hl 1 rfl) ?_
    obtain ⟨t1004, hr1005, ok1006, h⟩ := h
    refine xgX7_6r hx hb hts hown hK hW 2 hcX7_readNegated_X7 (hI 2 (by decide)) lX_2 (hts _ hwX7_readNegated_0) (s7_2_6 hst hr1005) dX7_readNegated_11 ?_
    refine lv_bipush (v := 126) hx hb dX7_readNegated_14 (by decide) ?_
    refine x_callv (va_runV (As := [.int (126 : Int32)]) (rest := []) ⟨hx, hb, hml, hown, hts⟩ (J_X9_addSign l hI hst ok1006 h) (cwV 1 hts gX7_readNegated_X9_addSign rfl rfl rfl hdV_X9_addSign ⟨rmgX_of d (Nat.le_of_ble_eq_true rfl), rmgX_ol d (Nat.le_of_ble_eq_true rfl)⟩) (x_preV (ci := 9) hK hZ hA hW ok1006.1 (lay_okT ok1006) rfl) rfl rfl hl.1 rfl (lv_room (Nat.le_of_ble_eq_true rfl)) dX7_readNegated_16 ⟨Nat.zero_le _, Nat.zero_le _⟩) hW hA (fun σ1007 H locs h hW => ?_)
    try dsimp only at h
    refine lv_iload_n hx hb dX7_readNegated_19 rfl (lv_at hl 0 rfl) ?_
    obtain ⟨hz1008, h⟩ := h
    exact kr _ _ _ _ _ _ hW hz1008 h dX7_readNegated_20
  exact main _ _ _ hW hl
theorem hwX7_readBracketed_0 : (.fieldLink RX7 38 "FortyBelts$Reader" "token" "I" : Cond) ∈ wsX7_readBracketed := (List.mem_cons_of_mem _ (List.mem_append_left _ (List.mem_append_left _ (List.mem_append_left _ (List.mem_of_getElem? (i := 0) rfl)))))
theorem hcX7_readBracketed_X7 : ∀ w ∈ wsX70, w ∈ wsX7_readBracketed := fun _ h => (List.mem_cons_of_mem _ (List.mem_append_left _ (List.mem_append_right _ h)))
set_option maxHeartbeats 4000000 in
set_option maxRecDepth 100000 in
theorem JO_X7_readBracketed {D : va_G} {KA : Nat → ClassId} {zs : ZS} {ad : Nat → Nat} {ids : List Nat} {sz : Nat} (l : Launch) (hI : ∀ c, n7 c → c ∈ ids) {st : Nat → Nat → Option Nat} (hst : ∀ c, n7 c → st c = stX c) (d : Nat) {rec : Nat → Int32 → St → (Int32 → St → Prop) → Prop} (hrec0 : ∀ {a1 : Int32} {σ : St} {post : Int32 → St → Prop} {sz : Nat}, rec 0 a1 σ post → Met l yX7_readEither wsX7_readEither (rmgX d) (va_Pc [.ref (ad 2), .int a1] (xIn D KA zs layX st ad ids sz σ)) (va_Qi post (xOut D KA layX st ad ids) (xA ad ids sz)) 0 0 (xA ad ids sz)) (hrec1 : ∀ {a1 : Int32} {σ : St} {post : Int32 → St → Prop} {sz : Nat}, rec 1 a1 σ post → Met l yX7_readBoth wsX7_readBoth (rmgX d) (va_Pc [.ref (ad 2), .int a1] (xIn D KA zs layX st ad ids sz σ)) (va_Qi post (xOut D KA layX st ad ids) (xA ad ids sz)) 0 0 (xA ad ids sz)) (hrec2 : ∀ {a1 : Int32} {σ : St} {post : Int32 → St → Prop} {sz : Nat}, rec 2 a1 σ post → Met l yX7_readNot wsX7_readNot (rmgX d) (va_Pc [.ref (ad 2), .int a1] (xIn D KA zs layX st ad ids sz σ)) (va_Qi post (xOut D KA layX st ad ids) (xA ad ids sz)) 0 0 (xA ad ids sz)) (hrec3 : ∀ {a1 : Int32} {σ : St} {post : Int32 → St → Prop} {sz : Nat}, rec 3 a1 σ post → Met l yX7_readCompared wsX7_readCompared (rmgX d) (va_Pc [.ref (ad 2), .int a1] (xIn D KA zs layX st ad ids sz σ)) (va_Qi post (xOut D KA layX st ad ids) (xA ad ids sz)) 0 0 (xA ad ids sz)) (hrec4 : ∀ {a1 : Int32} {σ : St} {post : Int32 → St → Prop} {sz : Nat}, rec 4 a1 σ post → Met l yX7_readSum wsX7_readSum (rmgX d) (va_Pc [.ref (ad 2), .int a1] (xIn D KA zs layX st ad ids sz σ)) (va_Qi post (xOut D KA layX st ad ids) (xA ad ids sz)) 0 0 (xA ad ids sz)) (hrec5 : ∀ {a1 : Int32} {σ : St} {post : Int32 → St → Prop} {sz : Nat}, rec 5 a1 σ post → Met l yX7_readTerm wsX7_readTerm (rmgX d) (va_Pc [.ref (ad 2), .int a1] (xIn D KA zs layX st ad ids sz σ)) (va_Qi post (xOut D KA layX st ad ids) (xA ad ids sz)) 0 0 (xA ad ids sz)) (hrec6 : ∀ {a1 : Int32} {σ : St} {post : Int32 → St → Prop} {sz : Nat}, rec 6 a1 σ post → Met l yX7_readOne wsX7_readOne (rmgX d) (va_Pc [.ref (ad 2), .int a1] (xIn D KA zs layX st ad ids sz σ)) (va_Qi post (xOut D KA layX st ad ids) (xA ad ids sz)) 0 0 (xA ad ids sz)) (hrec7 : ∀ {a1 : Int32} {σ : St} {post : Int32 → St → Prop} {sz : Nat}, rec 7 a1 σ post → Met l yX7_readNegated wsX7_readNegated (rmgX d) (va_Pc [.ref (ad 2), .int a1] (xIn D KA zs layX st ad ids sz σ)) (va_Qi post (xOut D KA layX st ad ids) (xA ad ids sz)) 0 0 (xA ad ids sz)) (hrec8 : ∀ {a1 : Int32} {σ : St} {post : Int32 → St → Prop} {sz : Nat}, rec 8 a1 σ post → Met l yX7_readBracketed wsX7_readBracketed (rmgX d) (va_Pc [.ref (ad 2), .int a1] (xIn D KA zs layX st ad ids sz σ)) (va_Qi post (xOut D KA layX st ad ids) (xA ad ids sz)) 0 0 (xA ad ids sz)) {a1 : Int32}  {σ : St} {post : Int32 → St → Prop} (h : wX7_readBracketed rec ids a1 σ post) : Met l yX7_readBracketed wsX7_readBracketed (rmgX (d + 1)) (va_Pc [.ref (ad 2), .int a1] (xIn D KA zs layX st ad ids sz σ)) (va_Qi post (xOut D KA layX st ad ids) (xA ad ids sz)) 0 0 (xA ad ids sz) := by
  refine Met.ofW (cc := cX7_readBracketed) (maxL := 2) (ret := (some .boolean)) (by decide) rfl ?_
  intro p e s m args below meth c s₁ B hml hv
  obtain ⟨hav, hsz, hK, hZ, hP, hD⟩ := hv
  have hx := B.exec
  have hb := B.bytes
  have hr := B.returns
  have hts := atoms_spec (ws := wsX7_readBracketed) B.pre
  have hown : s.vm.findClass RX7 = some m.cls := findClass_of_methodNamed B.named
  have hlocks := B.notSynchronized
  subst hsz
  have hA : ∀ q : Nat, s.heap.size ≤ q → xA ad ids s.heap.size q := fun q h => Or.inr h
  have hW : xW D KA layX st ad ids (xA ad ids s.heap.size) s.heap σ s.heap [] := ⟨hP, xA_D (D := D) hD, va_S.rf⟩
  have kr : ∀ (v : Int32) (σ : St) (H : Heap) (locs : List Loc) (ls : Array Slot) (pc : Nat), xW D KA layX st ad ids (xA ad ids s.heap.size) s.heap σ H locs → isB v → post v σ → decode cX7_readBracketed pc = .ok (.ireturn, 1) → W p l e (rmgX (d + 1)) s m args below meth c H locs 0 0 (MQ below (va_Qi post (xOut D KA layX st ad ids) (xA ad ids s.heap.size)) args s 0 0 (xA ad ids s.heap.size)) (F0 m pc ls [.int v]) := fun v σ H locs ls pc hW hz h hd => x_zret hx hb hr hlocks hW hz h hd
  have hl := lv_entry ([.ref (ad 2), .int a1]) (n := 2) (Nat.le_of_ble_eq_true rfl)
  rw [show entryFrame m args 2 = entryFrame m ([.ref (ad 2), .int a1] : List Value).toArray 2 from by rw [hav]]
  rw [lg_entry_eq]
  generalize (lg_sl ([.ref (ad 2), .int a1]) ++ List.replicate (2 - (lg_sl ([.ref (ad 2), .int a1])).length) Slot.unset).toArray = ls at hl ⊢
  have hl : lv_has ls 2 [(0, .ref (ad 2)), (1, .int a1)] := hl
  show W p l e (rmgX (d + 1)) s m args below meth c s.heap [] 0 0 _ _
  generalize MQ below (va_Qi post (xOut D KA layX st ad ids) (xA ad ids s.heap.size)) args s 0 0 (xA ad ids s.heap.size) = Q at kr ⊢
  have blk21 : ∀ (σ : St) (H : Heap) (locs : List Loc) (ls : Array Slot), xW D KA layX st ad ids (xA ad ids s.heap.size) s.heap σ H locs → lv_has ls 2 [] → wX7_readBracketed_21 rec ids post  σ → W p l e (rmgX (d + 1)) s m args below meth c H locs 0 0 Q (F0 m 21 ls []) := by
    intro    σ H locs ls hW hl h
    unfold wX7_readBracketed_21 at h
    refine lv_iconst (v := 0) hx hb dX7_readBracketed_21 (by decide) ?_
    exact kr _ _ _ _ _ _ hW isB_0 h dX7_readBracketed_22
  have main : ∀ (H : Heap) (locs : List Loc) (ls : Array Slot), xW D KA layX st ad ids (xA ad ids s.heap.size) s.heap σ H locs → lv_has ls 2 [(0, .ref (ad 2)), (1, .int a1)] → W p l e (rmgX (d + 1)) s m args below meth c H locs 0 0 Q (F0 m 0 ls []) := by
    intro H locs ls hW hl
    unfold wX7_readBracketed at h
    refine lv_aload_n hx hb dX7_readBracketed_0 rfl (lv_at hl 0 rfl) ?_
    refine x_callv (va_runV (As := []) (rest := []) ⟨hx, hb, hml, hown, hts⟩ (J_X7_next l hI hst h) (cwV 0 hts gX7_readBracketed_X7_next rfl rfl rfl hdV_X7_next ⟨rmgX_of d (Nat.le_of_ble_eq_true rfl), rmgX_ol d (Nat.le_of_ble_eq_true rfl)⟩) (x_preV (ci := 7) hK hZ hA hW (hI 2 (by decide)) lX_2 rfl) rfl rfl hl.1 rfl (lv_room (Nat.le_of_ble_eq_true rfl)) dX7_readBracketed_1 ⟨Nat.zero_le _, Nat.zero_le _⟩) hW hA (fun σ1001 H locs h hW => ?_)
    try dsimp only at h
    refine lv_aload_n hx hb dX7_readBracketed_4 rfl (lv_at hl 0 rfl) ?_
    refine lv_iload_n hx hb dX7_readBracketed_5 rfl (lv_at hl 1 rfl) ?_
    refine x_calli (va_runV (As := [.int a1]) (rest := []) ⟨hx, hb, hml, hown, hts⟩ (hrec0 h) (cwV 1 hts gX7_readBracketed_X7_readEither rfl rfl rfl hdV_X7_readEither ⟨rmgX_f d, rmgX_l d (Nat.le_of_ble_eq_true rfl)⟩) (x_preV (ci := 7) hK hZ hA hW (hI 2 (by decide)) lX_2 rfl) rfl rfl hl.1 rfl (lv_room (Nat.le_of_ble_eq_true rfl)) dX7_readBracketed_6 ⟨Nat.zero_le _, Nat.zero_le _⟩) hW hA (fun r1003 σ1002 H locs h hW => ?_)
    try dsimp only at h
    refine lv_if_eq (tgt := 21) hx hb dX7_readBracketed_9 (by decide) (fun c1004 => ?_) (fun c1004 => ?_)
    · have h := h.1 c1004
      exact blk21    _ _ _ _ hW (lv_sub hl [] rfl) h
    · have h := h.2 c1004
      refine lv_aload_n hx hb dX7_readBracketed_12 rfl (lv_at hl 0 rfl) ?_
      refine xgX7_3 hx hb hts hown hK hW 2 hcX7_readBracketed_X7 (hI 2 (by decide)) lX_2 (hts _ hwX7_readBracketed_0) dX7_readBracketed_13 ?_
      refine lv_bipush (v := 41) hx hb dX7_readBracketed_16 (by decide) ?_
      refine lv_icmp_eq (tgt := 23) hx hb dX7_readBracketed_18 (by decide) (fun c1005 => ?_) (fun c1005 => ?_)
      · have h := h.1 c1005
        refine lv_aload_n hx hb dX7_readBracketed_23 rfl (lv_at hl 0 rfl) ?_
        refine x_callv (va_runV (As := []) (rest := []) ⟨hx, hb, hml, hown, hts⟩ (J_X7_next l hI hst h) (cwV 0 hts gX7_readBracketed_X7_next rfl rfl rfl hdV_X7_next ⟨rmgX_of d (Nat.le_of_ble_eq_true rfl), rmgX_ol d (Nat.le_of_ble_eq_true rfl)⟩) (x_preV (ci := 7) hK hZ hA hW (hI 2 (by decide)) lX_2 rfl) rfl rfl hl.1 rfl (lv_room (Nat.le_of_ble_eq_true rfl)) dX7_readBracketed_24 ⟨Nat.zero_le _, Nat.zero_le _⟩) hW hA (fun σ1006 H locs h hW => ?_)
        try dsimp only at h
        refine lv_iconst (v := 1) hx hb dX7_readBracketed_27 (by decide) ?_
        exact kr _ _ _ _ _ _ hW isB_1 h dX7_readBracketed_28
      · have h := h.2 c1005
        exact blk21    _ _ _ _ hW (lv_sub hl [] rfl) h
  exact main _ _ _ hW hl
theorem JGX {D : va_G} {KA : Nat → ClassId} {zs : ZS} {ad : Nat → Nat} {ids : List Nat} (l : Launch) (hI : ∀ c, n7 c → c ∈ ids) {st : Nat → Nat → Option Nat} (hst : ∀ c, n7 c → st c = stX c) : ∀ d : Nat, (∀ {a1 : Int32} {σ : St} {post : Int32 → St → Prop} {sz : Nat}, wgX ids d 0 a1 σ post → Met l yX7_readEither wsX7_readEither (rmgX d) (va_Pc [.ref (ad 2), .int a1] (xIn D KA zs layX st ad ids sz σ)) (va_Qi post (xOut D KA layX st ad ids) (xA ad ids sz)) 0 0 (xA ad ids sz)) ∧ (∀ {a1 : Int32} {σ : St} {post : Int32 → St → Prop} {sz : Nat}, wgX ids d 1 a1 σ post → Met l yX7_readBoth wsX7_readBoth (rmgX d) (va_Pc [.ref (ad 2), .int a1] (xIn D KA zs layX st ad ids sz σ)) (va_Qi post (xOut D KA layX st ad ids) (xA ad ids sz)) 0 0 (xA ad ids sz)) ∧ (∀ {a1 : Int32} {σ : St} {post : Int32 → St → Prop} {sz : Nat}, wgX ids d 2 a1 σ post → Met l yX7_readNot wsX7_readNot (rmgX d) (va_Pc [.ref (ad 2), .int a1] (xIn D KA zs layX st ad ids sz σ)) (va_Qi post (xOut D KA layX st ad ids) (xA ad ids sz)) 0 0 (xA ad ids sz)) ∧ (∀ {a1 : Int32} {σ : St} {post : Int32 → St → Prop} {sz : Nat}, wgX ids d 3 a1 σ post → Met l yX7_readCompared wsX7_readCompared (rmgX d) (va_Pc [.ref (ad 2), .int a1] (xIn D KA zs layX st ad ids sz σ)) (va_Qi post (xOut D KA layX st ad ids) (xA ad ids sz)) 0 0 (xA ad ids sz)) ∧ (∀ {a1 : Int32} {σ : St} {post : Int32 → St → Prop} {sz : Nat}, wgX ids d 4 a1 σ post → Met l yX7_readSum wsX7_readSum (rmgX d) (va_Pc [.ref (ad 2), .int a1] (xIn D KA zs layX st ad ids sz σ)) (va_Qi post (xOut D KA layX st ad ids) (xA ad ids sz)) 0 0 (xA ad ids sz)) ∧ (∀ {a1 : Int32} {σ : St} {post : Int32 → St → Prop} {sz : Nat}, wgX ids d 5 a1 σ post → Met l yX7_readTerm wsX7_readTerm (rmgX d) (va_Pc [.ref (ad 2), .int a1] (xIn D KA zs layX st ad ids sz σ)) (va_Qi post (xOut D KA layX st ad ids) (xA ad ids sz)) 0 0 (xA ad ids sz)) ∧ (∀ {a1 : Int32} {σ : St} {post : Int32 → St → Prop} {sz : Nat}, wgX ids d 6 a1 σ post → Met l yX7_readOne wsX7_readOne (rmgX d) (va_Pc [.ref (ad 2), .int a1] (xIn D KA zs layX st ad ids sz σ)) (va_Qi post (xOut D KA layX st ad ids) (xA ad ids sz)) 0 0 (xA ad ids sz)) ∧ (∀ {a1 : Int32} {σ : St} {post : Int32 → St → Prop} {sz : Nat}, wgX ids d 7 a1 σ post → Met l yX7_readNegated wsX7_readNegated (rmgX d) (va_Pc [.ref (ad 2), .int a1] (xIn D KA zs layX st ad ids sz σ)) (va_Qi post (xOut D KA layX st ad ids) (xA ad ids sz)) 0 0 (xA ad ids sz)) ∧ (∀ {a1 : Int32} {σ : St} {post : Int32 → St → Prop} {sz : Nat}, wgX ids d 8 a1 σ post → Met l yX7_readBracketed wsX7_readBracketed (rmgX d) (va_Pc [.ref (ad 2), .int a1] (xIn D KA zs layX st ad ids sz σ)) (va_Qi post (xOut D KA layX st ad ids) (xA ad ids sz)) 0 0 (xA ad ids sz)) := by
  intro d
  induction d with
  | zero => exact ⟨fun h => (h : False).elim, fun h => (h : False).elim, fun h => (h : False).elim, fun h => (h : False).elim, fun h => (h : False).elim, fun h => (h : False).elim, fun h => (h : False).elim, fun h => (h : False).elim, fun h => (h : False).elim⟩
  | succ d ih =>
    obtain ⟨ih0, ih1, ih2, ih3, ih4, ih5, ih6, ih7, ih8⟩ := ih
    exact ⟨fun h => JO_X7_readEither l hI hst d (rec := wgX ids d) (fun h => ih0 h) (fun h => ih1 h) (fun h => ih2 h) (fun h => ih3 h) (fun h => ih4 h) (fun h => ih5 h) (fun h => ih6 h) (fun h => ih7 h) (fun h => ih8 h) h, fun h => JO_X7_readBoth l hI hst d (rec := wgX ids d) (fun h => ih0 h) (fun h => ih1 h) (fun h => ih2 h) (fun h => ih3 h) (fun h => ih4 h) (fun h => ih5 h) (fun h => ih6 h) (fun h => ih7 h) (fun h => ih8 h) h, fun h => JO_X7_readNot l hI hst d (rec := wgX ids d) (fun h => ih0 h) (fun h => ih1 h) (fun h => ih2 h) (fun h => ih3 h) (fun h => ih4 h) (fun h => ih5 h) (fun h => ih6 h) (fun h => ih7 h) (fun h => ih8 h) h, fun h => JO_X7_readCompared l hI hst d (rec := wgX ids d) (fun h => ih0 h) (fun h => ih1 h) (fun h => ih2 h) (fun h => ih3 h) (fun h => ih4 h) (fun h => ih5 h) (fun h => ih6 h) (fun h => ih7 h) (fun h => ih8 h) h, fun h => JO_X7_readSum l hI hst d (rec := wgX ids d) (fun h => ih0 h) (fun h => ih1 h) (fun h => ih2 h) (fun h => ih3 h) (fun h => ih4 h) (fun h => ih5 h) (fun h => ih6 h) (fun h => ih7 h) (fun h => ih8 h) h, fun h => JO_X7_readTerm l hI hst d (rec := wgX ids d) (fun h => ih0 h) (fun h => ih1 h) (fun h => ih2 h) (fun h => ih3 h) (fun h => ih4 h) (fun h => ih5 h) (fun h => ih6 h) (fun h => ih7 h) (fun h => ih8 h) h, fun h => JO_X7_readOne l hI hst d (rec := wgX ids d) (fun h => ih0 h) (fun h => ih1 h) (fun h => ih2 h) (fun h => ih3 h) (fun h => ih4 h) (fun h => ih5 h) (fun h => ih6 h) (fun h => ih7 h) (fun h => ih8 h) h, fun h => JO_X7_readNegated l hI hst d (rec := wgX ids d) (fun h => ih0 h) (fun h => ih1 h) (fun h => ih2 h) (fun h => ih3 h) (fun h => ih4 h) (fun h => ih5 h) (fun h => ih6 h) (fun h => ih7 h) (fun h => ih8 h) h, fun h => JO_X7_readBracketed l hI hst d (rec := wgX ids d) (fun h => ih0 h) (fun h => ih1 h) (fun h => ih2 h) (fun h => ih3 h) (fun h => ih4 h) (fun h => ih5 h) (fun h => ih6 h) (fun h => ih7 h) (fun h => ih8 h) h⟩
theorem JGX_0 {D : va_G} {KA : Nat → ClassId} {zs : ZS} {ad : Nat → Nat} {ids : List Nat} (l : Launch) (hI : ∀ c, n7 c → c ∈ ids) {st : Nat → Nat → Option Nat} (hst : ∀ c, n7 c → st c = stX c) {a1 : Int32} {σ : St} {post : Int32 → St → Prop} {sz : Nat} (h : wgX ids 100 0 a1 σ post) : Met l yX7_readEither wsX7_readEither (rmgX 100) (va_Pc [.ref (ad 2), .int a1] (xIn D KA zs layX st ad ids sz σ)) (va_Qi post (xOut D KA layX st ad ids) (xA ad ids sz)) 0 0 (xA ad ids sz) := (JGX l hI hst 100).1 h
theorem JGX_1 {D : va_G} {KA : Nat → ClassId} {zs : ZS} {ad : Nat → Nat} {ids : List Nat} (l : Launch) (hI : ∀ c, n7 c → c ∈ ids) {st : Nat → Nat → Option Nat} (hst : ∀ c, n7 c → st c = stX c) {a1 : Int32} {σ : St} {post : Int32 → St → Prop} {sz : Nat} (h : wgX ids 100 1 a1 σ post) : Met l yX7_readBoth wsX7_readBoth (rmgX 100) (va_Pc [.ref (ad 2), .int a1] (xIn D KA zs layX st ad ids sz σ)) (va_Qi post (xOut D KA layX st ad ids) (xA ad ids sz)) 0 0 (xA ad ids sz) := (JGX l hI hst 100).2.1 h
theorem JGX_2 {D : va_G} {KA : Nat → ClassId} {zs : ZS} {ad : Nat → Nat} {ids : List Nat} (l : Launch) (hI : ∀ c, n7 c → c ∈ ids) {st : Nat → Nat → Option Nat} (hst : ∀ c, n7 c → st c = stX c) {a1 : Int32} {σ : St} {post : Int32 → St → Prop} {sz : Nat} (h : wgX ids 100 2 a1 σ post) : Met l yX7_readNot wsX7_readNot (rmgX 100) (va_Pc [.ref (ad 2), .int a1] (xIn D KA zs layX st ad ids sz σ)) (va_Qi post (xOut D KA layX st ad ids) (xA ad ids sz)) 0 0 (xA ad ids sz) := (JGX l hI hst 100).2.2.1 h
theorem JGX_3 {D : va_G} {KA : Nat → ClassId} {zs : ZS} {ad : Nat → Nat} {ids : List Nat} (l : Launch) (hI : ∀ c, n7 c → c ∈ ids) {st : Nat → Nat → Option Nat} (hst : ∀ c, n7 c → st c = stX c) {a1 : Int32} {σ : St} {post : Int32 → St → Prop} {sz : Nat} (h : wgX ids 100 3 a1 σ post) : Met l yX7_readCompared wsX7_readCompared (rmgX 100) (va_Pc [.ref (ad 2), .int a1] (xIn D KA zs layX st ad ids sz σ)) (va_Qi post (xOut D KA layX st ad ids) (xA ad ids sz)) 0 0 (xA ad ids sz) := (JGX l hI hst 100).2.2.2.1 h
theorem JGX_4 {D : va_G} {KA : Nat → ClassId} {zs : ZS} {ad : Nat → Nat} {ids : List Nat} (l : Launch) (hI : ∀ c, n7 c → c ∈ ids) {st : Nat → Nat → Option Nat} (hst : ∀ c, n7 c → st c = stX c) {a1 : Int32} {σ : St} {post : Int32 → St → Prop} {sz : Nat} (h : wgX ids 100 4 a1 σ post) : Met l yX7_readSum wsX7_readSum (rmgX 100) (va_Pc [.ref (ad 2), .int a1] (xIn D KA zs layX st ad ids sz σ)) (va_Qi post (xOut D KA layX st ad ids) (xA ad ids sz)) 0 0 (xA ad ids sz) := (JGX l hI hst 100).2.2.2.2.1 h
theorem JGX_5 {D : va_G} {KA : Nat → ClassId} {zs : ZS} {ad : Nat → Nat} {ids : List Nat} (l : Launch) (hI : ∀ c, n7 c → c ∈ ids) {st : Nat → Nat → Option Nat} (hst : ∀ c, n7 c → st c = stX c) {a1 : Int32} {σ : St} {post : Int32 → St → Prop} {sz : Nat} (h : wgX ids 100 5 a1 σ post) : Met l yX7_readTerm wsX7_readTerm (rmgX 100) (va_Pc [.ref (ad 2), .int a1] (xIn D KA zs layX st ad ids sz σ)) (va_Qi post (xOut D KA layX st ad ids) (xA ad ids sz)) 0 0 (xA ad ids sz) := (JGX l hI hst 100).2.2.2.2.2.1 h
theorem JGX_6 {D : va_G} {KA : Nat → ClassId} {zs : ZS} {ad : Nat → Nat} {ids : List Nat} (l : Launch) (hI : ∀ c, n7 c → c ∈ ids) {st : Nat → Nat → Option Nat} (hst : ∀ c, n7 c → st c = stX c) {a1 : Int32} {σ : St} {post : Int32 → St → Prop} {sz : Nat} (h : wgX ids 100 6 a1 σ post) : Met l yX7_readOne wsX7_readOne (rmgX 100) (va_Pc [.ref (ad 2), .int a1] (xIn D KA zs layX st ad ids sz σ)) (va_Qi post (xOut D KA layX st ad ids) (xA ad ids sz)) 0 0 (xA ad ids sz) := (JGX l hI hst 100).2.2.2.2.2.2.1 h
theorem JGX_7 {D : va_G} {KA : Nat → ClassId} {zs : ZS} {ad : Nat → Nat} {ids : List Nat} (l : Launch) (hI : ∀ c, n7 c → c ∈ ids) {st : Nat → Nat → Option Nat} (hst : ∀ c, n7 c → st c = stX c) {a1 : Int32} {σ : St} {post : Int32 → St → Prop} {sz : Nat} (h : wgX ids 100 7 a1 σ post) : Met l yX7_readNegated wsX7_readNegated (rmgX 100) (va_Pc [.ref (ad 2), .int a1] (xIn D KA zs layX st ad ids sz σ)) (va_Qi post (xOut D KA layX st ad ids) (xA ad ids sz)) 0 0 (xA ad ids sz) := (JGX l hI hst 100).2.2.2.2.2.2.2.1 h
theorem JGX_8 {D : va_G} {KA : Nat → ClassId} {zs : ZS} {ad : Nat → Nat} {ids : List Nat} (l : Launch) (hI : ∀ c, n7 c → c ∈ ids) {st : Nat → Nat → Option Nat} (hst : ∀ c, n7 c → st c = stX c) {a1 : Int32} {σ : St} {post : Int32 → St → Prop} {sz : Nat} (h : wgX ids 100 8 a1 σ post) : Met l yX7_readBracketed wsX7_readBracketed (rmgX 100) (va_Pc [.ref (ad 2), .int a1] (xIn D KA zs layX st ad ids sz σ)) (va_Qi post (xOut D KA layX st ad ids) (xA ad ids sz)) 0 0 (xA ad ids sz) := (JGX l hI hst 100).2.2.2.2.2.2.2.2 h
theorem hwX9_endPart_0 : (.fieldLink RX9 15 "FortyBelts$Text" "ends" "[I" : Cond) ∈ wsX9_endPart := (List.mem_cons_of_mem _ (List.mem_append_left _ (List.mem_of_getElem? (i := 0) rfl)))
theorem hwX9_endPart_1 : (.fieldLink RX9 21 "FortyBelts$Text" "stepCount" "I" : Cond) ∈ wsX9_endPart := (List.mem_cons_of_mem _ (List.mem_append_left _ (List.mem_of_getElem? (i := 1) rfl)))
theorem hcX9_endPart_X9 : ∀ w ∈ wsX90, w ∈ wsX9_endPart := fun _ h => (List.mem_cons_of_mem _ (List.mem_append_right _ h))
set_option maxHeartbeats 4000000 in
set_option maxRecDepth 100000 in
theorem J_X9_endPart {D : va_G} {KA : Nat → ClassId} {zs : ZS} {ad : Nat → Nat} {ids : List Nat} {sz : Nat} (l : Launch) (hI : ∀ c, n7 c → c ∈ ids) {st : Nat → Nat → Option Nat} (hst : ∀ c, n7 c → st c = stX c) {a0 : Nat} {a1 : Int32} (ok_a0 : okT ids a0) {σ : St} {post : St → Prop} (h : wX9_endPart ids a0 a1 σ post) : Met l yX9_endPart wsX9_endPart rmX9_endPart (va_Pc [.ref (ad a0), .int a1] (xIn D KA zs layX st ad ids sz σ)) (va_Qv post (xOut D KA layX st ad ids) (xA ad ids sz)) 0 0 (xA ad ids sz) := by
  refine Met.ofW (cc := cX9_endPart) (maxL := 2) (ret := none) (by decide) rfl ?_
  intro p e s m args below meth c s₁ B hml hv
  obtain ⟨hav, hsz, hK, hZ, hP, hD⟩ := hv
  have hx := B.exec
  have hb := B.bytes
  have hr := B.returns
  have hts := atoms_spec (ws := wsX9_endPart) B.pre
  have hown : s.vm.findClass RX9 = some m.cls := findClass_of_methodNamed B.named
  have hlocks := B.notSynchronized
  subst hsz
  have hA : ∀ q : Nat, s.heap.size ≤ q → xA ad ids s.heap.size q := fun q h => Or.inr h
  have hW : xW D KA layX st ad ids (xA ad ids s.heap.size) s.heap σ s.heap [] := ⟨hP, xA_D (D := D) hD, va_S.rf⟩
  have kr : ∀ (σ : St) (H : Heap) (locs : List Loc) (ls : Array Slot) (pc : Nat), xW D KA layX st ad ids (xA ad ids s.heap.size) s.heap σ H locs → post σ → decode cX9_endPart pc = .ok (.return_, 1) → W p l e rmX9_endPart s m args below meth c H locs 0 0 (MQ below (va_Qv post (xOut D KA layX st ad ids) (xA ad ids s.heap.size)) args s 0 0 (xA ad ids s.heap.size)) (F0 m pc ls []) := fun σ H locs ls pc hW h hd => x_vret hx hb hr hlocks hW h hd
  have hl := lv_entry ([.ref (ad a0), .int a1]) (n := 2) (Nat.le_of_ble_eq_true rfl)
  rw [show entryFrame m args 2 = entryFrame m ([.ref (ad a0), .int a1] : List Value).toArray 2 from by rw [hav]]
  rw [lg_entry_eq]
  generalize (lg_sl ([.ref (ad a0), .int a1]) ++ List.replicate (2 - (lg_sl ([.ref (ad a0), .int a1])).length) Slot.unset).toArray = ls at hl ⊢
  have hl : lv_has ls 2 [(0, .ref (ad a0)), (1, .int a1)] := hl
  show W p l e rmX9_endPart s m args below meth c s.heap [] 0 0 _ _
  generalize MQ below (va_Qv post (xOut D KA layX st ad ids) (xA ad ids s.heap.size)) args s 0 0 (xA ad ids s.heap.size) = Q at kr ⊢
  have main : ∀ (H : Heap) (locs : List Loc) (ls : Array Slot), xW D KA layX st ad ids (xA ad ids s.heap.size) s.heap σ H locs → lv_has ls 2 [(0, .ref (ad a0)), (1, .int a1)] → W p l e rmX9_endPart s m args below meth c H locs 0 0 Q (F0 m 0 ls []) := by
    intro H locs ls hW hl
    unfold wX9_endPart at h
    refine lv_aload_n hx hb dX9_endPart_0 rfl (lv_at hl 0 rfl) ?_
    refine xgX9_2r hx hb hts hown hK hW a0 hcX9_endPart_X9 ok_a0.1 (lay_okT ok_a0) (hts _ hwX9_endPart_0) (s7_okT2 hst ok_a0) dX9_endPart_1 ?_
    refine lv_iload_n hx hb dX9_endPart_4 rfl (lv_at hl 1 rfl) ?_
    refine lv_aload_n hx hb dX9_endPart_5 rfl (lv_at hl 0 rfl) ?_
    refine xgX9_1 hx hb hts hown hK hW a0 hcX9_endPart_X9 ok_a0.1 (lay_okT ok_a0) (hts _ hwX9_endPart_1) dX9_endPart_6 ?_
    obtain ⟨hi1001, h⟩ := h
    refine x_iast hx hb hK hW (a0 + 2) (hI _ (okT_n2 ok_a0)) (lay_okT2 ok_a0) hi1001 dX9_endPart_9 (fun σ1002 H locs hσ1002 hW => ?_)
    have h := h σ1002 hσ1002
    exact kr _ _ _ _ _ hW h dX9_endPart_10
  exact main _ _ _ hW hl
theorem hwX7_readPart_0 : (.fieldLink RX7 38 "FortyBelts$Reader" "token" "I" : Cond) ∈ wsX7_readPart := (List.mem_cons_of_mem _ (List.mem_append_left _ (List.mem_append_left _ (List.mem_append_left _ (List.mem_of_getElem? (i := 0) rfl)))))
theorem hwX7_readPart_1 : (.fieldLink RX7 19 "FortyBelts$Reader" "text" "LFortyBelts$Text;" : Cond) ∈ wsX7_readPart := (List.mem_cons_of_mem _ (List.mem_append_left _ (List.mem_append_left _ (List.mem_append_left _ (List.mem_of_getElem? (i := 1) rfl)))))
theorem hcX7_readPart_X7 : ∀ w ∈ wsX70, w ∈ wsX7_readPart := fun _ h => (List.mem_cons_of_mem _ (List.mem_append_left _ (List.mem_append_right _ h)))
set_option maxHeartbeats 4000000 in
set_option maxRecDepth 100000 in
theorem J_X7_readPart {D : va_G} {KA : Nat → ClassId} {zs : ZS} {ad : Nat → Nat} {ids : List Nat} {sz : Nat} (l : Launch) (hI : ∀ c, n7 c → c ∈ ids) {st : Nat → Nat → Option Nat} (hst : ∀ c, n7 c → st c = stX c) {a1 : Int32}  {σ : St} {post : Int32 → St → Prop} (h : wX7_readPart ids a1 σ post) : Met l yX7_readPart wsX7_readPart rmX7_readPart (va_Pc [.ref (ad 2), .int a1] (xIn D KA zs layX st ad ids sz σ)) (va_Qi post (xOut D KA layX st ad ids) (xA ad ids sz)) 0 0 (xA ad ids sz) := by
  refine Met.ofW (cc := cX7_readPart) (maxL := 2) (ret := (some .boolean)) (by decide) rfl ?_
  intro p e s m args below meth c s₁ B hml hv
  obtain ⟨hav, hsz, hK, hZ, hP, hD⟩ := hv
  have hx := B.exec
  have hb := B.bytes
  have hr := B.returns
  have hts := atoms_spec (ws := wsX7_readPart) B.pre
  have hown : s.vm.findClass RX7 = some m.cls := findClass_of_methodNamed B.named
  have hlocks := B.notSynchronized
  subst hsz
  have hA : ∀ q : Nat, s.heap.size ≤ q → xA ad ids s.heap.size q := fun q h => Or.inr h
  have hW : xW D KA layX st ad ids (xA ad ids s.heap.size) s.heap σ s.heap [] := ⟨hP, xA_D (D := D) hD, va_S.rf⟩
  have kr : ∀ (v : Int32) (σ : St) (H : Heap) (locs : List Loc) (ls : Array Slot) (pc : Nat), xW D KA layX st ad ids (xA ad ids s.heap.size) s.heap σ H locs → isB v → post v σ → decode cX7_readPart pc = .ok (.ireturn, 1) → W p l e rmX7_readPart s m args below meth c H locs 0 0 (MQ below (va_Qi post (xOut D KA layX st ad ids) (xA ad ids s.heap.size)) args s 0 0 (xA ad ids s.heap.size)) (F0 m pc ls [.int v]) := fun v σ H locs ls pc hW hz h hd => x_zret hx hb hr hlocks hW hz h hd
  have hl := lv_entry ([.ref (ad 2), .int a1]) (n := 2) (Nat.le_of_ble_eq_true rfl)
  rw [show entryFrame m args 2 = entryFrame m ([.ref (ad 2), .int a1] : List Value).toArray 2 from by rw [hav]]
  rw [lg_entry_eq]
  generalize (lg_sl ([.ref (ad 2), .int a1]) ++ List.replicate (2 - (lg_sl ([.ref (ad 2), .int a1])).length) Slot.unset).toArray = ls at hl ⊢
  have hl : lv_has ls 2 [(0, .ref (ad 2)), (1, .int a1)] := hl
  show W p l e rmX7_readPart s m args below meth c s.heap [] 0 0 _ _
  generalize MQ below (va_Qi post (xOut D KA layX st ad ids) (xA ad ids s.heap.size)) args s 0 0 (xA ad ids s.heap.size) = Q at kr ⊢
  have blk33 : ∀ (σ : St) (H : Heap) (locs : List Loc) (ls : Array Slot), xW D KA layX st ad ids (xA ad ids s.heap.size) s.heap σ H locs → lv_has ls 2 [] → wX7_readPart_33 ids post  σ → W p l e rmX7_readPart s m args below meth c H locs 0 0 Q (F0 m 33 ls []) := by
    intro    σ H locs ls hW hl h
    unfold wX7_readPart_33 at h
    refine lv_iconst (v := 0) hx hb dX7_readPart_33 (by decide) ?_
    exact kr _ _ _ _ _ _ hW isB_0 h dX7_readPart_34
  have main : ∀ (H : Heap) (locs : List Loc) (ls : Array Slot), xW D KA layX st ad ids (xA ad ids s.heap.size) s.heap σ H locs → lv_has ls 2 [(0, .ref (ad 2)), (1, .int a1)] → W p l e rmX7_readPart s m args below meth c H locs 0 0 Q (F0 m 0 ls []) := by
    intro H locs ls hW hl
    unfold wX7_readPart at h
    refine lv_aload_n hx hb dX7_readPart_0 rfl (lv_at hl 0 rfl) ?_
    refine xgX7_3 hx hb hts hown hK hW 2 hcX7_readPart_X7 (hI 2 (by decide)) lX_2 (hts _ hwX7_readPart_0) dX7_readPart_1 ?_
    refine lv_iconst (v := 4) hx hb dX7_readPart_4 (by decide) ?_
    refine lv_iload_n hx hb dX7_readPart_5 rfl (lv_at hl 1 rfl) ?_
    refine lv_iadd hx hb dX7_readPart_6 ?_
    refine lv_icmp_eq (tgt := 12) hx hb dX7_readPart_7 (by decide) (fun c1001 => ?_) (fun c1001 => ?_)
    · have h := h.1 c1001
      refine lv_aload_n hx hb dX7_readPart_12 rfl (lv_at hl 0 rfl) ?_
      refine x_callv (va_runV (As := []) (rest := []) ⟨hx, hb, hml, hown, hts⟩ (J_X7_next l hI hst h) (cwV 0 hts gX7_readPart_X7_next rfl rfl rfl hdV_X7_next ⟨Nat.le_of_ble_eq_true rfl, Nat.le_of_ble_eq_true rfl⟩) (x_preV (ci := 7) hK hZ hA hW (hI 2 (by decide)) lX_2 rfl) rfl rfl hl.1 rfl (lv_room (Nat.le_of_ble_eq_true rfl)) dX7_readPart_13 ⟨Nat.zero_le _, Nat.zero_le _⟩) hW hA (fun σ1002 H locs h hW => ?_)
      try dsimp only at h
      refine lv_aload_n hx hb dX7_readPart_16 rfl (lv_at hl 0 rfl) ?_
      refine lv_iconst (v := 0) hx hb dX7_readPart_17 (by decide) ?_
      refine x_calli (va_runV (As := [.int (0 : Int32)]) (rest := []) ⟨hx, hb, hml, hown, hts⟩ (JGX_0 l hI hst h) (cwV 1 hts gX7_readPart_X7_readEither rfl rfl rfl hdV_X7_readEither ⟨Nat.le_of_ble_eq_true rfl, Nat.le_of_ble_eq_true rfl⟩) (x_preV (ci := 7) hK hZ hA hW (hI 2 (by decide)) lX_2 rfl) rfl rfl hl.1 rfl (lv_room (Nat.le_of_ble_eq_true rfl)) dX7_readPart_18 ⟨Nat.zero_le _, Nat.zero_le _⟩) hW hA (fun r1004 σ1003 H locs h hW => ?_)
      try dsimp only at h
      refine lv_if_eq (tgt := 33) hx hb dX7_readPart_21 (by decide) (fun c1005 => ?_) (fun c1005 => ?_)
      · have h := h.1 c1005
        exact blk33    _ _ _ _ hW (lv_sub hl [] rfl) h
      · have h := h.2 c1005
        refine lv_aload_n hx hb dX7_readPart_24 rfl (lv_at hl 0 rfl) ?_
        refine xgX7_3 hx hb hts hown hK hW 2 hcX7_readPart_X7 (hI 2 (by decide)) lX_2 (hts _ hwX7_readPart_0) dX7_readPart_25 ?_
        refine lv_bipush (v := 59) hx hb dX7_readPart_28 (by decide) ?_
        refine lv_icmp_eq (tgt := 35) hx hb dX7_readPart_30 (by decide) (fun c1006 => ?_) (fun c1006 => ?_)
        · have h := h.1 c1006
          refine lv_aload_n hx hb dX7_readPart_35 rfl (lv_at hl 0 rfl) ?_
          refine x_callv (va_runV (As := []) (rest := []) ⟨hx, hb, hml, hown, hts⟩ (J_X7_next l hI hst h) (cwV 0 hts gX7_readPart_X7_next rfl rfl rfl hdV_X7_next ⟨Nat.le_of_ble_eq_true rfl, Nat.le_of_ble_eq_true rfl⟩) (x_preV (ci := 7) hK hZ hA hW (hI 2 (by decide)) lX_2 rfl) rfl rfl hl.1 rfl (lv_room (Nat.le_of_ble_eq_true rfl)) dX7_readPart_36 ⟨Nat.zero_le _, Nat.zero_le _⟩) hW hA (fun σ1007 H locs h hW => ?_)
          try dsimp only at h
          refine lv_aload_n hx hb dX7_readPart_39 rfl (lv_at hl 0 rfl) ?_
          obtain ⟨t1008, hr1009, ok1010, h⟩ := h
          refine xgX7_6r hx hb hts hown hK hW 2 hcX7_readPart_X7 (hI 2 (by decide)) lX_2 (hts _ hwX7_readPart_1) (s7_2_6 hst hr1009) dX7_readPart_40 ?_
          refine lv_iload_n hx hb dX7_readPart_43 rfl (lv_at hl 1 rfl) ?_
          refine x_callv (va_runV (As := [.int a1]) (rest := []) ⟨hx, hb, hml, hown, hts⟩ (J_X9_endPart l hI hst ok1010 h) (cwV 1 hts gX7_readPart_X9_endPart rfl rfl rfl hdV_X9_endPart ⟨Nat.le_of_ble_eq_true rfl, Nat.le_of_ble_eq_true rfl⟩) (x_preV (ci := 9) hK hZ hA hW ok1010.1 (lay_okT ok1010) rfl) rfl rfl hl.1 rfl (lv_room (Nat.le_of_ble_eq_true rfl)) dX7_readPart_44 ⟨Nat.zero_le _, Nat.zero_le _⟩) hW hA (fun σ1011 H locs h hW => ?_)
          try dsimp only at h
          refine lv_iconst (v := 1) hx hb dX7_readPart_47 (by decide) ?_
          exact kr _ _ _ _ _ _ hW isB_1 h dX7_readPart_48
        · have h := h.2 c1006
          exact blk33    _ _ _ _ hW (lv_sub hl [] rfl) h
    · have h := h.2 c1001
      refine lv_iconst (v := 0) hx hb dX7_readPart_10 (by decide) ?_
      exact kr _ _ _ _ _ _ hW isB_0 h dX7_readPart_11
  exact main _ _ _ hW hl
theorem hwX9_clear_0 : (.fieldLink RX9 21 "FortyBelts$Text" "stepCount" "I" : Cond) ∈ wsX9_clear := (List.mem_cons_of_mem _ (List.mem_append_left _ (List.mem_of_getElem? (i := 0) rfl)))
theorem hcX9_clear_X9 : ∀ w ∈ wsX90, w ∈ wsX9_clear := fun _ h => (List.mem_cons_of_mem _ (List.mem_append_right _ h))
set_option maxHeartbeats 4000000 in
set_option maxRecDepth 100000 in
theorem J_X9_clear {D : va_G} {KA : Nat → ClassId} {zs : ZS} {ad : Nat → Nat} {ids : List Nat} {sz : Nat} (l : Launch) (hI : ∀ c, n7 c → c ∈ ids) {st : Nat → Nat → Option Nat} (hst : ∀ c, n7 c → st c = stX c) {a0 : Nat} (ok_a0 : okT ids a0) {σ : St} {post : St → Prop} (h : wX9_clear ids a0 σ post) : Met l yX9_clear wsX9_clear rmX9_clear (va_Pc [.ref (ad a0)] (xIn D KA zs layX st ad ids sz σ)) (va_Qv post (xOut D KA layX st ad ids) (xA ad ids sz)) 0 0 (xA ad ids sz) := by
  refine Met.ofW (cc := cX9_clear) (maxL := 1) (ret := none) (by decide) rfl ?_
  intro p e s m args below meth c s₁ B hml hv
  obtain ⟨hav, hsz, hK, hZ, hP, hD⟩ := hv
  have hx := B.exec
  have hb := B.bytes
  have hr := B.returns
  have hts := atoms_spec (ws := wsX9_clear) B.pre
  have hown : s.vm.findClass RX9 = some m.cls := findClass_of_methodNamed B.named
  have hlocks := B.notSynchronized
  subst hsz
  have hA : ∀ q : Nat, s.heap.size ≤ q → xA ad ids s.heap.size q := fun q h => Or.inr h
  have hW : xW D KA layX st ad ids (xA ad ids s.heap.size) s.heap σ s.heap [] := ⟨hP, xA_D (D := D) hD, va_S.rf⟩
  have kr : ∀ (σ : St) (H : Heap) (locs : List Loc) (ls : Array Slot) (pc : Nat), xW D KA layX st ad ids (xA ad ids s.heap.size) s.heap σ H locs → post σ → decode cX9_clear pc = .ok (.return_, 1) → W p l e rmX9_clear s m args below meth c H locs 0 0 (MQ below (va_Qv post (xOut D KA layX st ad ids) (xA ad ids s.heap.size)) args s 0 0 (xA ad ids s.heap.size)) (F0 m pc ls []) := fun σ H locs ls pc hW h hd => x_vret hx hb hr hlocks hW h hd
  have hl := lv_entry ([.ref (ad a0)]) (n := 1) (Nat.le_of_ble_eq_true rfl)
  rw [show entryFrame m args 1 = entryFrame m ([.ref (ad a0)] : List Value).toArray 1 from by rw [hav]]
  rw [lg_entry_eq]
  generalize (lg_sl ([.ref (ad a0)]) ++ List.replicate (1 - (lg_sl ([.ref (ad a0)])).length) Slot.unset).toArray = ls at hl ⊢
  have hl : lv_has ls 1 [(0, .ref (ad a0))] := hl
  show W p l e rmX9_clear s m args below meth c s.heap [] 0 0 _ _
  generalize MQ below (va_Qv post (xOut D KA layX st ad ids) (xA ad ids s.heap.size)) args s 0 0 (xA ad ids s.heap.size) = Q at kr ⊢
  have main : ∀ (H : Heap) (locs : List Loc) (ls : Array Slot), xW D KA layX st ad ids (xA ad ids s.heap.size) s.heap σ H locs → lv_has ls 1 [(0, .ref (ad a0))] → W p l e rmX9_clear s m args below meth c H locs 0 0 Q (F0 m 0 ls []) := by
    intro H locs ls hW hl
    unfold wX9_clear at h
    refine lv_aload_n hx hb dX9_clear_0 rfl (lv_at hl 0 rfl) ?_
    refine lv_iconst (v := 0) hx hb dX9_clear_1 (by decide) ?_
    refine xpX9_1 hx hb hts hown hK hW a0 hcX9_clear_X9 ok_a0.1 (lay_okT ok_a0) (hts _ hwX9_clear_0) dX9_clear_2 (fun σ1001 H locs hσ1001 hW => ?_)
    have h := h σ1001 hσ1001
    exact kr _ _ _ _ _ hW h dX9_clear_5
  exact main _ _ _ hW hl
theorem hwX7_readInto_0 : (.fieldLink RX7 15 "FortyBelts$Reader" "fed" "I" : Cond) ∈ wsX7_readInto := (List.mem_cons_of_mem _ (List.mem_append_left _ (List.mem_append_left _ (List.mem_append_left _ (List.mem_of_getElem? (i := 3) rfl)))))
theorem hwX7_readInto_1 : (.fieldLink RX7 41 "FortyBelts$Reader" "tokenPlace" "I" : Cond) ∈ wsX7_readInto := (List.mem_cons_of_mem _ (List.mem_append_left _ (List.mem_append_left _ (List.mem_append_left _ (List.mem_of_getElem? (i := 4) rfl)))))
theorem hwX7_readInto_2 : (.fieldLink RX7 38 "FortyBelts$Reader" "token" "I" : Cond) ∈ wsX7_readInto := (List.mem_cons_of_mem _ (List.mem_append_left _ (List.mem_append_left _ (List.mem_append_left _ (List.mem_of_getElem? (i := 2) rfl)))))
theorem hwX7_readInto_3 : (.fieldLink RX7 19 "FortyBelts$Reader" "text" "LFortyBelts$Text;" : Cond) ∈ wsX7_readInto := (List.mem_cons_of_mem _ (List.mem_append_left _ (List.mem_append_left _ (List.mem_append_left _ (List.mem_of_getElem? (i := 0) rfl)))))
theorem hwX7_readInto_4 : (.fieldLink RX7 28 "FortyBelts$Reader" "at" "I" : Cond) ∈ wsX7_readInto := (List.mem_cons_of_mem _ (List.mem_append_left _ (List.mem_append_left _ (List.mem_append_left _ (List.mem_of_getElem? (i := 1) rfl)))))
theorem hcX7_readInto_X7 : ∀ w ∈ wsX70, w ∈ wsX7_readInto := fun _ h => (List.mem_cons_of_mem _ (List.mem_append_left _ (List.mem_append_right _ h)))
set_option maxHeartbeats 4000000 in
set_option maxRecDepth 100000 in
theorem J_X7_readInto {D : va_G} {KA : Nat → ClassId} {zs : ZS} {ad : Nat → Nat} {ids : List Nat} {sz : Nat} (l : Launch) (hI : ∀ c, n7 c → c ∈ ids) {st : Nat → Nat → Option Nat} (hst : ∀ c, n7 c → st c = stX c) {a1 : Nat} (ok_a1 : okT ids a1) {σ : St} {post : Int32 → St → Prop} (h : wX7_readInto ids a1 σ post) : Met l yX7_readInto wsX7_readInto rmX7_readInto (va_Pc [.ref (ad 2), .ref (ad a1)] (xIn D KA zs layX st ad ids sz σ)) (va_Qi post (xOut D KA layX st ad ids) (xA ad ids sz)) 0 0 (xA ad ids sz) := by
  refine Met.ofW (cc := cX7_readInto) (maxL := 4) (ret := (some .int)) (by decide) rfl ?_
  intro p e s m args below meth c s₁ B hml hv
  obtain ⟨hav, hsz, hK, hZ, hP, hD⟩ := hv
  have hx := B.exec
  have hb := B.bytes
  have hr := B.returns
  have hts := atoms_spec (ws := wsX7_readInto) B.pre
  have hown : s.vm.findClass RX7 = some m.cls := findClass_of_methodNamed B.named
  have hlocks := B.notSynchronized
  subst hsz
  have hA : ∀ q : Nat, s.heap.size ≤ q → xA ad ids s.heap.size q := fun q h => Or.inr h
  have hW : xW D KA layX st ad ids (xA ad ids s.heap.size) s.heap σ s.heap [] := ⟨hP, xA_D (D := D) hD, va_S.rf⟩
  have kr : ∀ (v : Int32) (σ : St) (H : Heap) (locs : List Loc) (ls : Array Slot) (pc : Nat), xW D KA layX st ad ids (xA ad ids s.heap.size) s.heap σ H locs → post v σ → decode cX7_readInto pc = .ok (.ireturn, 1) → W p l e rmX7_readInto s m args below meth c H locs 0 0 (MQ below (va_Qi post (xOut D KA layX st ad ids) (xA ad ids s.heap.size)) args s 0 0 (xA ad ids s.heap.size)) (F0 m pc ls [.int v]) := fun v σ H locs ls pc hW h hd => x_iret hx hb hr hlocks hW h hd
  have hl := lv_entry ([.ref (ad 2), .ref (ad a1)]) (n := 4) (Nat.le_of_ble_eq_true rfl)
  rw [show entryFrame m args 4 = entryFrame m ([.ref (ad 2), .ref (ad a1)] : List Value).toArray 4 from by rw [hav]]
  rw [lg_entry_eq]
  generalize (lg_sl ([.ref (ad 2), .ref (ad a1)]) ++ List.replicate (4 - (lg_sl ([.ref (ad 2), .ref (ad a1)])).length) Slot.unset).toArray = ls at hl ⊢
  have hl : lv_has ls 4 [(0, .ref (ad 2)), (1, .ref (ad a1))] := hl
  show W p l e rmX7_readInto s m args below meth c s.heap [] 0 0 _ _
  generalize MQ below (va_Qi post (xOut D KA layX st ad ids) (xA ad ids s.heap.size)) args s 0 0 (xA ad ids s.heap.size) = Q at kr ⊢
  have blk80 : ∀ (s0 : Int32) (σ : St) (H : Heap) (locs : List Loc) (ls : Array Slot), xW D KA layX st ad ids (xA ad ids s.heap.size) s.heap σ H locs → lv_has ls 4 [] → wX7_readInto_80 ids post s0 σ → W p l e rmX7_readInto s m args below meth c H locs 0 0 Q (F0 m 80 ls [.int s0]) := by
    intro   s0 σ H locs ls hW hl h
    unfold wX7_readInto_80 at h
    exact kr _ _ _ _ _ _ hW h dX7_readInto_80
  have blk62 : ∀ (s0 : Int32) (σ : St) (H : Heap) (locs : List Loc) (ls : Array Slot), xW D KA layX st ad ids (xA ad ids s.heap.size) s.heap σ H locs → lv_has ls 4 [(0, .ref (ad 2))] → wX7_readInto_62 ids post s0 σ → W p l e rmX7_readInto s m args below meth c H locs 0 0 Q (F0 m 62 ls [.int s0]) := by
    intro   s0 σ H locs ls hW hl h
    unfold wX7_readInto_62 at h
    refine lv_istore_n (lv' := [(2, .int s0), (0, .ref (ad 2))]) hx hb dX7_readInto_62 rfl hl (by decide) rfl (fun ls hl => ?_)
    refine lv_aload_n hx hb dX7_readInto_63 rfl (lv_at hl 1 rfl) ?_
    refine lv_iconst (v := 0) hx hb dX7_readInto_64 (by decide) ?_
    refine xpX7_1 hx hb hts hown hK hW 2 hcX7_readInto_X7 (hI 2 (by decide)) lX_2 (hts _ hwX7_readInto_0) dX7_readInto_65 (fun σ1 H locs hσ1 hW => ?_)
    have h := h σ1 hσ1
    refine lv_iload_n hx hb dX7_readInto_68 rfl (lv_at hl 0 rfl) ?_
    refine lv_if_eq (tgt := 76) hx hb dX7_readInto_69 (by decide) (fun c2 => ?_) (fun c2 => ?_)
    · have h := h.1 c2
      refine lv_aload_n hx hb dX7_readInto_76 rfl (lv_at hl 1 rfl) ?_
      refine xgX7_4 hx hb hts hown hK hW 2 hcX7_readInto_X7 (hI 2 (by decide)) lX_2 (hts _ hwX7_readInto_1) dX7_readInto_77 ?_
      exact blk80   (gI σ1 2 4) _ _ _ _ hW (lv_sub hl [] rfl) h
    · have h := h.2 c2
      refine lv_iconst (v := (-1)) hx hb dX7_readInto_72 (by decide) ?_
      refine lv_goto (tgt := 80) hx hb dX7_readInto_73 (by decide) ?_
      exact blk80   (-1 : Int32) _ _ _ _ hW (lv_sub hl [] rfl) h
  have blk61 : ∀ (σ : St) (H : Heap) (locs : List Loc) (ls : Array Slot), xW D KA layX st ad ids (xA ad ids s.heap.size) s.heap σ H locs → lv_has ls 4 [(0, .ref (ad 2))] → wX7_readInto_61 ids post  σ → W p l e rmX7_readInto s m args below meth c H locs 0 0 Q (F0 m 61 ls []) := by
    intro    σ H locs ls hW hl h
    unfold wX7_readInto_61 at h
    refine lv_iconst (v := 0) hx hb dX7_readInto_61 (by decide) ?_
    exact blk62   (0 : Int32) _ _ _ _ hW (lv_sub hl [0] rfl) h
  have blk46 : ∀ (x2 : Int32) (σ : St) (H : Heap) (locs : List Loc) (ls : Array Slot), xW D KA layX st ad ids (xA ad ids s.heap.size) s.heap σ H locs → lv_has ls 4 [(0, .ref (ad 2)), (2, .int x2)] → wX7_readInto_46 ids post x2 σ → W p l e rmX7_readInto s m args below meth c H locs 0 0 Q (F0 m 46 ls []) := by
    intro   x2 σ H locs ls hW hl h
    unfold wX7_readInto_46 at h
    refine lv_iload_n hx hb dX7_readInto_46 rfl (lv_at hl 1 rfl) ?_
    refine lv_if_eq (tgt := 61) hx hb dX7_readInto_47 (by decide) (fun c3 => ?_) (fun c3 => ?_)
    · have h := h.1 c3
      exact blk61    _ _ _ _ hW (lv_sub hl [0] rfl) h
    · have h := h.2 c3
      refine lv_aload_n hx hb dX7_readInto_50 rfl (lv_at hl 0 rfl) ?_
      refine xgX7_3 hx hb hts hown hK hW 2 hcX7_readInto_X7 (hI 2 (by decide)) lX_2 (hts _ hwX7_readInto_2) dX7_readInto_51 ?_
      refine lv_if_ne (tgt := 61) hx hb dX7_readInto_54 (by decide) (fun c4 => ?_) (fun c4 => ?_)
      · have h := h.1 c4
        exact blk61    _ _ _ _ hW (lv_sub hl [0] rfl) h
      · have h := h.2 c4
        refine lv_iconst (v := 1) hx hb dX7_readInto_57 (by decide) ?_
        refine lv_goto (tgt := 62) hx hb dX7_readInto_58 (by decide) ?_
        exact blk62   (1 : Int32) _ _ _ _ hW (lv_sub hl [0] rfl) h
  have blk25 : ∀ (n : Nat) (x2 : Int32) (x3 : Int32) (σ : St) (H : Heap) (locs : List Loc) (ls : Array Slot), xW D KA layX st ad ids (xA ad ids s.heap.size) s.heap σ H locs → lv_has ls 4 [(0, .ref (ad 2)), (2, .int x2), (3, .int x3)] → wX7_readInto_25 ids post  n x2 x3 σ → W p l e rmX7_readInto s m args below meth c H locs 0 0 Q (F0 m 25 ls []) := by
    intro    n
    induction n with
    | zero => intro x2 x3 σ H locs ls hW hl h; exact (h : False).elim
    | succ n ih =>
      intro x2 x3 σ H locs ls hW hl h
      have hk25 : ∀ (x2 : Int32) (x3 : Int32) (σ : St) (H : Heap) (locs : List Loc) (ls : Array Slot), xW D KA layX st ad ids (xA ad ids s.heap.size) s.heap σ H locs → lv_has ls 4 [(0, .ref (ad 2)), (2, .int x2), (3, .int x3)] → (wX7_readInto_25 ids post  n) x2 x3 σ → W p l e rmX7_readInto s m args below meth c H locs 0 0 Q (F0 m 25 ls []) := fun x2 x3 σ H locs ls hW hl h => ih x2 x3 σ H locs ls hW hl h
      rw [wX7_readInto_25_s] at h
      try dsimp only at h
      generalize wX7_readInto_25 ids post  n = k25 at h hk25
      refine lv_iload_n hx hb dX7_readInto_25 rfl (lv_at hl 2 rfl) ?_
      refine lv_iconst (v := 3) hx hb dX7_readInto_26 (by decide) ?_
      refine lv_icmp_ge (tgt := 46) hx hb dX7_readInto_27 (by decide) (fun c5 => ?_) (fun c5 => ?_)
      · have h := h.1 c5
        exact blk46   x2 _ _ _ _ hW (lv_sub hl [0, 1] rfl) h
      · have h := h.2 c5
        refine lv_iload_n hx hb dX7_readInto_30 rfl (lv_at hl 1 rfl) ?_
        refine lv_if_eq (tgt := 46) hx hb dX7_readInto_31 (by decide) (fun c6 => ?_) (fun c6 => ?_)
        · have h := h.1 c6
          exact blk46   x2 _ _ _ _ hW (lv_sub hl [0, 1] rfl) h
        · have h := h.2 c6
          refine lv_aload_n hx hb dX7_readInto_34 rfl (lv_at hl 0 rfl) ?_
          refine lv_iload_n hx hb dX7_readInto_35 rfl (lv_at hl 2 rfl) ?_
          refine x_calli (va_runV (As := [.int x3]) (rest := []) ⟨hx, hb, hml, hown, hts⟩ (J_X7_readPart l hI hst h) (cwV 1 hts gX7_readInto_X7_readPart rfl rfl rfl hdV_X7_readPart ⟨Nat.le_of_ble_eq_true rfl, Nat.le_of_ble_eq_true rfl⟩) (x_preV (ci := 7) hK hZ hA hW (hI 2 (by decide)) lX_2 rfl) rfl rfl hl.1 rfl (lv_room (Nat.le_of_ble_eq_true rfl)) dX7_readInto_36 ⟨Nat.zero_le _, Nat.zero_le _⟩) hW hA (fun r8 σ7 H locs h hW => ?_)
          try dsimp only at h
          refine lv_istore_n (lv' := [(2, .int r8), (0, .ref (ad 2)), (3, .int x3)]) hx hb dX7_readInto_39 rfl hl (by decide) rfl (fun ls hl => ?_)
          obtain ⟨v9, hv9⟩ : ∃ y : Int32, y = x3 + (1 : Int32) := ⟨_, rfl⟩
          have h := h v9 hv9
          refine lv_iinc (v := v9) (lv' := [(3, .int v9), (2, .int r8), (0, .ref (ad 2))]) hx hb dX7_readInto_40 hl (k := 2) rfl (by rw [hv9]; rfl) (by decide) rfl (fun ls hl => ?_)
          refine lv_goto (tgt := 25) hx hb dX7_readInto_43 (by decide) ?_
          exact hk25 r8 v9 _ _ _ _ hW (lv_sub hl [2, 1, 0] rfl) h
  have main : ∀ (H : Heap) (locs : List Loc) (ls : Array Slot), xW D KA layX st ad ids (xA ad ids s.heap.size) s.heap σ H locs → lv_has ls 4 [(0, .ref (ad 2)), (1, .ref (ad a1))] → W p l e rmX7_readInto s m args below meth c H locs 0 0 Q (F0 m 0 ls []) := by
    intro H locs ls hW hl
    unfold wX7_readInto at h
    refine lv_aload_n hx hb dX7_readInto_0 rfl (lv_at hl 0 rfl) ?_
    refine lv_aload_n hx hb dX7_readInto_1 rfl (lv_at hl 1 rfl) ?_
    refine xpX7_6 hx hb hts hown hK hW 2 hcX7_readInto_X7 (hI 2 (by decide)) lX_2 (hts _ hwX7_readInto_3) (s7_none hst) dX7_readInto_2 (fun σ1001 H locs hσ1001 hW => ?_)
    have h := h σ1001 hσ1001
    refine lv_aload_n hx hb dX7_readInto_5 rfl (lv_at hl 0 rfl) ?_
    obtain ⟨t1002, hr1003, ok1004, h⟩ := h
    refine xgX7_6r hx hb hts hown hK hW 2 hcX7_readInto_X7 (hI 2 (by decide)) lX_2 (hts _ hwX7_readInto_3) (s7_2_6 hst hr1003) dX7_readInto_6 ?_
    refine x_callv (va_runV (As := []) (rest := []) ⟨hx, hb, hml, hown, hts⟩ (J_X9_clear l hI hst ok1004 h) (cwV 0 hts gX7_readInto_X9_clear rfl rfl rfl hdV_X9_clear ⟨Nat.le_of_ble_eq_true rfl, Nat.le_of_ble_eq_true rfl⟩) (x_preV (ci := 9) hK hZ hA hW ok1004.1 (lay_okT ok1004) rfl) rfl rfl hl.1 rfl (lv_room (Nat.le_of_ble_eq_true rfl)) dX7_readInto_9 ⟨Nat.zero_le _, Nat.zero_le _⟩) hW hA (fun σ1005 H locs h hW => ?_)
    try dsimp only at h
    refine lv_aload_n hx hb dX7_readInto_12 rfl (lv_at hl 0 rfl) ?_
    refine lv_iconst (v := 0) hx hb dX7_readInto_13 (by decide) ?_
    refine xpX7_2 hx hb hts hown hK hW 2 hcX7_readInto_X7 (hI 2 (by decide)) lX_2 (hts _ hwX7_readInto_4) dX7_readInto_14 (fun σ1006 H locs hσ1006 hW => ?_)
    have h := h σ1006 hσ1006
    refine lv_aload_n hx hb dX7_readInto_17 rfl (lv_at hl 0 rfl) ?_
    refine x_callv (va_runV (As := []) (rest := []) ⟨hx, hb, hml, hown, hts⟩ (J_X7_next l hI hst h) (cwV 0 hts gX7_readInto_X7_next rfl rfl rfl hdV_X7_next ⟨Nat.le_of_ble_eq_true rfl, Nat.le_of_ble_eq_true rfl⟩) (x_preV (ci := 7) hK hZ hA hW (hI 2 (by decide)) lX_2 rfl) rfl rfl hl.1 rfl (lv_room (Nat.le_of_ble_eq_true rfl)) dX7_readInto_18 ⟨Nat.zero_le _, Nat.zero_le _⟩) hW hA (fun σ1007 H locs h hW => ?_)
    try dsimp only at h
    refine lv_iconst (v := 1) hx hb dX7_readInto_21 (by decide) ?_
    refine lv_istore_n (lv' := [(2, .int (1 : Int32)), (0, .ref (ad 2)), (1, .ref (ad a1))]) hx hb dX7_readInto_22 rfl hl (by decide) rfl (fun ls hl => ?_)
    refine lv_iconst (v := 0) hx hb dX7_readInto_23 (by decide) ?_
    refine lv_istore_n (lv' := [(3, .int (0 : Int32)), (2, .int (1 : Int32)), (0, .ref (ad 2)), (1, .ref (ad a1))]) hx hb dX7_readInto_24 rfl hl (by decide) rfl (fun ls hl => ?_)
    obtain ⟨n, h⟩ := h
    exact blk25    n (1 : Int32) (0 : Int32) _ _ _ _ hW (lv_sub hl [2, 1, 0] rfl) h
  exact main _ _ _ hW hl
theorem hwX8_init_0 : (.methodLink RX8 1 objectInit : Cond) ∈ wsX8_init := (List.mem_cons_of_mem _ (List.mem_append_left _ (List.mem_of_getElem? (i := 0) rfl)))
theorem hwX8_init_1 : (.instanceMethod objectInit : Cond) ∈ wsX8_init := (List.mem_cons_of_mem _ (List.mem_append_left _ (List.mem_of_getElem? (i := 1) rfl)))
theorem hwX8_init_2 : (.code objectInit ⟨#[0xb1]⟩ 1 none : Cond) ∈ wsX8_init := (List.mem_cons_of_mem _ (List.mem_append_left _ (List.mem_of_getElem? (i := 2) rfl)))
theorem hwX8_init_3 : (.fieldLink RX8 9 "FortyBelts$Sheet" "sort" "I" : Cond) ∈ wsX8_init := (List.mem_cons_of_mem _ (List.mem_append_left _ (List.mem_of_getElem? (i := 3) rfl)))
theorem hwX8_init_4 : (.arrayClass .int : Cond) ∈ wsX8_init := (List.mem_cons_of_mem _ (List.mem_append_left _ (List.mem_of_getElem? (i := 4) rfl)))
theorem hwX8_init_5 : (.fieldLink RX8 13 "FortyBelts$Sheet" "items" "[I" : Cond) ∈ wsX8_init := (List.mem_cons_of_mem _ (List.mem_append_left _ (List.mem_of_getElem? (i := 5) rfl)))
theorem hcX8_init_X8 : ∀ w ∈ wsX80, w ∈ wsX8_init := fun _ h => (List.mem_cons_of_mem _ (List.mem_append_right _ h))
set_option maxHeartbeats 16000000 in
set_option maxRecDepth 100000 in
theorem J_X8_init {D : va_G} {KA : Nat → ClassId} {zs : ZS} {ad : Nat → Nat} {ids : List Nat} {sz : Nat} (l : Launch) {a0 : Nat} {st : Nat → Nat → Option Nat} (hs_this : ∀ k, st a0 k = none) (ok_a0 : okS ids a0) {σ : St} {post : St → List Nat → Prop} (h : wX8_init st ids a0 σ post) : Met l yX8_init wsX8_init rmX8_init (va_Pc [.ref (ad a0)] (xIn D KA zs layX st ad ids sz σ)) (va_Qv (S := St × (Nat → Nat) × List Nat) (fun u => post u.1 u.2.2) (xOutA D KA layX st ad ids sz) (xA ad ids sz)) 1 40 (xA ad ids sz) := by
  refine Met.ofW (cc := cX8_init) (maxL := 1) (ret := none) (by decide) rfl ?_
  intro p e s m args below meth c s₁ B hml hv
  obtain ⟨hav, hsz, hK, hZ, hP, hD⟩ := hv
  have hx := B.exec
  have hb := B.bytes
  have hr := B.returns
  have hts := atoms_spec (ws := wsX8_init) B.pre
  have hown : s.vm.findClass RX8 = some m.cls := findClass_of_methodNamed B.named
  have hlocks := B.notSynchronized
  have hin2 : meth.name = "<init>" := (name_of_methodNamed B.named B.method).1
  subst hsz
  have hA : ∀ q : Nat, s.heap.size ≤ q → xA ad ids s.heap.size q := fun q h => Or.inr h
  have hW : xW D KA layX st ad ids (xA ad ids s.heap.size) s.heap σ s.heap [] := ⟨hP, xA_D (D := D) hD, va_S.rf⟩
  have kr : ∀ (σ : St) (ad' : Nat → Nat) (ids' : List Nat) (H : Heap) (locs : List Loc) (ls : Array Slot) (pc : Nat), xW D KA layX st ad' ids' (xA ad ids s.heap.size) s.heap σ H locs → (∀ c ∈ ids, ad' c = ad c) → (∀ c ∈ ids, c ∈ ids') → post σ ids' → decode cX8_init pc = .ok (.return_, 1) → W p l e rmX8_init s m args below meth c H locs 1 40 (MQ below (va_Qv (S := St × (Nat → Nat) × List Nat) (fun u => post u.1 u.2.2) (xOutA D KA layX st ad ids s.heap.size) (xA ad ids s.heap.size)) args s 1 40 (xA ad ids s.heap.size)) (F0 m pc ls []) := fun σ ad' ids' H locs ls pc hW he hs h hd => x_vretA hx hb hr hlocks hW he hs h hd
  have hl := lv_entry ([.ref (ad a0)]) (n := 1) (Nat.le_of_ble_eq_true rfl)
  rw [show entryFrame m args 1 = entryFrame m ([.ref (ad a0)] : List Value).toArray 1 from by rw [hav]]
  rw [lg_entry_eq]
  generalize (lg_sl ([.ref (ad a0)]) ++ List.replicate (1 - (lg_sl ([.ref (ad a0)])).length) Slot.unset).toArray = ls at hl ⊢
  have hl : lv_has ls 1 [(0, .ref (ad a0))] := hl
  show W p l e rmX8_init s m args below meth c s.heap [] 0 0 _ _
  generalize MQ below (va_Qv (S := St × (Nat → Nat) × List Nat) (fun u => post u.1 u.2.2) (xOutA D KA layX st ad ids s.heap.size) (xA ad ids s.heap.size)) args s 1 40 (xA ad ids s.heap.size) = Q at kr ⊢
  unfold wX8_init at h
  refine lv_aload_n hx hb dX8_init_0 rfl (lv_at hl 0 rfl) ?_
  refine W.objInit hx hb hown (hts _ hwX8_init_0) (hts _ hwX8_init_1) (hts _ hwX8_init_2) rfl (by rw [hml]; exact hl.1) rfl dX8_init_1 (Nat.le_of_ble_eq_true rfl) (Nat.le_of_ble_eq_true rfl) ?_
  refine W.eq (g2 := F0 m 4 ls []) rfl ?_
  refine lv_aload_n hx hb dX8_init_4 rfl (lv_at hl 0 rfl) ?_
  refine lv_iconst (v := (-1)) hx hb dX8_init_5 (by decide) ?_
  refine xpX8_0 hx hb hts hown hK hW a0 hcX8_init_X8 ok_a0.1 (lay_okS ok_a0) (hts _ hwX8_init_3) dX8_init_6 (fun σ1001 H locs hσ1001 hW => ?_)
  have h := h σ1001 hσ1001
  refine lv_aload_n hx hb dX8_init_9 rfl (lv_at hl 0 rfl) ?_
  refine lv_bipush (v := 40) hx hb dX8_init_10 (by decide) ?_
  obtain ⟨⟨hq1002a, hq1002d, hq1002r⟩, h⟩ := h
  refine x_newi hx hb hts hwX8_init_4 hK hW hA (a0 + 1) 40 hq1002d hq1002a hq1002r (by decide) rfl (Nat.le_of_ble_eq_true rfl) (Nat.le_of_ble_eq_true rfl) (Nat.le_of_ble_eq_true rfl) dX8_init_12 (fun ad1004 H hAd1005 hW => ?_)
  obtain ⟨σ1003, hσ1003⟩ : ∃ τ, τ = nC σ1001 (a0 + 1) := ⟨_, rfl⟩
  rw [← hσ1003] at hW
  obtain ⟨ids1006, hids1006⟩ : ∃ x, x = ids ++ [(a0 + 1)] := ⟨_, rfl⟩
  rw [← hids1006] at hW
  have h := h σ1003 hσ1003 ids1006 hids1006
  have e1007 : ad a0 = ad1004 a0 := (hAd1005 _ (x_ne ok_a0.1 hq1002d)).symm
  rw [e1007] at hl
  rw [e1007]
  refine xfX8_2 hx hb hts hown hK hW a0 hcX8_init_X8 (okS_sub (fun _ h => (x_mL hids1006 h)) ok_a0).1 (lay_okS (okS_sub (fun _ h => (x_mL hids1006 h)) ok_a0)) (hts _ hwX8_init_5) hin2 rfl (hs_this 2) dX8_init_14 (fun σ1008 H locs hσ1008 hW => ?_)
  have h := h σ1008 hσ1008
  refine W.widen (k := 1) (n := 40) (Nat.le_of_ble_eq_true rfl) (Nat.le_of_ble_eq_true rfl) ?_
  exact kr _ _ _ _ _ _ _ hW (fun c hc => (hAd1005 c (x_ne hc hq1002d)).trans ((fun _ _ => rfl) c hc)) (fun c hc => (x_mL hids1006 hc)) h dX8_init_17
theorem hwX9_init_0 : (.methodLink RX9 1 objectInit : Cond) ∈ wsX9_init := (List.mem_cons_of_mem _ (List.mem_append_left _ (List.mem_of_getElem? (i := 0) rfl)))
theorem hwX9_init_1 : (.instanceMethod objectInit : Cond) ∈ wsX9_init := (List.mem_cons_of_mem _ (List.mem_append_left _ (List.mem_of_getElem? (i := 1) rfl)))
theorem hwX9_init_2 : (.code objectInit ⟨#[0xb1]⟩ 1 none : Cond) ∈ wsX9_init := (List.mem_cons_of_mem _ (List.mem_append_left _ (List.mem_of_getElem? (i := 2) rfl)))
theorem hwX9_init_3 : (.arrayClass .int : Cond) ∈ wsX9_init := (List.mem_cons_of_mem _ (List.mem_append_left _ (List.mem_of_getElem? (i := 3) rfl)))
theorem hwX9_init_4 : (.fieldLink RX9 9 "FortyBelts$Text" "steps" "[I" : Cond) ∈ wsX9_init := (List.mem_cons_of_mem _ (List.mem_append_left _ (List.mem_of_getElem? (i := 4) rfl)))
theorem hwX9_init_5 : (.fieldLink RX9 15 "FortyBelts$Text" "ends" "[I" : Cond) ∈ wsX9_init := (List.mem_cons_of_mem _ (List.mem_append_left _ (List.mem_of_getElem? (i := 5) rfl)))
theorem hwX9_init_6 : (.fieldLink RX9 18 "FortyBelts$Text" "values" "[I" : Cond) ∈ wsX9_init := (List.mem_cons_of_mem _ (List.mem_append_left _ (List.mem_of_getElem? (i := 6) rfl)))
theorem hcX9_init_X9 : ∀ w ∈ wsX90, w ∈ wsX9_init := fun _ h => (List.mem_cons_of_mem _ (List.mem_append_right _ h))
set_option maxHeartbeats 16000000 in
set_option maxRecDepth 100000 in
theorem J_X9_init {D : va_G} {KA : Nat → ClassId} {zs : ZS} {ad : Nat → Nat} {ids : List Nat} {sz : Nat} (l : Launch) {a0 : Nat} {st : Nat → Nat → Option Nat} (hs_this : ∀ k, st a0 k = none) (ok_a0 : okT ids a0) {σ : St} {post : St → List Nat → Prop} (h : wX9_init st ids a0 σ post) : Met l yX9_init wsX9_init rmX9_init (va_Pc [.ref (ad a0)] (xIn D KA zs layX st ad ids sz σ)) (va_Qv (S := St × (Nat → Nat) × List Nat) (fun u => post u.1 u.2.2) (xOutA D KA layX st ad ids sz) (xA ad ids sz)) 3 243 (xA ad ids sz) := by
  refine Met.ofW (cc := cX9_init) (maxL := 1) (ret := none) (by decide) rfl ?_
  intro p e s m args below meth c s₁ B hml hv
  obtain ⟨hav, hsz, hK, hZ, hP, hD⟩ := hv
  have hx := B.exec
  have hb := B.bytes
  have hr := B.returns
  have hts := atoms_spec (ws := wsX9_init) B.pre
  have hown : s.vm.findClass RX9 = some m.cls := findClass_of_methodNamed B.named
  have hlocks := B.notSynchronized
  have hin2 : meth.name = "<init>" := (name_of_methodNamed B.named B.method).1
  subst hsz
  have hA : ∀ q : Nat, s.heap.size ≤ q → xA ad ids s.heap.size q := fun q h => Or.inr h
  have hW : xW D KA layX st ad ids (xA ad ids s.heap.size) s.heap σ s.heap [] := ⟨hP, xA_D (D := D) hD, va_S.rf⟩
  have kr : ∀ (σ : St) (ad' : Nat → Nat) (ids' : List Nat) (H : Heap) (locs : List Loc) (ls : Array Slot) (pc : Nat), xW D KA layX st ad' ids' (xA ad ids s.heap.size) s.heap σ H locs → (∀ c ∈ ids, ad' c = ad c) → (∀ c ∈ ids, c ∈ ids') → post σ ids' → decode cX9_init pc = .ok (.return_, 1) → W p l e rmX9_init s m args below meth c H locs 3 243 (MQ below (va_Qv (S := St × (Nat → Nat) × List Nat) (fun u => post u.1 u.2.2) (xOutA D KA layX st ad ids s.heap.size) (xA ad ids s.heap.size)) args s 3 243 (xA ad ids s.heap.size)) (F0 m pc ls []) := fun σ ad' ids' H locs ls pc hW he hs h hd => x_vretA hx hb hr hlocks hW he hs h hd
  have hl := lv_entry ([.ref (ad a0)]) (n := 1) (Nat.le_of_ble_eq_true rfl)
  rw [show entryFrame m args 1 = entryFrame m ([.ref (ad a0)] : List Value).toArray 1 from by rw [hav]]
  rw [lg_entry_eq]
  generalize (lg_sl ([.ref (ad a0)]) ++ List.replicate (1 - (lg_sl ([.ref (ad a0)])).length) Slot.unset).toArray = ls at hl ⊢
  have hl : lv_has ls 1 [(0, .ref (ad a0))] := hl
  show W p l e rmX9_init s m args below meth c s.heap [] 0 0 _ _
  generalize MQ below (va_Qv (S := St × (Nat → Nat) × List Nat) (fun u => post u.1 u.2.2) (xOutA D KA layX st ad ids s.heap.size) (xA ad ids s.heap.size)) args s 3 243 (xA ad ids s.heap.size) = Q at kr ⊢
  unfold wX9_init at h
  refine lv_aload_n hx hb dX9_init_0 rfl (lv_at hl 0 rfl) ?_
  refine W.objInit hx hb hown (hts _ hwX9_init_0) (hts _ hwX9_init_1) (hts _ hwX9_init_2) rfl (by rw [hml]; exact hl.1) rfl dX9_init_1 (Nat.le_of_ble_eq_true rfl) (Nat.le_of_ble_eq_true rfl) ?_
  refine W.eq (g2 := F0 m 4 ls []) rfl ?_
  refine lv_aload_n hx hb dX9_init_4 rfl (lv_at hl 0 rfl) ?_
  refine lv_sipush (v := 160) hx hb dX9_init_5 (by decide) ?_
  obtain ⟨⟨hq1001a, hq1001d, hq1001r⟩, h⟩ := h
  refine x_newi hx hb hts hwX9_init_3 hK hW hA (a0 + 1) 160 hq1001d hq1001a hq1001r (by decide) rfl (Nat.le_of_ble_eq_true rfl) (Nat.le_of_ble_eq_true rfl) (Nat.le_of_ble_eq_true rfl) dX9_init_8 (fun ad1003 H hAd1004 hW => ?_)
  obtain ⟨σ1002, hσ1002⟩ : ∃ τ, τ = nC σ (a0 + 1) := ⟨_, rfl⟩
  rw [← hσ1002] at hW
  obtain ⟨ids1005, hids1005⟩ : ∃ x, x = ids ++ [(a0 + 1)] := ⟨_, rfl⟩
  rw [← hids1005] at hW
  have h := h σ1002 hσ1002 ids1005 hids1005
  have e1006 : ad a0 = ad1003 a0 := (hAd1004 _ (x_ne ok_a0.1 hq1001d)).symm
  rw [e1006] at hl
  rw [e1006]
  refine xfX9_0 hx hb hts hown hK hW a0 hcX9_init_X9 (okT_sub (fun _ h => (x_mL hids1005 h)) ok_a0).1 (lay_okT (okT_sub (fun _ h => (x_mL hids1005 h)) ok_a0)) (hts _ hwX9_init_4) hin2 rfl (hs_this 0) dX9_init_10 (fun σ1007 H locs hσ1007 hW => ?_)
  have h := h σ1007 hσ1007
  refine lv_aload_n hx hb dX9_init_13 rfl (lv_at hl 0 rfl) ?_
  refine lv_iconst (v := 3) hx hb dX9_init_14 (by decide) ?_
  obtain ⟨⟨hq1008a, hq1008d, hq1008r⟩, h⟩ := h
  refine x_newi hx hb hts hwX9_init_3 hK hW hA (a0 + 2) 3 hq1008d hq1008a hq1008r (by decide) rfl (Nat.le_of_ble_eq_true rfl) (Nat.le_of_ble_eq_true rfl) (Nat.le_of_ble_eq_true rfl) dX9_init_15 (fun ad1010 H hAd1011 hW => ?_)
  obtain ⟨σ1009, hσ1009⟩ : ∃ τ, τ = nC σ1007 (a0 + 2) := ⟨_, rfl⟩
  rw [← hσ1009] at hW
  obtain ⟨ids1012, hids1012⟩ : ∃ x, x = ids1005 ++ [(a0 + 2)] := ⟨_, rfl⟩
  rw [← hids1012] at hW
  have h := h σ1009 hσ1009 ids1012 hids1012
  have e1013 : ad1003 a0 = ad1010 a0 := (hAd1011 _ (x_ne (okT_sub (fun _ h => (x_mL hids1005 h)) ok_a0).1 hq1008d)).symm
  rw [e1013] at hl
  rw [e1013]
  refine xfX9_2 hx hb hts hown hK hW a0 hcX9_init_X9 (okT_sub (fun _ h => (x_mL hids1012 h)) (okT_sub (fun _ h => (x_mL hids1005 h)) ok_a0)).1 (lay_okT (okT_sub (fun _ h => (x_mL hids1012 h)) (okT_sub (fun _ h => (x_mL hids1005 h)) ok_a0))) (hts _ hwX9_init_5) hin2 rfl (hs_this 2) dX9_init_17 (fun σ1014 H locs hσ1014 hW => ?_)
  have h := h σ1014 hσ1014
  refine lv_aload_n hx hb dX9_init_20 rfl (lv_at hl 0 rfl) ?_
  refine lv_bipush (v := 80) hx hb dX9_init_21 (by decide) ?_
  obtain ⟨⟨hq1015a, hq1015d, hq1015r⟩, h⟩ := h
  refine x_newi hx hb hts hwX9_init_3 hK hW hA (a0 + 3) 80 hq1015d hq1015a hq1015r (by decide) rfl (Nat.le_of_ble_eq_true rfl) (Nat.le_of_ble_eq_true rfl) (Nat.le_of_ble_eq_true rfl) dX9_init_23 (fun ad1017 H hAd1018 hW => ?_)
  obtain ⟨σ1016, hσ1016⟩ : ∃ τ, τ = nC σ1014 (a0 + 3) := ⟨_, rfl⟩
  rw [← hσ1016] at hW
  obtain ⟨ids1019, hids1019⟩ : ∃ x, x = ids1012 ++ [(a0 + 3)] := ⟨_, rfl⟩
  rw [← hids1019] at hW
  have h := h σ1016 hσ1016 ids1019 hids1019
  have e1020 : ad1010 a0 = ad1017 a0 := (hAd1018 _ (x_ne (okT_sub (fun _ h => (x_mL hids1012 h)) (okT_sub (fun _ h => (x_mL hids1005 h)) ok_a0)).1 hq1015d)).symm
  rw [e1020] at hl
  rw [e1020]
  refine xfX9_3 hx hb hts hown hK hW a0 hcX9_init_X9 (okT_sub (fun _ h => (x_mL hids1019 h)) (okT_sub (fun _ h => (x_mL hids1012 h)) (okT_sub (fun _ h => (x_mL hids1005 h)) ok_a0))).1 (lay_okT (okT_sub (fun _ h => (x_mL hids1019 h)) (okT_sub (fun _ h => (x_mL hids1012 h)) (okT_sub (fun _ h => (x_mL hids1005 h)) ok_a0)))) (hts _ hwX9_init_6) hin2 rfl (hs_this 3) dX9_init_25 (fun σ1021 H locs hσ1021 hW => ?_)
  have h := h σ1021 hσ1021
  refine W.widen (k := 3) (n := 243) (Nat.le_of_ble_eq_true rfl) (Nat.le_of_ble_eq_true rfl) ?_
  exact kr _ _ _ _ _ _ _ hW (fun c hc => (hAd1018 c (x_ne (x_mL hids1012 (x_mL hids1005 hc)) hq1015d)).trans ((fun c hc => (hAd1011 c (x_ne (x_mL hids1005 hc) hq1008d)).trans ((fun c hc => (hAd1004 c (x_ne hc hq1001d)).trans ((fun _ _ => rfl) c hc)) c hc)) c hc)) (fun c hc => (x_mL hids1019 (x_mL hids1012 (x_mL hids1005 hc)))) h dX9_init_28
theorem hwX11_init_0 : (.methodLink RX11 1 objectInit : Cond) ∈ wsX11_init := (List.mem_cons_of_mem _ (List.mem_append_left _ (List.mem_append_left _ (List.mem_append_left _ (List.mem_append_left _ (List.mem_append_left _ (List.mem_append_left _ (List.mem_of_getElem? (i := 0) rfl))))))))
theorem hwX11_init_1 : (.instanceMethod objectInit : Cond) ∈ wsX11_init := (List.mem_cons_of_mem _ (List.mem_append_left _ (List.mem_append_left _ (List.mem_append_left _ (List.mem_append_left _ (List.mem_append_left _ (List.mem_append_left _ (List.mem_of_getElem? (i := 1) rfl))))))))
theorem hwX11_init_2 : (.code objectInit ⟨#[0xb1]⟩ 1 none : Cond) ∈ wsX11_init := (List.mem_cons_of_mem _ (List.mem_append_left _ (List.mem_append_left _ (List.mem_append_left _ (List.mem_append_left _ (List.mem_append_left _ (List.mem_append_left _ (List.mem_of_getElem? (i := 2) rfl))))))))
theorem hwX11_init_3 : (.classLink RX11 7 RX6 : Cond) ∈ wsX11_init := (List.mem_cons_of_mem _ (List.mem_append_left _ (List.mem_append_left _ (List.mem_append_left _ (List.mem_append_left _ (List.mem_append_left _ (List.mem_append_left _ (List.mem_of_getElem? (i := 3) rfl))))))))
theorem hwX11_init_4 : (.instantiable RX6 18 : Cond) ∈ wsX11_init := (List.mem_cons_of_mem _ (List.mem_append_left _ (List.mem_append_left _ (List.mem_append_left _ (List.mem_append_left _ (List.mem_append_left _ (List.mem_append_left _ (List.mem_of_getElem? (i := 4) rfl))))))))
theorem hwX11_init_5 : (.initialized RX6 : Cond) ∈ wsX11_init := (List.mem_cons_of_mem _ (List.mem_append_left _ (List.mem_append_left _ (List.mem_append_left _ (List.mem_append_left _ (List.mem_append_left _ (List.mem_append_left _ (List.mem_of_getElem? (i := 5) rfl))))))))
theorem hwX11_init_6 : (.instanceMethod yX6_init : Cond) ∈ wsX11_init := (List.mem_cons_of_mem _ (List.mem_append_left _ (List.mem_append_left _ (List.mem_append_left _ (List.mem_append_left _ (List.mem_append_left _ (List.mem_append_right _ (List.mem_append_left _ (List.mem_of_getElem? (i := 0) rfl)))))))))
theorem hwX11_init_7 : (.fieldLink RX11 10 "FortyBelts" "mill" "LFortyBelts$Mill;" : Cond) ∈ wsX11_init := (List.mem_cons_of_mem _ (List.mem_append_left _ (List.mem_append_left _ (List.mem_append_left _ (List.mem_append_left _ (List.mem_append_left _ (List.mem_append_left _ (List.mem_of_getElem? (i := 6) rfl))))))))
theorem hwX11_init_8 : (.classLink RX11 16 RX7 : Cond) ∈ wsX11_init := (List.mem_cons_of_mem _ (List.mem_append_left _ (List.mem_append_left _ (List.mem_append_left _ (List.mem_append_left _ (List.mem_append_left _ (List.mem_append_left _ (List.mem_of_getElem? (i := 7) rfl))))))))
theorem hwX11_init_9 : (.instantiable RX7 7 : Cond) ∈ wsX11_init := (List.mem_cons_of_mem _ (List.mem_append_left _ (List.mem_append_left _ (List.mem_append_left _ (List.mem_append_left _ (List.mem_append_left _ (List.mem_append_left _ (List.mem_of_getElem? (i := 8) rfl))))))))
theorem hwX11_init_10 : (.initialized RX7 : Cond) ∈ wsX11_init := (List.mem_cons_of_mem _ (List.mem_append_left _ (List.mem_append_left _ (List.mem_append_left _ (List.mem_append_left _ (List.mem_append_left _ (List.mem_append_left _ (List.mem_of_getElem? (i := 9) rfl))))))))
theorem hwX11_init_11 : (.instanceMethod yX7_init : Cond) ∈ wsX11_init := (List.mem_cons_of_mem _ (List.mem_append_left _ (List.mem_append_left _ (List.mem_append_left _ (List.mem_append_left _ (List.mem_append_left _ (List.mem_append_right _ (List.mem_append_left _ (List.mem_of_getElem? (i := 18) rfl)))))))))
theorem hwX11_init_12 : (.fieldLink RX11 19 "FortyBelts" "reader" "LFortyBelts$Reader;" : Cond) ∈ wsX11_init := (List.mem_cons_of_mem _ (List.mem_append_left _ (List.mem_append_left _ (List.mem_append_left _ (List.mem_append_left _ (List.mem_append_left _ (List.mem_append_left _ (List.mem_of_getElem? (i := 10) rfl))))))))
theorem hwX11_init_13 : (.classLink RX11 23 RX9 : Cond) ∈ wsX11_init := (List.mem_cons_of_mem _ (List.mem_append_left _ (List.mem_append_left _ (List.mem_append_left _ (List.mem_append_left _ (List.mem_append_left _ (List.mem_append_left _ (List.mem_of_getElem? (i := 11) rfl))))))))
theorem hwX11_init_14 : (.fieldLink RX11 25 "FortyBelts" "texts" "[LFortyBelts$Text;" : Cond) ∈ wsX11_init := (List.mem_cons_of_mem _ (List.mem_append_left _ (List.mem_append_left _ (List.mem_append_left _ (List.mem_append_left _ (List.mem_append_left _ (List.mem_append_left _ (List.mem_of_getElem? (i := 12) rfl))))))))
theorem hwX11_init_15 : (.instantiable RX9 5 : Cond) ∈ wsX11_init := (List.mem_cons_of_mem _ (List.mem_append_left _ (List.mem_append_left _ (List.mem_append_left _ (List.mem_append_left _ (List.mem_append_left _ (List.mem_append_left _ (List.mem_of_getElem? (i := 13) rfl))))))))
theorem hwX11_init_16 : (.initialized RX9 : Cond) ∈ wsX11_init := (List.mem_cons_of_mem _ (List.mem_append_left _ (List.mem_append_left _ (List.mem_append_left _ (List.mem_append_left _ (List.mem_append_left _ (List.mem_append_left _ (List.mem_of_getElem? (i := 14) rfl))))))))
theorem hwX11_init_17 : (.instanceMethod yX9_init : Cond) ∈ wsX11_init := (List.mem_cons_of_mem _ (List.mem_append_left _ (List.mem_append_left _ (List.mem_append_left _ (List.mem_append_left _ (List.mem_append_left _ (List.mem_append_right _ (List.mem_append_left _ (List.mem_of_getElem? (i := 22) rfl)))))))))
theorem hwX11_init_18 : (.fieldLink RX11 50 "FortyBelts" "textCount" "I" : Cond) ∈ wsX11_init := (List.mem_cons_of_mem _ (List.mem_append_left _ (List.mem_append_left _ (List.mem_append_left _ (List.mem_append_left _ (List.mem_append_left _ (List.mem_append_left _ (List.mem_of_getElem? (i := 15) rfl))))))))
theorem hwX11_init_19 : (.arrayClass .int : Cond) ∈ wsX11_init := (List.mem_cons_of_mem _ (List.mem_append_left _ (List.mem_append_left _ (List.mem_append_left _ (List.mem_append_left _ (List.mem_append_left _ (List.mem_append_left _ (List.mem_of_getElem? (i := 16) rfl))))))))
theorem hwX11_init_20 : (.fieldLink RX11 54 "FortyBelts" "names" "[I" : Cond) ∈ wsX11_init := (List.mem_cons_of_mem _ (List.mem_append_left _ (List.mem_append_left _ (List.mem_append_left _ (List.mem_append_left _ (List.mem_append_left _ (List.mem_append_left _ (List.mem_of_getElem? (i := 17) rfl))))))))
theorem hwX11_init_21 : (.classLink RX11 58 RX8 : Cond) ∈ wsX11_init := (List.mem_cons_of_mem _ (List.mem_append_left _ (List.mem_append_left _ (List.mem_append_left _ (List.mem_append_left _ (List.mem_append_left _ (List.mem_append_left _ (List.mem_of_getElem? (i := 18) rfl))))))))
theorem hwX11_init_22 : (.fieldLink RX11 60 "FortyBelts" "sheets" "[LFortyBelts$Sheet;" : Cond) ∈ wsX11_init := (List.mem_cons_of_mem _ (List.mem_append_left _ (List.mem_append_left _ (List.mem_append_left _ (List.mem_append_left _ (List.mem_append_left _ (List.mem_append_left _ (List.mem_of_getElem? (i := 19) rfl))))))))
theorem hwX11_init_23 : (.instantiable RX8 3 : Cond) ∈ wsX11_init := (List.mem_cons_of_mem _ (List.mem_append_left _ (List.mem_append_left _ (List.mem_append_left _ (List.mem_append_left _ (List.mem_append_left _ (List.mem_append_left _ (List.mem_of_getElem? (i := 20) rfl))))))))
theorem hwX11_init_24 : (.initialized RX8 : Cond) ∈ wsX11_init := (List.mem_cons_of_mem _ (List.mem_append_left _ (List.mem_append_left _ (List.mem_append_left _ (List.mem_append_left _ (List.mem_append_left _ (List.mem_append_left _ (List.mem_of_getElem? (i := 21) rfl))))))))
theorem hwX11_init_25 : (.instanceMethod yX8_init : Cond) ∈ wsX11_init := (List.mem_cons_of_mem _ (List.mem_append_left _ (List.mem_append_left _ (List.mem_append_left _ (List.mem_append_left _ (List.mem_append_left _ (List.mem_append_right _ (List.mem_append_right _ (List.mem_append_right _ (List.mem_append_right _ (List.mem_append_right _ (List.mem_append_right _ (List.mem_append_right _ (List.mem_append_right _ (List.mem_append_right _ (List.mem_append_right _ (List.mem_append_right _ (List.mem_of_getElem? (i := 0) rfl))))))))))))))))))
theorem hwX11_init_26 : (.fieldLink RX11 65 "FortyBelts" "tried" "[I" : Cond) ∈ wsX11_init := (List.mem_cons_of_mem _ (List.mem_append_left _ (List.mem_append_left _ (List.mem_append_left _ (List.mem_append_left _ (List.mem_append_left _ (List.mem_append_left _ (List.mem_of_getElem? (i := 22) rfl))))))))
theorem hwX11_init_27 : (.fieldLink RX11 68 "FortyBelts" "chosen" "[I" : Cond) ∈ wsX11_init := (List.mem_cons_of_mem _ (List.mem_append_left _ (List.mem_append_left _ (List.mem_append_left _ (List.mem_append_left _ (List.mem_append_left _ (List.mem_append_left _ (List.mem_of_getElem? (i := 23) rfl))))))))
theorem hcX11_init_X6 : ∀ w ∈ wsX60, w ∈ wsX11_init := fun _ h => (List.mem_cons_of_mem _ (List.mem_append_left _ (List.mem_append_left _ (List.mem_append_left _ (List.mem_append_left _ (List.mem_append_right _ h))))))
theorem hcX11_init_X11 : ∀ w ∈ wsX110, w ∈ wsX11_init := fun _ h => (List.mem_cons_of_mem _ (List.mem_append_left _ (List.mem_append_left _ (List.mem_append_left _ (List.mem_append_right _ h)))))
theorem hcX11_init_X7 : ∀ w ∈ wsX70, w ∈ wsX11_init := fun _ h => (List.mem_cons_of_mem _ (List.mem_append_left _ (List.mem_append_left _ (List.mem_append_right _ h))))
theorem hcX11_init_X9 : ∀ w ∈ wsX90, w ∈ wsX11_init := fun _ h => (List.mem_cons_of_mem _ (List.mem_append_left _ (List.mem_append_right _ h)))
theorem hcX11_init_X8 : ∀ w ∈ wsX80, w ∈ wsX11_init := fun _ h => (List.mem_cons_of_mem _ (List.mem_append_right _ h))
set_option maxHeartbeats 16000000 in
set_option maxRecDepth 100000 in
theorem J_X11_init {D : va_G} {KA : Nat → ClassId} {zs : ZS} {ad : Nat → Nat} {ids : List Nat} {sz : Nat} (l : Launch)  (hm_this : 0 ∈ ids)  {σ : St} {post : St → List Nat → Prop} (h : wX11_init ids  σ post) : Met l yX11_init wsX11_init rmX11_init (va_Pc [.ref (ad 0)] (xIn D KA zs layX st0 ad ids sz σ)) (va_Qv (S := St × (Nat → Nat) × List Nat) (fun u => post u.1 u.2.2) (xOutA D KA layX stI ad ids sz) (xA ad ids sz)) 50 1953 (xA ad ids sz) := by
  refine Met.ofW (cc := cX11_init) (maxL := 2) (ret := none) (by decide) rfl ?_
  intro p e s m args below meth c s₁ B hml hv
  obtain ⟨hav, hsz, hK, hZ, hP, hD⟩ := hv
  have hx := B.exec
  have hb := B.bytes
  have hr := B.returns
  have hts := atoms_spec (ws := wsX11_init) B.pre
  have hown : s.vm.findClass RX11 = some m.cls := findClass_of_methodNamed B.named
  have hlocks := B.notSynchronized
  have hin2 : meth.name = "<init>" := (name_of_methodNamed B.named B.method).1
  subst hsz
  have hA : ∀ q : Nat, s.heap.size ≤ q → xA ad ids s.heap.size q := fun q h => Or.inr h
  have hW : xW D KA layX st0 ad ids (xA ad ids s.heap.size) s.heap σ s.heap [] := ⟨hP, xA_D (D := D) hD, va_S.rf⟩
  have kr : ∀ (σ : St) (ad' : Nat → Nat) (ids' : List Nat) (H : Heap) (locs : List Loc) (ls : Array Slot) (pc : Nat), xW D KA layX stI ad' ids' (xA ad ids s.heap.size) s.heap σ H locs → (∀ c ∈ ids, ad' c = ad c) → (∀ c ∈ ids, c ∈ ids') → post σ ids' → decode cX11_init pc = .ok (.return_, 1) → W p l e rmX11_init s m args below meth c H locs 50 1953 (MQ below (va_Qv (S := St × (Nat → Nat) × List Nat) (fun u => post u.1 u.2.2) (xOutA D KA layX stI ad ids s.heap.size) (xA ad ids s.heap.size)) args s 50 1953 (xA ad ids s.heap.size)) (F0 m pc ls []) := fun σ ad' ids' H locs ls pc hW he hs h hd => x_vretA hx hb hr hlocks hW he hs h hd
  have hl := lv_entry ([.ref (ad 0)]) (n := 2) (Nat.le_of_ble_eq_true rfl)
  rw [show entryFrame m args 2 = entryFrame m ([.ref (ad 0)] : List Value).toArray 2 from by rw [hav]]
  rw [lg_entry_eq]
  generalize (lg_sl ([.ref (ad 0)]) ++ List.replicate (2 - (lg_sl ([.ref (ad 0)])).length) Slot.unset).toArray = ls at hl ⊢
  have hl : lv_has ls 2 [(0, .ref (ad 0))] := hl
  show W p l e rmX11_init s m args below meth c s.heap [] 0 0 _ _
  generalize MQ below (va_Qv (S := St × (Nat → Nat) × List Nat) (fun u => post u.1 u.2.2) (xOutA D KA layX stI ad ids s.heap.size) (xA ad ids s.heap.size)) args s 50 1953 (xA ad ids s.heap.size) = Q at kr ⊢
  unfold wX11_init at h
  refine lv_aload_n hx hb dX11_init_0 rfl (lv_at hl 0 rfl) ?_
  refine W.objInit hx hb hown (hts _ hwX11_init_0) (hts _ hwX11_init_1) (hts _ hwX11_init_2) rfl (by rw [hml]; exact hl.1) rfl dX11_init_1 (Nat.le_of_ble_eq_true rfl) (Nat.le_of_ble_eq_true rfl) ?_
  refine W.eq (g2 := F0 m 4 ls []) rfl ?_
  refine lv_aload_n hx hb dX11_init_4 rfl (lv_at hl 0 rfl) ?_
  obtain ⟨⟨hq1001a, hq1001s, hq1001d, hq1001r⟩, h⟩ := h
  refine x_new hx hb hts hown hK hW hA 1 6 18 rfl hcX11_init_X6 tyX6_ok dvX6 rfl (hts _ hwX11_init_3) (hts _ hwX11_init_4) (hts _ hwX11_init_5) hq1001d hq1001a hq1001s hq1001r (Nat.le_of_ble_eq_true rfl) (Nat.le_of_ble_eq_true rfl) dX11_init_5 (fun ad1003 H hAd1004 hW => ?_)
  obtain ⟨σ1002, hσ1002⟩ : ∃ τ, τ = nC σ 1 := ⟨_, rfl⟩
  rw [← hσ1002] at hW
  obtain ⟨ids1005, hids1005⟩ : ∃ x, x = ids ++ [1] := ⟨_, rfl⟩
  rw [← hids1005] at hW
  have h := h σ1002 hσ1002 ids1005 hids1005
  have e1006 : ad 0 = ad1003 0 := (hAd1004 _ (x_ne hm_this hq1001d)).symm
  rw [e1006] at hl
  rw [e1006]
  refine lv_dup hx hb dX11_init_8 rfl ?_
  refine x_callvA (va_runIN (As := []) (rest := [.ref (ad1003 1), .ref (ad1003 0)]) ⟨hx, hb, hml, hown, hts⟩ (J_X6_init l (fun _ => rfl) (x_mR hids1005) h) ⟨va_cnB 0 hts gX11_init_X6_init_n9 rfl rfl rfl (hK.2.2.1 _ (List.mem_of_getElem? (i := 1) rfl)) (hts _ hwX11_init_5) hdI_X6_init ⟨Nat.le_of_ble_eq_true rfl, Nat.le_of_ble_eq_true rfl⟩, rfl, (hts _ hwX11_init_6)⟩ (x_preS hK hZ hA hW) rfl rfl hl.1 rfl (lv_room (Nat.le_of_ble_eq_true rfl)) dX11_init_9 ⟨Nat.le_of_ble_eq_true rfl, Nat.le_of_ble_eq_true rfl⟩) hW hA (fun σ1007 ad1008 ids1009 H locs h hAd1010 hSub1011 hW => ?_)
  try dsimp only at h
  have e1012 : ad1003 0 = ad1008 0 := (hAd1010 _ (x_mL hids1005 hm_this)).symm
  have e1013 : ad1003 1 = ad1008 1 := (hAd1010 _ (x_mR hids1005)).symm
  rw [e1012] at hl
  rw [e1012, e1013]
  refine xfX11_0 hx hb hts hown hK hW 0 hcX11_init_X11 (hSub1011 _ (x_mL hids1005 hm_this)) lX_0 (hts _ hwX11_init_7) hin2 rfl rfl dX11_init_12 (fun σ1014 H locs hσ1014 hW => ?_)
  have h := h σ1014 hσ1014
  refine lv_aload_n hx hb dX11_init_15 rfl (lv_at hl 0 rfl) ?_
  obtain ⟨⟨hq1015a, hq1015s, hq1015d, hq1015r⟩, h⟩ := h
  refine x_new hx hb hts hown hK hW hA 2 7 7 rfl hcX11_init_X7 tyX7_ok dvX7 rfl (hts _ hwX11_init_8) (hts _ hwX11_init_9) (hts _ hwX11_init_10) hq1015d hq1015a hq1015s hq1015r (Nat.le_of_ble_eq_true rfl) (Nat.le_of_ble_eq_true rfl) dX11_init_16 (fun ad1017 H hAd1018 hW => ?_)
  obtain ⟨σ1016, hσ1016⟩ : ∃ τ, τ = nC σ1014 2 := ⟨_, rfl⟩
  rw [← hσ1016] at hW
  obtain ⟨ids1019, hids1019⟩ : ∃ x, x = ids1009 ++ [2] := ⟨_, rfl⟩
  rw [← hids1019] at hW
  have h := h σ1016 hσ1016 ids1019 hids1019
  have e1020 : ad1008 0 = ad1017 0 := (hAd1018 _ (x_ne (hSub1011 _ (x_mL hids1005 hm_this)) hq1015d)).symm
  rw [e1020] at hl
  rw [e1020]
  refine lv_dup hx hb dX11_init_19 rfl ?_
  refine x_callvA (va_runIN (As := []) (rest := [.ref (ad1017 2), .ref (ad1017 0)]) ⟨hx, hb, hml, hown, hts⟩ (J_X7_init l (fun _ => rfl) (x_mR hids1019) h) ⟨va_cnB 0 hts gX11_init_X7_init_n18 rfl rfl rfl (hK.2.2.1 _ (List.mem_of_getElem? (i := 2) rfl)) (hts _ hwX11_init_10) hdI_X7_init ⟨Nat.le_of_ble_eq_true rfl, Nat.le_of_ble_eq_true rfl⟩, rfl, (hts _ hwX11_init_11)⟩ (x_preS hK hZ hA hW) rfl rfl hl.1 rfl (lv_room (Nat.le_of_ble_eq_true rfl)) dX11_init_20 ⟨Nat.le_of_ble_eq_true rfl, Nat.le_of_ble_eq_true rfl⟩) hW hA (fun σ1021 ad1022 ids1023 H locs h hAd1024 hSub1025 hW => ?_)
  try dsimp only at h
  have e1026 : ad1017 0 = ad1022 0 := (hAd1024 _ (x_mL hids1019 (hSub1011 _ (x_mL hids1005 hm_this)))).symm
  have e1027 : ad1017 2 = ad1022 2 := (hAd1024 _ (x_mR hids1019)).symm
  rw [e1026] at hl
  rw [e1026, e1027]
  refine xfX11_1 hx hb hts hown hK hW 0 hcX11_init_X11 (hSub1025 _ (x_mL hids1019 (hSub1011 _ (x_mL hids1005 hm_this)))) lX_0 (hts _ hwX11_init_12) hin2 rfl rfl dX11_init_23 (fun σ1028 H locs hσ1028 hW => ?_)
  have h := h σ1028 hσ1028
  refine lv_aload_n hx hb dX11_init_26 rfl (lv_at hl 0 rfl) ?_
  refine lv_bipush (v := 6) hx hb dX11_init_27 (by decide) ?_
  obtain ⟨⟨hq1029a, hq1029s, hq1029d, hq1029r⟩, h⟩ := h
  refine x_newr hx hb hts hown hwX11_init_13 (hK.2.2.2 _ (by simp)) hK hW hA 14 3 6 rfl hq1029d hq1029a hq1029s hq1029r (by decide) rfl (Nat.le_of_ble_eq_true rfl) (Nat.le_of_ble_eq_true rfl) (Nat.le_of_ble_eq_true rfl) dX11_init_29 (fun ad1031 H hAd1032 hW => ?_)
  obtain ⟨σ1030, hσ1030⟩ : ∃ τ, τ = nC σ1028 14 := ⟨_, rfl⟩
  rw [← hσ1030] at hW
  obtain ⟨ids1033, hids1033⟩ : ∃ x, x = ids1023 ++ [14] := ⟨_, rfl⟩
  rw [← hids1033] at hW
  have h := h σ1030 hσ1030 ids1033 hids1033
  have e1034 : ad1022 0 = ad1031 0 := (hAd1032 _ (x_ne (hSub1025 _ (x_mL hids1019 (hSub1011 _ (x_mL hids1005 hm_this)))) hq1029d)).symm
  rw [e1034] at hl
  rw [e1034]
  refine xfX11_2 hx hb hts hown hK hW 0 hcX11_init_X11 (x_mL hids1033 (hSub1025 _ (x_mL hids1019 (hSub1011 _ (x_mL hids1005 hm_this))))) lX_0 (hts _ hwX11_init_14) hin2 rfl rfl dX11_init_32 (fun σ1035 H locs hσ1035 hW => ?_)
  have h := h σ1035 hσ1035
  refine lv_iconst (v := 0) hx hb dX11_init_35 (by decide) ?_
  refine lv_istore_n (lv' := [(1, .int (0 : Int32)), (0, .ref (ad1031 0))]) hx hb dX11_init_36 rfl hl (by decide) rfl (fun ls hl => ?_)
  refine lv_iload_n hx hb dX11_init_37 rfl (lv_at hl 0 rfl) ?_
  refine lv_bipush (v := 6) hx hb dX11_init_38 (by decide) ?_
  refine lv_icmp_ge (tgt := 62) hx hb dX11_init_40 (by decide) (fun hc => absurd hc (by decide)) (fun _ => ?_)
  refine lv_aload_n hx hb dX11_init_43 rfl (lv_at hl 1 rfl) ?_
  obtain ⟨hg1036, h⟩ := h
  refine xgX11_2r hx hb hts hown hK hW 0 hcX11_init_X11 (x_mL hids1033 (hSub1025 _ (x_mL hids1019 (hSub1011 _ (x_mL hids1005 hm_this))))) lX_0 (hts _ hwX11_init_14) (by exact hg1036) dX11_init_44 ?_
  refine lv_iload_n hx hb dX11_init_47 rfl (lv_at hl 0 rfl) ?_
  obtain ⟨⟨hq1037a, hq1037s, hq1037d, hq1037r, hq1037o⟩, h⟩ := h
  refine x_new hx hb hts hown hK hW hA 20 9 5 rfl hcX11_init_X9 tyX9_ok dvX9 rfl (hts _ hwX11_init_13) (hts _ hwX11_init_15) (hts _ hwX11_init_16) hq1037d hq1037a hq1037s hq1037r (Nat.le_of_ble_eq_true rfl) (Nat.le_of_ble_eq_true rfl) dX11_init_48 (fun ad1039 H hAd1040 hW => ?_)
  obtain ⟨σ1038, hσ1038⟩ : ∃ τ, τ = nC σ1035 20 := ⟨_, rfl⟩
  rw [← hσ1038] at hW
  obtain ⟨ids1041, hids1041⟩ : ∃ x, x = ids1033 ++ [20] := ⟨_, rfl⟩
  rw [← hids1041] at hW
  have h := h σ1038 hσ1038 ids1041 hids1041
  have e1042 : ad1031 0 = ad1039 0 := (hAd1040 _ (x_ne (x_mL hids1033 (hSub1025 _ (x_mL hids1019 (hSub1011 _ (x_mL hids1005 hm_this))))) hq1037d)).symm
  have e1043 : ad1031 14 = ad1039 14 := (hAd1040 _ (x_ne (x_mR hids1033) hq1037d)).symm
  rw [e1042] at hl
  rw [e1043]
  rw [← hids1041] at hq1037o
  refine lv_dup hx hb dX11_init_51 rfl ?_
  refine x_callvA (va_runIN (As := []) (rest := [.ref (ad1039 20), .int (0 : Int32), .ref (ad1039 14)]) ⟨hx, hb, hml, hown, hts⟩ (J_X9_init l (fun _ => rfl) hq1037o h) ⟨va_cnB 0 hts gX11_init_X9_init_n29 rfl rfl rfl (hK.2.2.1 _ (List.mem_of_getElem? (i := 3) rfl)) (hts _ hwX11_init_16) hdI_X9_init ⟨Nat.le_of_ble_eq_true rfl, Nat.le_of_ble_eq_true rfl⟩, rfl, (hts _ hwX11_init_17)⟩ (x_preS hK hZ hA hW) rfl rfl hl.1 rfl (lv_room (Nat.le_of_ble_eq_true rfl)) dX11_init_52 ⟨Nat.le_of_ble_eq_true rfl, Nat.le_of_ble_eq_true rfl⟩) hW hA (fun σ1044 ad1045 ids1046 H locs h hAd1047 hSub1048 hW => ?_)
  try dsimp only at h
  have e1049 : ad1039 0 = ad1045 0 := (hAd1047 _ (x_mL hids1041 (x_mL hids1033 (hSub1025 _ (x_mL hids1019 (hSub1011 _ (x_mL hids1005 hm_this))))))).symm
  have e1050 : ad1039 14 = ad1045 14 := (hAd1047 _ (x_mL hids1041 (x_mR hids1033))).symm
  have e1051 : ad1039 20 = ad1045 20 := (hAd1047 _ (x_mR hids1041)).symm
  rw [e1049] at hl
  rw [e1050, e1051]
  obtain ⟨hi1052, h⟩ := h
  refine x_ast hx hb hK hW 14 3 (hSub1048 _ (x_mL hids1041 (x_mR hids1033))) hq1029a (hSub1048 _ (x_mR hids1041)) hq1037a rfl rfl hi1052 (fun _ => rfl) dX11_init_55 (fun σ1053 H locs hσ1053 hW => ?_)
  have h := h σ1053 hσ1053
  refine lv_iinc (v := (1 : Int32)) (lv' := [(1, .int (1 : Int32)), (0, .ref (ad1045 0))]) hx hb dX11_init_56 hl (k := 0) rfl (by decide) (by decide) rfl (fun ls hl => ?_)
  refine lv_goto (tgt := 37) hx hb dX11_init_59 (by decide) ?_
  refine lv_iload_n hx hb dX11_init_37 rfl (lv_at hl 0 rfl) ?_
  refine lv_bipush (v := 6) hx hb dX11_init_38 (by decide) ?_
  refine lv_icmp_ge (tgt := 62) hx hb dX11_init_40 (by decide) (fun hc => absurd hc (by decide)) (fun _ => ?_)
  refine lv_aload_n hx hb dX11_init_43 rfl (lv_at hl 1 rfl) ?_
  obtain ⟨hg1054, h⟩ := h
  refine xgX11_2r hx hb hts hown hK hW 0 hcX11_init_X11 (hSub1048 _ (x_mL hids1041 (x_mL hids1033 (hSub1025 _ (x_mL hids1019 (hSub1011 _ (x_mL hids1005 hm_this))))))) lX_0 (hts _ hwX11_init_14) (by exact hg1054) dX11_init_44 ?_
  refine lv_iload_n hx hb dX11_init_47 rfl (lv_at hl 0 rfl) ?_
  obtain ⟨⟨hq1055a, hq1055s, hq1055d, hq1055r, hq1055o⟩, h⟩ := h
  refine x_new hx hb hts hown hK hW hA 24 9 5 rfl hcX11_init_X9 tyX9_ok dvX9 rfl (hts _ hwX11_init_13) (hts _ hwX11_init_15) (hts _ hwX11_init_16) hq1055d hq1055a hq1055s hq1055r (Nat.le_of_ble_eq_true rfl) (Nat.le_of_ble_eq_true rfl) dX11_init_48 (fun ad1057 H hAd1058 hW => ?_)
  obtain ⟨σ1056, hσ1056⟩ : ∃ τ, τ = nC σ1053 24 := ⟨_, rfl⟩
  rw [← hσ1056] at hW
  obtain ⟨ids1059, hids1059⟩ : ∃ x, x = ids1046 ++ [24] := ⟨_, rfl⟩
  rw [← hids1059] at hW
  have h := h σ1056 hσ1056 ids1059 hids1059
  have e1060 : ad1045 0 = ad1057 0 := (hAd1058 _ (x_ne (hSub1048 _ (x_mL hids1041 (x_mL hids1033 (hSub1025 _ (x_mL hids1019 (hSub1011 _ (x_mL hids1005 hm_this))))))) hq1055d)).symm
  have e1061 : ad1045 14 = ad1057 14 := (hAd1058 _ (x_ne (hSub1048 _ (x_mL hids1041 (x_mR hids1033))) hq1055d)).symm
  rw [e1060] at hl
  rw [e1061]
  rw [← hids1059] at hq1055o
  refine lv_dup hx hb dX11_init_51 rfl ?_
  refine x_callvA (va_runIN (As := []) (rest := [.ref (ad1057 24), .int (1 : Int32), .ref (ad1057 14)]) ⟨hx, hb, hml, hown, hts⟩ (J_X9_init l (fun _ => rfl) hq1055o h) ⟨va_cnB 0 hts gX11_init_X9_init_n29 rfl rfl rfl (hK.2.2.1 _ (List.mem_of_getElem? (i := 3) rfl)) (hts _ hwX11_init_16) hdI_X9_init ⟨Nat.le_of_ble_eq_true rfl, Nat.le_of_ble_eq_true rfl⟩, rfl, (hts _ hwX11_init_17)⟩ (x_preS hK hZ hA hW) rfl rfl hl.1 rfl (lv_room (Nat.le_of_ble_eq_true rfl)) dX11_init_52 ⟨Nat.le_of_ble_eq_true rfl, Nat.le_of_ble_eq_true rfl⟩) hW hA (fun σ1062 ad1063 ids1064 H locs h hAd1065 hSub1066 hW => ?_)
  try dsimp only at h
  have e1067 : ad1057 0 = ad1063 0 := (hAd1065 _ (x_mL hids1059 (hSub1048 _ (x_mL hids1041 (x_mL hids1033 (hSub1025 _ (x_mL hids1019 (hSub1011 _ (x_mL hids1005 hm_this))))))))).symm
  have e1068 : ad1057 14 = ad1063 14 := (hAd1065 _ (x_mL hids1059 (hSub1048 _ (x_mL hids1041 (x_mR hids1033))))).symm
  have e1069 : ad1057 24 = ad1063 24 := (hAd1065 _ (x_mR hids1059)).symm
  rw [e1067] at hl
  rw [e1068, e1069]
  obtain ⟨hi1070, h⟩ := h
  refine x_ast hx hb hK hW 14 3 (hSub1066 _ (x_mL hids1059 (hSub1048 _ (x_mL hids1041 (x_mR hids1033))))) hq1029a (hSub1066 _ (x_mR hids1059)) hq1055a rfl rfl hi1070 (fun _ => rfl) dX11_init_55 (fun σ1071 H locs hσ1071 hW => ?_)
  have h := h σ1071 hσ1071
  refine lv_iinc (v := (2 : Int32)) (lv' := [(1, .int (2 : Int32)), (0, .ref (ad1063 0))]) hx hb dX11_init_56 hl (k := 0) rfl (by decide) (by decide) rfl (fun ls hl => ?_)
  refine lv_goto (tgt := 37) hx hb dX11_init_59 (by decide) ?_
  refine lv_iload_n hx hb dX11_init_37 rfl (lv_at hl 0 rfl) ?_
  refine lv_bipush (v := 6) hx hb dX11_init_38 (by decide) ?_
  refine lv_icmp_ge (tgt := 62) hx hb dX11_init_40 (by decide) (fun hc => absurd hc (by decide)) (fun _ => ?_)
  refine lv_aload_n hx hb dX11_init_43 rfl (lv_at hl 1 rfl) ?_
  obtain ⟨hg1072, h⟩ := h
  refine xgX11_2r hx hb hts hown hK hW 0 hcX11_init_X11 (hSub1066 _ (x_mL hids1059 (hSub1048 _ (x_mL hids1041 (x_mL hids1033 (hSub1025 _ (x_mL hids1019 (hSub1011 _ (x_mL hids1005 hm_this))))))))) lX_0 (hts _ hwX11_init_14) (by exact hg1072) dX11_init_44 ?_
  refine lv_iload_n hx hb dX11_init_47 rfl (lv_at hl 0 rfl) ?_
  obtain ⟨⟨hq1073a, hq1073s, hq1073d, hq1073r, hq1073o⟩, h⟩ := h
  refine x_new hx hb hts hown hK hW hA 28 9 5 rfl hcX11_init_X9 tyX9_ok dvX9 rfl (hts _ hwX11_init_13) (hts _ hwX11_init_15) (hts _ hwX11_init_16) hq1073d hq1073a hq1073s hq1073r (Nat.le_of_ble_eq_true rfl) (Nat.le_of_ble_eq_true rfl) dX11_init_48 (fun ad1075 H hAd1076 hW => ?_)
  obtain ⟨σ1074, hσ1074⟩ : ∃ τ, τ = nC σ1071 28 := ⟨_, rfl⟩
  rw [← hσ1074] at hW
  obtain ⟨ids1077, hids1077⟩ : ∃ x, x = ids1064 ++ [28] := ⟨_, rfl⟩
  rw [← hids1077] at hW
  have h := h σ1074 hσ1074 ids1077 hids1077
  have e1078 : ad1063 0 = ad1075 0 := (hAd1076 _ (x_ne (hSub1066 _ (x_mL hids1059 (hSub1048 _ (x_mL hids1041 (x_mL hids1033 (hSub1025 _ (x_mL hids1019 (hSub1011 _ (x_mL hids1005 hm_this))))))))) hq1073d)).symm
  have e1079 : ad1063 14 = ad1075 14 := (hAd1076 _ (x_ne (hSub1066 _ (x_mL hids1059 (hSub1048 _ (x_mL hids1041 (x_mR hids1033))))) hq1073d)).symm
  rw [e1078] at hl
  rw [e1079]
  rw [← hids1077] at hq1073o
  refine lv_dup hx hb dX11_init_51 rfl ?_
  refine x_callvA (va_runIN (As := []) (rest := [.ref (ad1075 28), .int (2 : Int32), .ref (ad1075 14)]) ⟨hx, hb, hml, hown, hts⟩ (J_X9_init l (fun _ => rfl) hq1073o h) ⟨va_cnB 0 hts gX11_init_X9_init_n29 rfl rfl rfl (hK.2.2.1 _ (List.mem_of_getElem? (i := 3) rfl)) (hts _ hwX11_init_16) hdI_X9_init ⟨Nat.le_of_ble_eq_true rfl, Nat.le_of_ble_eq_true rfl⟩, rfl, (hts _ hwX11_init_17)⟩ (x_preS hK hZ hA hW) rfl rfl hl.1 rfl (lv_room (Nat.le_of_ble_eq_true rfl)) dX11_init_52 ⟨Nat.le_of_ble_eq_true rfl, Nat.le_of_ble_eq_true rfl⟩) hW hA (fun σ1080 ad1081 ids1082 H locs h hAd1083 hSub1084 hW => ?_)
  try dsimp only at h
  have e1085 : ad1075 0 = ad1081 0 := (hAd1083 _ (x_mL hids1077 (hSub1066 _ (x_mL hids1059 (hSub1048 _ (x_mL hids1041 (x_mL hids1033 (hSub1025 _ (x_mL hids1019 (hSub1011 _ (x_mL hids1005 hm_this))))))))))).symm
  have e1086 : ad1075 14 = ad1081 14 := (hAd1083 _ (x_mL hids1077 (hSub1066 _ (x_mL hids1059 (hSub1048 _ (x_mL hids1041 (x_mR hids1033))))))).symm
  have e1087 : ad1075 28 = ad1081 28 := (hAd1083 _ (x_mR hids1077)).symm
  rw [e1085] at hl
  rw [e1086, e1087]
  obtain ⟨hi1088, h⟩ := h
  refine x_ast hx hb hK hW 14 3 (hSub1084 _ (x_mL hids1077 (hSub1066 _ (x_mL hids1059 (hSub1048 _ (x_mL hids1041 (x_mR hids1033))))))) hq1029a (hSub1084 _ (x_mR hids1077)) hq1073a rfl rfl hi1088 (fun _ => rfl) dX11_init_55 (fun σ1089 H locs hσ1089 hW => ?_)
  have h := h σ1089 hσ1089
  refine lv_iinc (v := (3 : Int32)) (lv' := [(1, .int (3 : Int32)), (0, .ref (ad1081 0))]) hx hb dX11_init_56 hl (k := 0) rfl (by decide) (by decide) rfl (fun ls hl => ?_)
  refine lv_goto (tgt := 37) hx hb dX11_init_59 (by decide) ?_
  refine lv_iload_n hx hb dX11_init_37 rfl (lv_at hl 0 rfl) ?_
  refine lv_bipush (v := 6) hx hb dX11_init_38 (by decide) ?_
  refine lv_icmp_ge (tgt := 62) hx hb dX11_init_40 (by decide) (fun hc => absurd hc (by decide)) (fun _ => ?_)
  refine lv_aload_n hx hb dX11_init_43 rfl (lv_at hl 1 rfl) ?_
  obtain ⟨hg1090, h⟩ := h
  refine xgX11_2r hx hb hts hown hK hW 0 hcX11_init_X11 (hSub1084 _ (x_mL hids1077 (hSub1066 _ (x_mL hids1059 (hSub1048 _ (x_mL hids1041 (x_mL hids1033 (hSub1025 _ (x_mL hids1019 (hSub1011 _ (x_mL hids1005 hm_this))))))))))) lX_0 (hts _ hwX11_init_14) (by exact hg1090) dX11_init_44 ?_
  refine lv_iload_n hx hb dX11_init_47 rfl (lv_at hl 0 rfl) ?_
  obtain ⟨⟨hq1091a, hq1091s, hq1091d, hq1091r, hq1091o⟩, h⟩ := h
  refine x_new hx hb hts hown hK hW hA 32 9 5 rfl hcX11_init_X9 tyX9_ok dvX9 rfl (hts _ hwX11_init_13) (hts _ hwX11_init_15) (hts _ hwX11_init_16) hq1091d hq1091a hq1091s hq1091r (Nat.le_of_ble_eq_true rfl) (Nat.le_of_ble_eq_true rfl) dX11_init_48 (fun ad1093 H hAd1094 hW => ?_)
  obtain ⟨σ1092, hσ1092⟩ : ∃ τ, τ = nC σ1089 32 := ⟨_, rfl⟩
  rw [← hσ1092] at hW
  obtain ⟨ids1095, hids1095⟩ : ∃ x, x = ids1082 ++ [32] := ⟨_, rfl⟩
  rw [← hids1095] at hW
  have h := h σ1092 hσ1092 ids1095 hids1095
  have e1096 : ad1081 0 = ad1093 0 := (hAd1094 _ (x_ne (hSub1084 _ (x_mL hids1077 (hSub1066 _ (x_mL hids1059 (hSub1048 _ (x_mL hids1041 (x_mL hids1033 (hSub1025 _ (x_mL hids1019 (hSub1011 _ (x_mL hids1005 hm_this))))))))))) hq1091d)).symm
  have e1097 : ad1081 14 = ad1093 14 := (hAd1094 _ (x_ne (hSub1084 _ (x_mL hids1077 (hSub1066 _ (x_mL hids1059 (hSub1048 _ (x_mL hids1041 (x_mR hids1033))))))) hq1091d)).symm
  rw [e1096] at hl
  rw [e1097]
  rw [← hids1095] at hq1091o
  refine lv_dup hx hb dX11_init_51 rfl ?_
  refine x_callvA (va_runIN (As := []) (rest := [.ref (ad1093 32), .int (3 : Int32), .ref (ad1093 14)]) ⟨hx, hb, hml, hown, hts⟩ (J_X9_init l (fun _ => rfl) hq1091o h) ⟨va_cnB 0 hts gX11_init_X9_init_n29 rfl rfl rfl (hK.2.2.1 _ (List.mem_of_getElem? (i := 3) rfl)) (hts _ hwX11_init_16) hdI_X9_init ⟨Nat.le_of_ble_eq_true rfl, Nat.le_of_ble_eq_true rfl⟩, rfl, (hts _ hwX11_init_17)⟩ (x_preS hK hZ hA hW) rfl rfl hl.1 rfl (lv_room (Nat.le_of_ble_eq_true rfl)) dX11_init_52 ⟨Nat.le_of_ble_eq_true rfl, Nat.le_of_ble_eq_true rfl⟩) hW hA (fun σ1098 ad1099 ids1100 H locs h hAd1101 hSub1102 hW => ?_)
  try dsimp only at h
  have e1103 : ad1093 0 = ad1099 0 := (hAd1101 _ (x_mL hids1095 (hSub1084 _ (x_mL hids1077 (hSub1066 _ (x_mL hids1059 (hSub1048 _ (x_mL hids1041 (x_mL hids1033 (hSub1025 _ (x_mL hids1019 (hSub1011 _ (x_mL hids1005 hm_this))))))))))))).symm
  have e1104 : ad1093 14 = ad1099 14 := (hAd1101 _ (x_mL hids1095 (hSub1084 _ (x_mL hids1077 (hSub1066 _ (x_mL hids1059 (hSub1048 _ (x_mL hids1041 (x_mR hids1033))))))))).symm
  have e1105 : ad1093 32 = ad1099 32 := (hAd1101 _ (x_mR hids1095)).symm
  rw [e1103] at hl
  rw [e1104, e1105]
  obtain ⟨hi1106, h⟩ := h
  refine x_ast hx hb hK hW 14 3 (hSub1102 _ (x_mL hids1095 (hSub1084 _ (x_mL hids1077 (hSub1066 _ (x_mL hids1059 (hSub1048 _ (x_mL hids1041 (x_mR hids1033))))))))) hq1029a (hSub1102 _ (x_mR hids1095)) hq1091a rfl rfl hi1106 (fun _ => rfl) dX11_init_55 (fun σ1107 H locs hσ1107 hW => ?_)
  have h := h σ1107 hσ1107
  refine lv_iinc (v := (4 : Int32)) (lv' := [(1, .int (4 : Int32)), (0, .ref (ad1099 0))]) hx hb dX11_init_56 hl (k := 0) rfl (by decide) (by decide) rfl (fun ls hl => ?_)
  refine lv_goto (tgt := 37) hx hb dX11_init_59 (by decide) ?_
  refine lv_iload_n hx hb dX11_init_37 rfl (lv_at hl 0 rfl) ?_
  refine lv_bipush (v := 6) hx hb dX11_init_38 (by decide) ?_
  refine lv_icmp_ge (tgt := 62) hx hb dX11_init_40 (by decide) (fun hc => absurd hc (by decide)) (fun _ => ?_)
  refine lv_aload_n hx hb dX11_init_43 rfl (lv_at hl 1 rfl) ?_
  obtain ⟨hg1108, h⟩ := h
  refine xgX11_2r hx hb hts hown hK hW 0 hcX11_init_X11 (hSub1102 _ (x_mL hids1095 (hSub1084 _ (x_mL hids1077 (hSub1066 _ (x_mL hids1059 (hSub1048 _ (x_mL hids1041 (x_mL hids1033 (hSub1025 _ (x_mL hids1019 (hSub1011 _ (x_mL hids1005 hm_this))))))))))))) lX_0 (hts _ hwX11_init_14) (by exact hg1108) dX11_init_44 ?_
  refine lv_iload_n hx hb dX11_init_47 rfl (lv_at hl 0 rfl) ?_
  obtain ⟨⟨hq1109a, hq1109s, hq1109d, hq1109r, hq1109o⟩, h⟩ := h
  refine x_new hx hb hts hown hK hW hA 36 9 5 rfl hcX11_init_X9 tyX9_ok dvX9 rfl (hts _ hwX11_init_13) (hts _ hwX11_init_15) (hts _ hwX11_init_16) hq1109d hq1109a hq1109s hq1109r (Nat.le_of_ble_eq_true rfl) (Nat.le_of_ble_eq_true rfl) dX11_init_48 (fun ad1111 H hAd1112 hW => ?_)
  obtain ⟨σ1110, hσ1110⟩ : ∃ τ, τ = nC σ1107 36 := ⟨_, rfl⟩
  rw [← hσ1110] at hW
  obtain ⟨ids1113, hids1113⟩ : ∃ x, x = ids1100 ++ [36] := ⟨_, rfl⟩
  rw [← hids1113] at hW
  have h := h σ1110 hσ1110 ids1113 hids1113
  have e1114 : ad1099 0 = ad1111 0 := (hAd1112 _ (x_ne (hSub1102 _ (x_mL hids1095 (hSub1084 _ (x_mL hids1077 (hSub1066 _ (x_mL hids1059 (hSub1048 _ (x_mL hids1041 (x_mL hids1033 (hSub1025 _ (x_mL hids1019 (hSub1011 _ (x_mL hids1005 hm_this))))))))))))) hq1109d)).symm
  have e1115 : ad1099 14 = ad1111 14 := (hAd1112 _ (x_ne (hSub1102 _ (x_mL hids1095 (hSub1084 _ (x_mL hids1077 (hSub1066 _ (x_mL hids1059 (hSub1048 _ (x_mL hids1041 (x_mR hids1033))))))))) hq1109d)).symm
  rw [e1114] at hl
  rw [e1115]
  rw [← hids1113] at hq1109o
  refine lv_dup hx hb dX11_init_51 rfl ?_
  refine x_callvA (va_runIN (As := []) (rest := [.ref (ad1111 36), .int (4 : Int32), .ref (ad1111 14)]) ⟨hx, hb, hml, hown, hts⟩ (J_X9_init l (fun _ => rfl) hq1109o h) ⟨va_cnB 0 hts gX11_init_X9_init_n29 rfl rfl rfl (hK.2.2.1 _ (List.mem_of_getElem? (i := 3) rfl)) (hts _ hwX11_init_16) hdI_X9_init ⟨Nat.le_of_ble_eq_true rfl, Nat.le_of_ble_eq_true rfl⟩, rfl, (hts _ hwX11_init_17)⟩ (x_preS hK hZ hA hW) rfl rfl hl.1 rfl (lv_room (Nat.le_of_ble_eq_true rfl)) dX11_init_52 ⟨Nat.le_of_ble_eq_true rfl, Nat.le_of_ble_eq_true rfl⟩) hW hA (fun σ1116 ad1117 ids1118 H locs h hAd1119 hSub1120 hW => ?_)
  try dsimp only at h
  have e1121 : ad1111 0 = ad1117 0 := (hAd1119 _ (x_mL hids1113 (hSub1102 _ (x_mL hids1095 (hSub1084 _ (x_mL hids1077 (hSub1066 _ (x_mL hids1059 (hSub1048 _ (x_mL hids1041 (x_mL hids1033 (hSub1025 _ (x_mL hids1019 (hSub1011 _ (x_mL hids1005 hm_this))))))))))))))).symm
  have e1122 : ad1111 14 = ad1117 14 := (hAd1119 _ (x_mL hids1113 (hSub1102 _ (x_mL hids1095 (hSub1084 _ (x_mL hids1077 (hSub1066 _ (x_mL hids1059 (hSub1048 _ (x_mL hids1041 (x_mR hids1033))))))))))).symm
  have e1123 : ad1111 36 = ad1117 36 := (hAd1119 _ (x_mR hids1113)).symm
  rw [e1121] at hl
  rw [e1122, e1123]
  obtain ⟨hi1124, h⟩ := h
  refine x_ast hx hb hK hW 14 3 (hSub1120 _ (x_mL hids1113 (hSub1102 _ (x_mL hids1095 (hSub1084 _ (x_mL hids1077 (hSub1066 _ (x_mL hids1059 (hSub1048 _ (x_mL hids1041 (x_mR hids1033))))))))))) hq1029a (hSub1120 _ (x_mR hids1113)) hq1109a rfl rfl hi1124 (fun _ => rfl) dX11_init_55 (fun σ1125 H locs hσ1125 hW => ?_)
  have h := h σ1125 hσ1125
  refine lv_iinc (v := (5 : Int32)) (lv' := [(1, .int (5 : Int32)), (0, .ref (ad1117 0))]) hx hb dX11_init_56 hl (k := 0) rfl (by decide) (by decide) rfl (fun ls hl => ?_)
  refine lv_goto (tgt := 37) hx hb dX11_init_59 (by decide) ?_
  refine lv_iload_n hx hb dX11_init_37 rfl (lv_at hl 0 rfl) ?_
  refine lv_bipush (v := 6) hx hb dX11_init_38 (by decide) ?_
  refine lv_icmp_ge (tgt := 62) hx hb dX11_init_40 (by decide) (fun hc => absurd hc (by decide)) (fun _ => ?_)
  refine lv_aload_n hx hb dX11_init_43 rfl (lv_at hl 1 rfl) ?_
  obtain ⟨hg1126, h⟩ := h
  refine xgX11_2r hx hb hts hown hK hW 0 hcX11_init_X11 (hSub1120 _ (x_mL hids1113 (hSub1102 _ (x_mL hids1095 (hSub1084 _ (x_mL hids1077 (hSub1066 _ (x_mL hids1059 (hSub1048 _ (x_mL hids1041 (x_mL hids1033 (hSub1025 _ (x_mL hids1019 (hSub1011 _ (x_mL hids1005 hm_this))))))))))))))) lX_0 (hts _ hwX11_init_14) (by exact hg1126) dX11_init_44 ?_
  refine lv_iload_n hx hb dX11_init_47 rfl (lv_at hl 0 rfl) ?_
  obtain ⟨⟨hq1127a, hq1127s, hq1127d, hq1127r, hq1127o⟩, h⟩ := h
  refine x_new hx hb hts hown hK hW hA 40 9 5 rfl hcX11_init_X9 tyX9_ok dvX9 rfl (hts _ hwX11_init_13) (hts _ hwX11_init_15) (hts _ hwX11_init_16) hq1127d hq1127a hq1127s hq1127r (Nat.le_of_ble_eq_true rfl) (Nat.le_of_ble_eq_true rfl) dX11_init_48 (fun ad1129 H hAd1130 hW => ?_)
  obtain ⟨σ1128, hσ1128⟩ : ∃ τ, τ = nC σ1125 40 := ⟨_, rfl⟩
  rw [← hσ1128] at hW
  obtain ⟨ids1131, hids1131⟩ : ∃ x, x = ids1118 ++ [40] := ⟨_, rfl⟩
  rw [← hids1131] at hW
  have h := h σ1128 hσ1128 ids1131 hids1131
  have e1132 : ad1117 0 = ad1129 0 := (hAd1130 _ (x_ne (hSub1120 _ (x_mL hids1113 (hSub1102 _ (x_mL hids1095 (hSub1084 _ (x_mL hids1077 (hSub1066 _ (x_mL hids1059 (hSub1048 _ (x_mL hids1041 (x_mL hids1033 (hSub1025 _ (x_mL hids1019 (hSub1011 _ (x_mL hids1005 hm_this))))))))))))))) hq1127d)).symm
  have e1133 : ad1117 14 = ad1129 14 := (hAd1130 _ (x_ne (hSub1120 _ (x_mL hids1113 (hSub1102 _ (x_mL hids1095 (hSub1084 _ (x_mL hids1077 (hSub1066 _ (x_mL hids1059 (hSub1048 _ (x_mL hids1041 (x_mR hids1033))))))))))) hq1127d)).symm
  rw [e1132] at hl
  rw [e1133]
  rw [← hids1131] at hq1127o
  refine lv_dup hx hb dX11_init_51 rfl ?_
  refine x_callvA (va_runIN (As := []) (rest := [.ref (ad1129 40), .int (5 : Int32), .ref (ad1129 14)]) ⟨hx, hb, hml, hown, hts⟩ (J_X9_init l (fun _ => rfl) hq1127o h) ⟨va_cnB 0 hts gX11_init_X9_init_n29 rfl rfl rfl (hK.2.2.1 _ (List.mem_of_getElem? (i := 3) rfl)) (hts _ hwX11_init_16) hdI_X9_init ⟨Nat.le_of_ble_eq_true rfl, Nat.le_of_ble_eq_true rfl⟩, rfl, (hts _ hwX11_init_17)⟩ (x_preS hK hZ hA hW) rfl rfl hl.1 rfl (lv_room (Nat.le_of_ble_eq_true rfl)) dX11_init_52 ⟨Nat.le_of_ble_eq_true rfl, Nat.le_of_ble_eq_true rfl⟩) hW hA (fun σ1134 ad1135 ids1136 H locs h hAd1137 hSub1138 hW => ?_)
  try dsimp only at h
  have e1139 : ad1129 0 = ad1135 0 := (hAd1137 _ (x_mL hids1131 (hSub1120 _ (x_mL hids1113 (hSub1102 _ (x_mL hids1095 (hSub1084 _ (x_mL hids1077 (hSub1066 _ (x_mL hids1059 (hSub1048 _ (x_mL hids1041 (x_mL hids1033 (hSub1025 _ (x_mL hids1019 (hSub1011 _ (x_mL hids1005 hm_this))))))))))))))))).symm
  have e1140 : ad1129 14 = ad1135 14 := (hAd1137 _ (x_mL hids1131 (hSub1120 _ (x_mL hids1113 (hSub1102 _ (x_mL hids1095 (hSub1084 _ (x_mL hids1077 (hSub1066 _ (x_mL hids1059 (hSub1048 _ (x_mL hids1041 (x_mR hids1033))))))))))))).symm
  have e1141 : ad1129 40 = ad1135 40 := (hAd1137 _ (x_mR hids1131)).symm
  rw [e1139] at hl
  rw [e1140, e1141]
  obtain ⟨hi1142, h⟩ := h
  refine x_ast hx hb hK hW 14 3 (hSub1138 _ (x_mL hids1131 (hSub1120 _ (x_mL hids1113 (hSub1102 _ (x_mL hids1095 (hSub1084 _ (x_mL hids1077 (hSub1066 _ (x_mL hids1059 (hSub1048 _ (x_mL hids1041 (x_mR hids1033))))))))))))) hq1029a (hSub1138 _ (x_mR hids1131)) hq1127a rfl rfl hi1142 (fun _ => rfl) dX11_init_55 (fun σ1143 H locs hσ1143 hW => ?_)
  have h := h σ1143 hσ1143
  refine lv_iinc (v := (6 : Int32)) (lv' := [(1, .int (6 : Int32)), (0, .ref (ad1135 0))]) hx hb dX11_init_56 hl (k := 0) rfl (by decide) (by decide) rfl (fun ls hl => ?_)
  refine lv_goto (tgt := 37) hx hb dX11_init_59 (by decide) ?_
  refine lv_iload_n hx hb dX11_init_37 rfl (lv_at hl 0 rfl) ?_
  refine lv_bipush (v := 6) hx hb dX11_init_38 (by decide) ?_
  refine lv_icmp_ge (tgt := 62) hx hb dX11_init_40 (by decide) (fun _ => ?_) (fun hc => absurd (by decide) hc)
  refine lv_iconst (v := 0) hx hb dX11_init_62 (by decide) ?_
  refine lv_istore_n (lv' := [(1, .int (0 : Int32)), (0, .ref (ad1135 0))]) hx hb dX11_init_63 rfl hl (by decide) rfl (fun ls hl => ?_)
  refine lv_iload_n hx hb dX11_init_64 rfl (lv_at hl 0 rfl) ?_
  refine va_ldcS hx hb hown hZ.2.2.2.1 dX11_init_65 ?_
  obtain ⟨hv1144, h⟩ := h
  have hW := x_restat hW hv1144
  refine xs_calli (va_runV (As := []) (rest := [.int (0 : Int32)]) ⟨hx, hb, hml, hown, hts⟩ (J_J0_length_8abf5 (post := fun r => r = (51 : Int32)) l 0 (by decide) (by decide)) (cwV 0 hts gX11_init_J0_length_8abf5 rfl rfl rfl (by decide +kernel) ⟨Nat.le_of_ble_eq_true rfl, Nat.le_of_ble_eq_true rfl⟩) (xs_preV hZ hW.2.2 hA 0 (by decide)) rfl rfl hl.1 rfl (lv_room (Nat.le_of_ble_eq_true rfl)) dX11_init_67 ⟨Nat.le_of_ble_eq_true rfl, Nat.le_of_ble_eq_true rfl⟩) (fun r1145 hr1145 => ?_)
  subst hr1145
  refine lv_icmp_ge (tgt := 92) hx hb dX11_init_70 (by decide) (fun hc => absurd hc (by decide)) (fun _ => ?_)
  refine lv_aload_n hx hb dX11_init_73 rfl (lv_at hl 1 rfl) ?_
  obtain ⟨hg1146, h⟩ := h
  refine xgX11_1r hx hb hts hown hK hW 0 hcX11_init_X11 (hSub1138 _ (x_mL hids1131 (hSub1120 _ (x_mL hids1113 (hSub1102 _ (x_mL hids1095 (hSub1084 _ (x_mL hids1077 (hSub1066 _ (x_mL hids1059 (hSub1048 _ (x_mL hids1041 (x_mL hids1033 (hSub1025 _ (x_mL hids1019 (hSub1011 _ (x_mL hids1005 hm_this))))))))))))))))) lX_0 (hts _ hwX11_init_12) (by exact hg1146) dX11_init_74 ?_
  refine va_ldcS hx hb hown hZ.2.2.2.1 dX11_init_77 ?_
  refine lv_iload_n hx hb dX11_init_79 rfl (lv_at hl 0 rfl) ?_
  refine xs_calli (va_runV (As := [.int (0 : Int32)]) (rest := [.ref (ad1135 2)]) ⟨hx, hb, hml, hown, hts⟩ (J_J0_charAt_5068e (post := fun r => r = (119 : Int32)) l 0 0 (by decide) (by decide) (by decide)) (cwV 1 hts gX11_init_J0_charAt_5068e rfl rfl rfl (by decide +kernel) ⟨Nat.le_of_ble_eq_true rfl, Nat.le_of_ble_eq_true rfl⟩) (xs_preV hZ hW.2.2 hA 0 (by decide)) rfl rfl hl.1 rfl (lv_room (Nat.le_of_ble_eq_true rfl)) dX11_init_80 ⟨Nat.le_of_ble_eq_true rfl, Nat.le_of_ble_eq_true rfl⟩) (fun r1147 hr1147 => ?_)
  subst hr1147
  obtain ⟨h71148, h⟩ := h
  obtain ⟨h71149, h⟩ := h
  refine x_callv (va_runV (As := [.int (119 : Int32)]) (rest := []) ⟨hx, hb, hml, hown, hts⟩ (J_X7_take l h71148 h71149 h) (cwV 1 hts gX11_init_X7_take rfl rfl rfl hdV_X7_take ⟨Nat.le_of_ble_eq_true rfl, Nat.le_of_ble_eq_true rfl⟩) (x_preV (ci := 7) hK hZ hA hW (hSub1138 _ (x_mL hids1131 (hSub1120 _ (x_mL hids1113 (hSub1102 _ (x_mL hids1095 (hSub1084 _ (x_mL hids1077 (hSub1066 _ (x_mL hids1059 (hSub1048 _ (x_mL hids1041 (x_mL hids1033 (hSub1025 _ (x_mR hids1019))))))))))))))) hq1015a rfl) rfl rfl hl.1 rfl (lv_room (Nat.le_of_ble_eq_true rfl)) dX11_init_83 ⟨Nat.le_of_ble_eq_true rfl, Nat.le_of_ble_eq_true rfl⟩) hW hA (fun σ1150 H locs h hW => ?_)
  try dsimp only at h
  refine lv_iinc (v := (1 : Int32)) (lv' := [(1, .int (1 : Int32)), (0, .ref (ad1135 0))]) hx hb dX11_init_86 hl (k := 0) rfl (by decide) (by decide) rfl (fun ls hl => ?_)
  refine lv_goto (tgt := 64) hx hb dX11_init_89 (by decide) ?_
  refine lv_iload_n hx hb dX11_init_64 rfl (lv_at hl 0 rfl) ?_
  refine va_ldcS hx hb hown hZ.2.2.2.1 dX11_init_65 ?_
  refine xs_calli (va_runV (As := []) (rest := [.int (1 : Int32)]) ⟨hx, hb, hml, hown, hts⟩ (J_J0_length_8abf5 (post := fun r => r = (51 : Int32)) l 0 (by decide) (by decide)) (cwV 0 hts gX11_init_J0_length_8abf5 rfl rfl rfl (by decide +kernel) ⟨Nat.le_of_ble_eq_true rfl, Nat.le_of_ble_eq_true rfl⟩) (xs_preV hZ hW.2.2 hA 0 (by decide)) rfl rfl hl.1 rfl (lv_room (Nat.le_of_ble_eq_true rfl)) dX11_init_67 ⟨Nat.le_of_ble_eq_true rfl, Nat.le_of_ble_eq_true rfl⟩) (fun r1151 hr1151 => ?_)
  subst hr1151
  refine lv_icmp_ge (tgt := 92) hx hb dX11_init_70 (by decide) (fun hc => absurd hc (by decide)) (fun _ => ?_)
  refine lv_aload_n hx hb dX11_init_73 rfl (lv_at hl 1 rfl) ?_
  obtain ⟨hg1152, h⟩ := h
  refine xgX11_1r hx hb hts hown hK hW 0 hcX11_init_X11 (hSub1138 _ (x_mL hids1131 (hSub1120 _ (x_mL hids1113 (hSub1102 _ (x_mL hids1095 (hSub1084 _ (x_mL hids1077 (hSub1066 _ (x_mL hids1059 (hSub1048 _ (x_mL hids1041 (x_mL hids1033 (hSub1025 _ (x_mL hids1019 (hSub1011 _ (x_mL hids1005 hm_this))))))))))))))))) lX_0 (hts _ hwX11_init_12) (by exact hg1152) dX11_init_74 ?_
  refine va_ldcS hx hb hown hZ.2.2.2.1 dX11_init_77 ?_
  refine lv_iload_n hx hb dX11_init_79 rfl (lv_at hl 0 rfl) ?_
  refine xs_calli (va_runV (As := [.int (1 : Int32)]) (rest := [.ref (ad1135 2)]) ⟨hx, hb, hml, hown, hts⟩ (J_J0_charAt_5068e (post := fun r => r = (101 : Int32)) l 0 1 (by decide) (by decide) (by decide)) (cwV 1 hts gX11_init_J0_charAt_5068e rfl rfl rfl (by decide +kernel) ⟨Nat.le_of_ble_eq_true rfl, Nat.le_of_ble_eq_true rfl⟩) (xs_preV hZ hW.2.2 hA 0 (by decide)) rfl rfl hl.1 rfl (lv_room (Nat.le_of_ble_eq_true rfl)) dX11_init_80 ⟨Nat.le_of_ble_eq_true rfl, Nat.le_of_ble_eq_true rfl⟩) (fun r1153 hr1153 => ?_)
  subst hr1153
  refine x_callv (va_runV (As := [.int (101 : Int32)]) (rest := []) ⟨hx, hb, hml, hown, hts⟩ (J_X7_take l h71148 h71149 h) (cwV 1 hts gX11_init_X7_take rfl rfl rfl hdV_X7_take ⟨Nat.le_of_ble_eq_true rfl, Nat.le_of_ble_eq_true rfl⟩) (x_preV (ci := 7) hK hZ hA hW (hSub1138 _ (x_mL hids1131 (hSub1120 _ (x_mL hids1113 (hSub1102 _ (x_mL hids1095 (hSub1084 _ (x_mL hids1077 (hSub1066 _ (x_mL hids1059 (hSub1048 _ (x_mL hids1041 (x_mL hids1033 (hSub1025 _ (x_mR hids1019))))))))))))))) hq1015a rfl) rfl rfl hl.1 rfl (lv_room (Nat.le_of_ble_eq_true rfl)) dX11_init_83 ⟨Nat.le_of_ble_eq_true rfl, Nat.le_of_ble_eq_true rfl⟩) hW hA (fun σ1156 H locs h hW => ?_)
  try dsimp only at h
  refine lv_iinc (v := (2 : Int32)) (lv' := [(1, .int (2 : Int32)), (0, .ref (ad1135 0))]) hx hb dX11_init_86 hl (k := 0) rfl (by decide) (by decide) rfl (fun ls hl => ?_)
  refine lv_goto (tgt := 64) hx hb dX11_init_89 (by decide) ?_
  refine lv_iload_n hx hb dX11_init_64 rfl (lv_at hl 0 rfl) ?_
  refine va_ldcS hx hb hown hZ.2.2.2.1 dX11_init_65 ?_
  refine xs_calli (va_runV (As := []) (rest := [.int (2 : Int32)]) ⟨hx, hb, hml, hown, hts⟩ (J_J0_length_8abf5 (post := fun r => r = (51 : Int32)) l 0 (by decide) (by decide)) (cwV 0 hts gX11_init_J0_length_8abf5 rfl rfl rfl (by decide +kernel) ⟨Nat.le_of_ble_eq_true rfl, Nat.le_of_ble_eq_true rfl⟩) (xs_preV hZ hW.2.2 hA 0 (by decide)) rfl rfl hl.1 rfl (lv_room (Nat.le_of_ble_eq_true rfl)) dX11_init_67 ⟨Nat.le_of_ble_eq_true rfl, Nat.le_of_ble_eq_true rfl⟩) (fun r1157 hr1157 => ?_)
  subst hr1157
  refine lv_icmp_ge (tgt := 92) hx hb dX11_init_70 (by decide) (fun hc => absurd hc (by decide)) (fun _ => ?_)
  refine lv_aload_n hx hb dX11_init_73 rfl (lv_at hl 1 rfl) ?_
  obtain ⟨hg1158, h⟩ := h
  refine xgX11_1r hx hb hts hown hK hW 0 hcX11_init_X11 (hSub1138 _ (x_mL hids1131 (hSub1120 _ (x_mL hids1113 (hSub1102 _ (x_mL hids1095 (hSub1084 _ (x_mL hids1077 (hSub1066 _ (x_mL hids1059 (hSub1048 _ (x_mL hids1041 (x_mL hids1033 (hSub1025 _ (x_mL hids1019 (hSub1011 _ (x_mL hids1005 hm_this))))))))))))))))) lX_0 (hts _ hwX11_init_12) (by exact hg1158) dX11_init_74 ?_
  refine va_ldcS hx hb hown hZ.2.2.2.1 dX11_init_77 ?_
  refine lv_iload_n hx hb dX11_init_79 rfl (lv_at hl 0 rfl) ?_
  refine xs_calli (va_runV (As := [.int (2 : Int32)]) (rest := [.ref (ad1135 2)]) ⟨hx, hb, hml, hown, hts⟩ (J_J0_charAt_5068e (post := fun r => r = (97 : Int32)) l 0 2 (by decide) (by decide) (by decide)) (cwV 1 hts gX11_init_J0_charAt_5068e rfl rfl rfl (by decide +kernel) ⟨Nat.le_of_ble_eq_true rfl, Nat.le_of_ble_eq_true rfl⟩) (xs_preV hZ hW.2.2 hA 0 (by decide)) rfl rfl hl.1 rfl (lv_room (Nat.le_of_ble_eq_true rfl)) dX11_init_80 ⟨Nat.le_of_ble_eq_true rfl, Nat.le_of_ble_eq_true rfl⟩) (fun r1159 hr1159 => ?_)
  subst hr1159
  refine x_callv (va_runV (As := [.int (97 : Int32)]) (rest := []) ⟨hx, hb, hml, hown, hts⟩ (J_X7_take l h71148 h71149 h) (cwV 1 hts gX11_init_X7_take rfl rfl rfl hdV_X7_take ⟨Nat.le_of_ble_eq_true rfl, Nat.le_of_ble_eq_true rfl⟩) (x_preV (ci := 7) hK hZ hA hW (hSub1138 _ (x_mL hids1131 (hSub1120 _ (x_mL hids1113 (hSub1102 _ (x_mL hids1095 (hSub1084 _ (x_mL hids1077 (hSub1066 _ (x_mL hids1059 (hSub1048 _ (x_mL hids1041 (x_mL hids1033 (hSub1025 _ (x_mR hids1019))))))))))))))) hq1015a rfl) rfl rfl hl.1 rfl (lv_room (Nat.le_of_ble_eq_true rfl)) dX11_init_83 ⟨Nat.le_of_ble_eq_true rfl, Nat.le_of_ble_eq_true rfl⟩) hW hA (fun σ1162 H locs h hW => ?_)
  try dsimp only at h
  refine lv_iinc (v := (3 : Int32)) (lv' := [(1, .int (3 : Int32)), (0, .ref (ad1135 0))]) hx hb dX11_init_86 hl (k := 0) rfl (by decide) (by decide) rfl (fun ls hl => ?_)
  refine lv_goto (tgt := 64) hx hb dX11_init_89 (by decide) ?_
  refine lv_iload_n hx hb dX11_init_64 rfl (lv_at hl 0 rfl) ?_
  refine va_ldcS hx hb hown hZ.2.2.2.1 dX11_init_65 ?_
  refine xs_calli (va_runV (As := []) (rest := [.int (3 : Int32)]) ⟨hx, hb, hml, hown, hts⟩ (J_J0_length_8abf5 (post := fun r => r = (51 : Int32)) l 0 (by decide) (by decide)) (cwV 0 hts gX11_init_J0_length_8abf5 rfl rfl rfl (by decide +kernel) ⟨Nat.le_of_ble_eq_true rfl, Nat.le_of_ble_eq_true rfl⟩) (xs_preV hZ hW.2.2 hA 0 (by decide)) rfl rfl hl.1 rfl (lv_room (Nat.le_of_ble_eq_true rfl)) dX11_init_67 ⟨Nat.le_of_ble_eq_true rfl, Nat.le_of_ble_eq_true rfl⟩) (fun r1163 hr1163 => ?_)
  subst hr1163
  refine lv_icmp_ge (tgt := 92) hx hb dX11_init_70 (by decide) (fun hc => absurd hc (by decide)) (fun _ => ?_)
  refine lv_aload_n hx hb dX11_init_73 rfl (lv_at hl 1 rfl) ?_
  obtain ⟨hg1164, h⟩ := h
  refine xgX11_1r hx hb hts hown hK hW 0 hcX11_init_X11 (hSub1138 _ (x_mL hids1131 (hSub1120 _ (x_mL hids1113 (hSub1102 _ (x_mL hids1095 (hSub1084 _ (x_mL hids1077 (hSub1066 _ (x_mL hids1059 (hSub1048 _ (x_mL hids1041 (x_mL hids1033 (hSub1025 _ (x_mL hids1019 (hSub1011 _ (x_mL hids1005 hm_this))))))))))))))))) lX_0 (hts _ hwX11_init_12) (by exact hg1164) dX11_init_74 ?_
  refine va_ldcS hx hb hown hZ.2.2.2.1 dX11_init_77 ?_
  refine lv_iload_n hx hb dX11_init_79 rfl (lv_at hl 0 rfl) ?_
  refine xs_calli (va_runV (As := [.int (3 : Int32)]) (rest := [.ref (ad1135 2)]) ⟨hx, hb, hml, hown, hts⟩ (J_J0_charAt_5068e (post := fun r => r = (114 : Int32)) l 0 3 (by decide) (by decide) (by decide)) (cwV 1 hts gX11_init_J0_charAt_5068e rfl rfl rfl (by decide +kernel) ⟨Nat.le_of_ble_eq_true rfl, Nat.le_of_ble_eq_true rfl⟩) (xs_preV hZ hW.2.2 hA 0 (by decide)) rfl rfl hl.1 rfl (lv_room (Nat.le_of_ble_eq_true rfl)) dX11_init_80 ⟨Nat.le_of_ble_eq_true rfl, Nat.le_of_ble_eq_true rfl⟩) (fun r1165 hr1165 => ?_)
  subst hr1165
  refine x_callv (va_runV (As := [.int (114 : Int32)]) (rest := []) ⟨hx, hb, hml, hown, hts⟩ (J_X7_take l h71148 h71149 h) (cwV 1 hts gX11_init_X7_take rfl rfl rfl hdV_X7_take ⟨Nat.le_of_ble_eq_true rfl, Nat.le_of_ble_eq_true rfl⟩) (x_preV (ci := 7) hK hZ hA hW (hSub1138 _ (x_mL hids1131 (hSub1120 _ (x_mL hids1113 (hSub1102 _ (x_mL hids1095 (hSub1084 _ (x_mL hids1077 (hSub1066 _ (x_mL hids1059 (hSub1048 _ (x_mL hids1041 (x_mL hids1033 (hSub1025 _ (x_mR hids1019))))))))))))))) hq1015a rfl) rfl rfl hl.1 rfl (lv_room (Nat.le_of_ble_eq_true rfl)) dX11_init_83 ⟨Nat.le_of_ble_eq_true rfl, Nat.le_of_ble_eq_true rfl⟩) hW hA (fun σ1168 H locs h hW => ?_)
  try dsimp only at h
  refine lv_iinc (v := (4 : Int32)) (lv' := [(1, .int (4 : Int32)), (0, .ref (ad1135 0))]) hx hb dX11_init_86 hl (k := 0) rfl (by decide) (by decide) rfl (fun ls hl => ?_)
  refine lv_goto (tgt := 64) hx hb dX11_init_89 (by decide) ?_
  refine lv_iload_n hx hb dX11_init_64 rfl (lv_at hl 0 rfl) ?_
  refine va_ldcS hx hb hown hZ.2.2.2.1 dX11_init_65 ?_
  refine xs_calli (va_runV (As := []) (rest := [.int (4 : Int32)]) ⟨hx, hb, hml, hown, hts⟩ (J_J0_length_8abf5 (post := fun r => r = (51 : Int32)) l 0 (by decide) (by decide)) (cwV 0 hts gX11_init_J0_length_8abf5 rfl rfl rfl (by decide +kernel) ⟨Nat.le_of_ble_eq_true rfl, Nat.le_of_ble_eq_true rfl⟩) (xs_preV hZ hW.2.2 hA 0 (by decide)) rfl rfl hl.1 rfl (lv_room (Nat.le_of_ble_eq_true rfl)) dX11_init_67 ⟨Nat.le_of_ble_eq_true rfl, Nat.le_of_ble_eq_true rfl⟩) (fun r1169 hr1169 => ?_)
  subst hr1169
  refine lv_icmp_ge (tgt := 92) hx hb dX11_init_70 (by decide) (fun hc => absurd hc (by decide)) (fun _ => ?_)
  refine lv_aload_n hx hb dX11_init_73 rfl (lv_at hl 1 rfl) ?_
  obtain ⟨hg1170, h⟩ := h
  refine xgX11_1r hx hb hts hown hK hW 0 hcX11_init_X11 (hSub1138 _ (x_mL hids1131 (hSub1120 _ (x_mL hids1113 (hSub1102 _ (x_mL hids1095 (hSub1084 _ (x_mL hids1077 (hSub1066 _ (x_mL hids1059 (hSub1048 _ (x_mL hids1041 (x_mL hids1033 (hSub1025 _ (x_mL hids1019 (hSub1011 _ (x_mL hids1005 hm_this))))))))))))))))) lX_0 (hts _ hwX11_init_12) (by exact hg1170) dX11_init_74 ?_
  refine va_ldcS hx hb hown hZ.2.2.2.1 dX11_init_77 ?_
  refine lv_iload_n hx hb dX11_init_79 rfl (lv_at hl 0 rfl) ?_
  refine xs_calli (va_runV (As := [.int (4 : Int32)]) (rest := [.ref (ad1135 2)]) ⟨hx, hb, hml, hown, hts⟩ (J_J0_charAt_5068e (post := fun r => r = (32 : Int32)) l 0 4 (by decide) (by decide) (by decide)) (cwV 1 hts gX11_init_J0_charAt_5068e rfl rfl rfl (by decide +kernel) ⟨Nat.le_of_ble_eq_true rfl, Nat.le_of_ble_eq_true rfl⟩) (xs_preV hZ hW.2.2 hA 0 (by decide)) rfl rfl hl.1 rfl (lv_room (Nat.le_of_ble_eq_true rfl)) dX11_init_80 ⟨Nat.le_of_ble_eq_true rfl, Nat.le_of_ble_eq_true rfl⟩) (fun r1171 hr1171 => ?_)
  subst hr1171
  refine x_callv (va_runV (As := [.int (32 : Int32)]) (rest := []) ⟨hx, hb, hml, hown, hts⟩ (J_X7_take l h71148 h71149 h) (cwV 1 hts gX11_init_X7_take rfl rfl rfl hdV_X7_take ⟨Nat.le_of_ble_eq_true rfl, Nat.le_of_ble_eq_true rfl⟩) (x_preV (ci := 7) hK hZ hA hW (hSub1138 _ (x_mL hids1131 (hSub1120 _ (x_mL hids1113 (hSub1102 _ (x_mL hids1095 (hSub1084 _ (x_mL hids1077 (hSub1066 _ (x_mL hids1059 (hSub1048 _ (x_mL hids1041 (x_mL hids1033 (hSub1025 _ (x_mR hids1019))))))))))))))) hq1015a rfl) rfl rfl hl.1 rfl (lv_room (Nat.le_of_ble_eq_true rfl)) dX11_init_83 ⟨Nat.le_of_ble_eq_true rfl, Nat.le_of_ble_eq_true rfl⟩) hW hA (fun σ1174 H locs h hW => ?_)
  try dsimp only at h
  refine lv_iinc (v := (5 : Int32)) (lv' := [(1, .int (5 : Int32)), (0, .ref (ad1135 0))]) hx hb dX11_init_86 hl (k := 0) rfl (by decide) (by decide) rfl (fun ls hl => ?_)
  refine lv_goto (tgt := 64) hx hb dX11_init_89 (by decide) ?_
  refine lv_iload_n hx hb dX11_init_64 rfl (lv_at hl 0 rfl) ?_
  refine va_ldcS hx hb hown hZ.2.2.2.1 dX11_init_65 ?_
  refine xs_calli (va_runV (As := []) (rest := [.int (5 : Int32)]) ⟨hx, hb, hml, hown, hts⟩ (J_J0_length_8abf5 (post := fun r => r = (51 : Int32)) l 0 (by decide) (by decide)) (cwV 0 hts gX11_init_J0_length_8abf5 rfl rfl rfl (by decide +kernel) ⟨Nat.le_of_ble_eq_true rfl, Nat.le_of_ble_eq_true rfl⟩) (xs_preV hZ hW.2.2 hA 0 (by decide)) rfl rfl hl.1 rfl (lv_room (Nat.le_of_ble_eq_true rfl)) dX11_init_67 ⟨Nat.le_of_ble_eq_true rfl, Nat.le_of_ble_eq_true rfl⟩) (fun r1175 hr1175 => ?_)
  subst hr1175
  refine lv_icmp_ge (tgt := 92) hx hb dX11_init_70 (by decide) (fun hc => absurd hc (by decide)) (fun _ => ?_)
  refine lv_aload_n hx hb dX11_init_73 rfl (lv_at hl 1 rfl) ?_
  obtain ⟨hg1176, h⟩ := h
  refine xgX11_1r hx hb hts hown hK hW 0 hcX11_init_X11 (hSub1138 _ (x_mL hids1131 (hSub1120 _ (x_mL hids1113 (hSub1102 _ (x_mL hids1095 (hSub1084 _ (x_mL hids1077 (hSub1066 _ (x_mL hids1059 (hSub1048 _ (x_mL hids1041 (x_mL hids1033 (hSub1025 _ (x_mL hids1019 (hSub1011 _ (x_mL hids1005 hm_this))))))))))))))))) lX_0 (hts _ hwX11_init_12) (by exact hg1176) dX11_init_74 ?_
  refine va_ldcS hx hb hown hZ.2.2.2.1 dX11_init_77 ?_
  refine lv_iload_n hx hb dX11_init_79 rfl (lv_at hl 0 rfl) ?_
  refine xs_calli (va_runV (As := [.int (5 : Int32)]) (rest := [.ref (ad1135 2)]) ⟨hx, hb, hml, hown, hts⟩ (J_J0_charAt_5068e (post := fun r => r = (108 : Int32)) l 0 5 (by decide) (by decide) (by decide)) (cwV 1 hts gX11_init_J0_charAt_5068e rfl rfl rfl (by decide +kernel) ⟨Nat.le_of_ble_eq_true rfl, Nat.le_of_ble_eq_true rfl⟩) (xs_preV hZ hW.2.2 hA 0 (by decide)) rfl rfl hl.1 rfl (lv_room (Nat.le_of_ble_eq_true rfl)) dX11_init_80 ⟨Nat.le_of_ble_eq_true rfl, Nat.le_of_ble_eq_true rfl⟩) (fun r1177 hr1177 => ?_)
  subst hr1177
  refine x_callv (va_runV (As := [.int (108 : Int32)]) (rest := []) ⟨hx, hb, hml, hown, hts⟩ (J_X7_take l h71148 h71149 h) (cwV 1 hts gX11_init_X7_take rfl rfl rfl hdV_X7_take ⟨Nat.le_of_ble_eq_true rfl, Nat.le_of_ble_eq_true rfl⟩) (x_preV (ci := 7) hK hZ hA hW (hSub1138 _ (x_mL hids1131 (hSub1120 _ (x_mL hids1113 (hSub1102 _ (x_mL hids1095 (hSub1084 _ (x_mL hids1077 (hSub1066 _ (x_mL hids1059 (hSub1048 _ (x_mL hids1041 (x_mL hids1033 (hSub1025 _ (x_mR hids1019))))))))))))))) hq1015a rfl) rfl rfl hl.1 rfl (lv_room (Nat.le_of_ble_eq_true rfl)) dX11_init_83 ⟨Nat.le_of_ble_eq_true rfl, Nat.le_of_ble_eq_true rfl⟩) hW hA (fun σ1180 H locs h hW => ?_)
  try dsimp only at h
  refine lv_iinc (v := (6 : Int32)) (lv' := [(1, .int (6 : Int32)), (0, .ref (ad1135 0))]) hx hb dX11_init_86 hl (k := 0) rfl (by decide) (by decide) rfl (fun ls hl => ?_)
  refine lv_goto (tgt := 64) hx hb dX11_init_89 (by decide) ?_
  refine lv_iload_n hx hb dX11_init_64 rfl (lv_at hl 0 rfl) ?_
  refine va_ldcS hx hb hown hZ.2.2.2.1 dX11_init_65 ?_
  refine xs_calli (va_runV (As := []) (rest := [.int (6 : Int32)]) ⟨hx, hb, hml, hown, hts⟩ (J_J0_length_8abf5 (post := fun r => r = (51 : Int32)) l 0 (by decide) (by decide)) (cwV 0 hts gX11_init_J0_length_8abf5 rfl rfl rfl (by decide +kernel) ⟨Nat.le_of_ble_eq_true rfl, Nat.le_of_ble_eq_true rfl⟩) (xs_preV hZ hW.2.2 hA 0 (by decide)) rfl rfl hl.1 rfl (lv_room (Nat.le_of_ble_eq_true rfl)) dX11_init_67 ⟨Nat.le_of_ble_eq_true rfl, Nat.le_of_ble_eq_true rfl⟩) (fun r1181 hr1181 => ?_)
  subst hr1181
  refine lv_icmp_ge (tgt := 92) hx hb dX11_init_70 (by decide) (fun hc => absurd hc (by decide)) (fun _ => ?_)
  refine lv_aload_n hx hb dX11_init_73 rfl (lv_at hl 1 rfl) ?_
  obtain ⟨hg1182, h⟩ := h
  refine xgX11_1r hx hb hts hown hK hW 0 hcX11_init_X11 (hSub1138 _ (x_mL hids1131 (hSub1120 _ (x_mL hids1113 (hSub1102 _ (x_mL hids1095 (hSub1084 _ (x_mL hids1077 (hSub1066 _ (x_mL hids1059 (hSub1048 _ (x_mL hids1041 (x_mL hids1033 (hSub1025 _ (x_mL hids1019 (hSub1011 _ (x_mL hids1005 hm_this))))))))))))))))) lX_0 (hts _ hwX11_init_12) (by exact hg1182) dX11_init_74 ?_
  refine va_ldcS hx hb hown hZ.2.2.2.1 dX11_init_77 ?_
  refine lv_iload_n hx hb dX11_init_79 rfl (lv_at hl 0 rfl) ?_
  refine xs_calli (va_runV (As := [.int (6 : Int32)]) (rest := [.ref (ad1135 2)]) ⟨hx, hb, hml, hown, hts⟩ (J_J0_charAt_5068e (post := fun r => r = (111 : Int32)) l 0 6 (by decide) (by decide) (by decide)) (cwV 1 hts gX11_init_J0_charAt_5068e rfl rfl rfl (by decide +kernel) ⟨Nat.le_of_ble_eq_true rfl, Nat.le_of_ble_eq_true rfl⟩) (xs_preV hZ hW.2.2 hA 0 (by decide)) rfl rfl hl.1 rfl (lv_room (Nat.le_of_ble_eq_true rfl)) dX11_init_80 ⟨Nat.le_of_ble_eq_true rfl, Nat.le_of_ble_eq_true rfl⟩) (fun r1183 hr1183 => ?_)
  subst hr1183
  refine x_callv (va_runV (As := [.int (111 : Int32)]) (rest := []) ⟨hx, hb, hml, hown, hts⟩ (J_X7_take l h71148 h71149 h) (cwV 1 hts gX11_init_X7_take rfl rfl rfl hdV_X7_take ⟨Nat.le_of_ble_eq_true rfl, Nat.le_of_ble_eq_true rfl⟩) (x_preV (ci := 7) hK hZ hA hW (hSub1138 _ (x_mL hids1131 (hSub1120 _ (x_mL hids1113 (hSub1102 _ (x_mL hids1095 (hSub1084 _ (x_mL hids1077 (hSub1066 _ (x_mL hids1059 (hSub1048 _ (x_mL hids1041 (x_mL hids1033 (hSub1025 _ (x_mR hids1019))))))))))))))) hq1015a rfl) rfl rfl hl.1 rfl (lv_room (Nat.le_of_ble_eq_true rfl)) dX11_init_83 ⟨Nat.le_of_ble_eq_true rfl, Nat.le_of_ble_eq_true rfl⟩) hW hA (fun σ1186 H locs h hW => ?_)
  try dsimp only at h
  refine lv_iinc (v := (7 : Int32)) (lv' := [(1, .int (7 : Int32)), (0, .ref (ad1135 0))]) hx hb dX11_init_86 hl (k := 0) rfl (by decide) (by decide) rfl (fun ls hl => ?_)
  refine lv_goto (tgt := 64) hx hb dX11_init_89 (by decide) ?_
  refine lv_iload_n hx hb dX11_init_64 rfl (lv_at hl 0 rfl) ?_
  refine va_ldcS hx hb hown hZ.2.2.2.1 dX11_init_65 ?_
  refine xs_calli (va_runV (As := []) (rest := [.int (7 : Int32)]) ⟨hx, hb, hml, hown, hts⟩ (J_J0_length_8abf5 (post := fun r => r = (51 : Int32)) l 0 (by decide) (by decide)) (cwV 0 hts gX11_init_J0_length_8abf5 rfl rfl rfl (by decide +kernel) ⟨Nat.le_of_ble_eq_true rfl, Nat.le_of_ble_eq_true rfl⟩) (xs_preV hZ hW.2.2 hA 0 (by decide)) rfl rfl hl.1 rfl (lv_room (Nat.le_of_ble_eq_true rfl)) dX11_init_67 ⟨Nat.le_of_ble_eq_true rfl, Nat.le_of_ble_eq_true rfl⟩) (fun r1187 hr1187 => ?_)
  subst hr1187
  refine lv_icmp_ge (tgt := 92) hx hb dX11_init_70 (by decide) (fun hc => absurd hc (by decide)) (fun _ => ?_)
  refine lv_aload_n hx hb dX11_init_73 rfl (lv_at hl 1 rfl) ?_
  obtain ⟨hg1188, h⟩ := h
  refine xgX11_1r hx hb hts hown hK hW 0 hcX11_init_X11 (hSub1138 _ (x_mL hids1131 (hSub1120 _ (x_mL hids1113 (hSub1102 _ (x_mL hids1095 (hSub1084 _ (x_mL hids1077 (hSub1066 _ (x_mL hids1059 (hSub1048 _ (x_mL hids1041 (x_mL hids1033 (hSub1025 _ (x_mL hids1019 (hSub1011 _ (x_mL hids1005 hm_this))))))))))))))))) lX_0 (hts _ hwX11_init_12) (by exact hg1188) dX11_init_74 ?_
  refine va_ldcS hx hb hown hZ.2.2.2.1 dX11_init_77 ?_
  refine lv_iload_n hx hb dX11_init_79 rfl (lv_at hl 0 rfl) ?_
  refine xs_calli (va_runV (As := [.int (7 : Int32)]) (rest := [.ref (ad1135 2)]) ⟨hx, hb, hml, hown, hts⟩ (J_J0_charAt_5068e (post := fun r => r = (97 : Int32)) l 0 7 (by decide) (by decide) (by decide)) (cwV 1 hts gX11_init_J0_charAt_5068e rfl rfl rfl (by decide +kernel) ⟨Nat.le_of_ble_eq_true rfl, Nat.le_of_ble_eq_true rfl⟩) (xs_preV hZ hW.2.2 hA 0 (by decide)) rfl rfl hl.1 rfl (lv_room (Nat.le_of_ble_eq_true rfl)) dX11_init_80 ⟨Nat.le_of_ble_eq_true rfl, Nat.le_of_ble_eq_true rfl⟩) (fun r1189 hr1189 => ?_)
  subst hr1189
  refine x_callv (va_runV (As := [.int (97 : Int32)]) (rest := []) ⟨hx, hb, hml, hown, hts⟩ (J_X7_take l h71148 h71149 h) (cwV 1 hts gX11_init_X7_take rfl rfl rfl hdV_X7_take ⟨Nat.le_of_ble_eq_true rfl, Nat.le_of_ble_eq_true rfl⟩) (x_preV (ci := 7) hK hZ hA hW (hSub1138 _ (x_mL hids1131 (hSub1120 _ (x_mL hids1113 (hSub1102 _ (x_mL hids1095 (hSub1084 _ (x_mL hids1077 (hSub1066 _ (x_mL hids1059 (hSub1048 _ (x_mL hids1041 (x_mL hids1033 (hSub1025 _ (x_mR hids1019))))))))))))))) hq1015a rfl) rfl rfl hl.1 rfl (lv_room (Nat.le_of_ble_eq_true rfl)) dX11_init_83 ⟨Nat.le_of_ble_eq_true rfl, Nat.le_of_ble_eq_true rfl⟩) hW hA (fun σ1192 H locs h hW => ?_)
  try dsimp only at h
  refine lv_iinc (v := (8 : Int32)) (lv' := [(1, .int (8 : Int32)), (0, .ref (ad1135 0))]) hx hb dX11_init_86 hl (k := 0) rfl (by decide) (by decide) rfl (fun ls hl => ?_)
  refine lv_goto (tgt := 64) hx hb dX11_init_89 (by decide) ?_
  refine lv_iload_n hx hb dX11_init_64 rfl (lv_at hl 0 rfl) ?_
  refine va_ldcS hx hb hown hZ.2.2.2.1 dX11_init_65 ?_
  refine xs_calli (va_runV (As := []) (rest := [.int (8 : Int32)]) ⟨hx, hb, hml, hown, hts⟩ (J_J0_length_8abf5 (post := fun r => r = (51 : Int32)) l 0 (by decide) (by decide)) (cwV 0 hts gX11_init_J0_length_8abf5 rfl rfl rfl (by decide +kernel) ⟨Nat.le_of_ble_eq_true rfl, Nat.le_of_ble_eq_true rfl⟩) (xs_preV hZ hW.2.2 hA 0 (by decide)) rfl rfl hl.1 rfl (lv_room (Nat.le_of_ble_eq_true rfl)) dX11_init_67 ⟨Nat.le_of_ble_eq_true rfl, Nat.le_of_ble_eq_true rfl⟩) (fun r1193 hr1193 => ?_)
  subst hr1193
  refine lv_icmp_ge (tgt := 92) hx hb dX11_init_70 (by decide) (fun hc => absurd hc (by decide)) (fun _ => ?_)
  refine lv_aload_n hx hb dX11_init_73 rfl (lv_at hl 1 rfl) ?_
  obtain ⟨hg1194, h⟩ := h
  refine xgX11_1r hx hb hts hown hK hW 0 hcX11_init_X11 (hSub1138 _ (x_mL hids1131 (hSub1120 _ (x_mL hids1113 (hSub1102 _ (x_mL hids1095 (hSub1084 _ (x_mL hids1077 (hSub1066 _ (x_mL hids1059 (hSub1048 _ (x_mL hids1041 (x_mL hids1033 (hSub1025 _ (x_mL hids1019 (hSub1011 _ (x_mL hids1005 hm_this))))))))))))))))) lX_0 (hts _ hwX11_init_12) (by exact hg1194) dX11_init_74 ?_
  refine va_ldcS hx hb hown hZ.2.2.2.1 dX11_init_77 ?_
  refine lv_iload_n hx hb dX11_init_79 rfl (lv_at hl 0 rfl) ?_
  refine xs_calli (va_runV (As := [.int (8 : Int32)]) (rest := [.ref (ad1135 2)]) ⟨hx, hb, hml, hown, hts⟩ (J_J0_charAt_5068e (post := fun r => r = (100 : Int32)) l 0 8 (by decide) (by decide) (by decide)) (cwV 1 hts gX11_init_J0_charAt_5068e rfl rfl rfl (by decide +kernel) ⟨Nat.le_of_ble_eq_true rfl, Nat.le_of_ble_eq_true rfl⟩) (xs_preV hZ hW.2.2 hA 0 (by decide)) rfl rfl hl.1 rfl (lv_room (Nat.le_of_ble_eq_true rfl)) dX11_init_80 ⟨Nat.le_of_ble_eq_true rfl, Nat.le_of_ble_eq_true rfl⟩) (fun r1195 hr1195 => ?_)
  subst hr1195
  refine x_callv (va_runV (As := [.int (100 : Int32)]) (rest := []) ⟨hx, hb, hml, hown, hts⟩ (J_X7_take l h71148 h71149 h) (cwV 1 hts gX11_init_X7_take rfl rfl rfl hdV_X7_take ⟨Nat.le_of_ble_eq_true rfl, Nat.le_of_ble_eq_true rfl⟩) (x_preV (ci := 7) hK hZ hA hW (hSub1138 _ (x_mL hids1131 (hSub1120 _ (x_mL hids1113 (hSub1102 _ (x_mL hids1095 (hSub1084 _ (x_mL hids1077 (hSub1066 _ (x_mL hids1059 (hSub1048 _ (x_mL hids1041 (x_mL hids1033 (hSub1025 _ (x_mR hids1019))))))))))))))) hq1015a rfl) rfl rfl hl.1 rfl (lv_room (Nat.le_of_ble_eq_true rfl)) dX11_init_83 ⟨Nat.le_of_ble_eq_true rfl, Nat.le_of_ble_eq_true rfl⟩) hW hA (fun σ1198 H locs h hW => ?_)
  try dsimp only at h
  refine lv_iinc (v := (9 : Int32)) (lv' := [(1, .int (9 : Int32)), (0, .ref (ad1135 0))]) hx hb dX11_init_86 hl (k := 0) rfl (by decide) (by decide) rfl (fun ls hl => ?_)
  refine lv_goto (tgt := 64) hx hb dX11_init_89 (by decide) ?_
  refine lv_iload_n hx hb dX11_init_64 rfl (lv_at hl 0 rfl) ?_
  refine va_ldcS hx hb hown hZ.2.2.2.1 dX11_init_65 ?_
  refine xs_calli (va_runV (As := []) (rest := [.int (9 : Int32)]) ⟨hx, hb, hml, hown, hts⟩ (J_J0_length_8abf5 (post := fun r => r = (51 : Int32)) l 0 (by decide) (by decide)) (cwV 0 hts gX11_init_J0_length_8abf5 rfl rfl rfl (by decide +kernel) ⟨Nat.le_of_ble_eq_true rfl, Nat.le_of_ble_eq_true rfl⟩) (xs_preV hZ hW.2.2 hA 0 (by decide)) rfl rfl hl.1 rfl (lv_room (Nat.le_of_ble_eq_true rfl)) dX11_init_67 ⟨Nat.le_of_ble_eq_true rfl, Nat.le_of_ble_eq_true rfl⟩) (fun r1199 hr1199 => ?_)
  subst hr1199
  refine lv_icmp_ge (tgt := 92) hx hb dX11_init_70 (by decide) (fun hc => absurd hc (by decide)) (fun _ => ?_)
  refine lv_aload_n hx hb dX11_init_73 rfl (lv_at hl 1 rfl) ?_
  obtain ⟨hg1200, h⟩ := h
  refine xgX11_1r hx hb hts hown hK hW 0 hcX11_init_X11 (hSub1138 _ (x_mL hids1131 (hSub1120 _ (x_mL hids1113 (hSub1102 _ (x_mL hids1095 (hSub1084 _ (x_mL hids1077 (hSub1066 _ (x_mL hids1059 (hSub1048 _ (x_mL hids1041 (x_mL hids1033 (hSub1025 _ (x_mL hids1019 (hSub1011 _ (x_mL hids1005 hm_this))))))))))))))))) lX_0 (hts _ hwX11_init_12) (by exact hg1200) dX11_init_74 ?_
  refine va_ldcS hx hb hown hZ.2.2.2.1 dX11_init_77 ?_
  refine lv_iload_n hx hb dX11_init_79 rfl (lv_at hl 0 rfl) ?_
  refine xs_calli (va_runV (As := [.int (9 : Int32)]) (rest := [.ref (ad1135 2)]) ⟨hx, hb, hml, hown, hts⟩ (J_J0_charAt_5068e (post := fun r => r = (32 : Int32)) l 0 9 (by decide) (by decide) (by decide)) (cwV 1 hts gX11_init_J0_charAt_5068e rfl rfl rfl (by decide +kernel) ⟨Nat.le_of_ble_eq_true rfl, Nat.le_of_ble_eq_true rfl⟩) (xs_preV hZ hW.2.2 hA 0 (by decide)) rfl rfl hl.1 rfl (lv_room (Nat.le_of_ble_eq_true rfl)) dX11_init_80 ⟨Nat.le_of_ble_eq_true rfl, Nat.le_of_ble_eq_true rfl⟩) (fun r1201 hr1201 => ?_)
  subst hr1201
  refine x_callv (va_runV (As := [.int (32 : Int32)]) (rest := []) ⟨hx, hb, hml, hown, hts⟩ (J_X7_take l h71148 h71149 h) (cwV 1 hts gX11_init_X7_take rfl rfl rfl hdV_X7_take ⟨Nat.le_of_ble_eq_true rfl, Nat.le_of_ble_eq_true rfl⟩) (x_preV (ci := 7) hK hZ hA hW (hSub1138 _ (x_mL hids1131 (hSub1120 _ (x_mL hids1113 (hSub1102 _ (x_mL hids1095 (hSub1084 _ (x_mL hids1077 (hSub1066 _ (x_mL hids1059 (hSub1048 _ (x_mL hids1041 (x_mL hids1033 (hSub1025 _ (x_mR hids1019))))))))))))))) hq1015a rfl) rfl rfl hl.1 rfl (lv_room (Nat.le_of_ble_eq_true rfl)) dX11_init_83 ⟨Nat.le_of_ble_eq_true rfl, Nat.le_of_ble_eq_true rfl⟩) hW hA (fun σ1204 H locs h hW => ?_)
  try dsimp only at h
  refine lv_iinc (v := (10 : Int32)) (lv' := [(1, .int (10 : Int32)), (0, .ref (ad1135 0))]) hx hb dX11_init_86 hl (k := 0) rfl (by decide) (by decide) rfl (fun ls hl => ?_)
  refine lv_goto (tgt := 64) hx hb dX11_init_89 (by decide) ?_
  refine lv_iload_n hx hb dX11_init_64 rfl (lv_at hl 0 rfl) ?_
  refine va_ldcS hx hb hown hZ.2.2.2.1 dX11_init_65 ?_
  refine xs_calli (va_runV (As := []) (rest := [.int (10 : Int32)]) ⟨hx, hb, hml, hown, hts⟩ (J_J0_length_8abf5 (post := fun r => r = (51 : Int32)) l 0 (by decide) (by decide)) (cwV 0 hts gX11_init_J0_length_8abf5 rfl rfl rfl (by decide +kernel) ⟨Nat.le_of_ble_eq_true rfl, Nat.le_of_ble_eq_true rfl⟩) (xs_preV hZ hW.2.2 hA 0 (by decide)) rfl rfl hl.1 rfl (lv_room (Nat.le_of_ble_eq_true rfl)) dX11_init_67 ⟨Nat.le_of_ble_eq_true rfl, Nat.le_of_ble_eq_true rfl⟩) (fun r1205 hr1205 => ?_)
  subst hr1205
  refine lv_icmp_ge (tgt := 92) hx hb dX11_init_70 (by decide) (fun hc => absurd hc (by decide)) (fun _ => ?_)
  refine lv_aload_n hx hb dX11_init_73 rfl (lv_at hl 1 rfl) ?_
  obtain ⟨hg1206, h⟩ := h
  refine xgX11_1r hx hb hts hown hK hW 0 hcX11_init_X11 (hSub1138 _ (x_mL hids1131 (hSub1120 _ (x_mL hids1113 (hSub1102 _ (x_mL hids1095 (hSub1084 _ (x_mL hids1077 (hSub1066 _ (x_mL hids1059 (hSub1048 _ (x_mL hids1041 (x_mL hids1033 (hSub1025 _ (x_mL hids1019 (hSub1011 _ (x_mL hids1005 hm_this))))))))))))))))) lX_0 (hts _ hwX11_init_12) (by exact hg1206) dX11_init_74 ?_
  refine va_ldcS hx hb hown hZ.2.2.2.1 dX11_init_77 ?_
  refine lv_iload_n hx hb dX11_init_79 rfl (lv_at hl 0 rfl) ?_
  refine xs_calli (va_runV (As := [.int (10 : Int32)]) (rest := [.ref (ad1135 2)]) ⟨hx, hb, hml, hown, hts⟩ (J_J0_charAt_5068e (post := fun r => r = (42 : Int32)) l 0 10 (by decide) (by decide) (by decide)) (cwV 1 hts gX11_init_J0_charAt_5068e rfl rfl rfl (by decide +kernel) ⟨Nat.le_of_ble_eq_true rfl, Nat.le_of_ble_eq_true rfl⟩) (xs_preV hZ hW.2.2 hA 0 (by decide)) rfl rfl hl.1 rfl (lv_room (Nat.le_of_ble_eq_true rfl)) dX11_init_80 ⟨Nat.le_of_ble_eq_true rfl, Nat.le_of_ble_eq_true rfl⟩) (fun r1207 hr1207 => ?_)
  subst hr1207
  refine x_callv (va_runV (As := [.int (42 : Int32)]) (rest := []) ⟨hx, hb, hml, hown, hts⟩ (J_X7_take l h71148 h71149 h) (cwV 1 hts gX11_init_X7_take rfl rfl rfl hdV_X7_take ⟨Nat.le_of_ble_eq_true rfl, Nat.le_of_ble_eq_true rfl⟩) (x_preV (ci := 7) hK hZ hA hW (hSub1138 _ (x_mL hids1131 (hSub1120 _ (x_mL hids1113 (hSub1102 _ (x_mL hids1095 (hSub1084 _ (x_mL hids1077 (hSub1066 _ (x_mL hids1059 (hSub1048 _ (x_mL hids1041 (x_mL hids1033 (hSub1025 _ (x_mR hids1019))))))))))))))) hq1015a rfl) rfl rfl hl.1 rfl (lv_room (Nat.le_of_ble_eq_true rfl)) dX11_init_83 ⟨Nat.le_of_ble_eq_true rfl, Nat.le_of_ble_eq_true rfl⟩) hW hA (fun σ1210 H locs h hW => ?_)
  try dsimp only at h
  refine lv_iinc (v := (11 : Int32)) (lv' := [(1, .int (11 : Int32)), (0, .ref (ad1135 0))]) hx hb dX11_init_86 hl (k := 0) rfl (by decide) (by decide) rfl (fun ls hl => ?_)
  refine lv_goto (tgt := 64) hx hb dX11_init_89 (by decide) ?_
  refine lv_iload_n hx hb dX11_init_64 rfl (lv_at hl 0 rfl) ?_
  refine va_ldcS hx hb hown hZ.2.2.2.1 dX11_init_65 ?_
  refine xs_calli (va_runV (As := []) (rest := [.int (11 : Int32)]) ⟨hx, hb, hml, hown, hts⟩ (J_J0_length_8abf5 (post := fun r => r = (51 : Int32)) l 0 (by decide) (by decide)) (cwV 0 hts gX11_init_J0_length_8abf5 rfl rfl rfl (by decide +kernel) ⟨Nat.le_of_ble_eq_true rfl, Nat.le_of_ble_eq_true rfl⟩) (xs_preV hZ hW.2.2 hA 0 (by decide)) rfl rfl hl.1 rfl (lv_room (Nat.le_of_ble_eq_true rfl)) dX11_init_67 ⟨Nat.le_of_ble_eq_true rfl, Nat.le_of_ble_eq_true rfl⟩) (fun r1211 hr1211 => ?_)
  subst hr1211
  refine lv_icmp_ge (tgt := 92) hx hb dX11_init_70 (by decide) (fun hc => absurd hc (by decide)) (fun _ => ?_)
  refine lv_aload_n hx hb dX11_init_73 rfl (lv_at hl 1 rfl) ?_
  obtain ⟨hg1212, h⟩ := h
  refine xgX11_1r hx hb hts hown hK hW 0 hcX11_init_X11 (hSub1138 _ (x_mL hids1131 (hSub1120 _ (x_mL hids1113 (hSub1102 _ (x_mL hids1095 (hSub1084 _ (x_mL hids1077 (hSub1066 _ (x_mL hids1059 (hSub1048 _ (x_mL hids1041 (x_mL hids1033 (hSub1025 _ (x_mL hids1019 (hSub1011 _ (x_mL hids1005 hm_this))))))))))))))))) lX_0 (hts _ hwX11_init_12) (by exact hg1212) dX11_init_74 ?_
  refine va_ldcS hx hb hown hZ.2.2.2.1 dX11_init_77 ?_
  refine lv_iload_n hx hb dX11_init_79 rfl (lv_at hl 0 rfl) ?_
  refine xs_calli (va_runV (As := [.int (11 : Int32)]) (rest := [.ref (ad1135 2)]) ⟨hx, hb, hml, hown, hts⟩ (J_J0_charAt_5068e (post := fun r => r = (32 : Int32)) l 0 11 (by decide) (by decide) (by decide)) (cwV 1 hts gX11_init_J0_charAt_5068e rfl rfl rfl (by decide +kernel) ⟨Nat.le_of_ble_eq_true rfl, Nat.le_of_ble_eq_true rfl⟩) (xs_preV hZ hW.2.2 hA 0 (by decide)) rfl rfl hl.1 rfl (lv_room (Nat.le_of_ble_eq_true rfl)) dX11_init_80 ⟨Nat.le_of_ble_eq_true rfl, Nat.le_of_ble_eq_true rfl⟩) (fun r1213 hr1213 => ?_)
  subst hr1213
  refine x_callv (va_runV (As := [.int (32 : Int32)]) (rest := []) ⟨hx, hb, hml, hown, hts⟩ (J_X7_take l h71148 h71149 h) (cwV 1 hts gX11_init_X7_take rfl rfl rfl hdV_X7_take ⟨Nat.le_of_ble_eq_true rfl, Nat.le_of_ble_eq_true rfl⟩) (x_preV (ci := 7) hK hZ hA hW (hSub1138 _ (x_mL hids1131 (hSub1120 _ (x_mL hids1113 (hSub1102 _ (x_mL hids1095 (hSub1084 _ (x_mL hids1077 (hSub1066 _ (x_mL hids1059 (hSub1048 _ (x_mL hids1041 (x_mL hids1033 (hSub1025 _ (x_mR hids1019))))))))))))))) hq1015a rfl) rfl rfl hl.1 rfl (lv_room (Nat.le_of_ble_eq_true rfl)) dX11_init_83 ⟨Nat.le_of_ble_eq_true rfl, Nat.le_of_ble_eq_true rfl⟩) hW hA (fun σ1216 H locs h hW => ?_)
  try dsimp only at h
  refine lv_iinc (v := (12 : Int32)) (lv' := [(1, .int (12 : Int32)), (0, .ref (ad1135 0))]) hx hb dX11_init_86 hl (k := 0) rfl (by decide) (by decide) rfl (fun ls hl => ?_)
  refine lv_goto (tgt := 64) hx hb dX11_init_89 (by decide) ?_
  refine lv_iload_n hx hb dX11_init_64 rfl (lv_at hl 0 rfl) ?_
  refine va_ldcS hx hb hown hZ.2.2.2.1 dX11_init_65 ?_
  refine xs_calli (va_runV (As := []) (rest := [.int (12 : Int32)]) ⟨hx, hb, hml, hown, hts⟩ (J_J0_length_8abf5 (post := fun r => r = (51 : Int32)) l 0 (by decide) (by decide)) (cwV 0 hts gX11_init_J0_length_8abf5 rfl rfl rfl (by decide +kernel) ⟨Nat.le_of_ble_eq_true rfl, Nat.le_of_ble_eq_true rfl⟩) (xs_preV hZ hW.2.2 hA 0 (by decide)) rfl rfl hl.1 rfl (lv_room (Nat.le_of_ble_eq_true rfl)) dX11_init_67 ⟨Nat.le_of_ble_eq_true rfl, Nat.le_of_ble_eq_true rfl⟩) (fun r1217 hr1217 => ?_)
  subst hr1217
  refine lv_icmp_ge (tgt := 92) hx hb dX11_init_70 (by decide) (fun hc => absurd hc (by decide)) (fun _ => ?_)
  refine lv_aload_n hx hb dX11_init_73 rfl (lv_at hl 1 rfl) ?_
  obtain ⟨hg1218, h⟩ := h
  refine xgX11_1r hx hb hts hown hK hW 0 hcX11_init_X11 (hSub1138 _ (x_mL hids1131 (hSub1120 _ (x_mL hids1113 (hSub1102 _ (x_mL hids1095 (hSub1084 _ (x_mL hids1077 (hSub1066 _ (x_mL hids1059 (hSub1048 _ (x_mL hids1041 (x_mL hids1033 (hSub1025 _ (x_mL hids1019 (hSub1011 _ (x_mL hids1005 hm_this))))))))))))))))) lX_0 (hts _ hwX11_init_12) (by exact hg1218) dX11_init_74 ?_
  refine va_ldcS hx hb hown hZ.2.2.2.1 dX11_init_77 ?_
  refine lv_iload_n hx hb dX11_init_79 rfl (lv_at hl 0 rfl) ?_
  refine xs_calli (va_runV (As := [.int (12 : Int32)]) (rest := [.ref (ad1135 2)]) ⟨hx, hb, hml, hown, hts⟩ (J_J0_charAt_5068e (post := fun r => r = (104 : Int32)) l 0 12 (by decide) (by decide) (by decide)) (cwV 1 hts gX11_init_J0_charAt_5068e rfl rfl rfl (by decide +kernel) ⟨Nat.le_of_ble_eq_true rfl, Nat.le_of_ble_eq_true rfl⟩) (xs_preV hZ hW.2.2 hA 0 (by decide)) rfl rfl hl.1 rfl (lv_room (Nat.le_of_ble_eq_true rfl)) dX11_init_80 ⟨Nat.le_of_ble_eq_true rfl, Nat.le_of_ble_eq_true rfl⟩) (fun r1219 hr1219 => ?_)
  subst hr1219
  refine x_callv (va_runV (As := [.int (104 : Int32)]) (rest := []) ⟨hx, hb, hml, hown, hts⟩ (J_X7_take l h71148 h71149 h) (cwV 1 hts gX11_init_X7_take rfl rfl rfl hdV_X7_take ⟨Nat.le_of_ble_eq_true rfl, Nat.le_of_ble_eq_true rfl⟩) (x_preV (ci := 7) hK hZ hA hW (hSub1138 _ (x_mL hids1131 (hSub1120 _ (x_mL hids1113 (hSub1102 _ (x_mL hids1095 (hSub1084 _ (x_mL hids1077 (hSub1066 _ (x_mL hids1059 (hSub1048 _ (x_mL hids1041 (x_mL hids1033 (hSub1025 _ (x_mR hids1019))))))))))))))) hq1015a rfl) rfl rfl hl.1 rfl (lv_room (Nat.le_of_ble_eq_true rfl)) dX11_init_83 ⟨Nat.le_of_ble_eq_true rfl, Nat.le_of_ble_eq_true rfl⟩) hW hA (fun σ1222 H locs h hW => ?_)
  try dsimp only at h
  refine lv_iinc (v := (13 : Int32)) (lv' := [(1, .int (13 : Int32)), (0, .ref (ad1135 0))]) hx hb dX11_init_86 hl (k := 0) rfl (by decide) (by decide) rfl (fun ls hl => ?_)
  refine lv_goto (tgt := 64) hx hb dX11_init_89 (by decide) ?_
  refine lv_iload_n hx hb dX11_init_64 rfl (lv_at hl 0 rfl) ?_
  refine va_ldcS hx hb hown hZ.2.2.2.1 dX11_init_65 ?_
  refine xs_calli (va_runV (As := []) (rest := [.int (13 : Int32)]) ⟨hx, hb, hml, hown, hts⟩ (J_J0_length_8abf5 (post := fun r => r = (51 : Int32)) l 0 (by decide) (by decide)) (cwV 0 hts gX11_init_J0_length_8abf5 rfl rfl rfl (by decide +kernel) ⟨Nat.le_of_ble_eq_true rfl, Nat.le_of_ble_eq_true rfl⟩) (xs_preV hZ hW.2.2 hA 0 (by decide)) rfl rfl hl.1 rfl (lv_room (Nat.le_of_ble_eq_true rfl)) dX11_init_67 ⟨Nat.le_of_ble_eq_true rfl, Nat.le_of_ble_eq_true rfl⟩) (fun r1223 hr1223 => ?_)
  subst hr1223
  refine lv_icmp_ge (tgt := 92) hx hb dX11_init_70 (by decide) (fun hc => absurd hc (by decide)) (fun _ => ?_)
  refine lv_aload_n hx hb dX11_init_73 rfl (lv_at hl 1 rfl) ?_
  obtain ⟨hg1224, h⟩ := h
  refine xgX11_1r hx hb hts hown hK hW 0 hcX11_init_X11 (hSub1138 _ (x_mL hids1131 (hSub1120 _ (x_mL hids1113 (hSub1102 _ (x_mL hids1095 (hSub1084 _ (x_mL hids1077 (hSub1066 _ (x_mL hids1059 (hSub1048 _ (x_mL hids1041 (x_mL hids1033 (hSub1025 _ (x_mL hids1019 (hSub1011 _ (x_mL hids1005 hm_this))))))))))))))))) lX_0 (hts _ hwX11_init_12) (by exact hg1224) dX11_init_74 ?_
  refine va_ldcS hx hb hown hZ.2.2.2.1 dX11_init_77 ?_
  refine lv_iload_n hx hb dX11_init_79 rfl (lv_at hl 0 rfl) ?_
  refine xs_calli (va_runV (As := [.int (13 : Int32)]) (rest := [.ref (ad1135 2)]) ⟨hx, hb, hml, hown, hts⟩ (J_J0_charAt_5068e (post := fun r => r = (111 : Int32)) l 0 13 (by decide) (by decide) (by decide)) (cwV 1 hts gX11_init_J0_charAt_5068e rfl rfl rfl (by decide +kernel) ⟨Nat.le_of_ble_eq_true rfl, Nat.le_of_ble_eq_true rfl⟩) (xs_preV hZ hW.2.2 hA 0 (by decide)) rfl rfl hl.1 rfl (lv_room (Nat.le_of_ble_eq_true rfl)) dX11_init_80 ⟨Nat.le_of_ble_eq_true rfl, Nat.le_of_ble_eq_true rfl⟩) (fun r1225 hr1225 => ?_)
  subst hr1225
  refine x_callv (va_runV (As := [.int (111 : Int32)]) (rest := []) ⟨hx, hb, hml, hown, hts⟩ (J_X7_take l h71148 h71149 h) (cwV 1 hts gX11_init_X7_take rfl rfl rfl hdV_X7_take ⟨Nat.le_of_ble_eq_true rfl, Nat.le_of_ble_eq_true rfl⟩) (x_preV (ci := 7) hK hZ hA hW (hSub1138 _ (x_mL hids1131 (hSub1120 _ (x_mL hids1113 (hSub1102 _ (x_mL hids1095 (hSub1084 _ (x_mL hids1077 (hSub1066 _ (x_mL hids1059 (hSub1048 _ (x_mL hids1041 (x_mL hids1033 (hSub1025 _ (x_mR hids1019))))))))))))))) hq1015a rfl) rfl rfl hl.1 rfl (lv_room (Nat.le_of_ble_eq_true rfl)) dX11_init_83 ⟨Nat.le_of_ble_eq_true rfl, Nat.le_of_ble_eq_true rfl⟩) hW hA (fun σ1228 H locs h hW => ?_)
  try dsimp only at h
  refine lv_iinc (v := (14 : Int32)) (lv' := [(1, .int (14 : Int32)), (0, .ref (ad1135 0))]) hx hb dX11_init_86 hl (k := 0) rfl (by decide) (by decide) rfl (fun ls hl => ?_)
  refine lv_goto (tgt := 64) hx hb dX11_init_89 (by decide) ?_
  refine lv_iload_n hx hb dX11_init_64 rfl (lv_at hl 0 rfl) ?_
  refine va_ldcS hx hb hown hZ.2.2.2.1 dX11_init_65 ?_
  refine xs_calli (va_runV (As := []) (rest := [.int (14 : Int32)]) ⟨hx, hb, hml, hown, hts⟩ (J_J0_length_8abf5 (post := fun r => r = (51 : Int32)) l 0 (by decide) (by decide)) (cwV 0 hts gX11_init_J0_length_8abf5 rfl rfl rfl (by decide +kernel) ⟨Nat.le_of_ble_eq_true rfl, Nat.le_of_ble_eq_true rfl⟩) (xs_preV hZ hW.2.2 hA 0 (by decide)) rfl rfl hl.1 rfl (lv_room (Nat.le_of_ble_eq_true rfl)) dX11_init_67 ⟨Nat.le_of_ble_eq_true rfl, Nat.le_of_ble_eq_true rfl⟩) (fun r1229 hr1229 => ?_)
  subst hr1229
  refine lv_icmp_ge (tgt := 92) hx hb dX11_init_70 (by decide) (fun hc => absurd hc (by decide)) (fun _ => ?_)
  refine lv_aload_n hx hb dX11_init_73 rfl (lv_at hl 1 rfl) ?_
  obtain ⟨hg1230, h⟩ := h
  refine xgX11_1r hx hb hts hown hK hW 0 hcX11_init_X11 (hSub1138 _ (x_mL hids1131 (hSub1120 _ (x_mL hids1113 (hSub1102 _ (x_mL hids1095 (hSub1084 _ (x_mL hids1077 (hSub1066 _ (x_mL hids1059 (hSub1048 _ (x_mL hids1041 (x_mL hids1033 (hSub1025 _ (x_mL hids1019 (hSub1011 _ (x_mL hids1005 hm_this))))))))))))))))) lX_0 (hts _ hwX11_init_12) (by exact hg1230) dX11_init_74 ?_
  refine va_ldcS hx hb hown hZ.2.2.2.1 dX11_init_77 ?_
  refine lv_iload_n hx hb dX11_init_79 rfl (lv_at hl 0 rfl) ?_
  refine xs_calli (va_runV (As := [.int (14 : Int32)]) (rest := [.ref (ad1135 2)]) ⟨hx, hb, hml, hown, hts⟩ (J_J0_charAt_5068e (post := fun r => r = (117 : Int32)) l 0 14 (by decide) (by decide) (by decide)) (cwV 1 hts gX11_init_J0_charAt_5068e rfl rfl rfl (by decide +kernel) ⟨Nat.le_of_ble_eq_true rfl, Nat.le_of_ble_eq_true rfl⟩) (xs_preV hZ hW.2.2 hA 0 (by decide)) rfl rfl hl.1 rfl (lv_room (Nat.le_of_ble_eq_true rfl)) dX11_init_80 ⟨Nat.le_of_ble_eq_true rfl, Nat.le_of_ble_eq_true rfl⟩) (fun r1231 hr1231 => ?_)
  subst hr1231
  refine x_callv (va_runV (As := [.int (117 : Int32)]) (rest := []) ⟨hx, hb, hml, hown, hts⟩ (J_X7_take l h71148 h71149 h) (cwV 1 hts gX11_init_X7_take rfl rfl rfl hdV_X7_take ⟨Nat.le_of_ble_eq_true rfl, Nat.le_of_ble_eq_true rfl⟩) (x_preV (ci := 7) hK hZ hA hW (hSub1138 _ (x_mL hids1131 (hSub1120 _ (x_mL hids1113 (hSub1102 _ (x_mL hids1095 (hSub1084 _ (x_mL hids1077 (hSub1066 _ (x_mL hids1059 (hSub1048 _ (x_mL hids1041 (x_mL hids1033 (hSub1025 _ (x_mR hids1019))))))))))))))) hq1015a rfl) rfl rfl hl.1 rfl (lv_room (Nat.le_of_ble_eq_true rfl)) dX11_init_83 ⟨Nat.le_of_ble_eq_true rfl, Nat.le_of_ble_eq_true rfl⟩) hW hA (fun σ1234 H locs h hW => ?_)
  try dsimp only at h
  refine lv_iinc (v := (15 : Int32)) (lv' := [(1, .int (15 : Int32)), (0, .ref (ad1135 0))]) hx hb dX11_init_86 hl (k := 0) rfl (by decide) (by decide) rfl (fun ls hl => ?_)
  refine lv_goto (tgt := 64) hx hb dX11_init_89 (by decide) ?_
  refine lv_iload_n hx hb dX11_init_64 rfl (lv_at hl 0 rfl) ?_
  refine va_ldcS hx hb hown hZ.2.2.2.1 dX11_init_65 ?_
  refine xs_calli (va_runV (As := []) (rest := [.int (15 : Int32)]) ⟨hx, hb, hml, hown, hts⟩ (J_J0_length_8abf5 (post := fun r => r = (51 : Int32)) l 0 (by decide) (by decide)) (cwV 0 hts gX11_init_J0_length_8abf5 rfl rfl rfl (by decide +kernel) ⟨Nat.le_of_ble_eq_true rfl, Nat.le_of_ble_eq_true rfl⟩) (xs_preV hZ hW.2.2 hA 0 (by decide)) rfl rfl hl.1 rfl (lv_room (Nat.le_of_ble_eq_true rfl)) dX11_init_67 ⟨Nat.le_of_ble_eq_true rfl, Nat.le_of_ble_eq_true rfl⟩) (fun r1235 hr1235 => ?_)
  subst hr1235
  refine lv_icmp_ge (tgt := 92) hx hb dX11_init_70 (by decide) (fun hc => absurd hc (by decide)) (fun _ => ?_)
  refine lv_aload_n hx hb dX11_init_73 rfl (lv_at hl 1 rfl) ?_
  obtain ⟨hg1236, h⟩ := h
  refine xgX11_1r hx hb hts hown hK hW 0 hcX11_init_X11 (hSub1138 _ (x_mL hids1131 (hSub1120 _ (x_mL hids1113 (hSub1102 _ (x_mL hids1095 (hSub1084 _ (x_mL hids1077 (hSub1066 _ (x_mL hids1059 (hSub1048 _ (x_mL hids1041 (x_mL hids1033 (hSub1025 _ (x_mL hids1019 (hSub1011 _ (x_mL hids1005 hm_this))))))))))))))))) lX_0 (hts _ hwX11_init_12) (by exact hg1236) dX11_init_74 ?_
  refine va_ldcS hx hb hown hZ.2.2.2.1 dX11_init_77 ?_
  refine lv_iload_n hx hb dX11_init_79 rfl (lv_at hl 0 rfl) ?_
  refine xs_calli (va_runV (As := [.int (15 : Int32)]) (rest := [.ref (ad1135 2)]) ⟨hx, hb, hml, hown, hts⟩ (J_J0_charAt_5068e (post := fun r => r = (114 : Int32)) l 0 15 (by decide) (by decide) (by decide)) (cwV 1 hts gX11_init_J0_charAt_5068e rfl rfl rfl (by decide +kernel) ⟨Nat.le_of_ble_eq_true rfl, Nat.le_of_ble_eq_true rfl⟩) (xs_preV hZ hW.2.2 hA 0 (by decide)) rfl rfl hl.1 rfl (lv_room (Nat.le_of_ble_eq_true rfl)) dX11_init_80 ⟨Nat.le_of_ble_eq_true rfl, Nat.le_of_ble_eq_true rfl⟩) (fun r1237 hr1237 => ?_)
  subst hr1237
  refine x_callv (va_runV (As := [.int (114 : Int32)]) (rest := []) ⟨hx, hb, hml, hown, hts⟩ (J_X7_take l h71148 h71149 h) (cwV 1 hts gX11_init_X7_take rfl rfl rfl hdV_X7_take ⟨Nat.le_of_ble_eq_true rfl, Nat.le_of_ble_eq_true rfl⟩) (x_preV (ci := 7) hK hZ hA hW (hSub1138 _ (x_mL hids1131 (hSub1120 _ (x_mL hids1113 (hSub1102 _ (x_mL hids1095 (hSub1084 _ (x_mL hids1077 (hSub1066 _ (x_mL hids1059 (hSub1048 _ (x_mL hids1041 (x_mL hids1033 (hSub1025 _ (x_mR hids1019))))))))))))))) hq1015a rfl) rfl rfl hl.1 rfl (lv_room (Nat.le_of_ble_eq_true rfl)) dX11_init_83 ⟨Nat.le_of_ble_eq_true rfl, Nat.le_of_ble_eq_true rfl⟩) hW hA (fun σ1240 H locs h hW => ?_)
  try dsimp only at h
  refine lv_iinc (v := (16 : Int32)) (lv' := [(1, .int (16 : Int32)), (0, .ref (ad1135 0))]) hx hb dX11_init_86 hl (k := 0) rfl (by decide) (by decide) rfl (fun ls hl => ?_)
  refine lv_goto (tgt := 64) hx hb dX11_init_89 (by decide) ?_
  refine lv_iload_n hx hb dX11_init_64 rfl (lv_at hl 0 rfl) ?_
  refine va_ldcS hx hb hown hZ.2.2.2.1 dX11_init_65 ?_
  refine xs_calli (va_runV (As := []) (rest := [.int (16 : Int32)]) ⟨hx, hb, hml, hown, hts⟩ (J_J0_length_8abf5 (post := fun r => r = (51 : Int32)) l 0 (by decide) (by decide)) (cwV 0 hts gX11_init_J0_length_8abf5 rfl rfl rfl (by decide +kernel) ⟨Nat.le_of_ble_eq_true rfl, Nat.le_of_ble_eq_true rfl⟩) (xs_preV hZ hW.2.2 hA 0 (by decide)) rfl rfl hl.1 rfl (lv_room (Nat.le_of_ble_eq_true rfl)) dX11_init_67 ⟨Nat.le_of_ble_eq_true rfl, Nat.le_of_ble_eq_true rfl⟩) (fun r1241 hr1241 => ?_)
  subst hr1241
  refine lv_icmp_ge (tgt := 92) hx hb dX11_init_70 (by decide) (fun hc => absurd hc (by decide)) (fun _ => ?_)
  refine lv_aload_n hx hb dX11_init_73 rfl (lv_at hl 1 rfl) ?_
  obtain ⟨hg1242, h⟩ := h
  refine xgX11_1r hx hb hts hown hK hW 0 hcX11_init_X11 (hSub1138 _ (x_mL hids1131 (hSub1120 _ (x_mL hids1113 (hSub1102 _ (x_mL hids1095 (hSub1084 _ (x_mL hids1077 (hSub1066 _ (x_mL hids1059 (hSub1048 _ (x_mL hids1041 (x_mL hids1033 (hSub1025 _ (x_mL hids1019 (hSub1011 _ (x_mL hids1005 hm_this))))))))))))))))) lX_0 (hts _ hwX11_init_12) (by exact hg1242) dX11_init_74 ?_
  refine va_ldcS hx hb hown hZ.2.2.2.1 dX11_init_77 ?_
  refine lv_iload_n hx hb dX11_init_79 rfl (lv_at hl 0 rfl) ?_
  refine xs_calli (va_runV (As := [.int (16 : Int32)]) (rest := [.ref (ad1135 2)]) ⟨hx, hb, hml, hown, hts⟩ (J_J0_charAt_5068e (post := fun r => r = (115 : Int32)) l 0 16 (by decide) (by decide) (by decide)) (cwV 1 hts gX11_init_J0_charAt_5068e rfl rfl rfl (by decide +kernel) ⟨Nat.le_of_ble_eq_true rfl, Nat.le_of_ble_eq_true rfl⟩) (xs_preV hZ hW.2.2 hA 0 (by decide)) rfl rfl hl.1 rfl (lv_room (Nat.le_of_ble_eq_true rfl)) dX11_init_80 ⟨Nat.le_of_ble_eq_true rfl, Nat.le_of_ble_eq_true rfl⟩) (fun r1243 hr1243 => ?_)
  subst hr1243
  refine x_callv (va_runV (As := [.int (115 : Int32)]) (rest := []) ⟨hx, hb, hml, hown, hts⟩ (J_X7_take l h71148 h71149 h) (cwV 1 hts gX11_init_X7_take rfl rfl rfl hdV_X7_take ⟨Nat.le_of_ble_eq_true rfl, Nat.le_of_ble_eq_true rfl⟩) (x_preV (ci := 7) hK hZ hA hW (hSub1138 _ (x_mL hids1131 (hSub1120 _ (x_mL hids1113 (hSub1102 _ (x_mL hids1095 (hSub1084 _ (x_mL hids1077 (hSub1066 _ (x_mL hids1059 (hSub1048 _ (x_mL hids1041 (x_mL hids1033 (hSub1025 _ (x_mR hids1019))))))))))))))) hq1015a rfl) rfl rfl hl.1 rfl (lv_room (Nat.le_of_ble_eq_true rfl)) dX11_init_83 ⟨Nat.le_of_ble_eq_true rfl, Nat.le_of_ble_eq_true rfl⟩) hW hA (fun σ1246 H locs h hW => ?_)
  try dsimp only at h
  refine lv_iinc (v := (17 : Int32)) (lv' := [(1, .int (17 : Int32)), (0, .ref (ad1135 0))]) hx hb dX11_init_86 hl (k := 0) rfl (by decide) (by decide) rfl (fun ls hl => ?_)
  refine lv_goto (tgt := 64) hx hb dX11_init_89 (by decide) ?_
  refine lv_iload_n hx hb dX11_init_64 rfl (lv_at hl 0 rfl) ?_
  refine va_ldcS hx hb hown hZ.2.2.2.1 dX11_init_65 ?_
  refine xs_calli (va_runV (As := []) (rest := [.int (17 : Int32)]) ⟨hx, hb, hml, hown, hts⟩ (J_J0_length_8abf5 (post := fun r => r = (51 : Int32)) l 0 (by decide) (by decide)) (cwV 0 hts gX11_init_J0_length_8abf5 rfl rfl rfl (by decide +kernel) ⟨Nat.le_of_ble_eq_true rfl, Nat.le_of_ble_eq_true rfl⟩) (xs_preV hZ hW.2.2 hA 0 (by decide)) rfl rfl hl.1 rfl (lv_room (Nat.le_of_ble_eq_true rfl)) dX11_init_67 ⟨Nat.le_of_ble_eq_true rfl, Nat.le_of_ble_eq_true rfl⟩) (fun r1247 hr1247 => ?_)
  subst hr1247
  refine lv_icmp_ge (tgt := 92) hx hb dX11_init_70 (by decide) (fun hc => absurd hc (by decide)) (fun _ => ?_)
  refine lv_aload_n hx hb dX11_init_73 rfl (lv_at hl 1 rfl) ?_
  obtain ⟨hg1248, h⟩ := h
  refine xgX11_1r hx hb hts hown hK hW 0 hcX11_init_X11 (hSub1138 _ (x_mL hids1131 (hSub1120 _ (x_mL hids1113 (hSub1102 _ (x_mL hids1095 (hSub1084 _ (x_mL hids1077 (hSub1066 _ (x_mL hids1059 (hSub1048 _ (x_mL hids1041 (x_mL hids1033 (hSub1025 _ (x_mL hids1019 (hSub1011 _ (x_mL hids1005 hm_this))))))))))))))))) lX_0 (hts _ hwX11_init_12) (by exact hg1248) dX11_init_74 ?_
  refine va_ldcS hx hb hown hZ.2.2.2.1 dX11_init_77 ?_
  refine lv_iload_n hx hb dX11_init_79 rfl (lv_at hl 0 rfl) ?_
  refine xs_calli (va_runV (As := [.int (17 : Int32)]) (rest := [.ref (ad1135 2)]) ⟨hx, hb, hml, hown, hts⟩ (J_J0_charAt_5068e (post := fun r => r = (32 : Int32)) l 0 17 (by decide) (by decide) (by decide)) (cwV 1 hts gX11_init_J0_charAt_5068e rfl rfl rfl (by decide +kernel) ⟨Nat.le_of_ble_eq_true rfl, Nat.le_of_ble_eq_true rfl⟩) (xs_preV hZ hW.2.2 hA 0 (by decide)) rfl rfl hl.1 rfl (lv_room (Nat.le_of_ble_eq_true rfl)) dX11_init_80 ⟨Nat.le_of_ble_eq_true rfl, Nat.le_of_ble_eq_true rfl⟩) (fun r1249 hr1249 => ?_)
  subst hr1249
  refine x_callv (va_runV (As := [.int (32 : Int32)]) (rest := []) ⟨hx, hb, hml, hown, hts⟩ (J_X7_take l h71148 h71149 h) (cwV 1 hts gX11_init_X7_take rfl rfl rfl hdV_X7_take ⟨Nat.le_of_ble_eq_true rfl, Nat.le_of_ble_eq_true rfl⟩) (x_preV (ci := 7) hK hZ hA hW (hSub1138 _ (x_mL hids1131 (hSub1120 _ (x_mL hids1113 (hSub1102 _ (x_mL hids1095 (hSub1084 _ (x_mL hids1077 (hSub1066 _ (x_mL hids1059 (hSub1048 _ (x_mL hids1041 (x_mL hids1033 (hSub1025 _ (x_mR hids1019))))))))))))))) hq1015a rfl) rfl rfl hl.1 rfl (lv_room (Nat.le_of_ble_eq_true rfl)) dX11_init_83 ⟨Nat.le_of_ble_eq_true rfl, Nat.le_of_ble_eq_true rfl⟩) hW hA (fun σ1252 H locs h hW => ?_)
  try dsimp only at h
  refine lv_iinc (v := (18 : Int32)) (lv' := [(1, .int (18 : Int32)), (0, .ref (ad1135 0))]) hx hb dX11_init_86 hl (k := 0) rfl (by decide) (by decide) rfl (fun ls hl => ?_)
  refine lv_goto (tgt := 64) hx hb dX11_init_89 (by decide) ?_
  refine lv_iload_n hx hb dX11_init_64 rfl (lv_at hl 0 rfl) ?_
  refine va_ldcS hx hb hown hZ.2.2.2.1 dX11_init_65 ?_
  refine xs_calli (va_runV (As := []) (rest := [.int (18 : Int32)]) ⟨hx, hb, hml, hown, hts⟩ (J_J0_length_8abf5 (post := fun r => r = (51 : Int32)) l 0 (by decide) (by decide)) (cwV 0 hts gX11_init_J0_length_8abf5 rfl rfl rfl (by decide +kernel) ⟨Nat.le_of_ble_eq_true rfl, Nat.le_of_ble_eq_true rfl⟩) (xs_preV hZ hW.2.2 hA 0 (by decide)) rfl rfl hl.1 rfl (lv_room (Nat.le_of_ble_eq_true rfl)) dX11_init_67 ⟨Nat.le_of_ble_eq_true rfl, Nat.le_of_ble_eq_true rfl⟩) (fun r1253 hr1253 => ?_)
  subst hr1253
  refine lv_icmp_ge (tgt := 92) hx hb dX11_init_70 (by decide) (fun hc => absurd hc (by decide)) (fun _ => ?_)
  refine lv_aload_n hx hb dX11_init_73 rfl (lv_at hl 1 rfl) ?_
  obtain ⟨hg1254, h⟩ := h
  refine xgX11_1r hx hb hts hown hK hW 0 hcX11_init_X11 (hSub1138 _ (x_mL hids1131 (hSub1120 _ (x_mL hids1113 (hSub1102 _ (x_mL hids1095 (hSub1084 _ (x_mL hids1077 (hSub1066 _ (x_mL hids1059 (hSub1048 _ (x_mL hids1041 (x_mL hids1033 (hSub1025 _ (x_mL hids1019 (hSub1011 _ (x_mL hids1005 hm_this))))))))))))))))) lX_0 (hts _ hwX11_init_12) (by exact hg1254) dX11_init_74 ?_
  refine va_ldcS hx hb hown hZ.2.2.2.1 dX11_init_77 ?_
  refine lv_iload_n hx hb dX11_init_79 rfl (lv_at hl 0 rfl) ?_
  refine xs_calli (va_runV (As := [.int (18 : Int32)]) (rest := [.ref (ad1135 2)]) ⟨hx, hb, hml, hown, hts⟩ (J_J0_charAt_5068e (post := fun r => r = (59 : Int32)) l 0 18 (by decide) (by decide) (by decide)) (cwV 1 hts gX11_init_J0_charAt_5068e rfl rfl rfl (by decide +kernel) ⟨Nat.le_of_ble_eq_true rfl, Nat.le_of_ble_eq_true rfl⟩) (xs_preV hZ hW.2.2 hA 0 (by decide)) rfl rfl hl.1 rfl (lv_room (Nat.le_of_ble_eq_true rfl)) dX11_init_80 ⟨Nat.le_of_ble_eq_true rfl, Nat.le_of_ble_eq_true rfl⟩) (fun r1255 hr1255 => ?_)
  subst hr1255
  refine x_callv (va_runV (As := [.int (59 : Int32)]) (rest := []) ⟨hx, hb, hml, hown, hts⟩ (J_X7_take l h71148 h71149 h) (cwV 1 hts gX11_init_X7_take rfl rfl rfl hdV_X7_take ⟨Nat.le_of_ble_eq_true rfl, Nat.le_of_ble_eq_true rfl⟩) (x_preV (ci := 7) hK hZ hA hW (hSub1138 _ (x_mL hids1131 (hSub1120 _ (x_mL hids1113 (hSub1102 _ (x_mL hids1095 (hSub1084 _ (x_mL hids1077 (hSub1066 _ (x_mL hids1059 (hSub1048 _ (x_mL hids1041 (x_mL hids1033 (hSub1025 _ (x_mR hids1019))))))))))))))) hq1015a rfl) rfl rfl hl.1 rfl (lv_room (Nat.le_of_ble_eq_true rfl)) dX11_init_83 ⟨Nat.le_of_ble_eq_true rfl, Nat.le_of_ble_eq_true rfl⟩) hW hA (fun σ1258 H locs h hW => ?_)
  try dsimp only at h
  refine lv_iinc (v := (19 : Int32)) (lv' := [(1, .int (19 : Int32)), (0, .ref (ad1135 0))]) hx hb dX11_init_86 hl (k := 0) rfl (by decide) (by decide) rfl (fun ls hl => ?_)
  refine lv_goto (tgt := 64) hx hb dX11_init_89 (by decide) ?_
  refine lv_iload_n hx hb dX11_init_64 rfl (lv_at hl 0 rfl) ?_
  refine va_ldcS hx hb hown hZ.2.2.2.1 dX11_init_65 ?_
  refine xs_calli (va_runV (As := []) (rest := [.int (19 : Int32)]) ⟨hx, hb, hml, hown, hts⟩ (J_J0_length_8abf5 (post := fun r => r = (51 : Int32)) l 0 (by decide) (by decide)) (cwV 0 hts gX11_init_J0_length_8abf5 rfl rfl rfl (by decide +kernel) ⟨Nat.le_of_ble_eq_true rfl, Nat.le_of_ble_eq_true rfl⟩) (xs_preV hZ hW.2.2 hA 0 (by decide)) rfl rfl hl.1 rfl (lv_room (Nat.le_of_ble_eq_true rfl)) dX11_init_67 ⟨Nat.le_of_ble_eq_true rfl, Nat.le_of_ble_eq_true rfl⟩) (fun r1259 hr1259 => ?_)
  subst hr1259
  refine lv_icmp_ge (tgt := 92) hx hb dX11_init_70 (by decide) (fun hc => absurd hc (by decide)) (fun _ => ?_)
  refine lv_aload_n hx hb dX11_init_73 rfl (lv_at hl 1 rfl) ?_
  obtain ⟨hg1260, h⟩ := h
  refine xgX11_1r hx hb hts hown hK hW 0 hcX11_init_X11 (hSub1138 _ (x_mL hids1131 (hSub1120 _ (x_mL hids1113 (hSub1102 _ (x_mL hids1095 (hSub1084 _ (x_mL hids1077 (hSub1066 _ (x_mL hids1059 (hSub1048 _ (x_mL hids1041 (x_mL hids1033 (hSub1025 _ (x_mL hids1019 (hSub1011 _ (x_mL hids1005 hm_this))))))))))))))))) lX_0 (hts _ hwX11_init_12) (by exact hg1260) dX11_init_74 ?_
  refine va_ldcS hx hb hown hZ.2.2.2.1 dX11_init_77 ?_
  refine lv_iload_n hx hb dX11_init_79 rfl (lv_at hl 0 rfl) ?_
  refine xs_calli (va_runV (As := [.int (19 : Int32)]) (rest := [.ref (ad1135 2)]) ⟨hx, hb, hml, hown, hts⟩ (J_J0_charAt_5068e (post := fun r => r = (32 : Int32)) l 0 19 (by decide) (by decide) (by decide)) (cwV 1 hts gX11_init_J0_charAt_5068e rfl rfl rfl (by decide +kernel) ⟨Nat.le_of_ble_eq_true rfl, Nat.le_of_ble_eq_true rfl⟩) (xs_preV hZ hW.2.2 hA 0 (by decide)) rfl rfl hl.1 rfl (lv_room (Nat.le_of_ble_eq_true rfl)) dX11_init_80 ⟨Nat.le_of_ble_eq_true rfl, Nat.le_of_ble_eq_true rfl⟩) (fun r1261 hr1261 => ?_)
  subst hr1261
  refine x_callv (va_runV (As := [.int (32 : Int32)]) (rest := []) ⟨hx, hb, hml, hown, hts⟩ (J_X7_take l h71148 h71149 h) (cwV 1 hts gX11_init_X7_take rfl rfl rfl hdV_X7_take ⟨Nat.le_of_ble_eq_true rfl, Nat.le_of_ble_eq_true rfl⟩) (x_preV (ci := 7) hK hZ hA hW (hSub1138 _ (x_mL hids1131 (hSub1120 _ (x_mL hids1113 (hSub1102 _ (x_mL hids1095 (hSub1084 _ (x_mL hids1077 (hSub1066 _ (x_mL hids1059 (hSub1048 _ (x_mL hids1041 (x_mL hids1033 (hSub1025 _ (x_mR hids1019))))))))))))))) hq1015a rfl) rfl rfl hl.1 rfl (lv_room (Nat.le_of_ble_eq_true rfl)) dX11_init_83 ⟨Nat.le_of_ble_eq_true rfl, Nat.le_of_ble_eq_true rfl⟩) hW hA (fun σ1264 H locs h hW => ?_)
  try dsimp only at h
  refine lv_iinc (v := (20 : Int32)) (lv' := [(1, .int (20 : Int32)), (0, .ref (ad1135 0))]) hx hb dX11_init_86 hl (k := 0) rfl (by decide) (by decide) rfl (fun ls hl => ?_)
  refine lv_goto (tgt := 64) hx hb dX11_init_89 (by decide) ?_
  refine lv_iload_n hx hb dX11_init_64 rfl (lv_at hl 0 rfl) ?_
  refine va_ldcS hx hb hown hZ.2.2.2.1 dX11_init_65 ?_
  refine xs_calli (va_runV (As := []) (rest := [.int (20 : Int32)]) ⟨hx, hb, hml, hown, hts⟩ (J_J0_length_8abf5 (post := fun r => r = (51 : Int32)) l 0 (by decide) (by decide)) (cwV 0 hts gX11_init_J0_length_8abf5 rfl rfl rfl (by decide +kernel) ⟨Nat.le_of_ble_eq_true rfl, Nat.le_of_ble_eq_true rfl⟩) (xs_preV hZ hW.2.2 hA 0 (by decide)) rfl rfl hl.1 rfl (lv_room (Nat.le_of_ble_eq_true rfl)) dX11_init_67 ⟨Nat.le_of_ble_eq_true rfl, Nat.le_of_ble_eq_true rfl⟩) (fun r1265 hr1265 => ?_)
  subst hr1265
  refine lv_icmp_ge (tgt := 92) hx hb dX11_init_70 (by decide) (fun hc => absurd hc (by decide)) (fun _ => ?_)
  refine lv_aload_n hx hb dX11_init_73 rfl (lv_at hl 1 rfl) ?_
  obtain ⟨hg1266, h⟩ := h
  refine xgX11_1r hx hb hts hown hK hW 0 hcX11_init_X11 (hSub1138 _ (x_mL hids1131 (hSub1120 _ (x_mL hids1113 (hSub1102 _ (x_mL hids1095 (hSub1084 _ (x_mL hids1077 (hSub1066 _ (x_mL hids1059 (hSub1048 _ (x_mL hids1041 (x_mL hids1033 (hSub1025 _ (x_mL hids1019 (hSub1011 _ (x_mL hids1005 hm_this))))))))))))))))) lX_0 (hts _ hwX11_init_12) (by exact hg1266) dX11_init_74 ?_
  refine va_ldcS hx hb hown hZ.2.2.2.1 dX11_init_77 ?_
  refine lv_iload_n hx hb dX11_init_79 rfl (lv_at hl 0 rfl) ?_
  refine xs_calli (va_runV (As := [.int (20 : Int32)]) (rest := [.ref (ad1135 2)]) ⟨hx, hb, hml, hown, hts⟩ (J_J0_charAt_5068e (post := fun r => r = (109 : Int32)) l 0 20 (by decide) (by decide) (by decide)) (cwV 1 hts gX11_init_J0_charAt_5068e rfl rfl rfl (by decide +kernel) ⟨Nat.le_of_ble_eq_true rfl, Nat.le_of_ble_eq_true rfl⟩) (xs_preV hZ hW.2.2 hA 0 (by decide)) rfl rfl hl.1 rfl (lv_room (Nat.le_of_ble_eq_true rfl)) dX11_init_80 ⟨Nat.le_of_ble_eq_true rfl, Nat.le_of_ble_eq_true rfl⟩) (fun r1267 hr1267 => ?_)
  subst hr1267
  refine x_callv (va_runV (As := [.int (109 : Int32)]) (rest := []) ⟨hx, hb, hml, hown, hts⟩ (J_X7_take l h71148 h71149 h) (cwV 1 hts gX11_init_X7_take rfl rfl rfl hdV_X7_take ⟨Nat.le_of_ble_eq_true rfl, Nat.le_of_ble_eq_true rfl⟩) (x_preV (ci := 7) hK hZ hA hW (hSub1138 _ (x_mL hids1131 (hSub1120 _ (x_mL hids1113 (hSub1102 _ (x_mL hids1095 (hSub1084 _ (x_mL hids1077 (hSub1066 _ (x_mL hids1059 (hSub1048 _ (x_mL hids1041 (x_mL hids1033 (hSub1025 _ (x_mR hids1019))))))))))))))) hq1015a rfl) rfl rfl hl.1 rfl (lv_room (Nat.le_of_ble_eq_true rfl)) dX11_init_83 ⟨Nat.le_of_ble_eq_true rfl, Nat.le_of_ble_eq_true rfl⟩) hW hA (fun σ1270 H locs h hW => ?_)
  try dsimp only at h
  refine lv_iinc (v := (21 : Int32)) (lv' := [(1, .int (21 : Int32)), (0, .ref (ad1135 0))]) hx hb dX11_init_86 hl (k := 0) rfl (by decide) (by decide) rfl (fun ls hl => ?_)
  refine lv_goto (tgt := 64) hx hb dX11_init_89 (by decide) ?_
  refine lv_iload_n hx hb dX11_init_64 rfl (lv_at hl 0 rfl) ?_
  refine va_ldcS hx hb hown hZ.2.2.2.1 dX11_init_65 ?_
  refine xs_calli (va_runV (As := []) (rest := [.int (21 : Int32)]) ⟨hx, hb, hml, hown, hts⟩ (J_J0_length_8abf5 (post := fun r => r = (51 : Int32)) l 0 (by decide) (by decide)) (cwV 0 hts gX11_init_J0_length_8abf5 rfl rfl rfl (by decide +kernel) ⟨Nat.le_of_ble_eq_true rfl, Nat.le_of_ble_eq_true rfl⟩) (xs_preV hZ hW.2.2 hA 0 (by decide)) rfl rfl hl.1 rfl (lv_room (Nat.le_of_ble_eq_true rfl)) dX11_init_67 ⟨Nat.le_of_ble_eq_true rfl, Nat.le_of_ble_eq_true rfl⟩) (fun r1271 hr1271 => ?_)
  subst hr1271
  refine lv_icmp_ge (tgt := 92) hx hb dX11_init_70 (by decide) (fun hc => absurd hc (by decide)) (fun _ => ?_)
  refine lv_aload_n hx hb dX11_init_73 rfl (lv_at hl 1 rfl) ?_
  obtain ⟨hg1272, h⟩ := h
  refine xgX11_1r hx hb hts hown hK hW 0 hcX11_init_X11 (hSub1138 _ (x_mL hids1131 (hSub1120 _ (x_mL hids1113 (hSub1102 _ (x_mL hids1095 (hSub1084 _ (x_mL hids1077 (hSub1066 _ (x_mL hids1059 (hSub1048 _ (x_mL hids1041 (x_mL hids1033 (hSub1025 _ (x_mL hids1019 (hSub1011 _ (x_mL hids1005 hm_this))))))))))))))))) lX_0 (hts _ hwX11_init_12) (by exact hg1272) dX11_init_74 ?_
  refine va_ldcS hx hb hown hZ.2.2.2.1 dX11_init_77 ?_
  refine lv_iload_n hx hb dX11_init_79 rfl (lv_at hl 0 rfl) ?_
  refine xs_calli (va_runV (As := [.int (21 : Int32)]) (rest := [.ref (ad1135 2)]) ⟨hx, hb, hml, hown, hts⟩ (J_J0_charAt_5068e (post := fun r => r = (105 : Int32)) l 0 21 (by decide) (by decide) (by decide)) (cwV 1 hts gX11_init_J0_charAt_5068e rfl rfl rfl (by decide +kernel) ⟨Nat.le_of_ble_eq_true rfl, Nat.le_of_ble_eq_true rfl⟩) (xs_preV hZ hW.2.2 hA 0 (by decide)) rfl rfl hl.1 rfl (lv_room (Nat.le_of_ble_eq_true rfl)) dX11_init_80 ⟨Nat.le_of_ble_eq_true rfl, Nat.le_of_ble_eq_true rfl⟩) (fun r1273 hr1273 => ?_)
  subst hr1273
  refine x_callv (va_runV (As := [.int (105 : Int32)]) (rest := []) ⟨hx, hb, hml, hown, hts⟩ (J_X7_take l h71148 h71149 h) (cwV 1 hts gX11_init_X7_take rfl rfl rfl hdV_X7_take ⟨Nat.le_of_ble_eq_true rfl, Nat.le_of_ble_eq_true rfl⟩) (x_preV (ci := 7) hK hZ hA hW (hSub1138 _ (x_mL hids1131 (hSub1120 _ (x_mL hids1113 (hSub1102 _ (x_mL hids1095 (hSub1084 _ (x_mL hids1077 (hSub1066 _ (x_mL hids1059 (hSub1048 _ (x_mL hids1041 (x_mL hids1033 (hSub1025 _ (x_mR hids1019))))))))))))))) hq1015a rfl) rfl rfl hl.1 rfl (lv_room (Nat.le_of_ble_eq_true rfl)) dX11_init_83 ⟨Nat.le_of_ble_eq_true rfl, Nat.le_of_ble_eq_true rfl⟩) hW hA (fun σ1276 H locs h hW => ?_)
  try dsimp only at h
  refine lv_iinc (v := (22 : Int32)) (lv' := [(1, .int (22 : Int32)), (0, .ref (ad1135 0))]) hx hb dX11_init_86 hl (k := 0) rfl (by decide) (by decide) rfl (fun ls hl => ?_)
  refine lv_goto (tgt := 64) hx hb dX11_init_89 (by decide) ?_
  refine lv_iload_n hx hb dX11_init_64 rfl (lv_at hl 0 rfl) ?_
  refine va_ldcS hx hb hown hZ.2.2.2.1 dX11_init_65 ?_
  refine xs_calli (va_runV (As := []) (rest := [.int (22 : Int32)]) ⟨hx, hb, hml, hown, hts⟩ (J_J0_length_8abf5 (post := fun r => r = (51 : Int32)) l 0 (by decide) (by decide)) (cwV 0 hts gX11_init_J0_length_8abf5 rfl rfl rfl (by decide +kernel) ⟨Nat.le_of_ble_eq_true rfl, Nat.le_of_ble_eq_true rfl⟩) (xs_preV hZ hW.2.2 hA 0 (by decide)) rfl rfl hl.1 rfl (lv_room (Nat.le_of_ble_eq_true rfl)) dX11_init_67 ⟨Nat.le_of_ble_eq_true rfl, Nat.le_of_ble_eq_true rfl⟩) (fun r1277 hr1277 => ?_)
  subst hr1277
  refine lv_icmp_ge (tgt := 92) hx hb dX11_init_70 (by decide) (fun hc => absurd hc (by decide)) (fun _ => ?_)
  refine lv_aload_n hx hb dX11_init_73 rfl (lv_at hl 1 rfl) ?_
  obtain ⟨hg1278, h⟩ := h
  refine xgX11_1r hx hb hts hown hK hW 0 hcX11_init_X11 (hSub1138 _ (x_mL hids1131 (hSub1120 _ (x_mL hids1113 (hSub1102 _ (x_mL hids1095 (hSub1084 _ (x_mL hids1077 (hSub1066 _ (x_mL hids1059 (hSub1048 _ (x_mL hids1041 (x_mL hids1033 (hSub1025 _ (x_mL hids1019 (hSub1011 _ (x_mL hids1005 hm_this))))))))))))))))) lX_0 (hts _ hwX11_init_12) (by exact hg1278) dX11_init_74 ?_
  refine va_ldcS hx hb hown hZ.2.2.2.1 dX11_init_77 ?_
  refine lv_iload_n hx hb dX11_init_79 rfl (lv_at hl 0 rfl) ?_
  refine xs_calli (va_runV (As := [.int (22 : Int32)]) (rest := [.ref (ad1135 2)]) ⟨hx, hb, hml, hown, hts⟩ (J_J0_charAt_5068e (post := fun r => r = (110 : Int32)) l 0 22 (by decide) (by decide) (by decide)) (cwV 1 hts gX11_init_J0_charAt_5068e rfl rfl rfl (by decide +kernel) ⟨Nat.le_of_ble_eq_true rfl, Nat.le_of_ble_eq_true rfl⟩) (xs_preV hZ hW.2.2 hA 0 (by decide)) rfl rfl hl.1 rfl (lv_room (Nat.le_of_ble_eq_true rfl)) dX11_init_80 ⟨Nat.le_of_ble_eq_true rfl, Nat.le_of_ble_eq_true rfl⟩) (fun r1279 hr1279 => ?_)
  subst hr1279
  refine x_callv (va_runV (As := [.int (110 : Int32)]) (rest := []) ⟨hx, hb, hml, hown, hts⟩ (J_X7_take l h71148 h71149 h) (cwV 1 hts gX11_init_X7_take rfl rfl rfl hdV_X7_take ⟨Nat.le_of_ble_eq_true rfl, Nat.le_of_ble_eq_true rfl⟩) (x_preV (ci := 7) hK hZ hA hW (hSub1138 _ (x_mL hids1131 (hSub1120 _ (x_mL hids1113 (hSub1102 _ (x_mL hids1095 (hSub1084 _ (x_mL hids1077 (hSub1066 _ (x_mL hids1059 (hSub1048 _ (x_mL hids1041 (x_mL hids1033 (hSub1025 _ (x_mR hids1019))))))))))))))) hq1015a rfl) rfl rfl hl.1 rfl (lv_room (Nat.le_of_ble_eq_true rfl)) dX11_init_83 ⟨Nat.le_of_ble_eq_true rfl, Nat.le_of_ble_eq_true rfl⟩) hW hA (fun σ1282 H locs h hW => ?_)
  try dsimp only at h
  refine lv_iinc (v := (23 : Int32)) (lv' := [(1, .int (23 : Int32)), (0, .ref (ad1135 0))]) hx hb dX11_init_86 hl (k := 0) rfl (by decide) (by decide) rfl (fun ls hl => ?_)
  refine lv_goto (tgt := 64) hx hb dX11_init_89 (by decide) ?_
  refine lv_iload_n hx hb dX11_init_64 rfl (lv_at hl 0 rfl) ?_
  refine va_ldcS hx hb hown hZ.2.2.2.1 dX11_init_65 ?_
  refine xs_calli (va_runV (As := []) (rest := [.int (23 : Int32)]) ⟨hx, hb, hml, hown, hts⟩ (J_J0_length_8abf5 (post := fun r => r = (51 : Int32)) l 0 (by decide) (by decide)) (cwV 0 hts gX11_init_J0_length_8abf5 rfl rfl rfl (by decide +kernel) ⟨Nat.le_of_ble_eq_true rfl, Nat.le_of_ble_eq_true rfl⟩) (xs_preV hZ hW.2.2 hA 0 (by decide)) rfl rfl hl.1 rfl (lv_room (Nat.le_of_ble_eq_true rfl)) dX11_init_67 ⟨Nat.le_of_ble_eq_true rfl, Nat.le_of_ble_eq_true rfl⟩) (fun r1283 hr1283 => ?_)
  subst hr1283
  refine lv_icmp_ge (tgt := 92) hx hb dX11_init_70 (by decide) (fun hc => absurd hc (by decide)) (fun _ => ?_)
  refine lv_aload_n hx hb dX11_init_73 rfl (lv_at hl 1 rfl) ?_
  obtain ⟨hg1284, h⟩ := h
  refine xgX11_1r hx hb hts hown hK hW 0 hcX11_init_X11 (hSub1138 _ (x_mL hids1131 (hSub1120 _ (x_mL hids1113 (hSub1102 _ (x_mL hids1095 (hSub1084 _ (x_mL hids1077 (hSub1066 _ (x_mL hids1059 (hSub1048 _ (x_mL hids1041 (x_mL hids1033 (hSub1025 _ (x_mL hids1019 (hSub1011 _ (x_mL hids1005 hm_this))))))))))))))))) lX_0 (hts _ hwX11_init_12) (by exact hg1284) dX11_init_74 ?_
  refine va_ldcS hx hb hown hZ.2.2.2.1 dX11_init_77 ?_
  refine lv_iload_n hx hb dX11_init_79 rfl (lv_at hl 0 rfl) ?_
  refine xs_calli (va_runV (As := [.int (23 : Int32)]) (rest := [.ref (ad1135 2)]) ⟨hx, hb, hml, hown, hts⟩ (J_J0_charAt_5068e (post := fun r => r = (100 : Int32)) l 0 23 (by decide) (by decide) (by decide)) (cwV 1 hts gX11_init_J0_charAt_5068e rfl rfl rfl (by decide +kernel) ⟨Nat.le_of_ble_eq_true rfl, Nat.le_of_ble_eq_true rfl⟩) (xs_preV hZ hW.2.2 hA 0 (by decide)) rfl rfl hl.1 rfl (lv_room (Nat.le_of_ble_eq_true rfl)) dX11_init_80 ⟨Nat.le_of_ble_eq_true rfl, Nat.le_of_ble_eq_true rfl⟩) (fun r1285 hr1285 => ?_)
  subst hr1285
  refine x_callv (va_runV (As := [.int (100 : Int32)]) (rest := []) ⟨hx, hb, hml, hown, hts⟩ (J_X7_take l h71148 h71149 h) (cwV 1 hts gX11_init_X7_take rfl rfl rfl hdV_X7_take ⟨Nat.le_of_ble_eq_true rfl, Nat.le_of_ble_eq_true rfl⟩) (x_preV (ci := 7) hK hZ hA hW (hSub1138 _ (x_mL hids1131 (hSub1120 _ (x_mL hids1113 (hSub1102 _ (x_mL hids1095 (hSub1084 _ (x_mL hids1077 (hSub1066 _ (x_mL hids1059 (hSub1048 _ (x_mL hids1041 (x_mL hids1033 (hSub1025 _ (x_mR hids1019))))))))))))))) hq1015a rfl) rfl rfl hl.1 rfl (lv_room (Nat.le_of_ble_eq_true rfl)) dX11_init_83 ⟨Nat.le_of_ble_eq_true rfl, Nat.le_of_ble_eq_true rfl⟩) hW hA (fun σ1288 H locs h hW => ?_)
  try dsimp only at h
  refine lv_iinc (v := (24 : Int32)) (lv' := [(1, .int (24 : Int32)), (0, .ref (ad1135 0))]) hx hb dX11_init_86 hl (k := 0) rfl (by decide) (by decide) rfl (fun ls hl => ?_)
  refine lv_goto (tgt := 64) hx hb dX11_init_89 (by decide) ?_
  refine lv_iload_n hx hb dX11_init_64 rfl (lv_at hl 0 rfl) ?_
  refine va_ldcS hx hb hown hZ.2.2.2.1 dX11_init_65 ?_
  refine xs_calli (va_runV (As := []) (rest := [.int (24 : Int32)]) ⟨hx, hb, hml, hown, hts⟩ (J_J0_length_8abf5 (post := fun r => r = (51 : Int32)) l 0 (by decide) (by decide)) (cwV 0 hts gX11_init_J0_length_8abf5 rfl rfl rfl (by decide +kernel) ⟨Nat.le_of_ble_eq_true rfl, Nat.le_of_ble_eq_true rfl⟩) (xs_preV hZ hW.2.2 hA 0 (by decide)) rfl rfl hl.1 rfl (lv_room (Nat.le_of_ble_eq_true rfl)) dX11_init_67 ⟨Nat.le_of_ble_eq_true rfl, Nat.le_of_ble_eq_true rfl⟩) (fun r1289 hr1289 => ?_)
  subst hr1289
  refine lv_icmp_ge (tgt := 92) hx hb dX11_init_70 (by decide) (fun hc => absurd hc (by decide)) (fun _ => ?_)
  refine lv_aload_n hx hb dX11_init_73 rfl (lv_at hl 1 rfl) ?_
  obtain ⟨hg1290, h⟩ := h
  refine xgX11_1r hx hb hts hown hK hW 0 hcX11_init_X11 (hSub1138 _ (x_mL hids1131 (hSub1120 _ (x_mL hids1113 (hSub1102 _ (x_mL hids1095 (hSub1084 _ (x_mL hids1077 (hSub1066 _ (x_mL hids1059 (hSub1048 _ (x_mL hids1041 (x_mL hids1033 (hSub1025 _ (x_mL hids1019 (hSub1011 _ (x_mL hids1005 hm_this))))))))))))))))) lX_0 (hts _ hwX11_init_12) (by exact hg1290) dX11_init_74 ?_
  refine va_ldcS hx hb hown hZ.2.2.2.1 dX11_init_77 ?_
  refine lv_iload_n hx hb dX11_init_79 rfl (lv_at hl 0 rfl) ?_
  refine xs_calli (va_runV (As := [.int (24 : Int32)]) (rest := [.ref (ad1135 2)]) ⟨hx, hb, hml, hown, hts⟩ (J_J0_charAt_5068e (post := fun r => r = (32 : Int32)) l 0 24 (by decide) (by decide) (by decide)) (cwV 1 hts gX11_init_J0_charAt_5068e rfl rfl rfl (by decide +kernel) ⟨Nat.le_of_ble_eq_true rfl, Nat.le_of_ble_eq_true rfl⟩) (xs_preV hZ hW.2.2 hA 0 (by decide)) rfl rfl hl.1 rfl (lv_room (Nat.le_of_ble_eq_true rfl)) dX11_init_80 ⟨Nat.le_of_ble_eq_true rfl, Nat.le_of_ble_eq_true rfl⟩) (fun r1291 hr1291 => ?_)
  subst hr1291
  refine x_callv (va_runV (As := [.int (32 : Int32)]) (rest := []) ⟨hx, hb, hml, hown, hts⟩ (J_X7_take l h71148 h71149 h) (cwV 1 hts gX11_init_X7_take rfl rfl rfl hdV_X7_take ⟨Nat.le_of_ble_eq_true rfl, Nat.le_of_ble_eq_true rfl⟩) (x_preV (ci := 7) hK hZ hA hW (hSub1138 _ (x_mL hids1131 (hSub1120 _ (x_mL hids1113 (hSub1102 _ (x_mL hids1095 (hSub1084 _ (x_mL hids1077 (hSub1066 _ (x_mL hids1059 (hSub1048 _ (x_mL hids1041 (x_mL hids1033 (hSub1025 _ (x_mR hids1019))))))))))))))) hq1015a rfl) rfl rfl hl.1 rfl (lv_room (Nat.le_of_ble_eq_true rfl)) dX11_init_83 ⟨Nat.le_of_ble_eq_true rfl, Nat.le_of_ble_eq_true rfl⟩) hW hA (fun σ1294 H locs h hW => ?_)
  try dsimp only at h
  refine lv_iinc (v := (25 : Int32)) (lv' := [(1, .int (25 : Int32)), (0, .ref (ad1135 0))]) hx hb dX11_init_86 hl (k := 0) rfl (by decide) (by decide) rfl (fun ls hl => ?_)
  refine lv_goto (tgt := 64) hx hb dX11_init_89 (by decide) ?_
  refine lv_iload_n hx hb dX11_init_64 rfl (lv_at hl 0 rfl) ?_
  refine va_ldcS hx hb hown hZ.2.2.2.1 dX11_init_65 ?_
  refine xs_calli (va_runV (As := []) (rest := [.int (25 : Int32)]) ⟨hx, hb, hml, hown, hts⟩ (J_J0_length_8abf5 (post := fun r => r = (51 : Int32)) l 0 (by decide) (by decide)) (cwV 0 hts gX11_init_J0_length_8abf5 rfl rfl rfl (by decide +kernel) ⟨Nat.le_of_ble_eq_true rfl, Nat.le_of_ble_eq_true rfl⟩) (xs_preV hZ hW.2.2 hA 0 (by decide)) rfl rfl hl.1 rfl (lv_room (Nat.le_of_ble_eq_true rfl)) dX11_init_67 ⟨Nat.le_of_ble_eq_true rfl, Nat.le_of_ble_eq_true rfl⟩) (fun r1295 hr1295 => ?_)
  subst hr1295
  refine lv_icmp_ge (tgt := 92) hx hb dX11_init_70 (by decide) (fun hc => absurd hc (by decide)) (fun _ => ?_)
  refine lv_aload_n hx hb dX11_init_73 rfl (lv_at hl 1 rfl) ?_
  obtain ⟨hg1296, h⟩ := h
  refine xgX11_1r hx hb hts hown hK hW 0 hcX11_init_X11 (hSub1138 _ (x_mL hids1131 (hSub1120 _ (x_mL hids1113 (hSub1102 _ (x_mL hids1095 (hSub1084 _ (x_mL hids1077 (hSub1066 _ (x_mL hids1059 (hSub1048 _ (x_mL hids1041 (x_mL hids1033 (hSub1025 _ (x_mL hids1019 (hSub1011 _ (x_mL hids1005 hm_this))))))))))))))))) lX_0 (hts _ hwX11_init_12) (by exact hg1296) dX11_init_74 ?_
  refine va_ldcS hx hb hown hZ.2.2.2.1 dX11_init_77 ?_
  refine lv_iload_n hx hb dX11_init_79 rfl (lv_at hl 0 rfl) ?_
  refine xs_calli (va_runV (As := [.int (25 : Int32)]) (rest := [.ref (ad1135 2)]) ⟨hx, hb, hml, hown, hts⟩ (J_J0_charAt_5068e (post := fun r => r = (53 : Int32)) l 0 25 (by decide) (by decide) (by decide)) (cwV 1 hts gX11_init_J0_charAt_5068e rfl rfl rfl (by decide +kernel) ⟨Nat.le_of_ble_eq_true rfl, Nat.le_of_ble_eq_true rfl⟩) (xs_preV hZ hW.2.2 hA 0 (by decide)) rfl rfl hl.1 rfl (lv_room (Nat.le_of_ble_eq_true rfl)) dX11_init_80 ⟨Nat.le_of_ble_eq_true rfl, Nat.le_of_ble_eq_true rfl⟩) (fun r1297 hr1297 => ?_)
  subst hr1297
  refine x_callv (va_runV (As := [.int (53 : Int32)]) (rest := []) ⟨hx, hb, hml, hown, hts⟩ (J_X7_take l h71148 h71149 h) (cwV 1 hts gX11_init_X7_take rfl rfl rfl hdV_X7_take ⟨Nat.le_of_ble_eq_true rfl, Nat.le_of_ble_eq_true rfl⟩) (x_preV (ci := 7) hK hZ hA hW (hSub1138 _ (x_mL hids1131 (hSub1120 _ (x_mL hids1113 (hSub1102 _ (x_mL hids1095 (hSub1084 _ (x_mL hids1077 (hSub1066 _ (x_mL hids1059 (hSub1048 _ (x_mL hids1041 (x_mL hids1033 (hSub1025 _ (x_mR hids1019))))))))))))))) hq1015a rfl) rfl rfl hl.1 rfl (lv_room (Nat.le_of_ble_eq_true rfl)) dX11_init_83 ⟨Nat.le_of_ble_eq_true rfl, Nat.le_of_ble_eq_true rfl⟩) hW hA (fun σ1300 H locs h hW => ?_)
  try dsimp only at h
  refine lv_iinc (v := (26 : Int32)) (lv' := [(1, .int (26 : Int32)), (0, .ref (ad1135 0))]) hx hb dX11_init_86 hl (k := 0) rfl (by decide) (by decide) rfl (fun ls hl => ?_)
  refine lv_goto (tgt := 64) hx hb dX11_init_89 (by decide) ?_
  refine lv_iload_n hx hb dX11_init_64 rfl (lv_at hl 0 rfl) ?_
  refine va_ldcS hx hb hown hZ.2.2.2.1 dX11_init_65 ?_
  refine xs_calli (va_runV (As := []) (rest := [.int (26 : Int32)]) ⟨hx, hb, hml, hown, hts⟩ (J_J0_length_8abf5 (post := fun r => r = (51 : Int32)) l 0 (by decide) (by decide)) (cwV 0 hts gX11_init_J0_length_8abf5 rfl rfl rfl (by decide +kernel) ⟨Nat.le_of_ble_eq_true rfl, Nat.le_of_ble_eq_true rfl⟩) (xs_preV hZ hW.2.2 hA 0 (by decide)) rfl rfl hl.1 rfl (lv_room (Nat.le_of_ble_eq_true rfl)) dX11_init_67 ⟨Nat.le_of_ble_eq_true rfl, Nat.le_of_ble_eq_true rfl⟩) (fun r1301 hr1301 => ?_)
  subst hr1301
  refine lv_icmp_ge (tgt := 92) hx hb dX11_init_70 (by decide) (fun hc => absurd hc (by decide)) (fun _ => ?_)
  refine lv_aload_n hx hb dX11_init_73 rfl (lv_at hl 1 rfl) ?_
  obtain ⟨hg1302, h⟩ := h
  refine xgX11_1r hx hb hts hown hK hW 0 hcX11_init_X11 (hSub1138 _ (x_mL hids1131 (hSub1120 _ (x_mL hids1113 (hSub1102 _ (x_mL hids1095 (hSub1084 _ (x_mL hids1077 (hSub1066 _ (x_mL hids1059 (hSub1048 _ (x_mL hids1041 (x_mL hids1033 (hSub1025 _ (x_mL hids1019 (hSub1011 _ (x_mL hids1005 hm_this))))))))))))))))) lX_0 (hts _ hwX11_init_12) (by exact hg1302) dX11_init_74 ?_
  refine va_ldcS hx hb hown hZ.2.2.2.1 dX11_init_77 ?_
  refine lv_iload_n hx hb dX11_init_79 rfl (lv_at hl 0 rfl) ?_
  refine xs_calli (va_runV (As := [.int (26 : Int32)]) (rest := [.ref (ad1135 2)]) ⟨hx, hb, hml, hown, hts⟩ (J_J0_charAt_5068e (post := fun r => r = (32 : Int32)) l 0 26 (by decide) (by decide) (by decide)) (cwV 1 hts gX11_init_J0_charAt_5068e rfl rfl rfl (by decide +kernel) ⟨Nat.le_of_ble_eq_true rfl, Nat.le_of_ble_eq_true rfl⟩) (xs_preV hZ hW.2.2 hA 0 (by decide)) rfl rfl hl.1 rfl (lv_room (Nat.le_of_ble_eq_true rfl)) dX11_init_80 ⟨Nat.le_of_ble_eq_true rfl, Nat.le_of_ble_eq_true rfl⟩) (fun r1303 hr1303 => ?_)
  subst hr1303
  refine x_callv (va_runV (As := [.int (32 : Int32)]) (rest := []) ⟨hx, hb, hml, hown, hts⟩ (J_X7_take l h71148 h71149 h) (cwV 1 hts gX11_init_X7_take rfl rfl rfl hdV_X7_take ⟨Nat.le_of_ble_eq_true rfl, Nat.le_of_ble_eq_true rfl⟩) (x_preV (ci := 7) hK hZ hA hW (hSub1138 _ (x_mL hids1131 (hSub1120 _ (x_mL hids1113 (hSub1102 _ (x_mL hids1095 (hSub1084 _ (x_mL hids1077 (hSub1066 _ (x_mL hids1059 (hSub1048 _ (x_mL hids1041 (x_mL hids1033 (hSub1025 _ (x_mR hids1019))))))))))))))) hq1015a rfl) rfl rfl hl.1 rfl (lv_room (Nat.le_of_ble_eq_true rfl)) dX11_init_83 ⟨Nat.le_of_ble_eq_true rfl, Nat.le_of_ble_eq_true rfl⟩) hW hA (fun σ1306 H locs h hW => ?_)
  try dsimp only at h
  refine lv_iinc (v := (27 : Int32)) (lv' := [(1, .int (27 : Int32)), (0, .ref (ad1135 0))]) hx hb dX11_init_86 hl (k := 0) rfl (by decide) (by decide) rfl (fun ls hl => ?_)
  refine lv_goto (tgt := 64) hx hb dX11_init_89 (by decide) ?_
  refine lv_iload_n hx hb dX11_init_64 rfl (lv_at hl 0 rfl) ?_
  refine va_ldcS hx hb hown hZ.2.2.2.1 dX11_init_65 ?_
  refine xs_calli (va_runV (As := []) (rest := [.int (27 : Int32)]) ⟨hx, hb, hml, hown, hts⟩ (J_J0_length_8abf5 (post := fun r => r = (51 : Int32)) l 0 (by decide) (by decide)) (cwV 0 hts gX11_init_J0_length_8abf5 rfl rfl rfl (by decide +kernel) ⟨Nat.le_of_ble_eq_true rfl, Nat.le_of_ble_eq_true rfl⟩) (xs_preV hZ hW.2.2 hA 0 (by decide)) rfl rfl hl.1 rfl (lv_room (Nat.le_of_ble_eq_true rfl)) dX11_init_67 ⟨Nat.le_of_ble_eq_true rfl, Nat.le_of_ble_eq_true rfl⟩) (fun r1307 hr1307 => ?_)
  subst hr1307
  refine lv_icmp_ge (tgt := 92) hx hb dX11_init_70 (by decide) (fun hc => absurd hc (by decide)) (fun _ => ?_)
  refine lv_aload_n hx hb dX11_init_73 rfl (lv_at hl 1 rfl) ?_
  obtain ⟨hg1308, h⟩ := h
  refine xgX11_1r hx hb hts hown hK hW 0 hcX11_init_X11 (hSub1138 _ (x_mL hids1131 (hSub1120 _ (x_mL hids1113 (hSub1102 _ (x_mL hids1095 (hSub1084 _ (x_mL hids1077 (hSub1066 _ (x_mL hids1059 (hSub1048 _ (x_mL hids1041 (x_mL hids1033 (hSub1025 _ (x_mL hids1019 (hSub1011 _ (x_mL hids1005 hm_this))))))))))))))))) lX_0 (hts _ hwX11_init_12) (by exact hg1308) dX11_init_74 ?_
  refine va_ldcS hx hb hown hZ.2.2.2.1 dX11_init_77 ?_
  refine lv_iload_n hx hb dX11_init_79 rfl (lv_at hl 0 rfl) ?_
  refine xs_calli (va_runV (As := [.int (27 : Int32)]) (rest := [.ref (ad1135 2)]) ⟨hx, hb, hml, hown, hts⟩ (J_J0_charAt_5068e (post := fun r => r = (60 : Int32)) l 0 27 (by decide) (by decide) (by decide)) (cwV 1 hts gX11_init_J0_charAt_5068e rfl rfl rfl (by decide +kernel) ⟨Nat.le_of_ble_eq_true rfl, Nat.le_of_ble_eq_true rfl⟩) (xs_preV hZ hW.2.2 hA 0 (by decide)) rfl rfl hl.1 rfl (lv_room (Nat.le_of_ble_eq_true rfl)) dX11_init_80 ⟨Nat.le_of_ble_eq_true rfl, Nat.le_of_ble_eq_true rfl⟩) (fun r1309 hr1309 => ?_)
  subst hr1309
  refine x_callv (va_runV (As := [.int (60 : Int32)]) (rest := []) ⟨hx, hb, hml, hown, hts⟩ (J_X7_take l h71148 h71149 h) (cwV 1 hts gX11_init_X7_take rfl rfl rfl hdV_X7_take ⟨Nat.le_of_ble_eq_true rfl, Nat.le_of_ble_eq_true rfl⟩) (x_preV (ci := 7) hK hZ hA hW (hSub1138 _ (x_mL hids1131 (hSub1120 _ (x_mL hids1113 (hSub1102 _ (x_mL hids1095 (hSub1084 _ (x_mL hids1077 (hSub1066 _ (x_mL hids1059 (hSub1048 _ (x_mL hids1041 (x_mL hids1033 (hSub1025 _ (x_mR hids1019))))))))))))))) hq1015a rfl) rfl rfl hl.1 rfl (lv_room (Nat.le_of_ble_eq_true rfl)) dX11_init_83 ⟨Nat.le_of_ble_eq_true rfl, Nat.le_of_ble_eq_true rfl⟩) hW hA (fun σ1312 H locs h hW => ?_)
  try dsimp only at h
  refine lv_iinc (v := (28 : Int32)) (lv' := [(1, .int (28 : Int32)), (0, .ref (ad1135 0))]) hx hb dX11_init_86 hl (k := 0) rfl (by decide) (by decide) rfl (fun ls hl => ?_)
  refine lv_goto (tgt := 64) hx hb dX11_init_89 (by decide) ?_
  refine lv_iload_n hx hb dX11_init_64 rfl (lv_at hl 0 rfl) ?_
  refine va_ldcS hx hb hown hZ.2.2.2.1 dX11_init_65 ?_
  refine xs_calli (va_runV (As := []) (rest := [.int (28 : Int32)]) ⟨hx, hb, hml, hown, hts⟩ (J_J0_length_8abf5 (post := fun r => r = (51 : Int32)) l 0 (by decide) (by decide)) (cwV 0 hts gX11_init_J0_length_8abf5 rfl rfl rfl (by decide +kernel) ⟨Nat.le_of_ble_eq_true rfl, Nat.le_of_ble_eq_true rfl⟩) (xs_preV hZ hW.2.2 hA 0 (by decide)) rfl rfl hl.1 rfl (lv_room (Nat.le_of_ble_eq_true rfl)) dX11_init_67 ⟨Nat.le_of_ble_eq_true rfl, Nat.le_of_ble_eq_true rfl⟩) (fun r1313 hr1313 => ?_)
  subst hr1313
  refine lv_icmp_ge (tgt := 92) hx hb dX11_init_70 (by decide) (fun hc => absurd hc (by decide)) (fun _ => ?_)
  refine lv_aload_n hx hb dX11_init_73 rfl (lv_at hl 1 rfl) ?_
  obtain ⟨hg1314, h⟩ := h
  refine xgX11_1r hx hb hts hown hK hW 0 hcX11_init_X11 (hSub1138 _ (x_mL hids1131 (hSub1120 _ (x_mL hids1113 (hSub1102 _ (x_mL hids1095 (hSub1084 _ (x_mL hids1077 (hSub1066 _ (x_mL hids1059 (hSub1048 _ (x_mL hids1041 (x_mL hids1033 (hSub1025 _ (x_mL hids1019 (hSub1011 _ (x_mL hids1005 hm_this))))))))))))))))) lX_0 (hts _ hwX11_init_12) (by exact hg1314) dX11_init_74 ?_
  refine va_ldcS hx hb hown hZ.2.2.2.1 dX11_init_77 ?_
  refine lv_iload_n hx hb dX11_init_79 rfl (lv_at hl 0 rfl) ?_
  refine xs_calli (va_runV (As := [.int (28 : Int32)]) (rest := [.ref (ad1135 2)]) ⟨hx, hb, hml, hown, hts⟩ (J_J0_charAt_5068e (post := fun r => r = (32 : Int32)) l 0 28 (by decide) (by decide) (by decide)) (cwV 1 hts gX11_init_J0_charAt_5068e rfl rfl rfl (by decide +kernel) ⟨Nat.le_of_ble_eq_true rfl, Nat.le_of_ble_eq_true rfl⟩) (xs_preV hZ hW.2.2 hA 0 (by decide)) rfl rfl hl.1 rfl (lv_room (Nat.le_of_ble_eq_true rfl)) dX11_init_80 ⟨Nat.le_of_ble_eq_true rfl, Nat.le_of_ble_eq_true rfl⟩) (fun r1315 hr1315 => ?_)
  subst hr1315
  refine x_callv (va_runV (As := [.int (32 : Int32)]) (rest := []) ⟨hx, hb, hml, hown, hts⟩ (J_X7_take l h71148 h71149 h) (cwV 1 hts gX11_init_X7_take rfl rfl rfl hdV_X7_take ⟨Nat.le_of_ble_eq_true rfl, Nat.le_of_ble_eq_true rfl⟩) (x_preV (ci := 7) hK hZ hA hW (hSub1138 _ (x_mL hids1131 (hSub1120 _ (x_mL hids1113 (hSub1102 _ (x_mL hids1095 (hSub1084 _ (x_mL hids1077 (hSub1066 _ (x_mL hids1059 (hSub1048 _ (x_mL hids1041 (x_mL hids1033 (hSub1025 _ (x_mR hids1019))))))))))))))) hq1015a rfl) rfl rfl hl.1 rfl (lv_room (Nat.le_of_ble_eq_true rfl)) dX11_init_83 ⟨Nat.le_of_ble_eq_true rfl, Nat.le_of_ble_eq_true rfl⟩) hW hA (fun σ1318 H locs h hW => ?_)
  try dsimp only at h
  refine lv_iinc (v := (29 : Int32)) (lv' := [(1, .int (29 : Int32)), (0, .ref (ad1135 0))]) hx hb dX11_init_86 hl (k := 0) rfl (by decide) (by decide) rfl (fun ls hl => ?_)
  refine lv_goto (tgt := 64) hx hb dX11_init_89 (by decide) ?_
  refine lv_iload_n hx hb dX11_init_64 rfl (lv_at hl 0 rfl) ?_
  refine va_ldcS hx hb hown hZ.2.2.2.1 dX11_init_65 ?_
  refine xs_calli (va_runV (As := []) (rest := [.int (29 : Int32)]) ⟨hx, hb, hml, hown, hts⟩ (J_J0_length_8abf5 (post := fun r => r = (51 : Int32)) l 0 (by decide) (by decide)) (cwV 0 hts gX11_init_J0_length_8abf5 rfl rfl rfl (by decide +kernel) ⟨Nat.le_of_ble_eq_true rfl, Nat.le_of_ble_eq_true rfl⟩) (xs_preV hZ hW.2.2 hA 0 (by decide)) rfl rfl hl.1 rfl (lv_room (Nat.le_of_ble_eq_true rfl)) dX11_init_67 ⟨Nat.le_of_ble_eq_true rfl, Nat.le_of_ble_eq_true rfl⟩) (fun r1319 hr1319 => ?_)
  subst hr1319
  refine lv_icmp_ge (tgt := 92) hx hb dX11_init_70 (by decide) (fun hc => absurd hc (by decide)) (fun _ => ?_)
  refine lv_aload_n hx hb dX11_init_73 rfl (lv_at hl 1 rfl) ?_
  obtain ⟨hg1320, h⟩ := h
  refine xgX11_1r hx hb hts hown hK hW 0 hcX11_init_X11 (hSub1138 _ (x_mL hids1131 (hSub1120 _ (x_mL hids1113 (hSub1102 _ (x_mL hids1095 (hSub1084 _ (x_mL hids1077 (hSub1066 _ (x_mL hids1059 (hSub1048 _ (x_mL hids1041 (x_mL hids1033 (hSub1025 _ (x_mL hids1019 (hSub1011 _ (x_mL hids1005 hm_this))))))))))))))))) lX_0 (hts _ hwX11_init_12) (by exact hg1320) dX11_init_74 ?_
  refine va_ldcS hx hb hown hZ.2.2.2.1 dX11_init_77 ?_
  refine lv_iload_n hx hb dX11_init_79 rfl (lv_at hl 0 rfl) ?_
  refine xs_calli (va_runV (As := [.int (29 : Int32)]) (rest := [.ref (ad1135 2)]) ⟨hx, hb, hml, hown, hts⟩ (J_J0_charAt_5068e (post := fun r => r = (119 : Int32)) l 0 29 (by decide) (by decide) (by decide)) (cwV 1 hts gX11_init_J0_charAt_5068e rfl rfl rfl (by decide +kernel) ⟨Nat.le_of_ble_eq_true rfl, Nat.le_of_ble_eq_true rfl⟩) (xs_preV hZ hW.2.2 hA 0 (by decide)) rfl rfl hl.1 rfl (lv_room (Nat.le_of_ble_eq_true rfl)) dX11_init_80 ⟨Nat.le_of_ble_eq_true rfl, Nat.le_of_ble_eq_true rfl⟩) (fun r1321 hr1321 => ?_)
  subst hr1321
  refine x_callv (va_runV (As := [.int (119 : Int32)]) (rest := []) ⟨hx, hb, hml, hown, hts⟩ (J_X7_take l h71148 h71149 h) (cwV 1 hts gX11_init_X7_take rfl rfl rfl hdV_X7_take ⟨Nat.le_of_ble_eq_true rfl, Nat.le_of_ble_eq_true rfl⟩) (x_preV (ci := 7) hK hZ hA hW (hSub1138 _ (x_mL hids1131 (hSub1120 _ (x_mL hids1113 (hSub1102 _ (x_mL hids1095 (hSub1084 _ (x_mL hids1077 (hSub1066 _ (x_mL hids1059 (hSub1048 _ (x_mL hids1041 (x_mL hids1033 (hSub1025 _ (x_mR hids1019))))))))))))))) hq1015a rfl) rfl rfl hl.1 rfl (lv_room (Nat.le_of_ble_eq_true rfl)) dX11_init_83 ⟨Nat.le_of_ble_eq_true rfl, Nat.le_of_ble_eq_true rfl⟩) hW hA (fun σ1324 H locs h hW => ?_)
  try dsimp only at h
  refine lv_iinc (v := (30 : Int32)) (lv' := [(1, .int (30 : Int32)), (0, .ref (ad1135 0))]) hx hb dX11_init_86 hl (k := 0) rfl (by decide) (by decide) rfl (fun ls hl => ?_)
  refine lv_goto (tgt := 64) hx hb dX11_init_89 (by decide) ?_
  refine lv_iload_n hx hb dX11_init_64 rfl (lv_at hl 0 rfl) ?_
  refine va_ldcS hx hb hown hZ.2.2.2.1 dX11_init_65 ?_
  refine xs_calli (va_runV (As := []) (rest := [.int (30 : Int32)]) ⟨hx, hb, hml, hown, hts⟩ (J_J0_length_8abf5 (post := fun r => r = (51 : Int32)) l 0 (by decide) (by decide)) (cwV 0 hts gX11_init_J0_length_8abf5 rfl rfl rfl (by decide +kernel) ⟨Nat.le_of_ble_eq_true rfl, Nat.le_of_ble_eq_true rfl⟩) (xs_preV hZ hW.2.2 hA 0 (by decide)) rfl rfl hl.1 rfl (lv_room (Nat.le_of_ble_eq_true rfl)) dX11_init_67 ⟨Nat.le_of_ble_eq_true rfl, Nat.le_of_ble_eq_true rfl⟩) (fun r1325 hr1325 => ?_)
  subst hr1325
  refine lv_icmp_ge (tgt := 92) hx hb dX11_init_70 (by decide) (fun hc => absurd hc (by decide)) (fun _ => ?_)
  refine lv_aload_n hx hb dX11_init_73 rfl (lv_at hl 1 rfl) ?_
  obtain ⟨hg1326, h⟩ := h
  refine xgX11_1r hx hb hts hown hK hW 0 hcX11_init_X11 (hSub1138 _ (x_mL hids1131 (hSub1120 _ (x_mL hids1113 (hSub1102 _ (x_mL hids1095 (hSub1084 _ (x_mL hids1077 (hSub1066 _ (x_mL hids1059 (hSub1048 _ (x_mL hids1041 (x_mL hids1033 (hSub1025 _ (x_mL hids1019 (hSub1011 _ (x_mL hids1005 hm_this))))))))))))))))) lX_0 (hts _ hwX11_init_12) (by exact hg1326) dX11_init_74 ?_
  refine va_ldcS hx hb hown hZ.2.2.2.1 dX11_init_77 ?_
  refine lv_iload_n hx hb dX11_init_79 rfl (lv_at hl 0 rfl) ?_
  refine xs_calli (va_runV (As := [.int (30 : Int32)]) (rest := [.ref (ad1135 2)]) ⟨hx, hb, hml, hown, hts⟩ (J_J0_charAt_5068e (post := fun r => r = (114 : Int32)) l 0 30 (by decide) (by decide) (by decide)) (cwV 1 hts gX11_init_J0_charAt_5068e rfl rfl rfl (by decide +kernel) ⟨Nat.le_of_ble_eq_true rfl, Nat.le_of_ble_eq_true rfl⟩) (xs_preV hZ hW.2.2 hA 0 (by decide)) rfl rfl hl.1 rfl (lv_room (Nat.le_of_ble_eq_true rfl)) dX11_init_80 ⟨Nat.le_of_ble_eq_true rfl, Nat.le_of_ble_eq_true rfl⟩) (fun r1327 hr1327 => ?_)
  subst hr1327
  refine x_callv (va_runV (As := [.int (114 : Int32)]) (rest := []) ⟨hx, hb, hml, hown, hts⟩ (J_X7_take l h71148 h71149 h) (cwV 1 hts gX11_init_X7_take rfl rfl rfl hdV_X7_take ⟨Nat.le_of_ble_eq_true rfl, Nat.le_of_ble_eq_true rfl⟩) (x_preV (ci := 7) hK hZ hA hW (hSub1138 _ (x_mL hids1131 (hSub1120 _ (x_mL hids1113 (hSub1102 _ (x_mL hids1095 (hSub1084 _ (x_mL hids1077 (hSub1066 _ (x_mL hids1059 (hSub1048 _ (x_mL hids1041 (x_mL hids1033 (hSub1025 _ (x_mR hids1019))))))))))))))) hq1015a rfl) rfl rfl hl.1 rfl (lv_room (Nat.le_of_ble_eq_true rfl)) dX11_init_83 ⟨Nat.le_of_ble_eq_true rfl, Nat.le_of_ble_eq_true rfl⟩) hW hA (fun σ1330 H locs h hW => ?_)
  try dsimp only at h
  refine lv_iinc (v := (31 : Int32)) (lv' := [(1, .int (31 : Int32)), (0, .ref (ad1135 0))]) hx hb dX11_init_86 hl (k := 0) rfl (by decide) (by decide) rfl (fun ls hl => ?_)
  refine lv_goto (tgt := 64) hx hb dX11_init_89 (by decide) ?_
  refine lv_iload_n hx hb dX11_init_64 rfl (lv_at hl 0 rfl) ?_
  refine va_ldcS hx hb hown hZ.2.2.2.1 dX11_init_65 ?_
  refine xs_calli (va_runV (As := []) (rest := [.int (31 : Int32)]) ⟨hx, hb, hml, hown, hts⟩ (J_J0_length_8abf5 (post := fun r => r = (51 : Int32)) l 0 (by decide) (by decide)) (cwV 0 hts gX11_init_J0_length_8abf5 rfl rfl rfl (by decide +kernel) ⟨Nat.le_of_ble_eq_true rfl, Nat.le_of_ble_eq_true rfl⟩) (xs_preV hZ hW.2.2 hA 0 (by decide)) rfl rfl hl.1 rfl (lv_room (Nat.le_of_ble_eq_true rfl)) dX11_init_67 ⟨Nat.le_of_ble_eq_true rfl, Nat.le_of_ble_eq_true rfl⟩) (fun r1331 hr1331 => ?_)
  subst hr1331
  refine lv_icmp_ge (tgt := 92) hx hb dX11_init_70 (by decide) (fun hc => absurd hc (by decide)) (fun _ => ?_)
  refine lv_aload_n hx hb dX11_init_73 rfl (lv_at hl 1 rfl) ?_
  obtain ⟨hg1332, h⟩ := h
  refine xgX11_1r hx hb hts hown hK hW 0 hcX11_init_X11 (hSub1138 _ (x_mL hids1131 (hSub1120 _ (x_mL hids1113 (hSub1102 _ (x_mL hids1095 (hSub1084 _ (x_mL hids1077 (hSub1066 _ (x_mL hids1059 (hSub1048 _ (x_mL hids1041 (x_mL hids1033 (hSub1025 _ (x_mL hids1019 (hSub1011 _ (x_mL hids1005 hm_this))))))))))))))))) lX_0 (hts _ hwX11_init_12) (by exact hg1332) dX11_init_74 ?_
  refine va_ldcS hx hb hown hZ.2.2.2.1 dX11_init_77 ?_
  refine lv_iload_n hx hb dX11_init_79 rfl (lv_at hl 0 rfl) ?_
  refine xs_calli (va_runV (As := [.int (31 : Int32)]) (rest := [.ref (ad1135 2)]) ⟨hx, hb, hml, hown, hts⟩ (J_J0_charAt_5068e (post := fun r => r = (97 : Int32)) l 0 31 (by decide) (by decide) (by decide)) (cwV 1 hts gX11_init_J0_charAt_5068e rfl rfl rfl (by decide +kernel) ⟨Nat.le_of_ble_eq_true rfl, Nat.le_of_ble_eq_true rfl⟩) (xs_preV hZ hW.2.2 hA 0 (by decide)) rfl rfl hl.1 rfl (lv_room (Nat.le_of_ble_eq_true rfl)) dX11_init_80 ⟨Nat.le_of_ble_eq_true rfl, Nat.le_of_ble_eq_true rfl⟩) (fun r1333 hr1333 => ?_)
  subst hr1333
  refine x_callv (va_runV (As := [.int (97 : Int32)]) (rest := []) ⟨hx, hb, hml, hown, hts⟩ (J_X7_take l h71148 h71149 h) (cwV 1 hts gX11_init_X7_take rfl rfl rfl hdV_X7_take ⟨Nat.le_of_ble_eq_true rfl, Nat.le_of_ble_eq_true rfl⟩) (x_preV (ci := 7) hK hZ hA hW (hSub1138 _ (x_mL hids1131 (hSub1120 _ (x_mL hids1113 (hSub1102 _ (x_mL hids1095 (hSub1084 _ (x_mL hids1077 (hSub1066 _ (x_mL hids1059 (hSub1048 _ (x_mL hids1041 (x_mL hids1033 (hSub1025 _ (x_mR hids1019))))))))))))))) hq1015a rfl) rfl rfl hl.1 rfl (lv_room (Nat.le_of_ble_eq_true rfl)) dX11_init_83 ⟨Nat.le_of_ble_eq_true rfl, Nat.le_of_ble_eq_true rfl⟩) hW hA (fun σ1336 H locs h hW => ?_)
  try dsimp only at h
  refine lv_iinc (v := (32 : Int32)) (lv' := [(1, .int (32 : Int32)), (0, .ref (ad1135 0))]) hx hb dX11_init_86 hl (k := 0) rfl (by decide) (by decide) rfl (fun ls hl => ?_)
  refine lv_goto (tgt := 64) hx hb dX11_init_89 (by decide) ?_
  refine lv_iload_n hx hb dX11_init_64 rfl (lv_at hl 0 rfl) ?_
  refine va_ldcS hx hb hown hZ.2.2.2.1 dX11_init_65 ?_
  refine xs_calli (va_runV (As := []) (rest := [.int (32 : Int32)]) ⟨hx, hb, hml, hown, hts⟩ (J_J0_length_8abf5 (post := fun r => r = (51 : Int32)) l 0 (by decide) (by decide)) (cwV 0 hts gX11_init_J0_length_8abf5 rfl rfl rfl (by decide +kernel) ⟨Nat.le_of_ble_eq_true rfl, Nat.le_of_ble_eq_true rfl⟩) (xs_preV hZ hW.2.2 hA 0 (by decide)) rfl rfl hl.1 rfl (lv_room (Nat.le_of_ble_eq_true rfl)) dX11_init_67 ⟨Nat.le_of_ble_eq_true rfl, Nat.le_of_ble_eq_true rfl⟩) (fun r1337 hr1337 => ?_)
  subst hr1337
  refine lv_icmp_ge (tgt := 92) hx hb dX11_init_70 (by decide) (fun hc => absurd hc (by decide)) (fun _ => ?_)
  refine lv_aload_n hx hb dX11_init_73 rfl (lv_at hl 1 rfl) ?_
  obtain ⟨hg1338, h⟩ := h
  refine xgX11_1r hx hb hts hown hK hW 0 hcX11_init_X11 (hSub1138 _ (x_mL hids1131 (hSub1120 _ (x_mL hids1113 (hSub1102 _ (x_mL hids1095 (hSub1084 _ (x_mL hids1077 (hSub1066 _ (x_mL hids1059 (hSub1048 _ (x_mL hids1041 (x_mL hids1033 (hSub1025 _ (x_mL hids1019 (hSub1011 _ (x_mL hids1005 hm_this))))))))))))))))) lX_0 (hts _ hwX11_init_12) (by exact hg1338) dX11_init_74 ?_
  refine va_ldcS hx hb hown hZ.2.2.2.1 dX11_init_77 ?_
  refine lv_iload_n hx hb dX11_init_79 rfl (lv_at hl 0 rfl) ?_
  refine xs_calli (va_runV (As := [.int (32 : Int32)]) (rest := [.ref (ad1135 2)]) ⟨hx, hb, hml, hown, hts⟩ (J_J0_charAt_5068e (post := fun r => r = (112 : Int32)) l 0 32 (by decide) (by decide) (by decide)) (cwV 1 hts gX11_init_J0_charAt_5068e rfl rfl rfl (by decide +kernel) ⟨Nat.le_of_ble_eq_true rfl, Nat.le_of_ble_eq_true rfl⟩) (xs_preV hZ hW.2.2 hA 0 (by decide)) rfl rfl hl.1 rfl (lv_room (Nat.le_of_ble_eq_true rfl)) dX11_init_80 ⟨Nat.le_of_ble_eq_true rfl, Nat.le_of_ble_eq_true rfl⟩) (fun r1339 hr1339 => ?_)
  subst hr1339
  refine x_callv (va_runV (As := [.int (112 : Int32)]) (rest := []) ⟨hx, hb, hml, hown, hts⟩ (J_X7_take l h71148 h71149 h) (cwV 1 hts gX11_init_X7_take rfl rfl rfl hdV_X7_take ⟨Nat.le_of_ble_eq_true rfl, Nat.le_of_ble_eq_true rfl⟩) (x_preV (ci := 7) hK hZ hA hW (hSub1138 _ (x_mL hids1131 (hSub1120 _ (x_mL hids1113 (hSub1102 _ (x_mL hids1095 (hSub1084 _ (x_mL hids1077 (hSub1066 _ (x_mL hids1059 (hSub1048 _ (x_mL hids1041 (x_mL hids1033 (hSub1025 _ (x_mR hids1019))))))))))))))) hq1015a rfl) rfl rfl hl.1 rfl (lv_room (Nat.le_of_ble_eq_true rfl)) dX11_init_83 ⟨Nat.le_of_ble_eq_true rfl, Nat.le_of_ble_eq_true rfl⟩) hW hA (fun σ1342 H locs h hW => ?_)
  try dsimp only at h
  refine lv_iinc (v := (33 : Int32)) (lv' := [(1, .int (33 : Int32)), (0, .ref (ad1135 0))]) hx hb dX11_init_86 hl (k := 0) rfl (by decide) (by decide) rfl (fun ls hl => ?_)
  refine lv_goto (tgt := 64) hx hb dX11_init_89 (by decide) ?_
  refine lv_iload_n hx hb dX11_init_64 rfl (lv_at hl 0 rfl) ?_
  refine va_ldcS hx hb hown hZ.2.2.2.1 dX11_init_65 ?_
  refine xs_calli (va_runV (As := []) (rest := [.int (33 : Int32)]) ⟨hx, hb, hml, hown, hts⟩ (J_J0_length_8abf5 (post := fun r => r = (51 : Int32)) l 0 (by decide) (by decide)) (cwV 0 hts gX11_init_J0_length_8abf5 rfl rfl rfl (by decide +kernel) ⟨Nat.le_of_ble_eq_true rfl, Nat.le_of_ble_eq_true rfl⟩) (xs_preV hZ hW.2.2 hA 0 (by decide)) rfl rfl hl.1 rfl (lv_room (Nat.le_of_ble_eq_true rfl)) dX11_init_67 ⟨Nat.le_of_ble_eq_true rfl, Nat.le_of_ble_eq_true rfl⟩) (fun r1343 hr1343 => ?_)
  subst hr1343
  refine lv_icmp_ge (tgt := 92) hx hb dX11_init_70 (by decide) (fun hc => absurd hc (by decide)) (fun _ => ?_)
  refine lv_aload_n hx hb dX11_init_73 rfl (lv_at hl 1 rfl) ?_
  obtain ⟨hg1344, h⟩ := h
  refine xgX11_1r hx hb hts hown hK hW 0 hcX11_init_X11 (hSub1138 _ (x_mL hids1131 (hSub1120 _ (x_mL hids1113 (hSub1102 _ (x_mL hids1095 (hSub1084 _ (x_mL hids1077 (hSub1066 _ (x_mL hids1059 (hSub1048 _ (x_mL hids1041 (x_mL hids1033 (hSub1025 _ (x_mL hids1019 (hSub1011 _ (x_mL hids1005 hm_this))))))))))))))))) lX_0 (hts _ hwX11_init_12) (by exact hg1344) dX11_init_74 ?_
  refine va_ldcS hx hb hown hZ.2.2.2.1 dX11_init_77 ?_
  refine lv_iload_n hx hb dX11_init_79 rfl (lv_at hl 0 rfl) ?_
  refine xs_calli (va_runV (As := [.int (33 : Int32)]) (rest := [.ref (ad1135 2)]) ⟨hx, hb, hml, hown, hts⟩ (J_J0_charAt_5068e (post := fun r => r = (32 : Int32)) l 0 33 (by decide) (by decide) (by decide)) (cwV 1 hts gX11_init_J0_charAt_5068e rfl rfl rfl (by decide +kernel) ⟨Nat.le_of_ble_eq_true rfl, Nat.le_of_ble_eq_true rfl⟩) (xs_preV hZ hW.2.2 hA 0 (by decide)) rfl rfl hl.1 rfl (lv_room (Nat.le_of_ble_eq_true rfl)) dX11_init_80 ⟨Nat.le_of_ble_eq_true rfl, Nat.le_of_ble_eq_true rfl⟩) (fun r1345 hr1345 => ?_)
  subst hr1345
  refine x_callv (va_runV (As := [.int (32 : Int32)]) (rest := []) ⟨hx, hb, hml, hown, hts⟩ (J_X7_take l h71148 h71149 h) (cwV 1 hts gX11_init_X7_take rfl rfl rfl hdV_X7_take ⟨Nat.le_of_ble_eq_true rfl, Nat.le_of_ble_eq_true rfl⟩) (x_preV (ci := 7) hK hZ hA hW (hSub1138 _ (x_mL hids1131 (hSub1120 _ (x_mL hids1113 (hSub1102 _ (x_mL hids1095 (hSub1084 _ (x_mL hids1077 (hSub1066 _ (x_mL hids1059 (hSub1048 _ (x_mL hids1041 (x_mL hids1033 (hSub1025 _ (x_mR hids1019))))))))))))))) hq1015a rfl) rfl rfl hl.1 rfl (lv_room (Nat.le_of_ble_eq_true rfl)) dX11_init_83 ⟨Nat.le_of_ble_eq_true rfl, Nat.le_of_ble_eq_true rfl⟩) hW hA (fun σ1348 H locs h hW => ?_)
  try dsimp only at h
  refine lv_iinc (v := (34 : Int32)) (lv' := [(1, .int (34 : Int32)), (0, .ref (ad1135 0))]) hx hb dX11_init_86 hl (k := 0) rfl (by decide) (by decide) rfl (fun ls hl => ?_)
  refine lv_goto (tgt := 64) hx hb dX11_init_89 (by decide) ?_
  refine lv_iload_n hx hb dX11_init_64 rfl (lv_at hl 0 rfl) ?_
  refine va_ldcS hx hb hown hZ.2.2.2.1 dX11_init_65 ?_
  refine xs_calli (va_runV (As := []) (rest := [.int (34 : Int32)]) ⟨hx, hb, hml, hown, hts⟩ (J_J0_length_8abf5 (post := fun r => r = (51 : Int32)) l 0 (by decide) (by decide)) (cwV 0 hts gX11_init_J0_length_8abf5 rfl rfl rfl (by decide +kernel) ⟨Nat.le_of_ble_eq_true rfl, Nat.le_of_ble_eq_true rfl⟩) (xs_preV hZ hW.2.2 hA 0 (by decide)) rfl rfl hl.1 rfl (lv_room (Nat.le_of_ble_eq_true rfl)) dX11_init_67 ⟨Nat.le_of_ble_eq_true rfl, Nat.le_of_ble_eq_true rfl⟩) (fun r1349 hr1349 => ?_)
  subst hr1349
  refine lv_icmp_ge (tgt := 92) hx hb dX11_init_70 (by decide) (fun hc => absurd hc (by decide)) (fun _ => ?_)
  refine lv_aload_n hx hb dX11_init_73 rfl (lv_at hl 1 rfl) ?_
  obtain ⟨hg1350, h⟩ := h
  refine xgX11_1r hx hb hts hown hK hW 0 hcX11_init_X11 (hSub1138 _ (x_mL hids1131 (hSub1120 _ (x_mL hids1113 (hSub1102 _ (x_mL hids1095 (hSub1084 _ (x_mL hids1077 (hSub1066 _ (x_mL hids1059 (hSub1048 _ (x_mL hids1041 (x_mL hids1033 (hSub1025 _ (x_mL hids1019 (hSub1011 _ (x_mL hids1005 hm_this))))))))))))))))) lX_0 (hts _ hwX11_init_12) (by exact hg1350) dX11_init_74 ?_
  refine va_ldcS hx hb hown hZ.2.2.2.1 dX11_init_77 ?_
  refine lv_iload_n hx hb dX11_init_79 rfl (lv_at hl 0 rfl) ?_
  refine xs_calli (va_runV (As := [.int (34 : Int32)]) (rest := [.ref (ad1135 2)]) ⟨hx, hb, hml, hown, hts⟩ (J_J0_charAt_5068e (post := fun r => r = (59 : Int32)) l 0 34 (by decide) (by decide) (by decide)) (cwV 1 hts gX11_init_J0_charAt_5068e rfl rfl rfl (by decide +kernel) ⟨Nat.le_of_ble_eq_true rfl, Nat.le_of_ble_eq_true rfl⟩) (xs_preV hZ hW.2.2 hA 0 (by decide)) rfl rfl hl.1 rfl (lv_room (Nat.le_of_ble_eq_true rfl)) dX11_init_80 ⟨Nat.le_of_ble_eq_true rfl, Nat.le_of_ble_eq_true rfl⟩) (fun r1351 hr1351 => ?_)
  subst hr1351
  refine x_callv (va_runV (As := [.int (59 : Int32)]) (rest := []) ⟨hx, hb, hml, hown, hts⟩ (J_X7_take l h71148 h71149 h) (cwV 1 hts gX11_init_X7_take rfl rfl rfl hdV_X7_take ⟨Nat.le_of_ble_eq_true rfl, Nat.le_of_ble_eq_true rfl⟩) (x_preV (ci := 7) hK hZ hA hW (hSub1138 _ (x_mL hids1131 (hSub1120 _ (x_mL hids1113 (hSub1102 _ (x_mL hids1095 (hSub1084 _ (x_mL hids1077 (hSub1066 _ (x_mL hids1059 (hSub1048 _ (x_mL hids1041 (x_mL hids1033 (hSub1025 _ (x_mR hids1019))))))))))))))) hq1015a rfl) rfl rfl hl.1 rfl (lv_room (Nat.le_of_ble_eq_true rfl)) dX11_init_83 ⟨Nat.le_of_ble_eq_true rfl, Nat.le_of_ble_eq_true rfl⟩) hW hA (fun σ1354 H locs h hW => ?_)
  try dsimp only at h
  refine lv_iinc (v := (35 : Int32)) (lv' := [(1, .int (35 : Int32)), (0, .ref (ad1135 0))]) hx hb dX11_init_86 hl (k := 0) rfl (by decide) (by decide) rfl (fun ls hl => ?_)
  refine lv_goto (tgt := 64) hx hb dX11_init_89 (by decide) ?_
  refine lv_iload_n hx hb dX11_init_64 rfl (lv_at hl 0 rfl) ?_
  refine va_ldcS hx hb hown hZ.2.2.2.1 dX11_init_65 ?_
  refine xs_calli (va_runV (As := []) (rest := [.int (35 : Int32)]) ⟨hx, hb, hml, hown, hts⟩ (J_J0_length_8abf5 (post := fun r => r = (51 : Int32)) l 0 (by decide) (by decide)) (cwV 0 hts gX11_init_J0_length_8abf5 rfl rfl rfl (by decide +kernel) ⟨Nat.le_of_ble_eq_true rfl, Nat.le_of_ble_eq_true rfl⟩) (xs_preV hZ hW.2.2 hA 0 (by decide)) rfl rfl hl.1 rfl (lv_room (Nat.le_of_ble_eq_true rfl)) dX11_init_67 ⟨Nat.le_of_ble_eq_true rfl, Nat.le_of_ble_eq_true rfl⟩) (fun r1355 hr1355 => ?_)
  subst hr1355
  refine lv_icmp_ge (tgt := 92) hx hb dX11_init_70 (by decide) (fun hc => absurd hc (by decide)) (fun _ => ?_)
  refine lv_aload_n hx hb dX11_init_73 rfl (lv_at hl 1 rfl) ?_
  obtain ⟨hg1356, h⟩ := h
  refine xgX11_1r hx hb hts hown hK hW 0 hcX11_init_X11 (hSub1138 _ (x_mL hids1131 (hSub1120 _ (x_mL hids1113 (hSub1102 _ (x_mL hids1095 (hSub1084 _ (x_mL hids1077 (hSub1066 _ (x_mL hids1059 (hSub1048 _ (x_mL hids1041 (x_mL hids1033 (hSub1025 _ (x_mL hids1019 (hSub1011 _ (x_mL hids1005 hm_this))))))))))))))))) lX_0 (hts _ hwX11_init_12) (by exact hg1356) dX11_init_74 ?_
  refine va_ldcS hx hb hown hZ.2.2.2.1 dX11_init_77 ?_
  refine lv_iload_n hx hb dX11_init_79 rfl (lv_at hl 0 rfl) ?_
  refine xs_calli (va_runV (As := [.int (35 : Int32)]) (rest := [.ref (ad1135 2)]) ⟨hx, hb, hml, hown, hts⟩ (J_J0_charAt_5068e (post := fun r => r = (32 : Int32)) l 0 35 (by decide) (by decide) (by decide)) (cwV 1 hts gX11_init_J0_charAt_5068e rfl rfl rfl (by decide +kernel) ⟨Nat.le_of_ble_eq_true rfl, Nat.le_of_ble_eq_true rfl⟩) (xs_preV hZ hW.2.2 hA 0 (by decide)) rfl rfl hl.1 rfl (lv_room (Nat.le_of_ble_eq_true rfl)) dX11_init_80 ⟨Nat.le_of_ble_eq_true rfl, Nat.le_of_ble_eq_true rfl⟩) (fun r1357 hr1357 => ?_)
  subst hr1357
  refine x_callv (va_runV (As := [.int (32 : Int32)]) (rest := []) ⟨hx, hb, hml, hown, hts⟩ (J_X7_take l h71148 h71149 h) (cwV 1 hts gX11_init_X7_take rfl rfl rfl hdV_X7_take ⟨Nat.le_of_ble_eq_true rfl, Nat.le_of_ble_eq_true rfl⟩) (x_preV (ci := 7) hK hZ hA hW (hSub1138 _ (x_mL hids1131 (hSub1120 _ (x_mL hids1113 (hSub1102 _ (x_mL hids1095 (hSub1084 _ (x_mL hids1077 (hSub1066 _ (x_mL hids1059 (hSub1048 _ (x_mL hids1041 (x_mL hids1033 (hSub1025 _ (x_mR hids1019))))))))))))))) hq1015a rfl) rfl rfl hl.1 rfl (lv_room (Nat.le_of_ble_eq_true rfl)) dX11_init_83 ⟨Nat.le_of_ble_eq_true rfl, Nat.le_of_ble_eq_true rfl⟩) hW hA (fun σ1360 H locs h hW => ?_)
  try dsimp only at h
  refine lv_iinc (v := (36 : Int32)) (lv' := [(1, .int (36 : Int32)), (0, .ref (ad1135 0))]) hx hb dX11_init_86 hl (k := 0) rfl (by decide) (by decide) rfl (fun ls hl => ?_)
  refine lv_goto (tgt := 64) hx hb dX11_init_89 (by decide) ?_
  refine lv_iload_n hx hb dX11_init_64 rfl (lv_at hl 0 rfl) ?_
  refine va_ldcS hx hb hown hZ.2.2.2.1 dX11_init_65 ?_
  refine xs_calli (va_runV (As := []) (rest := [.int (36 : Int32)]) ⟨hx, hb, hml, hown, hts⟩ (J_J0_length_8abf5 (post := fun r => r = (51 : Int32)) l 0 (by decide) (by decide)) (cwV 0 hts gX11_init_J0_length_8abf5 rfl rfl rfl (by decide +kernel) ⟨Nat.le_of_ble_eq_true rfl, Nat.le_of_ble_eq_true rfl⟩) (xs_preV hZ hW.2.2 hA 0 (by decide)) rfl rfl hl.1 rfl (lv_room (Nat.le_of_ble_eq_true rfl)) dX11_init_67 ⟨Nat.le_of_ble_eq_true rfl, Nat.le_of_ble_eq_true rfl⟩) (fun r1361 hr1361 => ?_)
  subst hr1361
  refine lv_icmp_ge (tgt := 92) hx hb dX11_init_70 (by decide) (fun hc => absurd hc (by decide)) (fun _ => ?_)
  refine lv_aload_n hx hb dX11_init_73 rfl (lv_at hl 1 rfl) ?_
  obtain ⟨hg1362, h⟩ := h
  refine xgX11_1r hx hb hts hown hK hW 0 hcX11_init_X11 (hSub1138 _ (x_mL hids1131 (hSub1120 _ (x_mL hids1113 (hSub1102 _ (x_mL hids1095 (hSub1084 _ (x_mL hids1077 (hSub1066 _ (x_mL hids1059 (hSub1048 _ (x_mL hids1041 (x_mL hids1033 (hSub1025 _ (x_mL hids1019 (hSub1011 _ (x_mL hids1005 hm_this))))))))))))))))) lX_0 (hts _ hwX11_init_12) (by exact hg1362) dX11_init_74 ?_
  refine va_ldcS hx hb hown hZ.2.2.2.1 dX11_init_77 ?_
  refine lv_iload_n hx hb dX11_init_79 rfl (lv_at hl 0 rfl) ?_
  refine xs_calli (va_runV (As := [.int (36 : Int32)]) (rest := [.ref (ad1135 2)]) ⟨hx, hb, hml, hown, hts⟩ (J_J0_charAt_5068e (post := fun r => r = (119 : Int32)) l 0 36 (by decide) (by decide) (by decide)) (cwV 1 hts gX11_init_J0_charAt_5068e rfl rfl rfl (by decide +kernel) ⟨Nat.le_of_ble_eq_true rfl, Nat.le_of_ble_eq_true rfl⟩) (xs_preV hZ hW.2.2 hA 0 (by decide)) rfl rfl hl.1 rfl (lv_room (Nat.le_of_ble_eq_true rfl)) dX11_init_80 ⟨Nat.le_of_ble_eq_true rfl, Nat.le_of_ble_eq_true rfl⟩) (fun r1363 hr1363 => ?_)
  subst hr1363
  refine x_callv (va_runV (As := [.int (119 : Int32)]) (rest := []) ⟨hx, hb, hml, hown, hts⟩ (J_X7_take l h71148 h71149 h) (cwV 1 hts gX11_init_X7_take rfl rfl rfl hdV_X7_take ⟨Nat.le_of_ble_eq_true rfl, Nat.le_of_ble_eq_true rfl⟩) (x_preV (ci := 7) hK hZ hA hW (hSub1138 _ (x_mL hids1131 (hSub1120 _ (x_mL hids1113 (hSub1102 _ (x_mL hids1095 (hSub1084 _ (x_mL hids1077 (hSub1066 _ (x_mL hids1059 (hSub1048 _ (x_mL hids1041 (x_mL hids1033 (hSub1025 _ (x_mR hids1019))))))))))))))) hq1015a rfl) rfl rfl hl.1 rfl (lv_room (Nat.le_of_ble_eq_true rfl)) dX11_init_83 ⟨Nat.le_of_ble_eq_true rfl, Nat.le_of_ble_eq_true rfl⟩) hW hA (fun σ1366 H locs h hW => ?_)
  try dsimp only at h
  refine lv_iinc (v := (37 : Int32)) (lv' := [(1, .int (37 : Int32)), (0, .ref (ad1135 0))]) hx hb dX11_init_86 hl (k := 0) rfl (by decide) (by decide) rfl (fun ls hl => ?_)
  refine lv_goto (tgt := 64) hx hb dX11_init_89 (by decide) ?_
  refine lv_iload_n hx hb dX11_init_64 rfl (lv_at hl 0 rfl) ?_
  refine va_ldcS hx hb hown hZ.2.2.2.1 dX11_init_65 ?_
  refine xs_calli (va_runV (As := []) (rest := [.int (37 : Int32)]) ⟨hx, hb, hml, hown, hts⟩ (J_J0_length_8abf5 (post := fun r => r = (51 : Int32)) l 0 (by decide) (by decide)) (cwV 0 hts gX11_init_J0_length_8abf5 rfl rfl rfl (by decide +kernel) ⟨Nat.le_of_ble_eq_true rfl, Nat.le_of_ble_eq_true rfl⟩) (xs_preV hZ hW.2.2 hA 0 (by decide)) rfl rfl hl.1 rfl (lv_room (Nat.le_of_ble_eq_true rfl)) dX11_init_67 ⟨Nat.le_of_ble_eq_true rfl, Nat.le_of_ble_eq_true rfl⟩) (fun r1367 hr1367 => ?_)
  subst hr1367
  refine lv_icmp_ge (tgt := 92) hx hb dX11_init_70 (by decide) (fun hc => absurd hc (by decide)) (fun _ => ?_)
  refine lv_aload_n hx hb dX11_init_73 rfl (lv_at hl 1 rfl) ?_
  obtain ⟨hg1368, h⟩ := h
  refine xgX11_1r hx hb hts hown hK hW 0 hcX11_init_X11 (hSub1138 _ (x_mL hids1131 (hSub1120 _ (x_mL hids1113 (hSub1102 _ (x_mL hids1095 (hSub1084 _ (x_mL hids1077 (hSub1066 _ (x_mL hids1059 (hSub1048 _ (x_mL hids1041 (x_mL hids1033 (hSub1025 _ (x_mL hids1019 (hSub1011 _ (x_mL hids1005 hm_this))))))))))))))))) lX_0 (hts _ hwX11_init_12) (by exact hg1368) dX11_init_74 ?_
  refine va_ldcS hx hb hown hZ.2.2.2.1 dX11_init_77 ?_
  refine lv_iload_n hx hb dX11_init_79 rfl (lv_at hl 0 rfl) ?_
  refine xs_calli (va_runV (As := [.int (37 : Int32)]) (rest := [.ref (ad1135 2)]) ⟨hx, hb, hml, hown, hts⟩ (J_J0_charAt_5068e (post := fun r => r = (97 : Int32)) l 0 37 (by decide) (by decide) (by decide)) (cwV 1 hts gX11_init_J0_charAt_5068e rfl rfl rfl (by decide +kernel) ⟨Nat.le_of_ble_eq_true rfl, Nat.le_of_ble_eq_true rfl⟩) (xs_preV hZ hW.2.2 hA 0 (by decide)) rfl rfl hl.1 rfl (lv_room (Nat.le_of_ble_eq_true rfl)) dX11_init_80 ⟨Nat.le_of_ble_eq_true rfl, Nat.le_of_ble_eq_true rfl⟩) (fun r1369 hr1369 => ?_)
  subst hr1369
  refine x_callv (va_runV (As := [.int (97 : Int32)]) (rest := []) ⟨hx, hb, hml, hown, hts⟩ (J_X7_take l h71148 h71149 h) (cwV 1 hts gX11_init_X7_take rfl rfl rfl hdV_X7_take ⟨Nat.le_of_ble_eq_true rfl, Nat.le_of_ble_eq_true rfl⟩) (x_preV (ci := 7) hK hZ hA hW (hSub1138 _ (x_mL hids1131 (hSub1120 _ (x_mL hids1113 (hSub1102 _ (x_mL hids1095 (hSub1084 _ (x_mL hids1077 (hSub1066 _ (x_mL hids1059 (hSub1048 _ (x_mL hids1041 (x_mL hids1033 (hSub1025 _ (x_mR hids1019))))))))))))))) hq1015a rfl) rfl rfl hl.1 rfl (lv_room (Nat.le_of_ble_eq_true rfl)) dX11_init_83 ⟨Nat.le_of_ble_eq_true rfl, Nat.le_of_ble_eq_true rfl⟩) hW hA (fun σ1372 H locs h hW => ?_)
  try dsimp only at h
  refine lv_iinc (v := (38 : Int32)) (lv' := [(1, .int (38 : Int32)), (0, .ref (ad1135 0))]) hx hb dX11_init_86 hl (k := 0) rfl (by decide) (by decide) rfl (fun ls hl => ?_)
  refine lv_goto (tgt := 64) hx hb dX11_init_89 (by decide) ?_
  refine lv_iload_n hx hb dX11_init_64 rfl (lv_at hl 0 rfl) ?_
  refine va_ldcS hx hb hown hZ.2.2.2.1 dX11_init_65 ?_
  refine xs_calli (va_runV (As := []) (rest := [.int (38 : Int32)]) ⟨hx, hb, hml, hown, hts⟩ (J_J0_length_8abf5 (post := fun r => r = (51 : Int32)) l 0 (by decide) (by decide)) (cwV 0 hts gX11_init_J0_length_8abf5 rfl rfl rfl (by decide +kernel) ⟨Nat.le_of_ble_eq_true rfl, Nat.le_of_ble_eq_true rfl⟩) (xs_preV hZ hW.2.2 hA 0 (by decide)) rfl rfl hl.1 rfl (lv_room (Nat.le_of_ble_eq_true rfl)) dX11_init_67 ⟨Nat.le_of_ble_eq_true rfl, Nat.le_of_ble_eq_true rfl⟩) (fun r1373 hr1373 => ?_)
  subst hr1373
  refine lv_icmp_ge (tgt := 92) hx hb dX11_init_70 (by decide) (fun hc => absurd hc (by decide)) (fun _ => ?_)
  refine lv_aload_n hx hb dX11_init_73 rfl (lv_at hl 1 rfl) ?_
  obtain ⟨hg1374, h⟩ := h
  refine xgX11_1r hx hb hts hown hK hW 0 hcX11_init_X11 (hSub1138 _ (x_mL hids1131 (hSub1120 _ (x_mL hids1113 (hSub1102 _ (x_mL hids1095 (hSub1084 _ (x_mL hids1077 (hSub1066 _ (x_mL hids1059 (hSub1048 _ (x_mL hids1041 (x_mL hids1033 (hSub1025 _ (x_mL hids1019 (hSub1011 _ (x_mL hids1005 hm_this))))))))))))))))) lX_0 (hts _ hwX11_init_12) (by exact hg1374) dX11_init_74 ?_
  refine va_ldcS hx hb hown hZ.2.2.2.1 dX11_init_77 ?_
  refine lv_iload_n hx hb dX11_init_79 rfl (lv_at hl 0 rfl) ?_
  refine xs_calli (va_runV (As := [.int (38 : Int32)]) (rest := [.ref (ad1135 2)]) ⟨hx, hb, hml, hown, hts⟩ (J_J0_charAt_5068e (post := fun r => r = (110 : Int32)) l 0 38 (by decide) (by decide) (by decide)) (cwV 1 hts gX11_init_J0_charAt_5068e rfl rfl rfl (by decide +kernel) ⟨Nat.le_of_ble_eq_true rfl, Nat.le_of_ble_eq_true rfl⟩) (xs_preV hZ hW.2.2 hA 0 (by decide)) rfl rfl hl.1 rfl (lv_room (Nat.le_of_ble_eq_true rfl)) dX11_init_80 ⟨Nat.le_of_ble_eq_true rfl, Nat.le_of_ble_eq_true rfl⟩) (fun r1375 hr1375 => ?_)
  subst hr1375
  refine x_callv (va_runV (As := [.int (110 : Int32)]) (rest := []) ⟨hx, hb, hml, hown, hts⟩ (J_X7_take l h71148 h71149 h) (cwV 1 hts gX11_init_X7_take rfl rfl rfl hdV_X7_take ⟨Nat.le_of_ble_eq_true rfl, Nat.le_of_ble_eq_true rfl⟩) (x_preV (ci := 7) hK hZ hA hW (hSub1138 _ (x_mL hids1131 (hSub1120 _ (x_mL hids1113 (hSub1102 _ (x_mL hids1095 (hSub1084 _ (x_mL hids1077 (hSub1066 _ (x_mL hids1059 (hSub1048 _ (x_mL hids1041 (x_mL hids1033 (hSub1025 _ (x_mR hids1019))))))))))))))) hq1015a rfl) rfl rfl hl.1 rfl (lv_room (Nat.le_of_ble_eq_true rfl)) dX11_init_83 ⟨Nat.le_of_ble_eq_true rfl, Nat.le_of_ble_eq_true rfl⟩) hW hA (fun σ1378 H locs h hW => ?_)
  try dsimp only at h
  refine lv_iinc (v := (39 : Int32)) (lv' := [(1, .int (39 : Int32)), (0, .ref (ad1135 0))]) hx hb dX11_init_86 hl (k := 0) rfl (by decide) (by decide) rfl (fun ls hl => ?_)
  refine lv_goto (tgt := 64) hx hb dX11_init_89 (by decide) ?_
  refine lv_iload_n hx hb dX11_init_64 rfl (lv_at hl 0 rfl) ?_
  refine va_ldcS hx hb hown hZ.2.2.2.1 dX11_init_65 ?_
  refine xs_calli (va_runV (As := []) (rest := [.int (39 : Int32)]) ⟨hx, hb, hml, hown, hts⟩ (J_J0_length_8abf5 (post := fun r => r = (51 : Int32)) l 0 (by decide) (by decide)) (cwV 0 hts gX11_init_J0_length_8abf5 rfl rfl rfl (by decide +kernel) ⟨Nat.le_of_ble_eq_true rfl, Nat.le_of_ble_eq_true rfl⟩) (xs_preV hZ hW.2.2 hA 0 (by decide)) rfl rfl hl.1 rfl (lv_room (Nat.le_of_ble_eq_true rfl)) dX11_init_67 ⟨Nat.le_of_ble_eq_true rfl, Nat.le_of_ble_eq_true rfl⟩) (fun r1379 hr1379 => ?_)
  subst hr1379
  refine lv_icmp_ge (tgt := 92) hx hb dX11_init_70 (by decide) (fun hc => absurd hc (by decide)) (fun _ => ?_)
  refine lv_aload_n hx hb dX11_init_73 rfl (lv_at hl 1 rfl) ?_
  obtain ⟨hg1380, h⟩ := h
  refine xgX11_1r hx hb hts hown hK hW 0 hcX11_init_X11 (hSub1138 _ (x_mL hids1131 (hSub1120 _ (x_mL hids1113 (hSub1102 _ (x_mL hids1095 (hSub1084 _ (x_mL hids1077 (hSub1066 _ (x_mL hids1059 (hSub1048 _ (x_mL hids1041 (x_mL hids1033 (hSub1025 _ (x_mL hids1019 (hSub1011 _ (x_mL hids1005 hm_this))))))))))))))))) lX_0 (hts _ hwX11_init_12) (by exact hg1380) dX11_init_74 ?_
  refine va_ldcS hx hb hown hZ.2.2.2.1 dX11_init_77 ?_
  refine lv_iload_n hx hb dX11_init_79 rfl (lv_at hl 0 rfl) ?_
  refine xs_calli (va_runV (As := [.int (39 : Int32)]) (rest := [.ref (ad1135 2)]) ⟨hx, hb, hml, hown, hts⟩ (J_J0_charAt_5068e (post := fun r => r = (116 : Int32)) l 0 39 (by decide) (by decide) (by decide)) (cwV 1 hts gX11_init_J0_charAt_5068e rfl rfl rfl (by decide +kernel) ⟨Nat.le_of_ble_eq_true rfl, Nat.le_of_ble_eq_true rfl⟩) (xs_preV hZ hW.2.2 hA 0 (by decide)) rfl rfl hl.1 rfl (lv_room (Nat.le_of_ble_eq_true rfl)) dX11_init_80 ⟨Nat.le_of_ble_eq_true rfl, Nat.le_of_ble_eq_true rfl⟩) (fun r1381 hr1381 => ?_)
  subst hr1381
  refine x_callv (va_runV (As := [.int (116 : Int32)]) (rest := []) ⟨hx, hb, hml, hown, hts⟩ (J_X7_take l h71148 h71149 h) (cwV 1 hts gX11_init_X7_take rfl rfl rfl hdV_X7_take ⟨Nat.le_of_ble_eq_true rfl, Nat.le_of_ble_eq_true rfl⟩) (x_preV (ci := 7) hK hZ hA hW (hSub1138 _ (x_mL hids1131 (hSub1120 _ (x_mL hids1113 (hSub1102 _ (x_mL hids1095 (hSub1084 _ (x_mL hids1077 (hSub1066 _ (x_mL hids1059 (hSub1048 _ (x_mL hids1041 (x_mL hids1033 (hSub1025 _ (x_mR hids1019))))))))))))))) hq1015a rfl) rfl rfl hl.1 rfl (lv_room (Nat.le_of_ble_eq_true rfl)) dX11_init_83 ⟨Nat.le_of_ble_eq_true rfl, Nat.le_of_ble_eq_true rfl⟩) hW hA (fun σ1384 H locs h hW => ?_)
  try dsimp only at h
  refine lv_iinc (v := (40 : Int32)) (lv' := [(1, .int (40 : Int32)), (0, .ref (ad1135 0))]) hx hb dX11_init_86 hl (k := 0) rfl (by decide) (by decide) rfl (fun ls hl => ?_)
  refine lv_goto (tgt := 64) hx hb dX11_init_89 (by decide) ?_
  refine lv_iload_n hx hb dX11_init_64 rfl (lv_at hl 0 rfl) ?_
  refine va_ldcS hx hb hown hZ.2.2.2.1 dX11_init_65 ?_
  refine xs_calli (va_runV (As := []) (rest := [.int (40 : Int32)]) ⟨hx, hb, hml, hown, hts⟩ (J_J0_length_8abf5 (post := fun r => r = (51 : Int32)) l 0 (by decide) (by decide)) (cwV 0 hts gX11_init_J0_length_8abf5 rfl rfl rfl (by decide +kernel) ⟨Nat.le_of_ble_eq_true rfl, Nat.le_of_ble_eq_true rfl⟩) (xs_preV hZ hW.2.2 hA 0 (by decide)) rfl rfl hl.1 rfl (lv_room (Nat.le_of_ble_eq_true rfl)) dX11_init_67 ⟨Nat.le_of_ble_eq_true rfl, Nat.le_of_ble_eq_true rfl⟩) (fun r1385 hr1385 => ?_)
  subst hr1385
  refine lv_icmp_ge (tgt := 92) hx hb dX11_init_70 (by decide) (fun hc => absurd hc (by decide)) (fun _ => ?_)
  refine lv_aload_n hx hb dX11_init_73 rfl (lv_at hl 1 rfl) ?_
  obtain ⟨hg1386, h⟩ := h
  refine xgX11_1r hx hb hts hown hK hW 0 hcX11_init_X11 (hSub1138 _ (x_mL hids1131 (hSub1120 _ (x_mL hids1113 (hSub1102 _ (x_mL hids1095 (hSub1084 _ (x_mL hids1077 (hSub1066 _ (x_mL hids1059 (hSub1048 _ (x_mL hids1041 (x_mL hids1033 (hSub1025 _ (x_mL hids1019 (hSub1011 _ (x_mL hids1005 hm_this))))))))))))))))) lX_0 (hts _ hwX11_init_12) (by exact hg1386) dX11_init_74 ?_
  refine va_ldcS hx hb hown hZ.2.2.2.1 dX11_init_77 ?_
  refine lv_iload_n hx hb dX11_init_79 rfl (lv_at hl 0 rfl) ?_
  refine xs_calli (va_runV (As := [.int (40 : Int32)]) (rest := [.ref (ad1135 2)]) ⟨hx, hb, hml, hown, hts⟩ (J_J0_charAt_5068e (post := fun r => r = (32 : Int32)) l 0 40 (by decide) (by decide) (by decide)) (cwV 1 hts gX11_init_J0_charAt_5068e rfl rfl rfl (by decide +kernel) ⟨Nat.le_of_ble_eq_true rfl, Nat.le_of_ble_eq_true rfl⟩) (xs_preV hZ hW.2.2 hA 0 (by decide)) rfl rfl hl.1 rfl (lv_room (Nat.le_of_ble_eq_true rfl)) dX11_init_80 ⟨Nat.le_of_ble_eq_true rfl, Nat.le_of_ble_eq_true rfl⟩) (fun r1387 hr1387 => ?_)
  subst hr1387
  refine x_callv (va_runV (As := [.int (32 : Int32)]) (rest := []) ⟨hx, hb, hml, hown, hts⟩ (J_X7_take l h71148 h71149 h) (cwV 1 hts gX11_init_X7_take rfl rfl rfl hdV_X7_take ⟨Nat.le_of_ble_eq_true rfl, Nat.le_of_ble_eq_true rfl⟩) (x_preV (ci := 7) hK hZ hA hW (hSub1138 _ (x_mL hids1131 (hSub1120 _ (x_mL hids1113 (hSub1102 _ (x_mL hids1095 (hSub1084 _ (x_mL hids1077 (hSub1066 _ (x_mL hids1059 (hSub1048 _ (x_mL hids1041 (x_mL hids1033 (hSub1025 _ (x_mR hids1019))))))))))))))) hq1015a rfl) rfl rfl hl.1 rfl (lv_room (Nat.le_of_ble_eq_true rfl)) dX11_init_83 ⟨Nat.le_of_ble_eq_true rfl, Nat.le_of_ble_eq_true rfl⟩) hW hA (fun σ1390 H locs h hW => ?_)
  try dsimp only at h
  refine lv_iinc (v := (41 : Int32)) (lv' := [(1, .int (41 : Int32)), (0, .ref (ad1135 0))]) hx hb dX11_init_86 hl (k := 0) rfl (by decide) (by decide) rfl (fun ls hl => ?_)
  refine lv_goto (tgt := 64) hx hb dX11_init_89 (by decide) ?_
  refine lv_iload_n hx hb dX11_init_64 rfl (lv_at hl 0 rfl) ?_
  refine va_ldcS hx hb hown hZ.2.2.2.1 dX11_init_65 ?_
  refine xs_calli (va_runV (As := []) (rest := [.int (41 : Int32)]) ⟨hx, hb, hml, hown, hts⟩ (J_J0_length_8abf5 (post := fun r => r = (51 : Int32)) l 0 (by decide) (by decide)) (cwV 0 hts gX11_init_J0_length_8abf5 rfl rfl rfl (by decide +kernel) ⟨Nat.le_of_ble_eq_true rfl, Nat.le_of_ble_eq_true rfl⟩) (xs_preV hZ hW.2.2 hA 0 (by decide)) rfl rfl hl.1 rfl (lv_room (Nat.le_of_ble_eq_true rfl)) dX11_init_67 ⟨Nat.le_of_ble_eq_true rfl, Nat.le_of_ble_eq_true rfl⟩) (fun r1391 hr1391 => ?_)
  subst hr1391
  refine lv_icmp_ge (tgt := 92) hx hb dX11_init_70 (by decide) (fun hc => absurd hc (by decide)) (fun _ => ?_)
  refine lv_aload_n hx hb dX11_init_73 rfl (lv_at hl 1 rfl) ?_
  obtain ⟨hg1392, h⟩ := h
  refine xgX11_1r hx hb hts hown hK hW 0 hcX11_init_X11 (hSub1138 _ (x_mL hids1131 (hSub1120 _ (x_mL hids1113 (hSub1102 _ (x_mL hids1095 (hSub1084 _ (x_mL hids1077 (hSub1066 _ (x_mL hids1059 (hSub1048 _ (x_mL hids1041 (x_mL hids1033 (hSub1025 _ (x_mL hids1019 (hSub1011 _ (x_mL hids1005 hm_this))))))))))))))))) lX_0 (hts _ hwX11_init_12) (by exact hg1392) dX11_init_74 ?_
  refine va_ldcS hx hb hown hZ.2.2.2.1 dX11_init_77 ?_
  refine lv_iload_n hx hb dX11_init_79 rfl (lv_at hl 0 rfl) ?_
  refine xs_calli (va_runV (As := [.int (41 : Int32)]) (rest := [.ref (ad1135 2)]) ⟨hx, hb, hml, hown, hts⟩ (J_J0_charAt_5068e (post := fun r => r = (115 : Int32)) l 0 41 (by decide) (by decide) (by decide)) (cwV 1 hts gX11_init_J0_charAt_5068e rfl rfl rfl (by decide +kernel) ⟨Nat.le_of_ble_eq_true rfl, Nat.le_of_ble_eq_true rfl⟩) (xs_preV hZ hW.2.2 hA 0 (by decide)) rfl rfl hl.1 rfl (lv_room (Nat.le_of_ble_eq_true rfl)) dX11_init_80 ⟨Nat.le_of_ble_eq_true rfl, Nat.le_of_ble_eq_true rfl⟩) (fun r1393 hr1393 => ?_)
  subst hr1393
  refine x_callv (va_runV (As := [.int (115 : Int32)]) (rest := []) ⟨hx, hb, hml, hown, hts⟩ (J_X7_take l h71148 h71149 h) (cwV 1 hts gX11_init_X7_take rfl rfl rfl hdV_X7_take ⟨Nat.le_of_ble_eq_true rfl, Nat.le_of_ble_eq_true rfl⟩) (x_preV (ci := 7) hK hZ hA hW (hSub1138 _ (x_mL hids1131 (hSub1120 _ (x_mL hids1113 (hSub1102 _ (x_mL hids1095 (hSub1084 _ (x_mL hids1077 (hSub1066 _ (x_mL hids1059 (hSub1048 _ (x_mL hids1041 (x_mL hids1033 (hSub1025 _ (x_mR hids1019))))))))))))))) hq1015a rfl) rfl rfl hl.1 rfl (lv_room (Nat.le_of_ble_eq_true rfl)) dX11_init_83 ⟨Nat.le_of_ble_eq_true rfl, Nat.le_of_ble_eq_true rfl⟩) hW hA (fun σ1396 H locs h hW => ?_)
  try dsimp only at h
  refine lv_iinc (v := (42 : Int32)) (lv' := [(1, .int (42 : Int32)), (0, .ref (ad1135 0))]) hx hb dX11_init_86 hl (k := 0) rfl (by decide) (by decide) rfl (fun ls hl => ?_)
  refine lv_goto (tgt := 64) hx hb dX11_init_89 (by decide) ?_
  refine lv_iload_n hx hb dX11_init_64 rfl (lv_at hl 0 rfl) ?_
  refine va_ldcS hx hb hown hZ.2.2.2.1 dX11_init_65 ?_
  refine xs_calli (va_runV (As := []) (rest := [.int (42 : Int32)]) ⟨hx, hb, hml, hown, hts⟩ (J_J0_length_8abf5 (post := fun r => r = (51 : Int32)) l 0 (by decide) (by decide)) (cwV 0 hts gX11_init_J0_length_8abf5 rfl rfl rfl (by decide +kernel) ⟨Nat.le_of_ble_eq_true rfl, Nat.le_of_ble_eq_true rfl⟩) (xs_preV hZ hW.2.2 hA 0 (by decide)) rfl rfl hl.1 rfl (lv_room (Nat.le_of_ble_eq_true rfl)) dX11_init_67 ⟨Nat.le_of_ble_eq_true rfl, Nat.le_of_ble_eq_true rfl⟩) (fun r1397 hr1397 => ?_)
  subst hr1397
  refine lv_icmp_ge (tgt := 92) hx hb dX11_init_70 (by decide) (fun hc => absurd hc (by decide)) (fun _ => ?_)
  refine lv_aload_n hx hb dX11_init_73 rfl (lv_at hl 1 rfl) ?_
  obtain ⟨hg1398, h⟩ := h
  refine xgX11_1r hx hb hts hown hK hW 0 hcX11_init_X11 (hSub1138 _ (x_mL hids1131 (hSub1120 _ (x_mL hids1113 (hSub1102 _ (x_mL hids1095 (hSub1084 _ (x_mL hids1077 (hSub1066 _ (x_mL hids1059 (hSub1048 _ (x_mL hids1041 (x_mL hids1033 (hSub1025 _ (x_mL hids1019 (hSub1011 _ (x_mL hids1005 hm_this))))))))))))))))) lX_0 (hts _ hwX11_init_12) (by exact hg1398) dX11_init_74 ?_
  refine va_ldcS hx hb hown hZ.2.2.2.1 dX11_init_77 ?_
  refine lv_iload_n hx hb dX11_init_79 rfl (lv_at hl 0 rfl) ?_
  refine xs_calli (va_runV (As := [.int (42 : Int32)]) (rest := [.ref (ad1135 2)]) ⟨hx, hb, hml, hown, hts⟩ (J_J0_charAt_5068e (post := fun r => r = (105 : Int32)) l 0 42 (by decide) (by decide) (by decide)) (cwV 1 hts gX11_init_J0_charAt_5068e rfl rfl rfl (by decide +kernel) ⟨Nat.le_of_ble_eq_true rfl, Nat.le_of_ble_eq_true rfl⟩) (xs_preV hZ hW.2.2 hA 0 (by decide)) rfl rfl hl.1 rfl (lv_room (Nat.le_of_ble_eq_true rfl)) dX11_init_80 ⟨Nat.le_of_ble_eq_true rfl, Nat.le_of_ble_eq_true rfl⟩) (fun r1399 hr1399 => ?_)
  subst hr1399
  refine x_callv (va_runV (As := [.int (105 : Int32)]) (rest := []) ⟨hx, hb, hml, hown, hts⟩ (J_X7_take l h71148 h71149 h) (cwV 1 hts gX11_init_X7_take rfl rfl rfl hdV_X7_take ⟨Nat.le_of_ble_eq_true rfl, Nat.le_of_ble_eq_true rfl⟩) (x_preV (ci := 7) hK hZ hA hW (hSub1138 _ (x_mL hids1131 (hSub1120 _ (x_mL hids1113 (hSub1102 _ (x_mL hids1095 (hSub1084 _ (x_mL hids1077 (hSub1066 _ (x_mL hids1059 (hSub1048 _ (x_mL hids1041 (x_mL hids1033 (hSub1025 _ (x_mR hids1019))))))))))))))) hq1015a rfl) rfl rfl hl.1 rfl (lv_room (Nat.le_of_ble_eq_true rfl)) dX11_init_83 ⟨Nat.le_of_ble_eq_true rfl, Nat.le_of_ble_eq_true rfl⟩) hW hA (fun σ1402 H locs h hW => ?_)
  try dsimp only at h
  refine lv_iinc (v := (43 : Int32)) (lv' := [(1, .int (43 : Int32)), (0, .ref (ad1135 0))]) hx hb dX11_init_86 hl (k := 0) rfl (by decide) (by decide) rfl (fun ls hl => ?_)
  refine lv_goto (tgt := 64) hx hb dX11_init_89 (by decide) ?_
  refine lv_iload_n hx hb dX11_init_64 rfl (lv_at hl 0 rfl) ?_
  refine va_ldcS hx hb hown hZ.2.2.2.1 dX11_init_65 ?_
  refine xs_calli (va_runV (As := []) (rest := [.int (43 : Int32)]) ⟨hx, hb, hml, hown, hts⟩ (J_J0_length_8abf5 (post := fun r => r = (51 : Int32)) l 0 (by decide) (by decide)) (cwV 0 hts gX11_init_J0_length_8abf5 rfl rfl rfl (by decide +kernel) ⟨Nat.le_of_ble_eq_true rfl, Nat.le_of_ble_eq_true rfl⟩) (xs_preV hZ hW.2.2 hA 0 (by decide)) rfl rfl hl.1 rfl (lv_room (Nat.le_of_ble_eq_true rfl)) dX11_init_67 ⟨Nat.le_of_ble_eq_true rfl, Nat.le_of_ble_eq_true rfl⟩) (fun r1403 hr1403 => ?_)
  subst hr1403
  refine lv_icmp_ge (tgt := 92) hx hb dX11_init_70 (by decide) (fun hc => absurd hc (by decide)) (fun _ => ?_)
  refine lv_aload_n hx hb dX11_init_73 rfl (lv_at hl 1 rfl) ?_
  obtain ⟨hg1404, h⟩ := h
  refine xgX11_1r hx hb hts hown hK hW 0 hcX11_init_X11 (hSub1138 _ (x_mL hids1131 (hSub1120 _ (x_mL hids1113 (hSub1102 _ (x_mL hids1095 (hSub1084 _ (x_mL hids1077 (hSub1066 _ (x_mL hids1059 (hSub1048 _ (x_mL hids1041 (x_mL hids1033 (hSub1025 _ (x_mL hids1019 (hSub1011 _ (x_mL hids1005 hm_this))))))))))))))))) lX_0 (hts _ hwX11_init_12) (by exact hg1404) dX11_init_74 ?_
  refine va_ldcS hx hb hown hZ.2.2.2.1 dX11_init_77 ?_
  refine lv_iload_n hx hb dX11_init_79 rfl (lv_at hl 0 rfl) ?_
  refine xs_calli (va_runV (As := [.int (43 : Int32)]) (rest := [.ref (ad1135 2)]) ⟨hx, hb, hml, hown, hts⟩ (J_J0_charAt_5068e (post := fun r => r = (122 : Int32)) l 0 43 (by decide) (by decide) (by decide)) (cwV 1 hts gX11_init_J0_charAt_5068e rfl rfl rfl (by decide +kernel) ⟨Nat.le_of_ble_eq_true rfl, Nat.le_of_ble_eq_true rfl⟩) (xs_preV hZ hW.2.2 hA 0 (by decide)) rfl rfl hl.1 rfl (lv_room (Nat.le_of_ble_eq_true rfl)) dX11_init_80 ⟨Nat.le_of_ble_eq_true rfl, Nat.le_of_ble_eq_true rfl⟩) (fun r1405 hr1405 => ?_)
  subst hr1405
  refine x_callv (va_runV (As := [.int (122 : Int32)]) (rest := []) ⟨hx, hb, hml, hown, hts⟩ (J_X7_take l h71148 h71149 h) (cwV 1 hts gX11_init_X7_take rfl rfl rfl hdV_X7_take ⟨Nat.le_of_ble_eq_true rfl, Nat.le_of_ble_eq_true rfl⟩) (x_preV (ci := 7) hK hZ hA hW (hSub1138 _ (x_mL hids1131 (hSub1120 _ (x_mL hids1113 (hSub1102 _ (x_mL hids1095 (hSub1084 _ (x_mL hids1077 (hSub1066 _ (x_mL hids1059 (hSub1048 _ (x_mL hids1041 (x_mL hids1033 (hSub1025 _ (x_mR hids1019))))))))))))))) hq1015a rfl) rfl rfl hl.1 rfl (lv_room (Nat.le_of_ble_eq_true rfl)) dX11_init_83 ⟨Nat.le_of_ble_eq_true rfl, Nat.le_of_ble_eq_true rfl⟩) hW hA (fun σ1408 H locs h hW => ?_)
  try dsimp only at h
  refine lv_iinc (v := (44 : Int32)) (lv' := [(1, .int (44 : Int32)), (0, .ref (ad1135 0))]) hx hb dX11_init_86 hl (k := 0) rfl (by decide) (by decide) rfl (fun ls hl => ?_)
  refine lv_goto (tgt := 64) hx hb dX11_init_89 (by decide) ?_
  refine lv_iload_n hx hb dX11_init_64 rfl (lv_at hl 0 rfl) ?_
  refine va_ldcS hx hb hown hZ.2.2.2.1 dX11_init_65 ?_
  refine xs_calli (va_runV (As := []) (rest := [.int (44 : Int32)]) ⟨hx, hb, hml, hown, hts⟩ (J_J0_length_8abf5 (post := fun r => r = (51 : Int32)) l 0 (by decide) (by decide)) (cwV 0 hts gX11_init_J0_length_8abf5 rfl rfl rfl (by decide +kernel) ⟨Nat.le_of_ble_eq_true rfl, Nat.le_of_ble_eq_true rfl⟩) (xs_preV hZ hW.2.2 hA 0 (by decide)) rfl rfl hl.1 rfl (lv_room (Nat.le_of_ble_eq_true rfl)) dX11_init_67 ⟨Nat.le_of_ble_eq_true rfl, Nat.le_of_ble_eq_true rfl⟩) (fun r1409 hr1409 => ?_)
  subst hr1409
  refine lv_icmp_ge (tgt := 92) hx hb dX11_init_70 (by decide) (fun hc => absurd hc (by decide)) (fun _ => ?_)
  refine lv_aload_n hx hb dX11_init_73 rfl (lv_at hl 1 rfl) ?_
  obtain ⟨hg1410, h⟩ := h
  refine xgX11_1r hx hb hts hown hK hW 0 hcX11_init_X11 (hSub1138 _ (x_mL hids1131 (hSub1120 _ (x_mL hids1113 (hSub1102 _ (x_mL hids1095 (hSub1084 _ (x_mL hids1077 (hSub1066 _ (x_mL hids1059 (hSub1048 _ (x_mL hids1041 (x_mL hids1033 (hSub1025 _ (x_mL hids1019 (hSub1011 _ (x_mL hids1005 hm_this))))))))))))))))) lX_0 (hts _ hwX11_init_12) (by exact hg1410) dX11_init_74 ?_
  refine va_ldcS hx hb hown hZ.2.2.2.1 dX11_init_77 ?_
  refine lv_iload_n hx hb dX11_init_79 rfl (lv_at hl 0 rfl) ?_
  refine xs_calli (va_runV (As := [.int (44 : Int32)]) (rest := [.ref (ad1135 2)]) ⟨hx, hb, hml, hown, hts⟩ (J_J0_charAt_5068e (post := fun r => r = (101 : Int32)) l 0 44 (by decide) (by decide) (by decide)) (cwV 1 hts gX11_init_J0_charAt_5068e rfl rfl rfl (by decide +kernel) ⟨Nat.le_of_ble_eq_true rfl, Nat.le_of_ble_eq_true rfl⟩) (xs_preV hZ hW.2.2 hA 0 (by decide)) rfl rfl hl.1 rfl (lv_room (Nat.le_of_ble_eq_true rfl)) dX11_init_80 ⟨Nat.le_of_ble_eq_true rfl, Nat.le_of_ble_eq_true rfl⟩) (fun r1411 hr1411 => ?_)
  subst hr1411
  refine x_callv (va_runV (As := [.int (101 : Int32)]) (rest := []) ⟨hx, hb, hml, hown, hts⟩ (J_X7_take l h71148 h71149 h) (cwV 1 hts gX11_init_X7_take rfl rfl rfl hdV_X7_take ⟨Nat.le_of_ble_eq_true rfl, Nat.le_of_ble_eq_true rfl⟩) (x_preV (ci := 7) hK hZ hA hW (hSub1138 _ (x_mL hids1131 (hSub1120 _ (x_mL hids1113 (hSub1102 _ (x_mL hids1095 (hSub1084 _ (x_mL hids1077 (hSub1066 _ (x_mL hids1059 (hSub1048 _ (x_mL hids1041 (x_mL hids1033 (hSub1025 _ (x_mR hids1019))))))))))))))) hq1015a rfl) rfl rfl hl.1 rfl (lv_room (Nat.le_of_ble_eq_true rfl)) dX11_init_83 ⟨Nat.le_of_ble_eq_true rfl, Nat.le_of_ble_eq_true rfl⟩) hW hA (fun σ1414 H locs h hW => ?_)
  try dsimp only at h
  refine lv_iinc (v := (45 : Int32)) (lv' := [(1, .int (45 : Int32)), (0, .ref (ad1135 0))]) hx hb dX11_init_86 hl (k := 0) rfl (by decide) (by decide) rfl (fun ls hl => ?_)
  refine lv_goto (tgt := 64) hx hb dX11_init_89 (by decide) ?_
  refine lv_iload_n hx hb dX11_init_64 rfl (lv_at hl 0 rfl) ?_
  refine va_ldcS hx hb hown hZ.2.2.2.1 dX11_init_65 ?_
  refine xs_calli (va_runV (As := []) (rest := [.int (45 : Int32)]) ⟨hx, hb, hml, hown, hts⟩ (J_J0_length_8abf5 (post := fun r => r = (51 : Int32)) l 0 (by decide) (by decide)) (cwV 0 hts gX11_init_J0_length_8abf5 rfl rfl rfl (by decide +kernel) ⟨Nat.le_of_ble_eq_true rfl, Nat.le_of_ble_eq_true rfl⟩) (xs_preV hZ hW.2.2 hA 0 (by decide)) rfl rfl hl.1 rfl (lv_room (Nat.le_of_ble_eq_true rfl)) dX11_init_67 ⟨Nat.le_of_ble_eq_true rfl, Nat.le_of_ble_eq_true rfl⟩) (fun r1415 hr1415 => ?_)
  subst hr1415
  refine lv_icmp_ge (tgt := 92) hx hb dX11_init_70 (by decide) (fun hc => absurd hc (by decide)) (fun _ => ?_)
  refine lv_aload_n hx hb dX11_init_73 rfl (lv_at hl 1 rfl) ?_
  obtain ⟨hg1416, h⟩ := h
  refine xgX11_1r hx hb hts hown hK hW 0 hcX11_init_X11 (hSub1138 _ (x_mL hids1131 (hSub1120 _ (x_mL hids1113 (hSub1102 _ (x_mL hids1095 (hSub1084 _ (x_mL hids1077 (hSub1066 _ (x_mL hids1059 (hSub1048 _ (x_mL hids1041 (x_mL hids1033 (hSub1025 _ (x_mL hids1019 (hSub1011 _ (x_mL hids1005 hm_this))))))))))))))))) lX_0 (hts _ hwX11_init_12) (by exact hg1416) dX11_init_74 ?_
  refine va_ldcS hx hb hown hZ.2.2.2.1 dX11_init_77 ?_
  refine lv_iload_n hx hb dX11_init_79 rfl (lv_at hl 0 rfl) ?_
  refine xs_calli (va_runV (As := [.int (45 : Int32)]) (rest := [.ref (ad1135 2)]) ⟨hx, hb, hml, hown, hts⟩ (J_J0_charAt_5068e (post := fun r => r = (32 : Int32)) l 0 45 (by decide) (by decide) (by decide)) (cwV 1 hts gX11_init_J0_charAt_5068e rfl rfl rfl (by decide +kernel) ⟨Nat.le_of_ble_eq_true rfl, Nat.le_of_ble_eq_true rfl⟩) (xs_preV hZ hW.2.2 hA 0 (by decide)) rfl rfl hl.1 rfl (lv_room (Nat.le_of_ble_eq_true rfl)) dX11_init_80 ⟨Nat.le_of_ble_eq_true rfl, Nat.le_of_ble_eq_true rfl⟩) (fun r1417 hr1417 => ?_)
  subst hr1417
  refine x_callv (va_runV (As := [.int (32 : Int32)]) (rest := []) ⟨hx, hb, hml, hown, hts⟩ (J_X7_take l h71148 h71149 h) (cwV 1 hts gX11_init_X7_take rfl rfl rfl hdV_X7_take ⟨Nat.le_of_ble_eq_true rfl, Nat.le_of_ble_eq_true rfl⟩) (x_preV (ci := 7) hK hZ hA hW (hSub1138 _ (x_mL hids1131 (hSub1120 _ (x_mL hids1113 (hSub1102 _ (x_mL hids1095 (hSub1084 _ (x_mL hids1077 (hSub1066 _ (x_mL hids1059 (hSub1048 _ (x_mL hids1041 (x_mL hids1033 (hSub1025 _ (x_mR hids1019))))))))))))))) hq1015a rfl) rfl rfl hl.1 rfl (lv_room (Nat.le_of_ble_eq_true rfl)) dX11_init_83 ⟨Nat.le_of_ble_eq_true rfl, Nat.le_of_ble_eq_true rfl⟩) hW hA (fun σ1420 H locs h hW => ?_)
  try dsimp only at h
  refine lv_iinc (v := (46 : Int32)) (lv' := [(1, .int (46 : Int32)), (0, .ref (ad1135 0))]) hx hb dX11_init_86 hl (k := 0) rfl (by decide) (by decide) rfl (fun ls hl => ?_)
  refine lv_goto (tgt := 64) hx hb dX11_init_89 (by decide) ?_
  refine lv_iload_n hx hb dX11_init_64 rfl (lv_at hl 0 rfl) ?_
  refine va_ldcS hx hb hown hZ.2.2.2.1 dX11_init_65 ?_
  refine xs_calli (va_runV (As := []) (rest := [.int (46 : Int32)]) ⟨hx, hb, hml, hown, hts⟩ (J_J0_length_8abf5 (post := fun r => r = (51 : Int32)) l 0 (by decide) (by decide)) (cwV 0 hts gX11_init_J0_length_8abf5 rfl rfl rfl (by decide +kernel) ⟨Nat.le_of_ble_eq_true rfl, Nat.le_of_ble_eq_true rfl⟩) (xs_preV hZ hW.2.2 hA 0 (by decide)) rfl rfl hl.1 rfl (lv_room (Nat.le_of_ble_eq_true rfl)) dX11_init_67 ⟨Nat.le_of_ble_eq_true rfl, Nat.le_of_ble_eq_true rfl⟩) (fun r1421 hr1421 => ?_)
  subst hr1421
  refine lv_icmp_ge (tgt := 92) hx hb dX11_init_70 (by decide) (fun hc => absurd hc (by decide)) (fun _ => ?_)
  refine lv_aload_n hx hb dX11_init_73 rfl (lv_at hl 1 rfl) ?_
  obtain ⟨hg1422, h⟩ := h
  refine xgX11_1r hx hb hts hown hK hW 0 hcX11_init_X11 (hSub1138 _ (x_mL hids1131 (hSub1120 _ (x_mL hids1113 (hSub1102 _ (x_mL hids1095 (hSub1084 _ (x_mL hids1077 (hSub1066 _ (x_mL hids1059 (hSub1048 _ (x_mL hids1041 (x_mL hids1033 (hSub1025 _ (x_mL hids1019 (hSub1011 _ (x_mL hids1005 hm_this))))))))))))))))) lX_0 (hts _ hwX11_init_12) (by exact hg1422) dX11_init_74 ?_
  refine va_ldcS hx hb hown hZ.2.2.2.1 dX11_init_77 ?_
  refine lv_iload_n hx hb dX11_init_79 rfl (lv_at hl 0 rfl) ?_
  refine xs_calli (va_runV (As := [.int (46 : Int32)]) (rest := [.ref (ad1135 2)]) ⟨hx, hb, hml, hown, hts⟩ (J_J0_charAt_5068e (post := fun r => r = (43 : Int32)) l 0 46 (by decide) (by decide) (by decide)) (cwV 1 hts gX11_init_J0_charAt_5068e rfl rfl rfl (by decide +kernel) ⟨Nat.le_of_ble_eq_true rfl, Nat.le_of_ble_eq_true rfl⟩) (xs_preV hZ hW.2.2 hA 0 (by decide)) rfl rfl hl.1 rfl (lv_room (Nat.le_of_ble_eq_true rfl)) dX11_init_80 ⟨Nat.le_of_ble_eq_true rfl, Nat.le_of_ble_eq_true rfl⟩) (fun r1423 hr1423 => ?_)
  subst hr1423
  refine x_callv (va_runV (As := [.int (43 : Int32)]) (rest := []) ⟨hx, hb, hml, hown, hts⟩ (J_X7_take l h71148 h71149 h) (cwV 1 hts gX11_init_X7_take rfl rfl rfl hdV_X7_take ⟨Nat.le_of_ble_eq_true rfl, Nat.le_of_ble_eq_true rfl⟩) (x_preV (ci := 7) hK hZ hA hW (hSub1138 _ (x_mL hids1131 (hSub1120 _ (x_mL hids1113 (hSub1102 _ (x_mL hids1095 (hSub1084 _ (x_mL hids1077 (hSub1066 _ (x_mL hids1059 (hSub1048 _ (x_mL hids1041 (x_mL hids1033 (hSub1025 _ (x_mR hids1019))))))))))))))) hq1015a rfl) rfl rfl hl.1 rfl (lv_room (Nat.le_of_ble_eq_true rfl)) dX11_init_83 ⟨Nat.le_of_ble_eq_true rfl, Nat.le_of_ble_eq_true rfl⟩) hW hA (fun σ1426 H locs h hW => ?_)
  try dsimp only at h
  refine lv_iinc (v := (47 : Int32)) (lv' := [(1, .int (47 : Int32)), (0, .ref (ad1135 0))]) hx hb dX11_init_86 hl (k := 0) rfl (by decide) (by decide) rfl (fun ls hl => ?_)
  refine lv_goto (tgt := 64) hx hb dX11_init_89 (by decide) ?_
  refine lv_iload_n hx hb dX11_init_64 rfl (lv_at hl 0 rfl) ?_
  refine va_ldcS hx hb hown hZ.2.2.2.1 dX11_init_65 ?_
  refine xs_calli (va_runV (As := []) (rest := [.int (47 : Int32)]) ⟨hx, hb, hml, hown, hts⟩ (J_J0_length_8abf5 (post := fun r => r = (51 : Int32)) l 0 (by decide) (by decide)) (cwV 0 hts gX11_init_J0_length_8abf5 rfl rfl rfl (by decide +kernel) ⟨Nat.le_of_ble_eq_true rfl, Nat.le_of_ble_eq_true rfl⟩) (xs_preV hZ hW.2.2 hA 0 (by decide)) rfl rfl hl.1 rfl (lv_room (Nat.le_of_ble_eq_true rfl)) dX11_init_67 ⟨Nat.le_of_ble_eq_true rfl, Nat.le_of_ble_eq_true rfl⟩) (fun r1427 hr1427 => ?_)
  subst hr1427
  refine lv_icmp_ge (tgt := 92) hx hb dX11_init_70 (by decide) (fun hc => absurd hc (by decide)) (fun _ => ?_)
  refine lv_aload_n hx hb dX11_init_73 rfl (lv_at hl 1 rfl) ?_
  obtain ⟨hg1428, h⟩ := h
  refine xgX11_1r hx hb hts hown hK hW 0 hcX11_init_X11 (hSub1138 _ (x_mL hids1131 (hSub1120 _ (x_mL hids1113 (hSub1102 _ (x_mL hids1095 (hSub1084 _ (x_mL hids1077 (hSub1066 _ (x_mL hids1059 (hSub1048 _ (x_mL hids1041 (x_mL hids1033 (hSub1025 _ (x_mL hids1019 (hSub1011 _ (x_mL hids1005 hm_this))))))))))))))))) lX_0 (hts _ hwX11_init_12) (by exact hg1428) dX11_init_74 ?_
  refine va_ldcS hx hb hown hZ.2.2.2.1 dX11_init_77 ?_
  refine lv_iload_n hx hb dX11_init_79 rfl (lv_at hl 0 rfl) ?_
  refine xs_calli (va_runV (As := [.int (47 : Int32)]) (rest := [.ref (ad1135 2)]) ⟨hx, hb, hml, hown, hts⟩ (J_J0_charAt_5068e (post := fun r => r = (32 : Int32)) l 0 47 (by decide) (by decide) (by decide)) (cwV 1 hts gX11_init_J0_charAt_5068e rfl rfl rfl (by decide +kernel) ⟨Nat.le_of_ble_eq_true rfl, Nat.le_of_ble_eq_true rfl⟩) (xs_preV hZ hW.2.2 hA 0 (by decide)) rfl rfl hl.1 rfl (lv_room (Nat.le_of_ble_eq_true rfl)) dX11_init_80 ⟨Nat.le_of_ble_eq_true rfl, Nat.le_of_ble_eq_true rfl⟩) (fun r1429 hr1429 => ?_)
  subst hr1429
  refine x_callv (va_runV (As := [.int (32 : Int32)]) (rest := []) ⟨hx, hb, hml, hown, hts⟩ (J_X7_take l h71148 h71149 h) (cwV 1 hts gX11_init_X7_take rfl rfl rfl hdV_X7_take ⟨Nat.le_of_ble_eq_true rfl, Nat.le_of_ble_eq_true rfl⟩) (x_preV (ci := 7) hK hZ hA hW (hSub1138 _ (x_mL hids1131 (hSub1120 _ (x_mL hids1113 (hSub1102 _ (x_mL hids1095 (hSub1084 _ (x_mL hids1077 (hSub1066 _ (x_mL hids1059 (hSub1048 _ (x_mL hids1041 (x_mL hids1033 (hSub1025 _ (x_mR hids1019))))))))))))))) hq1015a rfl) rfl rfl hl.1 rfl (lv_room (Nat.le_of_ble_eq_true rfl)) dX11_init_83 ⟨Nat.le_of_ble_eq_true rfl, Nat.le_of_ble_eq_true rfl⟩) hW hA (fun σ1432 H locs h hW => ?_)
  try dsimp only at h
  refine lv_iinc (v := (48 : Int32)) (lv' := [(1, .int (48 : Int32)), (0, .ref (ad1135 0))]) hx hb dX11_init_86 hl (k := 0) rfl (by decide) (by decide) rfl (fun ls hl => ?_)
  refine lv_goto (tgt := 64) hx hb dX11_init_89 (by decide) ?_
  refine lv_iload_n hx hb dX11_init_64 rfl (lv_at hl 0 rfl) ?_
  refine va_ldcS hx hb hown hZ.2.2.2.1 dX11_init_65 ?_
  refine xs_calli (va_runV (As := []) (rest := [.int (48 : Int32)]) ⟨hx, hb, hml, hown, hts⟩ (J_J0_length_8abf5 (post := fun r => r = (51 : Int32)) l 0 (by decide) (by decide)) (cwV 0 hts gX11_init_J0_length_8abf5 rfl rfl rfl (by decide +kernel) ⟨Nat.le_of_ble_eq_true rfl, Nat.le_of_ble_eq_true rfl⟩) (xs_preV hZ hW.2.2 hA 0 (by decide)) rfl rfl hl.1 rfl (lv_room (Nat.le_of_ble_eq_true rfl)) dX11_init_67 ⟨Nat.le_of_ble_eq_true rfl, Nat.le_of_ble_eq_true rfl⟩) (fun r1433 hr1433 => ?_)
  subst hr1433
  refine lv_icmp_ge (tgt := 92) hx hb dX11_init_70 (by decide) (fun hc => absurd hc (by decide)) (fun _ => ?_)
  refine lv_aload_n hx hb dX11_init_73 rfl (lv_at hl 1 rfl) ?_
  obtain ⟨hg1434, h⟩ := h
  refine xgX11_1r hx hb hts hown hK hW 0 hcX11_init_X11 (hSub1138 _ (x_mL hids1131 (hSub1120 _ (x_mL hids1113 (hSub1102 _ (x_mL hids1095 (hSub1084 _ (x_mL hids1077 (hSub1066 _ (x_mL hids1059 (hSub1048 _ (x_mL hids1041 (x_mL hids1033 (hSub1025 _ (x_mL hids1019 (hSub1011 _ (x_mL hids1005 hm_this))))))))))))))))) lX_0 (hts _ hwX11_init_12) (by exact hg1434) dX11_init_74 ?_
  refine va_ldcS hx hb hown hZ.2.2.2.1 dX11_init_77 ?_
  refine lv_iload_n hx hb dX11_init_79 rfl (lv_at hl 0 rfl) ?_
  refine xs_calli (va_runV (As := [.int (48 : Int32)]) (rest := [.ref (ad1135 2)]) ⟨hx, hb, hml, hown, hts⟩ (J_J0_charAt_5068e (post := fun r => r = (51 : Int32)) l 0 48 (by decide) (by decide) (by decide)) (cwV 1 hts gX11_init_J0_charAt_5068e rfl rfl rfl (by decide +kernel) ⟨Nat.le_of_ble_eq_true rfl, Nat.le_of_ble_eq_true rfl⟩) (xs_preV hZ hW.2.2 hA 0 (by decide)) rfl rfl hl.1 rfl (lv_room (Nat.le_of_ble_eq_true rfl)) dX11_init_80 ⟨Nat.le_of_ble_eq_true rfl, Nat.le_of_ble_eq_true rfl⟩) (fun r1435 hr1435 => ?_)
  subst hr1435
  refine x_callv (va_runV (As := [.int (51 : Int32)]) (rest := []) ⟨hx, hb, hml, hown, hts⟩ (J_X7_take l h71148 h71149 h) (cwV 1 hts gX11_init_X7_take rfl rfl rfl hdV_X7_take ⟨Nat.le_of_ble_eq_true rfl, Nat.le_of_ble_eq_true rfl⟩) (x_preV (ci := 7) hK hZ hA hW (hSub1138 _ (x_mL hids1131 (hSub1120 _ (x_mL hids1113 (hSub1102 _ (x_mL hids1095 (hSub1084 _ (x_mL hids1077 (hSub1066 _ (x_mL hids1059 (hSub1048 _ (x_mL hids1041 (x_mL hids1033 (hSub1025 _ (x_mR hids1019))))))))))))))) hq1015a rfl) rfl rfl hl.1 rfl (lv_room (Nat.le_of_ble_eq_true rfl)) dX11_init_83 ⟨Nat.le_of_ble_eq_true rfl, Nat.le_of_ble_eq_true rfl⟩) hW hA (fun σ1438 H locs h hW => ?_)
  try dsimp only at h
  refine lv_iinc (v := (49 : Int32)) (lv' := [(1, .int (49 : Int32)), (0, .ref (ad1135 0))]) hx hb dX11_init_86 hl (k := 0) rfl (by decide) (by decide) rfl (fun ls hl => ?_)
  refine lv_goto (tgt := 64) hx hb dX11_init_89 (by decide) ?_
  refine lv_iload_n hx hb dX11_init_64 rfl (lv_at hl 0 rfl) ?_
  refine va_ldcS hx hb hown hZ.2.2.2.1 dX11_init_65 ?_
  refine xs_calli (va_runV (As := []) (rest := [.int (49 : Int32)]) ⟨hx, hb, hml, hown, hts⟩ (J_J0_length_8abf5 (post := fun r => r = (51 : Int32)) l 0 (by decide) (by decide)) (cwV 0 hts gX11_init_J0_length_8abf5 rfl rfl rfl (by decide +kernel) ⟨Nat.le_of_ble_eq_true rfl, Nat.le_of_ble_eq_true rfl⟩) (xs_preV hZ hW.2.2 hA 0 (by decide)) rfl rfl hl.1 rfl (lv_room (Nat.le_of_ble_eq_true rfl)) dX11_init_67 ⟨Nat.le_of_ble_eq_true rfl, Nat.le_of_ble_eq_true rfl⟩) (fun r1439 hr1439 => ?_)
  subst hr1439
  refine lv_icmp_ge (tgt := 92) hx hb dX11_init_70 (by decide) (fun hc => absurd hc (by decide)) (fun _ => ?_)
  refine lv_aload_n hx hb dX11_init_73 rfl (lv_at hl 1 rfl) ?_
  obtain ⟨hg1440, h⟩ := h
  refine xgX11_1r hx hb hts hown hK hW 0 hcX11_init_X11 (hSub1138 _ (x_mL hids1131 (hSub1120 _ (x_mL hids1113 (hSub1102 _ (x_mL hids1095 (hSub1084 _ (x_mL hids1077 (hSub1066 _ (x_mL hids1059 (hSub1048 _ (x_mL hids1041 (x_mL hids1033 (hSub1025 _ (x_mL hids1019 (hSub1011 _ (x_mL hids1005 hm_this))))))))))))))))) lX_0 (hts _ hwX11_init_12) (by exact hg1440) dX11_init_74 ?_
  refine va_ldcS hx hb hown hZ.2.2.2.1 dX11_init_77 ?_
  refine lv_iload_n hx hb dX11_init_79 rfl (lv_at hl 0 rfl) ?_
  refine xs_calli (va_runV (As := [.int (49 : Int32)]) (rest := [.ref (ad1135 2)]) ⟨hx, hb, hml, hown, hts⟩ (J_J0_charAt_5068e (post := fun r => r = (32 : Int32)) l 0 49 (by decide) (by decide) (by decide)) (cwV 1 hts gX11_init_J0_charAt_5068e rfl rfl rfl (by decide +kernel) ⟨Nat.le_of_ble_eq_true rfl, Nat.le_of_ble_eq_true rfl⟩) (xs_preV hZ hW.2.2 hA 0 (by decide)) rfl rfl hl.1 rfl (lv_room (Nat.le_of_ble_eq_true rfl)) dX11_init_80 ⟨Nat.le_of_ble_eq_true rfl, Nat.le_of_ble_eq_true rfl⟩) (fun r1441 hr1441 => ?_)
  subst hr1441
  refine x_callv (va_runV (As := [.int (32 : Int32)]) (rest := []) ⟨hx, hb, hml, hown, hts⟩ (J_X7_take l h71148 h71149 h) (cwV 1 hts gX11_init_X7_take rfl rfl rfl hdV_X7_take ⟨Nat.le_of_ble_eq_true rfl, Nat.le_of_ble_eq_true rfl⟩) (x_preV (ci := 7) hK hZ hA hW (hSub1138 _ (x_mL hids1131 (hSub1120 _ (x_mL hids1113 (hSub1102 _ (x_mL hids1095 (hSub1084 _ (x_mL hids1077 (hSub1066 _ (x_mL hids1059 (hSub1048 _ (x_mL hids1041 (x_mL hids1033 (hSub1025 _ (x_mR hids1019))))))))))))))) hq1015a rfl) rfl rfl hl.1 rfl (lv_room (Nat.le_of_ble_eq_true rfl)) dX11_init_83 ⟨Nat.le_of_ble_eq_true rfl, Nat.le_of_ble_eq_true rfl⟩) hW hA (fun σ1444 H locs h hW => ?_)
  try dsimp only at h
  refine lv_iinc (v := (50 : Int32)) (lv' := [(1, .int (50 : Int32)), (0, .ref (ad1135 0))]) hx hb dX11_init_86 hl (k := 0) rfl (by decide) (by decide) rfl (fun ls hl => ?_)
  refine lv_goto (tgt := 64) hx hb dX11_init_89 (by decide) ?_
  refine lv_iload_n hx hb dX11_init_64 rfl (lv_at hl 0 rfl) ?_
  refine va_ldcS hx hb hown hZ.2.2.2.1 dX11_init_65 ?_
  refine xs_calli (va_runV (As := []) (rest := [.int (50 : Int32)]) ⟨hx, hb, hml, hown, hts⟩ (J_J0_length_8abf5 (post := fun r => r = (51 : Int32)) l 0 (by decide) (by decide)) (cwV 0 hts gX11_init_J0_length_8abf5 rfl rfl rfl (by decide +kernel) ⟨Nat.le_of_ble_eq_true rfl, Nat.le_of_ble_eq_true rfl⟩) (xs_preV hZ hW.2.2 hA 0 (by decide)) rfl rfl hl.1 rfl (lv_room (Nat.le_of_ble_eq_true rfl)) dX11_init_67 ⟨Nat.le_of_ble_eq_true rfl, Nat.le_of_ble_eq_true rfl⟩) (fun r1445 hr1445 => ?_)
  subst hr1445
  refine lv_icmp_ge (tgt := 92) hx hb dX11_init_70 (by decide) (fun hc => absurd hc (by decide)) (fun _ => ?_)
  refine lv_aload_n hx hb dX11_init_73 rfl (lv_at hl 1 rfl) ?_
  obtain ⟨hg1446, h⟩ := h
  refine xgX11_1r hx hb hts hown hK hW 0 hcX11_init_X11 (hSub1138 _ (x_mL hids1131 (hSub1120 _ (x_mL hids1113 (hSub1102 _ (x_mL hids1095 (hSub1084 _ (x_mL hids1077 (hSub1066 _ (x_mL hids1059 (hSub1048 _ (x_mL hids1041 (x_mL hids1033 (hSub1025 _ (x_mL hids1019 (hSub1011 _ (x_mL hids1005 hm_this))))))))))))))))) lX_0 (hts _ hwX11_init_12) (by exact hg1446) dX11_init_74 ?_
  refine va_ldcS hx hb hown hZ.2.2.2.1 dX11_init_77 ?_
  refine lv_iload_n hx hb dX11_init_79 rfl (lv_at hl 0 rfl) ?_
  refine xs_calli (va_runV (As := [.int (50 : Int32)]) (rest := [.ref (ad1135 2)]) ⟨hx, hb, hml, hown, hts⟩ (J_J0_charAt_5068e (post := fun r => r = (59 : Int32)) l 0 50 (by decide) (by decide) (by decide)) (cwV 1 hts gX11_init_J0_charAt_5068e rfl rfl rfl (by decide +kernel) ⟨Nat.le_of_ble_eq_true rfl, Nat.le_of_ble_eq_true rfl⟩) (xs_preV hZ hW.2.2 hA 0 (by decide)) rfl rfl hl.1 rfl (lv_room (Nat.le_of_ble_eq_true rfl)) dX11_init_80 ⟨Nat.le_of_ble_eq_true rfl, Nat.le_of_ble_eq_true rfl⟩) (fun r1447 hr1447 => ?_)
  subst hr1447
  refine x_callv (va_runV (As := [.int (59 : Int32)]) (rest := []) ⟨hx, hb, hml, hown, hts⟩ (J_X7_take l h71148 h71149 h) (cwV 1 hts gX11_init_X7_take rfl rfl rfl hdV_X7_take ⟨Nat.le_of_ble_eq_true rfl, Nat.le_of_ble_eq_true rfl⟩) (x_preV (ci := 7) hK hZ hA hW (hSub1138 _ (x_mL hids1131 (hSub1120 _ (x_mL hids1113 (hSub1102 _ (x_mL hids1095 (hSub1084 _ (x_mL hids1077 (hSub1066 _ (x_mL hids1059 (hSub1048 _ (x_mL hids1041 (x_mL hids1033 (hSub1025 _ (x_mR hids1019))))))))))))))) hq1015a rfl) rfl rfl hl.1 rfl (lv_room (Nat.le_of_ble_eq_true rfl)) dX11_init_83 ⟨Nat.le_of_ble_eq_true rfl, Nat.le_of_ble_eq_true rfl⟩) hW hA (fun σ1450 H locs h hW => ?_)
  try dsimp only at h
  refine lv_iinc (v := (51 : Int32)) (lv' := [(1, .int (51 : Int32)), (0, .ref (ad1135 0))]) hx hb dX11_init_86 hl (k := 0) rfl (by decide) (by decide) rfl (fun ls hl => ?_)
  refine lv_goto (tgt := 64) hx hb dX11_init_89 (by decide) ?_
  refine lv_iload_n hx hb dX11_init_64 rfl (lv_at hl 0 rfl) ?_
  refine va_ldcS hx hb hown hZ.2.2.2.1 dX11_init_65 ?_
  refine xs_calli (va_runV (As := []) (rest := [.int (51 : Int32)]) ⟨hx, hb, hml, hown, hts⟩ (J_J0_length_8abf5 (post := fun r => r = (51 : Int32)) l 0 (by decide) (by decide)) (cwV 0 hts gX11_init_J0_length_8abf5 rfl rfl rfl (by decide +kernel) ⟨Nat.le_of_ble_eq_true rfl, Nat.le_of_ble_eq_true rfl⟩) (xs_preV hZ hW.2.2 hA 0 (by decide)) rfl rfl hl.1 rfl (lv_room (Nat.le_of_ble_eq_true rfl)) dX11_init_67 ⟨Nat.le_of_ble_eq_true rfl, Nat.le_of_ble_eq_true rfl⟩) (fun r1451 hr1451 => ?_)
  subst hr1451
  refine lv_icmp_ge (tgt := 92) hx hb dX11_init_70 (by decide) (fun _ => ?_) (fun hc => absurd (by decide) hc)
  refine lv_aload_n hx hb dX11_init_92 rfl (lv_at hl 1 rfl) ?_
  obtain ⟨hg1452, h⟩ := h
  refine xgX11_1r hx hb hts hown hK hW 0 hcX11_init_X11 (hSub1138 _ (x_mL hids1131 (hSub1120 _ (x_mL hids1113 (hSub1102 _ (x_mL hids1095 (hSub1084 _ (x_mL hids1077 (hSub1066 _ (x_mL hids1059 (hSub1048 _ (x_mL hids1041 (x_mL hids1033 (hSub1025 _ (x_mL hids1019 (hSub1011 _ (x_mL hids1005 hm_this))))))))))))))))) lX_0 (hts _ hwX11_init_12) (by exact hg1452) dX11_init_93 ?_
  refine lv_aload_n hx hb dX11_init_96 rfl (lv_at hl 1 rfl) ?_
  obtain ⟨hg1453, h⟩ := h
  refine xgX11_2r hx hb hts hown hK hW 0 hcX11_init_X11 (hSub1138 _ (x_mL hids1131 (hSub1120 _ (x_mL hids1113 (hSub1102 _ (x_mL hids1095 (hSub1084 _ (x_mL hids1077 (hSub1066 _ (x_mL hids1059 (hSub1048 _ (x_mL hids1041 (x_mL hids1033 (hSub1025 _ (x_mL hids1019 (hSub1011 _ (x_mL hids1005 hm_this))))))))))))))))) lX_0 (hts _ hwX11_init_14) (by exact hg1453) dX11_init_97 ?_
  refine lv_iconst (v := 0) hx hb dX11_init_100 (by decide) ?_
  obtain ⟨o1455, hr1456, ok_o1455, h⟩ := h
  refine x_ald hx hb hK hW 14 3 (hSub1138 _ (x_mL hids1131 (hSub1120 _ (x_mL hids1113 (hSub1102 _ (x_mL hids1095 (hSub1084 _ (x_mL hids1077 (hSub1066 _ (x_mL hids1059 (hSub1048 _ (x_mL hids1041 (x_mR hids1033))))))))))))) hq1029a rfl hi1052 (by exact hr1456) dX11_init_101 ?_
  refine x_calli (va_runV (As := [.ref (ad1135 o1455)]) (rest := []) ⟨hx, hb, hml, hown, hts⟩ (J_X7_readInto l h71148 h71149 ok_o1455 h) (cwV 1 hts gX11_init_X7_readInto rfl rfl rfl hdV_X7_readInto ⟨Nat.le_of_ble_eq_true rfl, Nat.le_of_ble_eq_true rfl⟩) (x_preV (ci := 7) hK hZ hA hW (hSub1138 _ (x_mL hids1131 (hSub1120 _ (x_mL hids1113 (hSub1102 _ (x_mL hids1095 (hSub1084 _ (x_mL hids1077 (hSub1066 _ (x_mL hids1059 (hSub1048 _ (x_mL hids1041 (x_mL hids1033 (hSub1025 _ (x_mR hids1019))))))))))))))) hq1015a rfl) rfl rfl hl.1 rfl (lv_room (Nat.le_of_ble_eq_true rfl)) dX11_init_102 ⟨Nat.le_of_ble_eq_true rfl, Nat.le_of_ble_eq_true rfl⟩) hW hA (fun r1460 σ1459 H locs h hW => ?_)
  try dsimp only at h
  refine lv_pop hx hb dX11_init_105 rfl ?_
  refine lv_aload_n hx hb dX11_init_106 rfl (lv_at hl 1 rfl) ?_
  refine lv_iconst (v := 1) hx hb dX11_init_107 (by decide) ?_
  refine xpX11_3 hx hb hts hown hK hW 0 hcX11_init_X11 (hSub1138 _ (x_mL hids1131 (hSub1120 _ (x_mL hids1113 (hSub1102 _ (x_mL hids1095 (hSub1084 _ (x_mL hids1077 (hSub1066 _ (x_mL hids1059 (hSub1048 _ (x_mL hids1041 (x_mL hids1033 (hSub1025 _ (x_mL hids1019 (hSub1011 _ (x_mL hids1005 hm_this))))))))))))))))) lX_0 (hts _ hwX11_init_18) dX11_init_108 (fun σ1461 H locs hσ1461 hW => ?_)
  have h := h σ1461 hσ1461
  refine lv_aload_n hx hb dX11_init_111 rfl (lv_at hl 1 rfl) ?_
  refine lv_bipush (v := 6) hx hb dX11_init_112 (by decide) ?_
  obtain ⟨⟨hq1462a, hq1462d, hq1462r⟩, h⟩ := h
  refine x_newi hx hb hts hwX11_init_19 hK hW hA 15 6 hq1462d hq1462a hq1462r (by decide) rfl (Nat.le_of_ble_eq_true rfl) (Nat.le_of_ble_eq_true rfl) (Nat.le_of_ble_eq_true rfl) dX11_init_114 (fun ad1464 H hAd1465 hW => ?_)
  obtain ⟨σ1463, hσ1463⟩ : ∃ τ, τ = nC σ1461 15 := ⟨_, rfl⟩
  rw [← hσ1463] at hW
  obtain ⟨ids1466, hids1466⟩ : ∃ x, x = ids1136 ++ [15] := ⟨_, rfl⟩
  rw [← hids1466] at hW
  have h := h σ1463 hσ1463 ids1466 hids1466
  have e1467 : ad1135 0 = ad1464 0 := (hAd1465 _ (x_ne (hSub1138 _ (x_mL hids1131 (hSub1120 _ (x_mL hids1113 (hSub1102 _ (x_mL hids1095 (hSub1084 _ (x_mL hids1077 (hSub1066 _ (x_mL hids1059 (hSub1048 _ (x_mL hids1041 (x_mL hids1033 (hSub1025 _ (x_mL hids1019 (hSub1011 _ (x_mL hids1005 hm_this))))))))))))))))) hq1462d)).symm
  rw [e1467] at hl
  rw [e1467]
  refine xfX11_5 hx hb hts hown hK hW 0 hcX11_init_X11 (x_mL hids1466 (hSub1138 _ (x_mL hids1131 (hSub1120 _ (x_mL hids1113 (hSub1102 _ (x_mL hids1095 (hSub1084 _ (x_mL hids1077 (hSub1066 _ (x_mL hids1059 (hSub1048 _ (x_mL hids1041 (x_mL hids1033 (hSub1025 _ (x_mL hids1019 (hSub1011 _ (x_mL hids1005 hm_this)))))))))))))))))) lX_0 (hts _ hwX11_init_20) hin2 rfl rfl dX11_init_116 (fun σ1468 H locs hσ1468 hW => ?_)
  have h := h σ1468 hσ1468
  refine lv_aload_n hx hb dX11_init_119 rfl (lv_at hl 1 rfl) ?_
  refine lv_iconst (v := 4) hx hb dX11_init_120 (by decide) ?_
  obtain ⟨⟨hq1469a, hq1469s, hq1469d, hq1469r⟩, h⟩ := h
  refine x_newr hx hb hts hown hwX11_init_21 (hK.2.2.2 _ (by simp)) hK hW hA 16 2 4 rfl hq1469d hq1469a hq1469s hq1469r (by decide) rfl (Nat.le_of_ble_eq_true rfl) (Nat.le_of_ble_eq_true rfl) (Nat.le_of_ble_eq_true rfl) dX11_init_121 (fun ad1471 H hAd1472 hW => ?_)
  obtain ⟨σ1470, hσ1470⟩ : ∃ τ, τ = nC σ1468 16 := ⟨_, rfl⟩
  rw [← hσ1470] at hW
  obtain ⟨ids1473, hids1473⟩ : ∃ x, x = ids1466 ++ [16] := ⟨_, rfl⟩
  rw [← hids1473] at hW
  have h := h σ1470 hσ1470 ids1473 hids1473
  have e1474 : ad1464 0 = ad1471 0 := (hAd1472 _ (x_ne (x_mL hids1466 (hSub1138 _ (x_mL hids1131 (hSub1120 _ (x_mL hids1113 (hSub1102 _ (x_mL hids1095 (hSub1084 _ (x_mL hids1077 (hSub1066 _ (x_mL hids1059 (hSub1048 _ (x_mL hids1041 (x_mL hids1033 (hSub1025 _ (x_mL hids1019 (hSub1011 _ (x_mL hids1005 hm_this)))))))))))))))))) hq1469d)).symm
  rw [e1474] at hl
  rw [e1474]
  refine xfX11_6 hx hb hts hown hK hW 0 hcX11_init_X11 (x_mL hids1473 (x_mL hids1466 (hSub1138 _ (x_mL hids1131 (hSub1120 _ (x_mL hids1113 (hSub1102 _ (x_mL hids1095 (hSub1084 _ (x_mL hids1077 (hSub1066 _ (x_mL hids1059 (hSub1048 _ (x_mL hids1041 (x_mL hids1033 (hSub1025 _ (x_mL hids1019 (hSub1011 _ (x_mL hids1005 hm_this))))))))))))))))))) lX_0 (hts _ hwX11_init_22) hin2 rfl rfl dX11_init_124 (fun σ1475 H locs hσ1475 hW => ?_)
  have h := h σ1475 hσ1475
  refine lv_iconst (v := 0) hx hb dX11_init_127 (by decide) ?_
  refine lv_istore_n (lv' := [(1, .int (0 : Int32)), (0, .ref (ad1471 0))]) hx hb dX11_init_128 rfl hl (by decide) rfl (fun ls hl => ?_)
  refine lv_iload_n hx hb dX11_init_129 rfl (lv_at hl 0 rfl) ?_
  refine lv_iconst (v := 4) hx hb dX11_init_130 (by decide) ?_
  refine lv_icmp_ge (tgt := 153) hx hb dX11_init_131 (by decide) (fun hc => absurd hc (by decide)) (fun _ => ?_)
  refine lv_aload_n hx hb dX11_init_134 rfl (lv_at hl 1 rfl) ?_
  obtain ⟨hg1476, h⟩ := h
  refine xgX11_6r hx hb hts hown hK hW 0 hcX11_init_X11 (x_mL hids1473 (x_mL hids1466 (hSub1138 _ (x_mL hids1131 (hSub1120 _ (x_mL hids1113 (hSub1102 _ (x_mL hids1095 (hSub1084 _ (x_mL hids1077 (hSub1066 _ (x_mL hids1059 (hSub1048 _ (x_mL hids1041 (x_mL hids1033 (hSub1025 _ (x_mL hids1019 (hSub1011 _ (x_mL hids1005 hm_this))))))))))))))))))) lX_0 (hts _ hwX11_init_22) (by exact hg1476) dX11_init_135 ?_
  refine lv_iload_n hx hb dX11_init_138 rfl (lv_at hl 0 rfl) ?_
  obtain ⟨⟨hq1477a, hq1477s, hq1477d, hq1477r, hq1477o⟩, h⟩ := h
  refine x_new hx hb hts hown hK hW hA 44 8 3 rfl hcX11_init_X8 tyX8_ok dvX8 rfl (hts _ hwX11_init_21) (hts _ hwX11_init_23) (hts _ hwX11_init_24) hq1477d hq1477a hq1477s hq1477r (Nat.le_of_ble_eq_true rfl) (Nat.le_of_ble_eq_true rfl) dX11_init_139 (fun ad1479 H hAd1480 hW => ?_)
  obtain ⟨σ1478, hσ1478⟩ : ∃ τ, τ = nC σ1475 44 := ⟨_, rfl⟩
  rw [← hσ1478] at hW
  obtain ⟨ids1481, hids1481⟩ : ∃ x, x = ids1473 ++ [44] := ⟨_, rfl⟩
  rw [← hids1481] at hW
  have h := h σ1478 hσ1478 ids1481 hids1481
  have e1482 : ad1471 0 = ad1479 0 := (hAd1480 _ (x_ne (x_mL hids1473 (x_mL hids1466 (hSub1138 _ (x_mL hids1131 (hSub1120 _ (x_mL hids1113 (hSub1102 _ (x_mL hids1095 (hSub1084 _ (x_mL hids1077 (hSub1066 _ (x_mL hids1059 (hSub1048 _ (x_mL hids1041 (x_mL hids1033 (hSub1025 _ (x_mL hids1019 (hSub1011 _ (x_mL hids1005 hm_this))))))))))))))))))) hq1477d)).symm
  have e1483 : ad1471 16 = ad1479 16 := (hAd1480 _ (x_ne (x_mR hids1473) hq1477d)).symm
  rw [e1482] at hl
  rw [e1483]
  rw [← hids1481] at hq1477o
  refine lv_dup hx hb dX11_init_142 rfl ?_
  refine x_callvA (va_runIN (As := []) (rest := [.ref (ad1479 44), .int (0 : Int32), .ref (ad1479 16)]) ⟨hx, hb, hml, hown, hts⟩ (J_X8_init l (fun _ => rfl) hq1477o h) ⟨va_cnB 0 hts gX11_init_X8_init_n64 rfl rfl rfl (hK.2.2.1 _ (List.mem_of_getElem? (i := 4) rfl)) (hts _ hwX11_init_24) hdI_X8_init ⟨Nat.le_of_ble_eq_true rfl, Nat.le_of_ble_eq_true rfl⟩, rfl, (hts _ hwX11_init_25)⟩ (x_preS hK hZ hA hW) rfl rfl hl.1 rfl (lv_room (Nat.le_of_ble_eq_true rfl)) dX11_init_143 ⟨Nat.le_of_ble_eq_true rfl, Nat.le_of_ble_eq_true rfl⟩) hW hA (fun σ1484 ad1485 ids1486 H locs h hAd1487 hSub1488 hW => ?_)
  try dsimp only at h
  have e1489 : ad1479 0 = ad1485 0 := (hAd1487 _ (x_mL hids1481 (x_mL hids1473 (x_mL hids1466 (hSub1138 _ (x_mL hids1131 (hSub1120 _ (x_mL hids1113 (hSub1102 _ (x_mL hids1095 (hSub1084 _ (x_mL hids1077 (hSub1066 _ (x_mL hids1059 (hSub1048 _ (x_mL hids1041 (x_mL hids1033 (hSub1025 _ (x_mL hids1019 (hSub1011 _ (x_mL hids1005 hm_this))))))))))))))))))))).symm
  have e1490 : ad1479 16 = ad1485 16 := (hAd1487 _ (x_mL hids1481 (x_mR hids1473))).symm
  have e1491 : ad1479 44 = ad1485 44 := (hAd1487 _ (x_mR hids1481)).symm
  rw [e1489] at hl
  rw [e1490, e1491]
  obtain ⟨hi1492, h⟩ := h
  refine x_ast hx hb hK hW 16 2 (hSub1488 _ (x_mL hids1481 (x_mR hids1473))) hq1469a (hSub1488 _ (x_mR hids1481)) hq1477a rfl rfl hi1492 (fun _ => rfl) dX11_init_146 (fun σ1493 H locs hσ1493 hW => ?_)
  have h := h σ1493 hσ1493
  refine lv_iinc (v := (1 : Int32)) (lv' := [(1, .int (1 : Int32)), (0, .ref (ad1485 0))]) hx hb dX11_init_147 hl (k := 0) rfl (by decide) (by decide) rfl (fun ls hl => ?_)
  refine lv_goto (tgt := 129) hx hb dX11_init_150 (by decide) ?_
  refine lv_iload_n hx hb dX11_init_129 rfl (lv_at hl 0 rfl) ?_
  refine lv_iconst (v := 4) hx hb dX11_init_130 (by decide) ?_
  refine lv_icmp_ge (tgt := 153) hx hb dX11_init_131 (by decide) (fun hc => absurd hc (by decide)) (fun _ => ?_)
  refine lv_aload_n hx hb dX11_init_134 rfl (lv_at hl 1 rfl) ?_
  obtain ⟨hg1494, h⟩ := h
  refine xgX11_6r hx hb hts hown hK hW 0 hcX11_init_X11 (hSub1488 _ (x_mL hids1481 (x_mL hids1473 (x_mL hids1466 (hSub1138 _ (x_mL hids1131 (hSub1120 _ (x_mL hids1113 (hSub1102 _ (x_mL hids1095 (hSub1084 _ (x_mL hids1077 (hSub1066 _ (x_mL hids1059 (hSub1048 _ (x_mL hids1041 (x_mL hids1033 (hSub1025 _ (x_mL hids1019 (hSub1011 _ (x_mL hids1005 hm_this))))))))))))))))))))) lX_0 (hts _ hwX11_init_22) (by exact hg1494) dX11_init_135 ?_
  refine lv_iload_n hx hb dX11_init_138 rfl (lv_at hl 0 rfl) ?_
  obtain ⟨⟨hq1495a, hq1495s, hq1495d, hq1495r, hq1495o⟩, h⟩ := h
  refine x_new hx hb hts hown hK hW hA 46 8 3 rfl hcX11_init_X8 tyX8_ok dvX8 rfl (hts _ hwX11_init_21) (hts _ hwX11_init_23) (hts _ hwX11_init_24) hq1495d hq1495a hq1495s hq1495r (Nat.le_of_ble_eq_true rfl) (Nat.le_of_ble_eq_true rfl) dX11_init_139 (fun ad1497 H hAd1498 hW => ?_)
  obtain ⟨σ1496, hσ1496⟩ : ∃ τ, τ = nC σ1493 46 := ⟨_, rfl⟩
  rw [← hσ1496] at hW
  obtain ⟨ids1499, hids1499⟩ : ∃ x, x = ids1486 ++ [46] := ⟨_, rfl⟩
  rw [← hids1499] at hW
  have h := h σ1496 hσ1496 ids1499 hids1499
  have e1500 : ad1485 0 = ad1497 0 := (hAd1498 _ (x_ne (hSub1488 _ (x_mL hids1481 (x_mL hids1473 (x_mL hids1466 (hSub1138 _ (x_mL hids1131 (hSub1120 _ (x_mL hids1113 (hSub1102 _ (x_mL hids1095 (hSub1084 _ (x_mL hids1077 (hSub1066 _ (x_mL hids1059 (hSub1048 _ (x_mL hids1041 (x_mL hids1033 (hSub1025 _ (x_mL hids1019 (hSub1011 _ (x_mL hids1005 hm_this))))))))))))))))))))) hq1495d)).symm
  have e1501 : ad1485 16 = ad1497 16 := (hAd1498 _ (x_ne (hSub1488 _ (x_mL hids1481 (x_mR hids1473))) hq1495d)).symm
  rw [e1500] at hl
  rw [e1501]
  rw [← hids1499] at hq1495o
  refine lv_dup hx hb dX11_init_142 rfl ?_
  refine x_callvA (va_runIN (As := []) (rest := [.ref (ad1497 46), .int (1 : Int32), .ref (ad1497 16)]) ⟨hx, hb, hml, hown, hts⟩ (J_X8_init l (fun _ => rfl) hq1495o h) ⟨va_cnB 0 hts gX11_init_X8_init_n64 rfl rfl rfl (hK.2.2.1 _ (List.mem_of_getElem? (i := 4) rfl)) (hts _ hwX11_init_24) hdI_X8_init ⟨Nat.le_of_ble_eq_true rfl, Nat.le_of_ble_eq_true rfl⟩, rfl, (hts _ hwX11_init_25)⟩ (x_preS hK hZ hA hW) rfl rfl hl.1 rfl (lv_room (Nat.le_of_ble_eq_true rfl)) dX11_init_143 ⟨Nat.le_of_ble_eq_true rfl, Nat.le_of_ble_eq_true rfl⟩) hW hA (fun σ1502 ad1503 ids1504 H locs h hAd1505 hSub1506 hW => ?_)
  try dsimp only at h
  have e1507 : ad1497 0 = ad1503 0 := (hAd1505 _ (x_mL hids1499 (hSub1488 _ (x_mL hids1481 (x_mL hids1473 (x_mL hids1466 (hSub1138 _ (x_mL hids1131 (hSub1120 _ (x_mL hids1113 (hSub1102 _ (x_mL hids1095 (hSub1084 _ (x_mL hids1077 (hSub1066 _ (x_mL hids1059 (hSub1048 _ (x_mL hids1041 (x_mL hids1033 (hSub1025 _ (x_mL hids1019 (hSub1011 _ (x_mL hids1005 hm_this))))))))))))))))))))))).symm
  have e1508 : ad1497 16 = ad1503 16 := (hAd1505 _ (x_mL hids1499 (hSub1488 _ (x_mL hids1481 (x_mR hids1473))))).symm
  have e1509 : ad1497 46 = ad1503 46 := (hAd1505 _ (x_mR hids1499)).symm
  rw [e1507] at hl
  rw [e1508, e1509]
  obtain ⟨hi1510, h⟩ := h
  refine x_ast hx hb hK hW 16 2 (hSub1506 _ (x_mL hids1499 (hSub1488 _ (x_mL hids1481 (x_mR hids1473))))) hq1469a (hSub1506 _ (x_mR hids1499)) hq1495a rfl rfl hi1510 (fun _ => rfl) dX11_init_146 (fun σ1511 H locs hσ1511 hW => ?_)
  have h := h σ1511 hσ1511
  refine lv_iinc (v := (2 : Int32)) (lv' := [(1, .int (2 : Int32)), (0, .ref (ad1503 0))]) hx hb dX11_init_147 hl (k := 0) rfl (by decide) (by decide) rfl (fun ls hl => ?_)
  refine lv_goto (tgt := 129) hx hb dX11_init_150 (by decide) ?_
  refine lv_iload_n hx hb dX11_init_129 rfl (lv_at hl 0 rfl) ?_
  refine lv_iconst (v := 4) hx hb dX11_init_130 (by decide) ?_
  refine lv_icmp_ge (tgt := 153) hx hb dX11_init_131 (by decide) (fun hc => absurd hc (by decide)) (fun _ => ?_)
  refine lv_aload_n hx hb dX11_init_134 rfl (lv_at hl 1 rfl) ?_
  obtain ⟨hg1512, h⟩ := h
  refine xgX11_6r hx hb hts hown hK hW 0 hcX11_init_X11 (hSub1506 _ (x_mL hids1499 (hSub1488 _ (x_mL hids1481 (x_mL hids1473 (x_mL hids1466 (hSub1138 _ (x_mL hids1131 (hSub1120 _ (x_mL hids1113 (hSub1102 _ (x_mL hids1095 (hSub1084 _ (x_mL hids1077 (hSub1066 _ (x_mL hids1059 (hSub1048 _ (x_mL hids1041 (x_mL hids1033 (hSub1025 _ (x_mL hids1019 (hSub1011 _ (x_mL hids1005 hm_this))))))))))))))))))))))) lX_0 (hts _ hwX11_init_22) (by exact hg1512) dX11_init_135 ?_
  refine lv_iload_n hx hb dX11_init_138 rfl (lv_at hl 0 rfl) ?_
  obtain ⟨⟨hq1513a, hq1513s, hq1513d, hq1513r, hq1513o⟩, h⟩ := h
  refine x_new hx hb hts hown hK hW hA 48 8 3 rfl hcX11_init_X8 tyX8_ok dvX8 rfl (hts _ hwX11_init_21) (hts _ hwX11_init_23) (hts _ hwX11_init_24) hq1513d hq1513a hq1513s hq1513r (Nat.le_of_ble_eq_true rfl) (Nat.le_of_ble_eq_true rfl) dX11_init_139 (fun ad1515 H hAd1516 hW => ?_)
  obtain ⟨σ1514, hσ1514⟩ : ∃ τ, τ = nC σ1511 48 := ⟨_, rfl⟩
  rw [← hσ1514] at hW
  obtain ⟨ids1517, hids1517⟩ : ∃ x, x = ids1504 ++ [48] := ⟨_, rfl⟩
  rw [← hids1517] at hW
  have h := h σ1514 hσ1514 ids1517 hids1517
  have e1518 : ad1503 0 = ad1515 0 := (hAd1516 _ (x_ne (hSub1506 _ (x_mL hids1499 (hSub1488 _ (x_mL hids1481 (x_mL hids1473 (x_mL hids1466 (hSub1138 _ (x_mL hids1131 (hSub1120 _ (x_mL hids1113 (hSub1102 _ (x_mL hids1095 (hSub1084 _ (x_mL hids1077 (hSub1066 _ (x_mL hids1059 (hSub1048 _ (x_mL hids1041 (x_mL hids1033 (hSub1025 _ (x_mL hids1019 (hSub1011 _ (x_mL hids1005 hm_this))))))))))))))))))))))) hq1513d)).symm
  have e1519 : ad1503 16 = ad1515 16 := (hAd1516 _ (x_ne (hSub1506 _ (x_mL hids1499 (hSub1488 _ (x_mL hids1481 (x_mR hids1473))))) hq1513d)).symm
  rw [e1518] at hl
  rw [e1519]
  rw [← hids1517] at hq1513o
  refine lv_dup hx hb dX11_init_142 rfl ?_
  refine x_callvA (va_runIN (As := []) (rest := [.ref (ad1515 48), .int (2 : Int32), .ref (ad1515 16)]) ⟨hx, hb, hml, hown, hts⟩ (J_X8_init l (fun _ => rfl) hq1513o h) ⟨va_cnB 0 hts gX11_init_X8_init_n64 rfl rfl rfl (hK.2.2.1 _ (List.mem_of_getElem? (i := 4) rfl)) (hts _ hwX11_init_24) hdI_X8_init ⟨Nat.le_of_ble_eq_true rfl, Nat.le_of_ble_eq_true rfl⟩, rfl, (hts _ hwX11_init_25)⟩ (x_preS hK hZ hA hW) rfl rfl hl.1 rfl (lv_room (Nat.le_of_ble_eq_true rfl)) dX11_init_143 ⟨Nat.le_of_ble_eq_true rfl, Nat.le_of_ble_eq_true rfl⟩) hW hA (fun σ1520 ad1521 ids1522 H locs h hAd1523 hSub1524 hW => ?_)
  try dsimp only at h
  have e1525 : ad1515 0 = ad1521 0 := (hAd1523 _ (x_mL hids1517 (hSub1506 _ (x_mL hids1499 (hSub1488 _ (x_mL hids1481 (x_mL hids1473 (x_mL hids1466 (hSub1138 _ (x_mL hids1131 (hSub1120 _ (x_mL hids1113 (hSub1102 _ (x_mL hids1095 (hSub1084 _ (x_mL hids1077 (hSub1066 _ (x_mL hids1059 (hSub1048 _ (x_mL hids1041 (x_mL hids1033 (hSub1025 _ (x_mL hids1019 (hSub1011 _ (x_mL hids1005 hm_this))))))))))))))))))))))))).symm
  have e1526 : ad1515 16 = ad1521 16 := (hAd1523 _ (x_mL hids1517 (hSub1506 _ (x_mL hids1499 (hSub1488 _ (x_mL hids1481 (x_mR hids1473))))))).symm
  have e1527 : ad1515 48 = ad1521 48 := (hAd1523 _ (x_mR hids1517)).symm
  rw [e1525] at hl
  rw [e1526, e1527]
  obtain ⟨hi1528, h⟩ := h
  refine x_ast hx hb hK hW 16 2 (hSub1524 _ (x_mL hids1517 (hSub1506 _ (x_mL hids1499 (hSub1488 _ (x_mL hids1481 (x_mR hids1473))))))) hq1469a (hSub1524 _ (x_mR hids1517)) hq1513a rfl rfl hi1528 (fun _ => rfl) dX11_init_146 (fun σ1529 H locs hσ1529 hW => ?_)
  have h := h σ1529 hσ1529
  refine lv_iinc (v := (3 : Int32)) (lv' := [(1, .int (3 : Int32)), (0, .ref (ad1521 0))]) hx hb dX11_init_147 hl (k := 0) rfl (by decide) (by decide) rfl (fun ls hl => ?_)
  refine lv_goto (tgt := 129) hx hb dX11_init_150 (by decide) ?_
  refine lv_iload_n hx hb dX11_init_129 rfl (lv_at hl 0 rfl) ?_
  refine lv_iconst (v := 4) hx hb dX11_init_130 (by decide) ?_
  refine lv_icmp_ge (tgt := 153) hx hb dX11_init_131 (by decide) (fun hc => absurd hc (by decide)) (fun _ => ?_)
  refine lv_aload_n hx hb dX11_init_134 rfl (lv_at hl 1 rfl) ?_
  obtain ⟨hg1530, h⟩ := h
  refine xgX11_6r hx hb hts hown hK hW 0 hcX11_init_X11 (hSub1524 _ (x_mL hids1517 (hSub1506 _ (x_mL hids1499 (hSub1488 _ (x_mL hids1481 (x_mL hids1473 (x_mL hids1466 (hSub1138 _ (x_mL hids1131 (hSub1120 _ (x_mL hids1113 (hSub1102 _ (x_mL hids1095 (hSub1084 _ (x_mL hids1077 (hSub1066 _ (x_mL hids1059 (hSub1048 _ (x_mL hids1041 (x_mL hids1033 (hSub1025 _ (x_mL hids1019 (hSub1011 _ (x_mL hids1005 hm_this))))))))))))))))))))))))) lX_0 (hts _ hwX11_init_22) (by exact hg1530) dX11_init_135 ?_
  refine lv_iload_n hx hb dX11_init_138 rfl (lv_at hl 0 rfl) ?_
  obtain ⟨⟨hq1531a, hq1531s, hq1531d, hq1531r, hq1531o⟩, h⟩ := h
  refine x_new hx hb hts hown hK hW hA 50 8 3 rfl hcX11_init_X8 tyX8_ok dvX8 rfl (hts _ hwX11_init_21) (hts _ hwX11_init_23) (hts _ hwX11_init_24) hq1531d hq1531a hq1531s hq1531r (Nat.le_of_ble_eq_true rfl) (Nat.le_of_ble_eq_true rfl) dX11_init_139 (fun ad1533 H hAd1534 hW => ?_)
  obtain ⟨σ1532, hσ1532⟩ : ∃ τ, τ = nC σ1529 50 := ⟨_, rfl⟩
  rw [← hσ1532] at hW
  obtain ⟨ids1535, hids1535⟩ : ∃ x, x = ids1522 ++ [50] := ⟨_, rfl⟩
  rw [← hids1535] at hW
  have h := h σ1532 hσ1532 ids1535 hids1535
  have e1536 : ad1521 0 = ad1533 0 := (hAd1534 _ (x_ne (hSub1524 _ (x_mL hids1517 (hSub1506 _ (x_mL hids1499 (hSub1488 _ (x_mL hids1481 (x_mL hids1473 (x_mL hids1466 (hSub1138 _ (x_mL hids1131 (hSub1120 _ (x_mL hids1113 (hSub1102 _ (x_mL hids1095 (hSub1084 _ (x_mL hids1077 (hSub1066 _ (x_mL hids1059 (hSub1048 _ (x_mL hids1041 (x_mL hids1033 (hSub1025 _ (x_mL hids1019 (hSub1011 _ (x_mL hids1005 hm_this))))))))))))))))))))))))) hq1531d)).symm
  have e1537 : ad1521 16 = ad1533 16 := (hAd1534 _ (x_ne (hSub1524 _ (x_mL hids1517 (hSub1506 _ (x_mL hids1499 (hSub1488 _ (x_mL hids1481 (x_mR hids1473))))))) hq1531d)).symm
  rw [e1536] at hl
  rw [e1537]
  rw [← hids1535] at hq1531o
  refine lv_dup hx hb dX11_init_142 rfl ?_
  refine x_callvA (va_runIN (As := []) (rest := [.ref (ad1533 50), .int (3 : Int32), .ref (ad1533 16)]) ⟨hx, hb, hml, hown, hts⟩ (J_X8_init l (fun _ => rfl) hq1531o h) ⟨va_cnB 0 hts gX11_init_X8_init_n64 rfl rfl rfl (hK.2.2.1 _ (List.mem_of_getElem? (i := 4) rfl)) (hts _ hwX11_init_24) hdI_X8_init ⟨Nat.le_of_ble_eq_true rfl, Nat.le_of_ble_eq_true rfl⟩, rfl, (hts _ hwX11_init_25)⟩ (x_preS hK hZ hA hW) rfl rfl hl.1 rfl (lv_room (Nat.le_of_ble_eq_true rfl)) dX11_init_143 ⟨Nat.le_of_ble_eq_true rfl, Nat.le_of_ble_eq_true rfl⟩) hW hA (fun σ1538 ad1539 ids1540 H locs h hAd1541 hSub1542 hW => ?_)
  try dsimp only at h
  have e1543 : ad1533 0 = ad1539 0 := (hAd1541 _ (x_mL hids1535 (hSub1524 _ (x_mL hids1517 (hSub1506 _ (x_mL hids1499 (hSub1488 _ (x_mL hids1481 (x_mL hids1473 (x_mL hids1466 (hSub1138 _ (x_mL hids1131 (hSub1120 _ (x_mL hids1113 (hSub1102 _ (x_mL hids1095 (hSub1084 _ (x_mL hids1077 (hSub1066 _ (x_mL hids1059 (hSub1048 _ (x_mL hids1041 (x_mL hids1033 (hSub1025 _ (x_mL hids1019 (hSub1011 _ (x_mL hids1005 hm_this))))))))))))))))))))))))))).symm
  have e1544 : ad1533 16 = ad1539 16 := (hAd1541 _ (x_mL hids1535 (hSub1524 _ (x_mL hids1517 (hSub1506 _ (x_mL hids1499 (hSub1488 _ (x_mL hids1481 (x_mR hids1473))))))))).symm
  have e1545 : ad1533 50 = ad1539 50 := (hAd1541 _ (x_mR hids1535)).symm
  rw [e1543] at hl
  rw [e1544, e1545]
  obtain ⟨hi1546, h⟩ := h
  refine x_ast hx hb hK hW 16 2 (hSub1542 _ (x_mL hids1535 (hSub1524 _ (x_mL hids1517 (hSub1506 _ (x_mL hids1499 (hSub1488 _ (x_mL hids1481 (x_mR hids1473))))))))) hq1469a (hSub1542 _ (x_mR hids1535)) hq1531a rfl rfl hi1546 (fun _ => rfl) dX11_init_146 (fun σ1547 H locs hσ1547 hW => ?_)
  have h := h σ1547 hσ1547
  refine lv_iinc (v := (4 : Int32)) (lv' := [(1, .int (4 : Int32)), (0, .ref (ad1539 0))]) hx hb dX11_init_147 hl (k := 0) rfl (by decide) (by decide) rfl (fun ls hl => ?_)
  refine lv_goto (tgt := 129) hx hb dX11_init_150 (by decide) ?_
  refine lv_iload_n hx hb dX11_init_129 rfl (lv_at hl 0 rfl) ?_
  refine lv_iconst (v := 4) hx hb dX11_init_130 (by decide) ?_
  refine lv_icmp_ge (tgt := 153) hx hb dX11_init_131 (by decide) (fun _ => ?_) (fun hc => absurd (by decide) hc)
  refine lv_aload_n hx hb dX11_init_153 rfl (lv_at hl 1 rfl) ?_
  refine lv_iconst (v := 4) hx hb dX11_init_154 (by decide) ?_
  obtain ⟨⟨hq1548a, hq1548d, hq1548r⟩, h⟩ := h
  refine x_newi hx hb hts hwX11_init_19 hK hW hA 17 4 hq1548d hq1548a hq1548r (by decide) rfl (Nat.le_of_ble_eq_true rfl) (Nat.le_of_ble_eq_true rfl) (Nat.le_of_ble_eq_true rfl) dX11_init_155 (fun ad1550 H hAd1551 hW => ?_)
  obtain ⟨σ1549, hσ1549⟩ : ∃ τ, τ = nC σ1547 17 := ⟨_, rfl⟩
  rw [← hσ1549] at hW
  obtain ⟨ids1552, hids1552⟩ : ∃ x, x = ids1540 ++ [17] := ⟨_, rfl⟩
  rw [← hids1552] at hW
  have h := h σ1549 hσ1549 ids1552 hids1552
  have e1553 : ad1539 0 = ad1550 0 := (hAd1551 _ (x_ne (hSub1542 _ (x_mL hids1535 (hSub1524 _ (x_mL hids1517 (hSub1506 _ (x_mL hids1499 (hSub1488 _ (x_mL hids1481 (x_mL hids1473 (x_mL hids1466 (hSub1138 _ (x_mL hids1131 (hSub1120 _ (x_mL hids1113 (hSub1102 _ (x_mL hids1095 (hSub1084 _ (x_mL hids1077 (hSub1066 _ (x_mL hids1059 (hSub1048 _ (x_mL hids1041 (x_mL hids1033 (hSub1025 _ (x_mL hids1019 (hSub1011 _ (x_mL hids1005 hm_this))))))))))))))))))))))))))) hq1548d)).symm
  rw [e1553] at hl
  rw [e1553]
  refine xfX11_7 hx hb hts hown hK hW 0 hcX11_init_X11 (x_mL hids1552 (hSub1542 _ (x_mL hids1535 (hSub1524 _ (x_mL hids1517 (hSub1506 _ (x_mL hids1499 (hSub1488 _ (x_mL hids1481 (x_mL hids1473 (x_mL hids1466 (hSub1138 _ (x_mL hids1131 (hSub1120 _ (x_mL hids1113 (hSub1102 _ (x_mL hids1095 (hSub1084 _ (x_mL hids1077 (hSub1066 _ (x_mL hids1059 (hSub1048 _ (x_mL hids1041 (x_mL hids1033 (hSub1025 _ (x_mL hids1019 (hSub1011 _ (x_mL hids1005 hm_this)))))))))))))))))))))))))))) lX_0 (hts _ hwX11_init_26) hin2 rfl rfl dX11_init_157 (fun σ1554 H locs hσ1554 hW => ?_)
  have h := h σ1554 hσ1554
  refine lv_aload_n hx hb dX11_init_160 rfl (lv_at hl 1 rfl) ?_
  refine lv_iconst (v := 4) hx hb dX11_init_161 (by decide) ?_
  obtain ⟨⟨hq1555a, hq1555d, hq1555r⟩, h⟩ := h
  refine x_newi hx hb hts hwX11_init_19 hK hW hA 18 4 hq1555d hq1555a hq1555r (by decide) rfl (Nat.le_of_ble_eq_true rfl) (Nat.le_of_ble_eq_true rfl) (Nat.le_of_ble_eq_true rfl) dX11_init_162 (fun ad1557 H hAd1558 hW => ?_)
  obtain ⟨σ1556, hσ1556⟩ : ∃ τ, τ = nC σ1554 18 := ⟨_, rfl⟩
  rw [← hσ1556] at hW
  obtain ⟨ids1559, hids1559⟩ : ∃ x, x = ids1552 ++ [18] := ⟨_, rfl⟩
  rw [← hids1559] at hW
  have h := h σ1556 hσ1556 ids1559 hids1559
  have e1560 : ad1550 0 = ad1557 0 := (hAd1558 _ (x_ne (x_mL hids1552 (hSub1542 _ (x_mL hids1535 (hSub1524 _ (x_mL hids1517 (hSub1506 _ (x_mL hids1499 (hSub1488 _ (x_mL hids1481 (x_mL hids1473 (x_mL hids1466 (hSub1138 _ (x_mL hids1131 (hSub1120 _ (x_mL hids1113 (hSub1102 _ (x_mL hids1095 (hSub1084 _ (x_mL hids1077 (hSub1066 _ (x_mL hids1059 (hSub1048 _ (x_mL hids1041 (x_mL hids1033 (hSub1025 _ (x_mL hids1019 (hSub1011 _ (x_mL hids1005 hm_this)))))))))))))))))))))))))))) hq1555d)).symm
  rw [e1560] at hl
  rw [e1560]
  refine xfX11_8 hx hb hts hown hK hW 0 hcX11_init_X11 (x_mL hids1559 (x_mL hids1552 (hSub1542 _ (x_mL hids1535 (hSub1524 _ (x_mL hids1517 (hSub1506 _ (x_mL hids1499 (hSub1488 _ (x_mL hids1481 (x_mL hids1473 (x_mL hids1466 (hSub1138 _ (x_mL hids1131 (hSub1120 _ (x_mL hids1113 (hSub1102 _ (x_mL hids1095 (hSub1084 _ (x_mL hids1077 (hSub1066 _ (x_mL hids1059 (hSub1048 _ (x_mL hids1041 (x_mL hids1033 (hSub1025 _ (x_mL hids1019 (hSub1011 _ (x_mL hids1005 hm_this))))))))))))))))))))))))))))) lX_0 (hts _ hwX11_init_27) hin2 rfl rfl dX11_init_164 (fun σ1561 H locs hσ1561 hW => ?_)
  have h := h σ1561 hσ1561
  refine W.widen (k := 50) (n := 1953) (Nat.le_of_ble_eq_true rfl) (Nat.le_of_ble_eq_true rfl) ?_
  exact kr _ _ _ _ _ _ _ hW (fun c hc => (hAd1558 c (x_ne (x_mL hids1552 (hSub1542 _ (x_mL hids1535 (hSub1524 _ (x_mL hids1517 (hSub1506 _ (x_mL hids1499 (hSub1488 _ (x_mL hids1481 (x_mL hids1473 (x_mL hids1466 (hSub1138 _ (x_mL hids1131 (hSub1120 _ (x_mL hids1113 (hSub1102 _ (x_mL hids1095 (hSub1084 _ (x_mL hids1077 (hSub1066 _ (x_mL hids1059 (hSub1048 _ (x_mL hids1041 (x_mL hids1033 (hSub1025 _ (x_mL hids1019 (hSub1011 _ (x_mL hids1005 hc)))))))))))))))))))))))))))) hq1555d)).trans ((fun c hc => (hAd1551 c (x_ne (hSub1542 _ (x_mL hids1535 (hSub1524 _ (x_mL hids1517 (hSub1506 _ (x_mL hids1499 (hSub1488 _ (x_mL hids1481 (x_mL hids1473 (x_mL hids1466 (hSub1138 _ (x_mL hids1131 (hSub1120 _ (x_mL hids1113 (hSub1102 _ (x_mL hids1095 (hSub1084 _ (x_mL hids1077 (hSub1066 _ (x_mL hids1059 (hSub1048 _ (x_mL hids1041 (x_mL hids1033 (hSub1025 _ (x_mL hids1019 (hSub1011 _ (x_mL hids1005 hc))))))))))))))))))))))))))) hq1548d)).trans ((fun c hc => (hAd1541 c (x_mL hids1535 (hSub1524 _ (x_mL hids1517 (hSub1506 _ (x_mL hids1499 (hSub1488 _ (x_mL hids1481 (x_mL hids1473 (x_mL hids1466 (hSub1138 _ (x_mL hids1131 (hSub1120 _ (x_mL hids1113 (hSub1102 _ (x_mL hids1095 (hSub1084 _ (x_mL hids1077 (hSub1066 _ (x_mL hids1059 (hSub1048 _ (x_mL hids1041 (x_mL hids1033 (hSub1025 _ (x_mL hids1019 (hSub1011 _ (x_mL hids1005 hc))))))))))))))))))))))))))).trans ((fun c hc => (hAd1534 c (x_ne (hSub1524 _ (x_mL hids1517 (hSub1506 _ (x_mL hids1499 (hSub1488 _ (x_mL hids1481 (x_mL hids1473 (x_mL hids1466 (hSub1138 _ (x_mL hids1131 (hSub1120 _ (x_mL hids1113 (hSub1102 _ (x_mL hids1095 (hSub1084 _ (x_mL hids1077 (hSub1066 _ (x_mL hids1059 (hSub1048 _ (x_mL hids1041 (x_mL hids1033 (hSub1025 _ (x_mL hids1019 (hSub1011 _ (x_mL hids1005 hc))))))))))))))))))))))))) hq1531d)).trans ((fun c hc => (hAd1523 c (x_mL hids1517 (hSub1506 _ (x_mL hids1499 (hSub1488 _ (x_mL hids1481 (x_mL hids1473 (x_mL hids1466 (hSub1138 _ (x_mL hids1131 (hSub1120 _ (x_mL hids1113 (hSub1102 _ (x_mL hids1095 (hSub1084 _ (x_mL hids1077 (hSub1066 _ (x_mL hids1059 (hSub1048 _ (x_mL hids1041 (x_mL hids1033 (hSub1025 _ (x_mL hids1019 (hSub1011 _ (x_mL hids1005 hc))))))))))))))))))))))))).trans ((fun c hc => (hAd1516 c (x_ne (hSub1506 _ (x_mL hids1499 (hSub1488 _ (x_mL hids1481 (x_mL hids1473 (x_mL hids1466 (hSub1138 _ (x_mL hids1131 (hSub1120 _ (x_mL hids1113 (hSub1102 _ (x_mL hids1095 (hSub1084 _ (x_mL hids1077 (hSub1066 _ (x_mL hids1059 (hSub1048 _ (x_mL hids1041 (x_mL hids1033 (hSub1025 _ (x_mL hids1019 (hSub1011 _ (x_mL hids1005 hc))))))))))))))))))))))) hq1513d)).trans ((fun c hc => (hAd1505 c (x_mL hids1499 (hSub1488 _ (x_mL hids1481 (x_mL hids1473 (x_mL hids1466 (hSub1138 _ (x_mL hids1131 (hSub1120 _ (x_mL hids1113 (hSub1102 _ (x_mL hids1095 (hSub1084 _ (x_mL hids1077 (hSub1066 _ (x_mL hids1059 (hSub1048 _ (x_mL hids1041 (x_mL hids1033 (hSub1025 _ (x_mL hids1019 (hSub1011 _ (x_mL hids1005 hc))))))))))))))))))))))).trans ((fun c hc => (hAd1498 c (x_ne (hSub1488 _ (x_mL hids1481 (x_mL hids1473 (x_mL hids1466 (hSub1138 _ (x_mL hids1131 (hSub1120 _ (x_mL hids1113 (hSub1102 _ (x_mL hids1095 (hSub1084 _ (x_mL hids1077 (hSub1066 _ (x_mL hids1059 (hSub1048 _ (x_mL hids1041 (x_mL hids1033 (hSub1025 _ (x_mL hids1019 (hSub1011 _ (x_mL hids1005 hc))))))))))))))))))))) hq1495d)).trans ((fun c hc => (hAd1487 c (x_mL hids1481 (x_mL hids1473 (x_mL hids1466 (hSub1138 _ (x_mL hids1131 (hSub1120 _ (x_mL hids1113 (hSub1102 _ (x_mL hids1095 (hSub1084 _ (x_mL hids1077 (hSub1066 _ (x_mL hids1059 (hSub1048 _ (x_mL hids1041 (x_mL hids1033 (hSub1025 _ (x_mL hids1019 (hSub1011 _ (x_mL hids1005 hc))))))))))))))))))))).trans ((fun c hc => (hAd1480 c (x_ne (x_mL hids1473 (x_mL hids1466 (hSub1138 _ (x_mL hids1131 (hSub1120 _ (x_mL hids1113 (hSub1102 _ (x_mL hids1095 (hSub1084 _ (x_mL hids1077 (hSub1066 _ (x_mL hids1059 (hSub1048 _ (x_mL hids1041 (x_mL hids1033 (hSub1025 _ (x_mL hids1019 (hSub1011 _ (x_mL hids1005 hc))))))))))))))))))) hq1477d)).trans ((fun c hc => (hAd1472 c (x_ne (x_mL hids1466 (hSub1138 _ (x_mL hids1131 (hSub1120 _ (x_mL hids1113 (hSub1102 _ (x_mL hids1095 (hSub1084 _ (x_mL hids1077 (hSub1066 _ (x_mL hids1059 (hSub1048 _ (x_mL hids1041 (x_mL hids1033 (hSub1025 _ (x_mL hids1019 (hSub1011 _ (x_mL hids1005 hc)))))))))))))))))) hq1469d)).trans ((fun c hc => (hAd1465 c (x_ne (hSub1138 _ (x_mL hids1131 (hSub1120 _ (x_mL hids1113 (hSub1102 _ (x_mL hids1095 (hSub1084 _ (x_mL hids1077 (hSub1066 _ (x_mL hids1059 (hSub1048 _ (x_mL hids1041 (x_mL hids1033 (hSub1025 _ (x_mL hids1019 (hSub1011 _ (x_mL hids1005 hc))))))))))))))))) hq1462d)).trans ((fun c hc => (hAd1137 c (x_mL hids1131 (hSub1120 _ (x_mL hids1113 (hSub1102 _ (x_mL hids1095 (hSub1084 _ (x_mL hids1077 (hSub1066 _ (x_mL hids1059 (hSub1048 _ (x_mL hids1041 (x_mL hids1033 (hSub1025 _ (x_mL hids1019 (hSub1011 _ (x_mL hids1005 hc))))))))))))))))).trans ((fun c hc => (hAd1130 c (x_ne (hSub1120 _ (x_mL hids1113 (hSub1102 _ (x_mL hids1095 (hSub1084 _ (x_mL hids1077 (hSub1066 _ (x_mL hids1059 (hSub1048 _ (x_mL hids1041 (x_mL hids1033 (hSub1025 _ (x_mL hids1019 (hSub1011 _ (x_mL hids1005 hc))))))))))))))) hq1127d)).trans ((fun c hc => (hAd1119 c (x_mL hids1113 (hSub1102 _ (x_mL hids1095 (hSub1084 _ (x_mL hids1077 (hSub1066 _ (x_mL hids1059 (hSub1048 _ (x_mL hids1041 (x_mL hids1033 (hSub1025 _ (x_mL hids1019 (hSub1011 _ (x_mL hids1005 hc))))))))))))))).trans ((fun c hc => (hAd1112 c (x_ne (hSub1102 _ (x_mL hids1095 (hSub1084 _ (x_mL hids1077 (hSub1066 _ (x_mL hids1059 (hSub1048 _ (x_mL hids1041 (x_mL hids1033 (hSub1025 _ (x_mL hids1019 (hSub1011 _ (x_mL hids1005 hc))))))))))))) hq1109d)).trans ((fun c hc => (hAd1101 c (x_mL hids1095 (hSub1084 _ (x_mL hids1077 (hSub1066 _ (x_mL hids1059 (hSub1048 _ (x_mL hids1041 (x_mL hids1033 (hSub1025 _ (x_mL hids1019 (hSub1011 _ (x_mL hids1005 hc))))))))))))).trans ((fun c hc => (hAd1094 c (x_ne (hSub1084 _ (x_mL hids1077 (hSub1066 _ (x_mL hids1059 (hSub1048 _ (x_mL hids1041 (x_mL hids1033 (hSub1025 _ (x_mL hids1019 (hSub1011 _ (x_mL hids1005 hc))))))))))) hq1091d)).trans ((fun c hc => (hAd1083 c (x_mL hids1077 (hSub1066 _ (x_mL hids1059 (hSub1048 _ (x_mL hids1041 (x_mL hids1033 (hSub1025 _ (x_mL hids1019 (hSub1011 _ (x_mL hids1005 hc))))))))))).trans ((fun c hc => (hAd1076 c (x_ne (hSub1066 _ (x_mL hids1059 (hSub1048 _ (x_mL hids1041 (x_mL hids1033 (hSub1025 _ (x_mL hids1019 (hSub1011 _ (x_mL hids1005 hc))))))))) hq1073d)).trans ((fun c hc => (hAd1065 c (x_mL hids1059 (hSub1048 _ (x_mL hids1041 (x_mL hids1033 (hSub1025 _ (x_mL hids1019 (hSub1011 _ (x_mL hids1005 hc))))))))).trans ((fun c hc => (hAd1058 c (x_ne (hSub1048 _ (x_mL hids1041 (x_mL hids1033 (hSub1025 _ (x_mL hids1019 (hSub1011 _ (x_mL hids1005 hc))))))) hq1055d)).trans ((fun c hc => (hAd1047 c (x_mL hids1041 (x_mL hids1033 (hSub1025 _ (x_mL hids1019 (hSub1011 _ (x_mL hids1005 hc))))))).trans ((fun c hc => (hAd1040 c (x_ne (x_mL hids1033 (hSub1025 _ (x_mL hids1019 (hSub1011 _ (x_mL hids1005 hc))))) hq1037d)).trans ((fun c hc => (hAd1032 c (x_ne (hSub1025 _ (x_mL hids1019 (hSub1011 _ (x_mL hids1005 hc)))) hq1029d)).trans ((fun c hc => (hAd1024 c (x_mL hids1019 (hSub1011 _ (x_mL hids1005 hc)))).trans ((fun c hc => (hAd1018 c (x_ne (hSub1011 _ (x_mL hids1005 hc)) hq1015d)).trans ((fun c hc => (hAd1010 c (x_mL hids1005 hc)).trans ((fun c hc => (hAd1004 c (x_ne hc hq1001d)).trans ((fun _ _ => rfl) c hc)) c hc)) c hc)) c hc)) c hc)) c hc)) c hc)) c hc)) c hc)) c hc)) c hc)) c hc)) c hc)) c hc)) c hc)) c hc)) c hc)) c hc)) c hc)) c hc)) c hc)) c hc)) c hc)) c hc)) c hc)) c hc)) c hc)) c hc)) c hc)) (fun c hc => (x_mL hids1559 (x_mL hids1552 (hSub1542 _ (x_mL hids1535 (hSub1524 _ (x_mL hids1517 (hSub1506 _ (x_mL hids1499 (hSub1488 _ (x_mL hids1481 (x_mL hids1473 (x_mL hids1466 (hSub1138 _ (x_mL hids1131 (hSub1120 _ (x_mL hids1113 (hSub1102 _ (x_mL hids1095 (hSub1084 _ (x_mL hids1077 (hSub1066 _ (x_mL hids1059 (hSub1048 _ (x_mL hids1041 (x_mL hids1033 (hSub1025 _ (x_mL hids1019 (hSub1011 _ (x_mL hids1005 hc)))))))))))))))))))))))))))))) h dX11_init_167
