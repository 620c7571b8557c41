set_option maxHeartbeats 4000000 in
set_option maxRecDepth 100000 in
theorem JO_X12_term {D : va_G} {KA : Nat → ClassId} {zs : ZS} {ad : Nat → Nat} {ids : List Nat} {sz : Nat} (l : Launch) (hI : ∀ c, c < 35 → c ∈ ids) (d : Nat) {rec : Nat → St → (Int32 → St → Prop) → Prop} (hrec0 : ∀ {σ : St} {post : Int32 → St → Prop} {sz : Nat}, rec 0  σ post → Met l yX12_either wsX12_either (rmgR d) (va_Pc [.ref (ad 0)] (xIn D KA zs layR stR ad ids sz σ)) (va_Qi post (xOut D KA layR stR ad ids) (xA ad ids sz)) 0 0 (xA ad ids sz)) (hrec1 : ∀ {σ : St} {post : Int32 → St → Prop} {sz : Nat}, rec 1  σ post → Met l yX12_both wsX12_both (rmgR d) (va_Pc [.ref (ad 0)] (xIn D KA zs layR stR ad ids sz σ)) (va_Qi post (xOut D KA layR stR ad ids) (xA ad ids sz)) 0 0 (xA ad ids sz)) (hrec2 : ∀ {σ : St} {post : Int32 → St → Prop} {sz : Nat}, rec 2  σ post → Met l yX12_not wsX12_not (rmgR d) (va_Pc [.ref (ad 0)] (xIn D KA zs layR stR ad ids sz σ)) (va_Qi post (xOut D KA layR stR ad ids) (xA ad ids sz)) 0 0 (xA ad ids sz)) (hrec3 : ∀ {σ : St} {post : Int32 → St → Prop} {sz : Nat}, rec 3  σ post → Met l yX12_added wsX12_added (rmgR d) (va_Pc [.ref (ad 0)] (xIn D KA zs layR stR ad ids sz σ)) (va_Qi post (xOut D KA layR stR ad ids) (xA ad ids sz)) 0 0 (xA ad ids sz)) (hrec4 : ∀ {σ : St} {post : Int32 → St → Prop} {sz : Nat}, rec 4  σ post → Met l yX12_term wsX12_term (rmgR d) (va_Pc [.ref (ad 0)] (xIn D KA zs layR stR ad ids sz σ)) (va_Qi post (xOut D KA layR stR ad ids) (xA ad ids sz)) 0 0 (xA ad ids sz)) (hrec5 : ∀ {σ : St} {post : Int32 → St → Prop} {sz : Nat}, rec 5  σ post → Met l yX12_one wsX12_one (rmgR d) (va_Pc [.ref (ad 0)] (xIn D KA zs layR stR ad ids sz σ)) (va_Qi post (xOut D KA layR stR ad ids) (xA ad ids sz)) 0 0 (xA ad ids sz))   {σ : St} {post : Int32 → St → Prop} (h : wX12_term rec  σ post) : Met l yX12_term wsX12_term (rmgR (d + 1)) (va_Pc [.ref (ad 0)] (xIn D KA zs layR stR ad ids sz σ)) (va_Qi post (xOut D KA layR stR ad ids) (xA ad ids sz)) 0 0 (xA ad ids sz) := by
  refine Met.ofW (cc := cX12_term) (maxL := 2) (ret := (some .int)) (by decide) rfl ?_
  intro p e s m args below meth c s₁ B hml hv
  obtain ⟨hav, hsz, hK, hZ, hP, hD⟩ := hv
  have hx := B.exec
  have hb := B.bytes
  have hr := B.returns
  have hts := atoms_spec (ws := wsX12_term) B.pre
  have hown : s.vm.findClass RX12 = some m.cls := findClass_of_methodNamed B.named
  have hlocks := B.notSynchronized
  subst hsz
  have hA : ∀ q : Nat, s.heap.size ≤ q → xA ad ids s.heap.size q := fun q h => Or.inr h
  have hW : xW D KA layR stR ad ids (xA ad ids s.heap.size) s.heap σ s.heap [] := ⟨hP, xA_D (D := D) hD, va_S.rf⟩
  have kr : ∀ (v : Int32) (σ : St) (H : Heap) (locs : List Loc) (ls : Array Slot) (pc : Nat), xW D KA layR stR ad ids (xA ad ids s.heap.size) s.heap σ H locs → post v σ → decode cX12_term pc = .ok (.ireturn, 1) → W p l e (rmgR (d + 1)) s m args below meth c H locs 0 0 (MQ below (va_Qi post (xOut D KA layR stR ad ids) (xA ad ids s.heap.size)) args s 0 0 (xA ad ids s.heap.size)) (F0 m pc ls [.int v]) := fun v σ H locs ls pc hW h hd => x_iret hx hb hr hlocks hW h hd
  have hl := lv_entry ([.ref (ad 0)]) (n := 2) (Nat.le_of_ble_eq_true rfl)
  rw [show entryFrame m args 2 = entryFrame m ([.ref (ad 0)] : List Value).toArray 2 from by rw [hav]]
  rw [lg_entry_eq]
  generalize (lg_sl ([.ref (ad 0)]) ++ List.replicate (2 - (lg_sl ([.ref (ad 0)])).length) Slot.unset).toArray = ls at hl ⊢
  have hl : lv_has ls 2 [(0, .ref (ad 0))] := hl
  show W p l e (rmgR (d + 1)) s m args below meth c s.heap [] 0 0 _ _
  generalize MQ below (va_Qi post (xOut D KA layR stR ad ids) (xA ad ids s.heap.size)) args s 0 0 (xA ad ids s.heap.size) = Q at kr ⊢
  have blk5 : ∀ (n : Nat) (x1 : Int32) (σ : St) (H : Heap) (locs : List Loc) (ls : Array Slot), xW D KA layR stR ad ids (xA ad ids s.heap.size) s.heap σ H locs → lv_has ls 2 [(0, .ref (ad 0)), (1, .int x1)] → wX12_term_5 rec post  n x1 σ → W p l e (rmgR (d + 1)) s m args below meth c H locs 0 0 Q (F0 m 5 ls []) := by
    intro    n
    induction n with
    | zero => intro x1 σ H locs ls hW hl h; exact (h : False).elim
    | succ n ih =>
      intro x1 σ H locs ls hW hl h
      have hk5 : ∀ (x1 : Int32) (σ : St) (H : Heap) (locs : List Loc) (ls : Array Slot), xW D KA layR stR ad ids (xA ad ids s.heap.size) s.heap σ H locs → lv_has ls 2 [(0, .ref (ad 0)), (1, .int x1)] → (wX12_term_5 rec post  n) x1 σ → W p l e (rmgR (d + 1)) s m args below meth c H locs 0 0 Q (F0 m 5 ls []) := fun x1 σ H locs ls hW hl h => ih x1 σ H locs ls hW hl h
      rw [wX12_term_5_s] at h
      try dsimp only at h
      generalize wX12_term_5 rec post  n = k5 at h hk5
      refine lv_aload_n hx hb dX12_term_5 rfl (lv_at hl 0 rfl) ?_
      refine lv_bipush (v := 42) hx hb dX12_term_6 (by decide) ?_
      refine x_calli (va_runV (As := [.int (42 : Int32)]) (rest := []) ⟨hx, hb, hml, hown, hts⟩ (J_X12_isSign l hI h) (cwV 1 hts gX12_term_X12_isSign rfl rfl rfl hdV_X12_isSign ⟨rmgR_of d (Nat.le_of_ble_eq_true rfl), rmgR_ol d (Nat.le_of_ble_eq_true rfl)⟩) (x_preV (ci := 12) hK hZ hA hW (hI 0 (by decide)) lR_0 rfl) rfl rfl hl.1 rfl (lv_room (Nat.le_of_ble_eq_true rfl)) dX12_term_8 ⟨Nat.zero_le _, Nat.zero_le _⟩) hW hA (fun r2 σ1 H locs h hW => ?_)
      try dsimp only at h
      refine lv_if_eq (tgt := 28) hx hb dX12_term_11 (by decide) (fun c3 => ?_) (fun c3 => ?_)
      · have h := h.1 c3
        refine lv_iload_n hx hb dX12_term_28 rfl (lv_at hl 1 rfl) ?_
        exact kr _ _ _ _ _ _ hW h dX12_term_29
      · have h := h.2 c3
        refine lv_aload_n hx hb dX12_term_14 rfl (lv_at hl 0 rfl) ?_
        refine x_callv (va_runV (As := []) (rest := []) ⟨hx, hb, hml, hown, hts⟩ (J_X12_next l hI h) (cwV 0 hts gX12_term_X12_next rfl rfl rfl hdV_X12_next ⟨rmgR_of d (Nat.le_of_ble_eq_true rfl), rmgR_ol d (Nat.le_of_ble_eq_true rfl)⟩) (x_preV (ci := 12) hK hZ hA hW (hI 0 (by decide)) lR_0 rfl) rfl rfl hl.1 rfl (lv_room (Nat.le_of_ble_eq_true rfl)) dX12_term_15 ⟨Nat.zero_le _, Nat.zero_le _⟩) hW hA (fun σ4 H locs h hW => ?_)
        try dsimp only at h
        refine lv_iload_n hx hb dX12_term_18 rfl (lv_at hl 1 rfl) ?_
        refine lv_aload_n hx hb dX12_term_19 rfl (lv_at hl 0 rfl) ?_
        refine x_calli (va_runV (As := []) (rest := [.int x1]) ⟨hx, hb, hml, hown, hts⟩ (hrec5 h) (cwV 0 hts gX12_term_X12_one rfl rfl rfl hdV_X12_one ⟨rmgR_f d, rmgR_l d (Nat.le_of_ble_eq_true rfl)⟩) (x_preV (ci := 12) hK hZ hA hW (hI 0 (by decide)) lR_0 rfl) rfl rfl hl.1 rfl (lv_room (Nat.le_of_ble_eq_true rfl)) dX12_term_20 ⟨Nat.zero_le _, Nat.zero_le _⟩) hW hA (fun r6 σ5 H locs h hW => ?_)
        try dsimp only at h
        refine lv_imul hx hb dX12_term_23 ?_
        refine lv_topi (fun v7 hv7 => ?_)
        have h := h v7 hv7
        refine lv_istore_n (lv' := [(1, .int v7), (0, .ref (ad 0))]) hx hb dX12_term_24 rfl hl (by decide) rfl (fun ls hl => ?_)
        refine lv_goto (tgt := 5) hx hb dX12_term_25 (by decide) ?_
        exact hk5 v7 _ _ _ _ hW (lv_sub hl [1, 0] rfl) h
  have main : ∀ (H : Heap) (locs : List Loc) (ls : Array Slot), xW D KA layR stR ad ids (xA ad ids s.heap.size) s.heap σ H locs → lv_has ls 2 [(0, .ref (ad 0))] → W p l e (rmgR (d + 1)) s m args below meth c H locs 0 0 Q (F0 m 0 ls []) := by
    intro H locs ls hW hl
    unfold wX12_term at h
    refine lv_aload_n hx hb dX12_term_0 rfl (lv_at hl 0 rfl) ?_
    refine x_calli (va_runV (As := []) (rest := []) ⟨hx, hb, hml, hown, hts⟩ (hrec5 h) (cwV 0 hts gX12_term_X12_one rfl rfl rfl hdV_X12_one ⟨rmgR_f d, rmgR_l d (Nat.le_of_ble_eq_true rfl)⟩) (x_preV (ci := 12) hK hZ hA hW (hI 0 (by decide)) lR_0 rfl) rfl rfl hl.1 rfl (lv_room (Nat.le_of_ble_eq_true rfl)) dX12_term_1 ⟨Nat.zero_le _, Nat.zero_le _⟩) hW hA (fun r1002 σ1001 H locs h hW => ?_)
    try dsimp only at h
    refine lv_istore_n (lv' := [(1, .int r1002), (0, .ref (ad 0))]) hx hb dX12_term_4 rfl hl (by decide) rfl (fun ls hl => ?_)
    obtain ⟨n, h⟩ := h
    exact blk5    n r1002 _ _ _ _ hW (lv_sub hl [1, 0] rfl) h
  exact main _ _ _ hW hl
theorem JGR {D : va_G} {KA : Nat → ClassId} {zs : ZS} {ad : Nat → Nat} {ids : List Nat} (l : Launch) (hI : ∀ c, c < 35 → c ∈ ids) : ∀ d : Nat, (∀ {σ : St} {post : Int32 → St → Prop} {sz : Nat}, wgR d 0  σ post → Met l yX12_either wsX12_either (rmgR d) (va_Pc [.ref (ad 0)] (xIn D KA zs layR stR ad ids sz σ)) (va_Qi post (xOut D KA layR stR ad ids) (xA ad ids sz)) 0 0 (xA ad ids sz)) ∧ (∀ {σ : St} {post : Int32 → St → Prop} {sz : Nat}, wgR d 1  σ post → Met l yX12_both wsX12_both (rmgR d) (va_Pc [.ref (ad 0)] (xIn D KA zs layR stR ad ids sz σ)) (va_Qi post (xOut D KA layR stR ad ids) (xA ad ids sz)) 0 0 (xA ad ids sz)) ∧ (∀ {σ : St} {post : Int32 → St → Prop} {sz : Nat}, wgR d 2  σ post → Met l yX12_not wsX12_not (rmgR d) (va_Pc [.ref (ad 0)] (xIn D KA zs layR stR ad ids sz σ)) (va_Qi post (xOut D KA layR stR ad ids) (xA ad ids sz)) 0 0 (xA ad ids sz)) ∧ (∀ {σ : St} {post : Int32 → St → Prop} {sz : Nat}, wgR d 3  σ post → Met l yX12_added wsX12_added (rmgR d) (va_Pc [.ref (ad 0)] (xIn D KA zs layR stR ad ids sz σ)) (va_Qi post (xOut D KA layR stR ad ids) (xA ad ids sz)) 0 0 (xA ad ids sz)) ∧ (∀ {σ : St} {post : Int32 → St → Prop} {sz : Nat}, wgR d 4  σ post → Met l yX12_term wsX12_term (rmgR d) (va_Pc [.ref (ad 0)] (xIn D KA zs layR stR ad ids sz σ)) (va_Qi post (xOut D KA layR stR ad ids) (xA ad ids sz)) 0 0 (xA ad ids sz)) ∧ (∀ {σ : St} {post : Int32 → St → Prop} {sz : Nat}, wgR d 5  σ post → Met l yX12_one wsX12_one (rmgR d) (va_Pc [.ref (ad 0)] (xIn D KA zs layR stR ad ids sz σ)) (va_Qi post (xOut D KA layR stR ad ids) (xA ad ids sz)) 0 0 (xA ad ids sz)) := by
  intro d
  induction d with
  | zero => exact ⟨fun h => (h : False).elim, fun h => (h : False).elim, fun h => (h : False).elim, fun h => (h : False).elim, fun h => (h : False).elim, fun h => (h : False).elim⟩
  | succ d ih =>
    obtain ⟨ih0, ih1, ih2, ih3, ih4, ih5⟩ := ih
    exact ⟨fun h => JO_X12_either l hI d (rec := wgR d) (fun h => ih0 h) (fun h => ih1 h) (fun h => ih2 h) (fun h => ih3 h) (fun h => ih4 h) (fun h => ih5 h) h, fun h => JO_X12_both l hI d (rec := wgR d) (fun h => ih0 h) (fun h => ih1 h) (fun h => ih2 h) (fun h => ih3 h) (fun h => ih4 h) (fun h => ih5 h) h, fun h => JO_X12_not l hI d (rec := wgR d) (fun h => ih0 h) (fun h => ih1 h) (fun h => ih2 h) (fun h => ih3 h) (fun h => ih4 h) (fun h => ih5 h) h, fun h => JO_X12_added l hI d (rec := wgR d) (fun h => ih0 h) (fun h => ih1 h) (fun h => ih2 h) (fun h => ih3 h) (fun h => ih4 h) (fun h => ih5 h) h, fun h => JO_X12_term l hI d (rec := wgR d) (fun h => ih0 h) (fun h => ih1 h) (fun h => ih2 h) (fun h => ih3 h) (fun h => ih4 h) (fun h => ih5 h) h, fun h => JO_X12_one l hI d (rec := wgR d) (fun h => ih0 h) (fun h => ih1 h) (fun h => ih2 h) (fun h => ih3 h) (fun h => ih4 h) (fun h => ih5 h) h⟩
theorem JGR_0 {D : va_G} {KA : Nat → ClassId} {zs : ZS} {ad : Nat → Nat} {ids : List Nat} (l : Launch) (hI : ∀ c, c < 35 → c ∈ ids) {σ : St} {post : Int32 → St → Prop} {sz : Nat} (h : wgR 100 0  σ post) : Met l yX12_either wsX12_either (rmgR 100) (va_Pc [.ref (ad 0)] (xIn D KA zs layR stR ad ids sz σ)) (va_Qi post (xOut D KA layR stR ad ids) (xA ad ids sz)) 0 0 (xA ad ids sz) := (JGR l hI 100).1 h
theorem JGR_1 {D : va_G} {KA : Nat → ClassId} {zs : ZS} {ad : Nat → Nat} {ids : List Nat} (l : Launch) (hI : ∀ c, c < 35 → c ∈ ids) {σ : St} {post : Int32 → St → Prop} {sz : Nat} (h : wgR 100 1  σ post) : Met l yX12_both wsX12_both (rmgR 100) (va_Pc [.ref (ad 0)] (xIn D KA zs layR stR ad ids sz σ)) (va_Qi post (xOut D KA layR stR ad ids) (xA ad ids sz)) 0 0 (xA ad ids sz) := (JGR l hI 100).2.1 h
theorem JGR_2 {D : va_G} {KA : Nat → ClassId} {zs : ZS} {ad : Nat → Nat} {ids : List Nat} (l : Launch) (hI : ∀ c, c < 35 → c ∈ ids) {σ : St} {post : Int32 → St → Prop} {sz : Nat} (h : wgR 100 2  σ post) : Met l yX12_not wsX12_not (rmgR 100) (va_Pc [.ref (ad 0)] (xIn D KA zs layR stR ad ids sz σ)) (va_Qi post (xOut D KA layR stR ad ids) (xA ad ids sz)) 0 0 (xA ad ids sz) := (JGR l hI 100).2.2.1 h
theorem JGR_3 {D : va_G} {KA : Nat → ClassId} {zs : ZS} {ad : Nat → Nat} {ids : List Nat} (l : Launch) (hI : ∀ c, c < 35 → c ∈ ids) {σ : St} {post : Int32 → St → Prop} {sz : Nat} (h : wgR 100 3  σ post) : Met l yX12_added wsX12_added (rmgR 100) (va_Pc [.ref (ad 0)] (xIn D KA zs layR stR ad ids sz σ)) (va_Qi post (xOut D KA layR stR ad ids) (xA ad ids sz)) 0 0 (xA ad ids sz) := (JGR l hI 100).2.2.2.1 h
theorem JGR_4 {D : va_G} {KA : Nat → ClassId} {zs : ZS} {ad : Nat → Nat} {ids : List Nat} (l : Launch) (hI : ∀ c, c < 35 → c ∈ ids) {σ : St} {post : Int32 → St → Prop} {sz : Nat} (h : wgR 100 4  σ post) : Met l yX12_term wsX12_term (rmgR 100) (va_Pc [.ref (ad 0)] (xIn D KA zs layR stR ad ids sz σ)) (va_Qi post (xOut D KA layR stR ad ids) (xA ad ids sz)) 0 0 (xA ad ids sz) := (JGR l hI 100).2.2.2.2.1 h
theorem JGR_5 {D : va_G} {KA : Nat → ClassId} {zs : ZS} {ad : Nat → Nat} {ids : List Nat} (l : Launch) (hI : ∀ c, c < 35 → c ∈ ids) {σ : St} {post : Int32 → St → Prop} {sz : Nat} (h : wgR 100 5  σ post) : Met l yX12_one wsX12_one (rmgR 100) (va_Pc [.ref (ad 0)] (xIn D KA zs layR stR ad ids sz σ)) (va_Qi post (xOut D KA layR stR ad ids) (xA ad ids sz)) 0 0 (xA ad ids sz) := (JGR l hI 100).2.2.2.2.2 h
theorem hwX12_cutTurns_0 : (.fieldLink RX12 74 "FortyBeltsModel" "above" "[J" : Cond) ∈ wsX12_cutTurns := (List.mem_cons_of_mem _ (List.mem_append_left _ (List.mem_of_getElem? (i := 0) rfl)))
theorem hwX12_cutTurns_1 : (.fieldLink RX12 78 "FortyBeltsModel" "below" "[J" : Cond) ∈ wsX12_cutTurns := (List.mem_cons_of_mem _ (List.mem_append_left _ (List.mem_of_getElem? (i := 1) rfl)))
theorem hwX12_cutTurns_2 : (.constantLong RX12 214 (1000000) : Cond) ∈ wsX12_cutTurns := (List.mem_cons_of_mem _ (List.mem_append_left _ (List.mem_of_getElem? (i := 2) rfl)))
theorem hcX12_cutTurns_X12 : ∀ w ∈ wsX120, w ∈ wsX12_cutTurns := fun _ h => (List.mem_cons_of_mem _ (List.mem_append_right _ h))
set_option maxHeartbeats 4000000 in
set_option maxRecDepth 100000 in
theorem J_X12_cutTurns {D : va_G} {KA : Nat → ClassId} {zs : ZS} {ad : Nat → Nat} {ids : List Nat} {sz : Nat} (l : Launch) (hI : ∀ c, c < 35 → c ∈ ids) {a1 : Int32}  {σ : St} {post : Int32 → St → Prop} (h : wX12_cutTurns  a1 σ post) : Met l yX12_cutTurns wsX12_cutTurns rmX12_cutTurns (va_Pc [.ref (ad 0), .int a1] (xIn D KA zs layR stR ad ids sz σ)) (va_Qi post (xOut D KA layR stR ad ids) (xA ad ids sz)) 0 0 (xA ad ids sz) := by
  refine Met.ofW (cc := cX12_cutTurns) (maxL := 2) (ret := (some .int)) (by decide) rfl ?_
  intro p e s m args below meth c s₁ B hml hv
  obtain ⟨hav, hsz, hK, hZ, hP, hD⟩ := hv
  have hx := B.exec
  have hb := B.bytes
  have hr := B.returns
  have hts := atoms_spec (ws := wsX12_cutTurns) B.pre
  have hown : s.vm.findClass RX12 = some m.cls := findClass_of_methodNamed B.named
  have hlocks := B.notSynchronized
  subst hsz
  have hA : ∀ q : Nat, s.heap.size ≤ q → xA ad ids s.heap.size q := fun q h => Or.inr h
  have hW : xW D KA layR stR ad ids (xA ad ids s.heap.size) s.heap σ s.heap [] := ⟨hP, xA_D (D := D) hD, va_S.rf⟩
  have kr : ∀ (v : Int32) (σ : St) (H : Heap) (locs : List Loc) (ls : Array Slot) (pc : Nat), xW D KA layR stR ad ids (xA ad ids s.heap.size) s.heap σ H locs → post v σ → decode cX12_cutTurns pc = .ok (.ireturn, 1) → W p l e rmX12_cutTurns s m args below meth c H locs 0 0 (MQ below (va_Qi post (xOut D KA layR stR ad ids) (xA ad ids s.heap.size)) args s 0 0 (xA ad ids s.heap.size)) (F0 m pc ls [.int v]) := fun v σ H locs ls pc hW h hd => x_iret hx hb hr hlocks hW h hd
  have hl := lv_entry ([.ref (ad 0), .int a1]) (n := 2) (Nat.le_of_ble_eq_true rfl)
  rw [show entryFrame m args 2 = entryFrame m ([.ref (ad 0), .int a1] : List Value).toArray 2 from by rw [hav]]
  rw [lg_entry_eq]
  generalize (lg_sl ([.ref (ad 0), .int a1]) ++ List.replicate (2 - (lg_sl ([.ref (ad 0), .int a1])).length) Slot.unset).toArray = ls at hl ⊢
  have hl : lv_has ls 2 [(0, .ref (ad 0)), (1, .int a1)] := hl
  show W p l e rmX12_cutTurns s m args below meth c s.heap [] 0 0 _ _
  generalize MQ below (va_Qi post (xOut D KA layR stR ad ids) (xA ad ids s.heap.size)) args s 0 0 (xA ad ids s.heap.size) = Q at kr ⊢
  have blk39 : ∀ (s0 : Int64) (σ : St) (H : Heap) (locs : List Loc) (ls : Array Slot), xW D KA layR stR ad ids (xA ad ids s.heap.size) s.heap σ H locs → lv_has ls 2 [] → wX12_cutTurns_39 post s0 σ → W p l e rmX12_cutTurns s m args below meth c H locs 0 0 Q (F0 m 39 ls [.long s0]) := by
    intro   s0 σ H locs ls hW hl h
    unfold wX12_cutTurns_39 at h
    refine lv_l2i hx hb dX12_cutTurns_39 rfl ?_
    exact kr _ _ _ _ _ _ hW h dX12_cutTurns_40
  have main : ∀ (H : Heap) (locs : List Loc) (ls : Array Slot), xW D KA layR stR ad ids (xA ad ids s.heap.size) s.heap σ H locs → lv_has ls 2 [(0, .ref (ad 0)), (1, .int a1)] → W p l e rmX12_cutTurns s m args below meth c H locs 0 0 Q (F0 m 0 ls []) := by
    intro H locs ls hW hl
    unfold wX12_cutTurns at h
    refine lv_aload_n hx hb dX12_cutTurns_0 rfl (lv_at hl 0 rfl) ?_
    refine xgX12_31r hx hb hts hown hK hW 0 hcX12_cutTurns_X12 (hI 0 (by decide)) lR_0 (hts _ hwX12_cutTurns_0) (sR_0_31 _) dX12_cutTurns_1 ?_
    refine lv_iload_n hx hb dX12_cutTurns_4 rfl (lv_at hl 1 rfl) ?_
    obtain ⟨hi1001, h⟩ := h
    refine x_lald hx hb hK hW 20 (hI 20 (by decide)) lR_20 hi1001 dX12_cutTurns_5 ?_
    refine lv_aload_n hx hb dX12_cutTurns_6 rfl (lv_at hl 0 rfl) ?_
    refine xgX12_32r hx hb hts hown hK hW 0 hcX12_cutTurns_X12 (hI 0 (by decide)) lR_0 (hts _ hwX12_cutTurns_1) (sR_0_32 _) dX12_cutTurns_7 ?_
    refine lv_iload_n hx hb dX12_cutTurns_10 rfl (lv_at hl 1 rfl) ?_
    refine x_lald hx hb hK hW 21 (hI 21 (by decide)) lR_21 hi1001 dX12_cutTurns_11 ?_
    obtain ⟨hd1003, h⟩ := h
    refine lv_ldiv hx hb dX12_cutTurns_12 hd1003 ?_
    refine lv_ldc2 hx hb hown (hts _ hwX12_cutTurns_2) dX12_cutTurns_13 ?_
    refine W.lcmp hx hb dX12_cutTurns_16 ?_
    refine lv_if_le (tgt := 26) hx hb dX12_cutTurns_17 (by decide) (fun c1004 => ?_) (fun c1004 => ?_)
    · have h := h.1 c1004
      refine lv_aload_n hx hb dX12_cutTurns_26 rfl (lv_at hl 0 rfl) ?_
      refine xgX12_31r hx hb hts hown hK hW 0 hcX12_cutTurns_X12 (hI 0 (by decide)) lR_0 (hts _ hwX12_cutTurns_0) (sR_0_31 _) dX12_cutTurns_27 ?_
      refine lv_iload_n hx hb dX12_cutTurns_30 rfl (lv_at hl 1 rfl) ?_
      refine x_lald hx hb hK hW 20 (hI 20 (by decide)) lR_20 hi1001 dX12_cutTurns_31 ?_
      refine lv_aload_n hx hb dX12_cutTurns_32 rfl (lv_at hl 0 rfl) ?_
      refine xgX12_32r hx hb hts hown hK hW 0 hcX12_cutTurns_X12 (hI 0 (by decide)) lR_0 (hts _ hwX12_cutTurns_1) (sR_0_32 _) dX12_cutTurns_33 ?_
      refine lv_iload_n hx hb dX12_cutTurns_36 rfl (lv_at hl 1 rfl) ?_
      refine x_lald hx hb hK hW 21 (hI 21 (by decide)) lR_21 hi1001 dX12_cutTurns_37 ?_
      refine lv_ldiv hx hb dX12_cutTurns_38 hd1003 ?_
      exact blk39   ((gJ σ 20 a1.toNatClampNeg) / (gJ σ 21 a1.toNatClampNeg)) _ _ _ _ hW (lv_sub hl [] rfl) h
    · have h := h.2 c1004
      refine lv_ldc2 hx hb hown (hts _ hwX12_cutTurns_2) dX12_cutTurns_20 ?_
      refine lv_goto (tgt := 39) hx hb dX12_cutTurns_23 (by decide) ?_
      exact blk39   (1000000 : Int64) _ _ _ _ hW (lv_sub hl [] rfl) h
  exact main _ _ _ hW hl
theorem hwX12_loaded_0 : (.fieldLink RX12 29 "FortyBeltsModel" "shaftOf" "[I" : Cond) ∈ wsX12_loaded := (List.mem_cons_of_mem _ (List.mem_append_left _ (List.mem_of_getElem? (i := 4) rfl)))
theorem hwX12_loaded_1 : (.constantLong RX12 222 (100) : Cond) ∈ wsX12_loaded := (List.mem_cons_of_mem _ (List.mem_append_left _ (List.mem_of_getElem? (i := 5) rfl)))
theorem hwX12_loaded_2 : (.fieldLink RX12 44 "FortyBeltsModel" "isRun" "[I" : Cond) ∈ wsX12_loaded := (List.mem_cons_of_mem _ (List.mem_append_left _ (List.mem_of_getElem? (i := 0) rfl)))
theorem hwX12_loaded_3 : (.fieldLink RX12 32 "FortyBeltsModel" "load" "[I" : Cond) ∈ wsX12_loaded := (List.mem_cons_of_mem _ (List.mem_append_left _ (List.mem_of_getElem? (i := 1) rfl)))
theorem hwX12_loaded_4 : (.fieldLink RX12 84 "FortyBeltsModel" "moreAt" "I" : Cond) ∈ wsX12_loaded := (List.mem_cons_of_mem _ (List.mem_append_left _ (List.mem_of_getElem? (i := 2) rfl)))
theorem hwX12_loaded_5 : (.fieldLink RX12 216 "FortyBeltsModel" "more" "I" : Cond) ∈ wsX12_loaded := (List.mem_cons_of_mem _ (List.mem_append_left _ (List.mem_of_getElem? (i := 3) rfl)))
theorem hcX12_loaded_X12 : ∀ w ∈ wsX120, w ∈ wsX12_loaded := fun _ h => (List.mem_cons_of_mem _ (List.mem_append_right _ h))
set_option maxHeartbeats 4000000 in
set_option maxRecDepth 100000 in
theorem J_X12_loaded {D : va_G} {KA : Nat → ClassId} {zs : ZS} {ad : Nat → Nat} {ids : List Nat} {sz : Nat} (l : Launch) (hI : ∀ c, c < 35 → c ∈ ids) {a1 : Int32}  {σ : St} {post : Int32 → St → Prop} (h : wX12_loaded  a1 σ post) : Met l yX12_loaded wsX12_loaded rmX12_loaded (va_Pc [.ref (ad 0), .int a1] (xIn D KA zs layR stR ad ids sz σ)) (va_Qi post (xOut D KA layR stR ad ids) (xA ad ids sz)) 0 0 (xA ad ids sz) := by
  refine Met.ofW (cc := cX12_loaded) (maxL := 2) (ret := (some .int)) (by decide) rfl ?_
  intro p e s m args below meth c s₁ B hml hv
  obtain ⟨hav, hsz, hK, hZ, hP, hD⟩ := hv
  have hx := B.exec
  have hb := B.bytes
  have hr := B.returns
  have hts := atoms_spec (ws := wsX12_loaded) B.pre
  have hown : s.vm.findClass RX12 = some m.cls := findClass_of_methodNamed B.named
  have hlocks := B.notSynchronized
  subst hsz
  have hA : ∀ q : Nat, s.heap.size ≤ q → xA ad ids s.heap.size q := fun q h => Or.inr h
  have hW : xW D KA layR stR ad ids (xA ad ids s.heap.size) s.heap σ s.heap [] := ⟨hP, xA_D (D := D) hD, va_S.rf⟩
  have kr : ∀ (v : Int32) (σ : St) (H : Heap) (locs : List Loc) (ls : Array Slot) (pc : Nat), xW D KA layR stR ad ids (xA ad ids s.heap.size) s.heap σ H locs → post v σ → decode cX12_loaded pc = .ok (.ireturn, 1) → W p l e rmX12_loaded s m args below meth c H locs 0 0 (MQ below (va_Qi post (xOut D KA layR stR ad ids) (xA ad ids s.heap.size)) args s 0 0 (xA ad ids s.heap.size)) (F0 m pc ls [.int v]) := fun v σ H locs ls pc hW h hd => x_iret hx hb hr hlocks hW h hd
  have hl := lv_entry ([.ref (ad 0), .int a1]) (n := 2) (Nat.le_of_ble_eq_true rfl)
  rw [show entryFrame m args 2 = entryFrame m ([.ref (ad 0), .int a1] : List Value).toArray 2 from by rw [hav]]
  rw [lg_entry_eq]
  generalize (lg_sl ([.ref (ad 0), .int a1]) ++ List.replicate (2 - (lg_sl ([.ref (ad 0), .int a1])).length) Slot.unset).toArray = ls at hl ⊢
  have hl : lv_has ls 2 [(0, .ref (ad 0)), (1, .int a1)] := hl
  show W p l e rmX12_loaded s m args below meth c s.heap [] 0 0 _ _
  generalize MQ below (va_Qi post (xOut D KA layR stR ad ids) (xA ad ids s.heap.size)) args s 0 0 (xA ad ids s.heap.size) = Q at kr ⊢
  have blk54 : ∀ (s0 : Int32) (σ : St) (H : Heap) (locs : List Loc) (ls : Array Slot), xW D KA layR stR ad ids (xA ad ids s.heap.size) s.heap σ H locs → lv_has ls 2 [] → wX12_loaded_54 post s0 σ → W p l e rmX12_loaded s m args below meth c H locs 0 0 Q (F0 m 54 ls [.int s0]) := by
    intro   s0 σ H locs ls hW hl h
    unfold wX12_loaded_54 at h
    exact kr _ _ _ _ _ _ hW h dX12_loaded_54
  have blk35 : ∀ (x1 : Int32) (s0 : Int32) (s1 : Int32) (σ : St) (H : Heap) (locs : List Loc) (ls : Array Slot), xW D KA layR stR ad ids (xA ad ids s.heap.size) s.heap σ H locs → lv_has ls 2 [(0, .ref (ad 0)), (1, .int x1)] → wX12_loaded_35 post x1 s0 s1 σ → W p l e rmX12_loaded s m args below meth c H locs 0 0 Q (F0 m 35 ls [.int s1, .int s0]) := by
    intro   x1 s0 s1 σ H locs ls hW hl h
    unfold wX12_loaded_35 at h
    refine lv_iadd hx hb dX12_loaded_35 ?_
    refine lv_i2l hx hb dX12_loaded_36 rfl ?_
    refine lv_aload_n hx hb dX12_loaded_37 rfl (lv_at hl 0 rfl) ?_
    refine lv_aload_n hx hb dX12_loaded_38 rfl (lv_at hl 0 rfl) ?_
    refine xgX12_12r hx hb hts hown hK hW 0 hcX12_loaded_X12 (hI 0 (by decide)) lR_0 (hts _ hwX12_loaded_0) (sR_0_12 _) dX12_loaded_39 ?_
    refine lv_iload_n hx hb dX12_loaded_42 rfl (lv_at hl 1 rfl) ?_
    obtain ⟨hi1, h⟩ := h
    refine x_iald hx hb hK hW 6 (hI 6 (by decide)) lR_6 hi1 dX12_loaded_43 ?_
    refine x_calli (va_runV (As := [.int (gI σ 6 x1.toNatClampNeg)]) (rest := [.long ((s0 + s1).toInt64)]) ⟨hx, hb, hml, hown, hts⟩ (J_X12_cutTurns l hI h) (cwV 1 hts gX12_loaded_X12_cutTurns rfl rfl rfl hdV_X12_cutTurns ⟨Nat.le_of_ble_eq_true rfl, Nat.le_of_ble_eq_true rfl⟩) (x_preV (ci := 12) hK hZ hA hW (hI 0 (by decide)) lR_0 rfl) rfl rfl hl.1 rfl (lv_room (Nat.le_of_ble_eq_true rfl)) dX12_loaded_44 ⟨Nat.zero_le _, Nat.zero_le _⟩) hW hA (fun r3 σ2 H locs h hW => ?_)
    try dsimp only at h
    refine lv_i2l hx hb dX12_loaded_47 rfl ?_
    refine lv_lmul hx hb dX12_loaded_48 ?_
    refine lv_ldc2 hx hb hown (hts _ hwX12_loaded_1) dX12_loaded_49 ?_
    refine lv_ldiv hx hb dX12_loaded_52 (by decide) ?_
    refine lv_l2i hx hb dX12_loaded_53 rfl ?_
    exact blk54   (((((s0 + s1).toInt64) * (r3.toInt64)) / (100 : Int64)).toInt32) _ _ _ _ hW (lv_sub hl [] rfl) h
  have main : ∀ (H : Heap) (locs : List Loc) (ls : Array Slot), xW D KA layR stR ad ids (xA ad ids s.heap.size) s.heap σ H locs → lv_has ls 2 [(0, .ref (ad 0)), (1, .int a1)] → W p l e rmX12_loaded s m args below meth c H locs 0 0 Q (F0 m 0 ls []) := by
    intro H locs ls hW hl
    unfold wX12_loaded at h
    refine lv_aload_n hx hb dX12_loaded_0 rfl (lv_at hl 0 rfl) ?_
    refine xgX12_17r hx hb hts hown hK hW 0 hcX12_loaded_X12 (hI 0 (by decide)) lR_0 (hts _ hwX12_loaded_2) (sR_0_17 _) dX12_loaded_1 ?_
    refine lv_iload_n hx hb dX12_loaded_4 rfl (lv_at hl 1 rfl) ?_
    obtain ⟨hi1001, h⟩ := h
    refine x_iald hx hb hK hW 11 (hI 11 (by decide)) lR_11 hi1001 dX12_loaded_5 ?_
    refine lv_if_ne (tgt := 13) hx hb dX12_loaded_6 (by decide) (fun c1002 => ?_) (fun c1002 => ?_)
    · have h := h.1 c1002
      refine lv_aload_n hx hb dX12_loaded_13 rfl (lv_at hl 0 rfl) ?_
      refine xgX12_13r hx hb hts hown hK hW 0 hcX12_loaded_X12 (hI 0 (by decide)) lR_0 (hts _ hwX12_loaded_3) (sR_0_13 _) dX12_loaded_14 ?_
      refine lv_iload_n hx hb dX12_loaded_17 rfl (lv_at hl 1 rfl) ?_
      refine x_iald hx hb hK hW 7 (hI 7 (by decide)) lR_7 hi1001 dX12_loaded_18 ?_
      refine lv_iload_n hx hb dX12_loaded_19 rfl (lv_at hl 1 rfl) ?_
      refine lv_aload_n hx hb dX12_loaded_20 rfl (lv_at hl 0 rfl) ?_
      refine xgX12_34 hx hb hts hown hK hW 0 hcX12_loaded_X12 (hI 0 (by decide)) lR_0 (hts _ hwX12_loaded_4) dX12_loaded_21 ?_
      refine lv_icmp_ne (tgt := 34) hx hb dX12_loaded_24 (by decide) (fun c1004 => ?_) (fun c1004 => ?_)
      · have h := h.1 c1004
        refine lv_iconst (v := 0) hx hb dX12_loaded_34 (by decide) ?_
        exact blk35   a1 (gI σ 7 a1.toNatClampNeg) (0 : Int32) _ _ _ _ hW (lv_sub hl [0, 1] rfl) h
      · have h := h.2 c1004
        refine lv_aload_n hx hb dX12_loaded_27 rfl (lv_at hl 0 rfl) ?_
        refine xgX12_35 hx hb hts hown hK hW 0 hcX12_loaded_X12 (hI 0 (by decide)) lR_0 (hts _ hwX12_loaded_5) dX12_loaded_28 ?_
        refine lv_goto (tgt := 35) hx hb dX12_loaded_31 (by decide) ?_
        exact blk35   a1 (gI σ 7 a1.toNatClampNeg) (gI σ 0 35) _ _ _ _ hW (lv_sub hl [0, 1] rfl) h
    · have h := h.2 c1002
      refine lv_iconst (v := 0) hx hb dX12_loaded_9 (by decide) ?_
      refine lv_goto (tgt := 54) hx hb dX12_loaded_10 (by decide) ?_
      exact blk54   (0 : Int32) _ _ _ _ hW (lv_sub hl [] rfl) h
  exact main _ _ _ hW hl
theorem hwX12_allLoaded_0 : (.fieldLink RX12 160 "FortyBeltsModel" "machines" "I" : Cond) ∈ wsX12_allLoaded := (List.mem_cons_of_mem _ (List.mem_append_left _ (List.mem_of_getElem? (i := 0) rfl)))
theorem hcX12_allLoaded_X12 : ∀ w ∈ wsX120, w ∈ wsX12_allLoaded := fun _ h => (List.mem_cons_of_mem _ (List.mem_append_right _ h))
set_option maxHeartbeats 4000000 in
set_option maxRecDepth 100000 in
theorem J_X12_allLoaded {D : va_G} {KA : Nat → ClassId} {zs : ZS} {ad : Nat → Nat} {ids : List Nat} {sz : Nat} (l : Launch) (hI : ∀ c, c < 35 → c ∈ ids)   {σ : St} {post : Int32 → St → Prop} (h : wX12_allLoaded   σ post) : Met l yX12_allLoaded wsX12_allLoaded rmX12_allLoaded (va_Pc [.ref (ad 0)] (xIn D KA zs layR stR ad ids sz σ)) (va_Qi post (xOut D KA layR stR ad ids) (xA ad ids sz)) 0 0 (xA ad ids sz) := by
  refine Met.ofW (cc := cX12_allLoaded) (maxL := 3) (ret := (some .int)) (by decide) rfl ?_
  intro p e s m args below meth c s₁ B hml hv
  obtain ⟨hav, hsz, hK, hZ, hP, hD⟩ := hv
  have hx := B.exec
  have hb := B.bytes
  have hr := B.returns
  have hts := atoms_spec (ws := wsX12_allLoaded) B.pre
  have hown : s.vm.findClass RX12 = some m.cls := findClass_of_methodNamed B.named
  have hlocks := B.notSynchronized
  subst hsz
  have hA : ∀ q : Nat, s.heap.size ≤ q → xA ad ids s.heap.size q := fun q h => Or.inr h
  have hW : xW D KA layR stR ad ids (xA ad ids s.heap.size) s.heap σ s.heap [] := ⟨hP, xA_D (D := D) hD, va_S.rf⟩
  have kr : ∀ (v : Int32) (σ : St) (H : Heap) (locs : List Loc) (ls : Array Slot) (pc : Nat), xW D KA layR stR ad ids (xA ad ids s.heap.size) s.heap σ H locs → post v σ → decode cX12_allLoaded pc = .ok (.ireturn, 1) → W p l e rmX12_allLoaded s m args below meth c H locs 0 0 (MQ below (va_Qi post (xOut D KA layR stR ad ids) (xA ad ids s.heap.size)) args s 0 0 (xA ad ids s.heap.size)) (F0 m pc ls [.int v]) := fun v σ H locs ls pc hW h hd => x_iret hx hb hr hlocks hW h hd
  have hl := lv_entry ([.ref (ad 0)]) (n := 3) (Nat.le_of_ble_eq_true rfl)
  rw [show entryFrame m args 3 = entryFrame m ([.ref (ad 0)] : List Value).toArray 3 from by rw [hav]]
  rw [lg_entry_eq]
  generalize (lg_sl ([.ref (ad 0)]) ++ List.replicate (3 - (lg_sl ([.ref (ad 0)])).length) Slot.unset).toArray = ls at hl ⊢
  have hl : lv_has ls 3 [(0, .ref (ad 0))] := hl
  show W p l e rmX12_allLoaded s m args below meth c s.heap [] 0 0 _ _
  generalize MQ below (va_Qi post (xOut D KA layR stR ad ids) (xA ad ids s.heap.size)) args s 0 0 (xA ad ids s.heap.size) = Q at kr ⊢
  have blk4 : ∀ (n : Nat) (x1 : Int32) (x2 : Int32) (σ : St) (H : Heap) (locs : List Loc) (ls : Array Slot), xW D KA layR stR ad ids (xA ad ids s.heap.size) s.heap σ H locs → lv_has ls 3 [(0, .ref (ad 0)), (1, .int x1), (2, .int x2)] → wX12_allLoaded_4 post  n x1 x2 σ → W p l e rmX12_allLoaded s m args below meth c H locs 0 0 Q (F0 m 4 ls []) := by
    intro    n
    induction n with
    | zero => intro x1 x2 σ H locs ls hW hl h; exact (h : False).elim
    | succ n ih =>
      intro x1 x2 σ H locs ls hW hl h
      have hk4 : ∀ (x1 : Int32) (x2 : Int32) (σ : St) (H : Heap) (locs : List Loc) (ls : Array Slot), xW D KA layR stR ad ids (xA ad ids s.heap.size) s.heap σ H locs → lv_has ls 3 [(0, .ref (ad 0)), (1, .int x1), (2, .int x2)] → (wX12_allLoaded_4 post  n) x1 x2 σ → W p l e rmX12_allLoaded s m args below meth c H locs 0 0 Q (F0 m 4 ls []) := fun x1 x2 σ H locs ls hW hl h => ih x1 x2 σ H locs ls hW hl h
      rw [wX12_allLoaded_4_s] at h
      try dsimp only at h
      generalize wX12_allLoaded_4 post  n = k4 at h hk4
      refine lv_iload_n hx hb dX12_allLoaded_4 rfl (lv_at hl 2 rfl) ?_
      refine lv_aload_n hx hb dX12_allLoaded_5 rfl (lv_at hl 0 rfl) ?_
      refine xgX12_18 hx hb hts hown hK hW 0 hcX12_allLoaded_X12 (hI 0 (by decide)) lR_0 (hts _ hwX12_allLoaded_0) dX12_allLoaded_6 ?_
      refine lv_icmp_ge (tgt := 26) hx hb dX12_allLoaded_9 (by decide) (fun c1 => ?_) (fun c1 => ?_)
      · have h := h.1 c1
        refine lv_iload_n hx hb dX12_allLoaded_26 rfl (lv_at hl 1 rfl) ?_
        exact kr _ _ _ _ _ _ hW h dX12_allLoaded_27
      · have h := h.2 c1
        refine lv_iload_n hx hb dX12_allLoaded_12 rfl (lv_at hl 1 rfl) ?_
        refine lv_aload_n hx hb dX12_allLoaded_13 rfl (lv_at hl 0 rfl) ?_
        refine lv_iload_n hx hb dX12_allLoaded_14 rfl (lv_at hl 2 rfl) ?_
        refine x_calli (va_runV (As := [.int x2]) (rest := [.int x1]) ⟨hx, hb, hml, hown, hts⟩ (J_X12_loaded l hI h) (cwV 1 hts gX12_allLoaded_X12_loaded rfl rfl rfl hdV_X12_loaded ⟨Nat.le_of_ble_eq_true rfl, Nat.le_of_ble_eq_true rfl⟩) (x_preV (ci := 12) hK hZ hA hW (hI 0 (by decide)) lR_0 rfl) rfl rfl hl.1 rfl (lv_room (Nat.le_of_ble_eq_true rfl)) dX12_allLoaded_15 ⟨Nat.zero_le _, Nat.zero_le _⟩) hW hA (fun r3 σ2 H locs h hW => ?_)
        try dsimp only at h
        refine lv_iadd hx hb dX12_allLoaded_18 ?_
        refine lv_topi (fun v4 hv4 => ?_)
        have h := h v4 hv4
        refine lv_istore_n (lv' := [(1, .int v4), (0, .ref (ad 0)), (2, .int x2)]) hx hb dX12_allLoaded_19 rfl hl (by decide) rfl (fun ls hl => ?_)
        obtain ⟨v5, hv5⟩ : ∃ y : Int32, y = x2 + (1 : Int32) := ⟨_, rfl⟩
        have h := h v5 hv5
        refine lv_iinc (v := v5) (lv' := [(2, .int v5), (1, .int v4), (0, .ref (ad 0))]) hx hb dX12_allLoaded_20 hl (k := 2) rfl (by rw [hv5]; rfl) (by decide) rfl (fun ls hl => ?_)
        refine lv_goto (tgt := 4) hx hb dX12_allLoaded_23 (by decide) ?_
        exact hk4 v4 v5 _ _ _ _ hW (lv_sub hl [2, 1, 0] rfl) h
  have main : ∀ (H : Heap) (locs : List Loc) (ls : Array Slot), xW D KA layR stR ad ids (xA ad ids s.heap.size) s.heap σ H locs → lv_has ls 3 [(0, .ref (ad 0))] → W p l e rmX12_allLoaded s m args below meth c H locs 0 0 Q (F0 m 0 ls []) := by
    intro H locs ls hW hl
    unfold wX12_allLoaded at h
    refine lv_iconst (v := 0) hx hb dX12_allLoaded_0 (by decide) ?_
    refine lv_istore_n (lv' := [(1, .int (0 : Int32)), (0, .ref (ad 0))]) hx hb dX12_allLoaded_1 rfl hl (by decide) rfl (fun ls hl => ?_)
    refine lv_iconst (v := 0) hx hb dX12_allLoaded_2 (by decide) ?_
    refine lv_istore_n (lv' := [(2, .int (0 : Int32)), (1, .int (0 : Int32)), (0, .ref (ad 0))]) hx hb dX12_allLoaded_3 rfl hl (by decide) rfl (fun ls hl => ?_)
    obtain ⟨n, h⟩ := h
    exact blk4    n (0 : Int32) (0 : Int32) _ _ _ _ hW (lv_sub hl [2, 1, 0] rfl) h
  exact main _ _ _ hW hl
theorem hwX12_isTwice_0 : (.fieldLink RX12 166 "FortyBeltsModel" "belts" "I" : Cond) ∈ wsX12_isTwice := (List.mem_cons_of_mem _ (List.mem_append_left _ (List.mem_of_getElem? (i := 0) rfl)))
theorem hwX12_isTwice_1 : (.fieldLink RX12 59 "FortyBeltsModel" "drumA" "[I" : Cond) ∈ wsX12_isTwice := (List.mem_cons_of_mem _ (List.mem_append_left _ (List.mem_of_getElem? (i := 1) rfl)))
theorem hwX12_isTwice_2 : (.fieldLink RX12 62 "FortyBeltsModel" "drumB" "[I" : Cond) ∈ wsX12_isTwice := (List.mem_cons_of_mem _ (List.mem_append_left _ (List.mem_of_getElem? (i := 2) rfl)))
theorem hcX12_isTwice_X12 : ∀ w ∈ wsX120, w ∈ wsX12_isTwice := fun _ h => (List.mem_cons_of_mem _ (List.mem_append_right _ h))
set_option maxHeartbeats 4000000 in
set_option maxRecDepth 100000 in
theorem J_X12_isTwice {D : va_G} {KA : Nat → ClassId} {zs : ZS} {ad : Nat → Nat} {ids : List Nat} {sz : Nat} (l : Launch) (hI : ∀ c, c < 35 → c ∈ ids) {a1 : Int32}  {σ : St} {post : Int32 → St → Prop} (h : wX12_isTwice  a1 σ post) : Met l yX12_isTwice wsX12_isTwice rmX12_isTwice (va_Pc [.ref (ad 0), .int a1] (xIn D KA zs layR stR ad ids sz σ)) (va_Qi post (xOut D KA layR stR ad ids) (xA ad ids sz)) 0 0 (xA ad ids sz) := by
  refine Met.ofW (cc := cX12_isTwice) (maxL := 4) (ret := (some .boolean)) (by decide) rfl ?_
  intro p e s m args below meth c s₁ B hml hv
  obtain ⟨hav, hsz, hK, hZ, hP, hD⟩ := hv
  have hx := B.exec
  have hb := B.bytes
  have hr := B.returns
  have hts := atoms_spec (ws := wsX12_isTwice) B.pre
  have hown : s.vm.findClass RX12 = some m.cls := findClass_of_methodNamed B.named
  have hlocks := B.notSynchronized
  subst hsz
  have hA : ∀ q : Nat, s.heap.size ≤ q → xA ad ids s.heap.size q := fun q h => Or.inr h
  have hW : xW D KA layR stR ad ids (xA ad ids s.heap.size) s.heap σ s.heap [] := ⟨hP, xA_D (D := D) hD, va_S.rf⟩
  have kr : ∀ (v : Int32) (σ : St) (H : Heap) (locs : List Loc) (ls : Array Slot) (pc : Nat), xW D KA layR stR ad ids (xA ad ids s.heap.size) s.heap σ H locs → isB v → post v σ → decode cX12_isTwice pc = .ok (.ireturn, 1) → W p l e rmX12_isTwice s m args below meth c H locs 0 0 (MQ below (va_Qi post (xOut D KA layR stR ad ids) (xA ad ids s.heap.size)) args s 0 0 (xA ad ids s.heap.size)) (F0 m pc ls [.int v]) := fun v σ H locs ls pc hW hz h hd => x_zret hx hb hr hlocks hW hz h hd
  have hl := lv_entry ([.ref (ad 0), .int a1]) (n := 4) (Nat.le_of_ble_eq_true rfl)
  rw [show entryFrame m args 4 = entryFrame m ([.ref (ad 0), .int a1] : List Value).toArray 4 from by rw [hav]]
  rw [lg_entry_eq]
  generalize (lg_sl ([.ref (ad 0), .int a1]) ++ List.replicate (4 - (lg_sl ([.ref (ad 0), .int a1])).length) Slot.unset).toArray = ls at hl ⊢
  have hl : lv_has ls 4 [(0, .ref (ad 0)), (1, .int a1)] := hl
  show W p l e rmX12_isTwice s m args below meth c s.heap [] 0 0 _ _
  generalize MQ below (va_Qi post (xOut D KA layR stR ad ids) (xA ad ids s.heap.size)) args s 0 0 (xA ad ids s.heap.size) = Q at kr ⊢
  have blk56 : ∀ (s0 : Int32) (σ : St) (H : Heap) (locs : List Loc) (ls : Array Slot), xW D KA layR stR ad ids (xA ad ids s.heap.size) s.heap σ H locs → lv_has ls 4 [] → wX12_isTwice_56 post s0 σ → W p l e rmX12_isTwice s m args below meth c H locs 0 0 Q (F0 m 56 ls [.int s0]) := by
    intro   s0 σ H locs ls hW hl h
    unfold wX12_isTwice_56 at h
    obtain ⟨hz1, h⟩ := h
    exact kr _ _ _ _ _ _ hW hz1 h dX12_isTwice_56
  have blk38 : ∀ (x1 : Int32) (k4 : Int32 → Int32 → St → Prop) (hk4 : ∀ (x2 : Int32) (x3 : Int32) (σ : St) (H : Heap) (locs : List Loc) (ls : Array Slot), xW D KA layR stR ad ids (xA ad ids s.heap.size) s.heap σ H locs → lv_has ls 4 [(0, .ref (ad 0)), (1, .int x1), (2, .int x2), (3, .int x3)] → k4 x2 x3 σ → W p l e rmX12_isTwice s m args below meth c H locs 0 0 Q (F0 m 4 ls [])) (x3 : Int32) (s0 : Int32) (s1 : Int32) (σ : St) (H : Heap) (locs : List Loc) (ls : Array Slot), xW D KA layR stR ad ids (xA ad ids s.heap.size) s.heap σ H locs → lv_has ls 4 [(0, .ref (ad 0)), (1, .int x1), (3, .int x3)] → wX12_isTwice_38 k4 post x1 x3 s0 s1 σ → W p l e rmX12_isTwice s m args below meth c H locs 0 0 Q (F0 m 38 ls [.int s1, .int s0]) := by
    intro x1 k4 hk4 x3 s0 s1 σ H locs ls hW hl h
    unfold wX12_isTwice_38 at h
    refine lv_iadd hx hb dX12_isTwice_38 ?_
    refine lv_topi (fun v2 hv2 => ?_)
    have h := h v2 hv2
    refine lv_istore_n (lv' := [(2, .int v2), (0, .ref (ad 0)), (1, .int x1), (3, .int x3)]) hx hb dX12_isTwice_39 rfl hl (by decide) rfl (fun ls hl => ?_)
    obtain ⟨v3, hv3⟩ : ∃ y : Int32, y = x3 + (1 : Int32) := ⟨_, rfl⟩
    have h := h v3 hv3
    refine lv_iinc (v := v3) (lv' := [(3, .int v3), (2, .int v2), (0, .ref (ad 0)), (1, .int x1)]) hx hb dX12_isTwice_40 hl (k := 3) rfl (by rw [hv3]; rfl) (by decide) rfl (fun ls hl => ?_)
    refine lv_goto (tgt := 4) hx hb dX12_isTwice_43 (by decide) ?_
    exact hk4 v2 v3 _ _ _ _ hW (lv_sub hl [2, 3, 1, 0] rfl) h
  have blk33 : ∀ (x1 : Int32) (k4 : Int32 → Int32 → St → Prop) (hk4 : ∀ (x2 : Int32) (x3 : Int32) (σ : St) (H : Heap) (locs : List Loc) (ls : Array Slot), xW D KA layR stR ad ids (xA ad ids s.heap.size) s.heap σ H locs → lv_has ls 4 [(0, .ref (ad 0)), (1, .int x1), (2, .int x2), (3, .int x3)] → k4 x2 x3 σ → W p l e rmX12_isTwice s m args below meth c H locs 0 0 Q (F0 m 4 ls [])) (x3 : Int32) (s0 : Int32) (σ : St) (H : Heap) (locs : List Loc) (ls : Array Slot), xW D KA layR stR ad ids (xA ad ids s.heap.size) s.heap σ H locs → lv_has ls 4 [(0, .ref (ad 0)), (1, .int x1), (3, .int x3)] → wX12_isTwice_33 k4 post x1 x3 s0 σ → W p l e rmX12_isTwice s m args below meth c H locs 0 0 Q (F0 m 33 ls [.int s0]) := by
    intro x1 k4 hk4 x3 s0 σ H locs ls hW hl h
    unfold wX12_isTwice_33 at h
    refine lv_iconst (v := 1) hx hb dX12_isTwice_33 (by decide) ?_
    refine lv_goto (tgt := 38) hx hb dX12_isTwice_34 (by decide) ?_
    exact blk38 x1 k4 hk4 x3 s0 (1 : Int32) _ _ _ _ hW (lv_sub hl [0, 1, 2] rfl) h
  have blk4 : ∀ (x1 : Int32) (n : Nat) (x2 : Int32) (x3 : Int32) (σ : St) (H : Heap) (locs : List Loc) (ls : Array Slot), xW D KA layR stR ad ids (xA ad ids s.heap.size) s.heap σ H locs → lv_has ls 4 [(0, .ref (ad 0)), (1, .int x1), (2, .int x2), (3, .int x3)] → wX12_isTwice_4 post x1 n x2 x3 σ → W p l e rmX12_isTwice s m args below meth c H locs 0 0 Q (F0 m 4 ls []) := by
    intro   x1 n
    induction n with
    | zero => intro x2 x3 σ H locs ls hW hl h; exact (h : False).elim
    | succ n ih =>
      intro x2 x3 σ H locs ls hW hl h
      have hk4 : ∀ (x2 : Int32) (x3 : Int32) (σ : St) (H : Heap) (locs : List Loc) (ls : Array Slot), xW D KA layR stR ad ids (xA ad ids s.heap.size) s.heap σ H locs → lv_has ls 4 [(0, .ref (ad 0)), (1, .int x1), (2, .int x2), (3, .int x3)] → (wX12_isTwice_4 post x1 n) x2 x3 σ → W p l e rmX12_isTwice s m args below meth c H locs 0 0 Q (F0 m 4 ls []) := fun x2 x3 σ H locs ls hW hl h => ih x2 x3 σ H locs ls hW hl h
      rw [wX12_isTwice_4_s] at h
      try dsimp only at h
      generalize wX12_isTwice_4 post x1 n = k4 at h hk4
      refine lv_iload_n hx hb dX12_isTwice_4 rfl (lv_at hl 3 rfl) ?_
      refine lv_aload_n hx hb dX12_isTwice_5 rfl (lv_at hl 0 rfl) ?_
      refine xgX12_28 hx hb hts hown hK hW 0 hcX12_isTwice_X12 (hI 0 (by decide)) lR_0 (hts _ hwX12_isTwice_0) dX12_isTwice_6 ?_
      refine lv_icmp_ge (tgt := 46) hx hb dX12_isTwice_9 (by decide) (fun c4 => ?_) (fun c4 => ?_)
      · have h := h.1 c4
        refine lv_iload_n hx hb dX12_isTwice_46 rfl (lv_at hl 2 rfl) ?_
        refine lv_iconst (v := 1) hx hb dX12_isTwice_47 (by decide) ?_
        refine lv_icmp_le (tgt := 55) hx hb dX12_isTwice_48 (by decide) (fun c5 => ?_) (fun c5 => ?_)
        · have h := h.1 c5
          refine lv_iconst (v := 0) hx hb dX12_isTwice_55 (by decide) ?_
          exact blk56   (0 : Int32) _ _ _ _ hW (lv_sub hl [] rfl) h
        · have h := h.2 c5
          refine lv_iconst (v := 1) hx hb dX12_isTwice_51 (by decide) ?_
          refine lv_goto (tgt := 56) hx hb dX12_isTwice_52 (by decide) ?_
          exact blk56   (1 : Int32) _ _ _ _ hW (lv_sub hl [] rfl) h
      · have h := h.2 c4
        refine lv_iload_n hx hb dX12_isTwice_12 rfl (lv_at hl 2 rfl) ?_
        refine lv_aload_n hx hb dX12_isTwice_13 rfl (lv_at hl 0 rfl) ?_
        refine xgX12_24r hx hb hts hown hK hW 0 hcX12_isTwice_X12 (hI 0 (by decide)) lR_0 (hts _ hwX12_isTwice_1) (sR_0_24 _) dX12_isTwice_14 ?_
        refine lv_iload_n hx hb dX12_isTwice_17 rfl (lv_at hl 3 rfl) ?_
        obtain ⟨hi6, h⟩ := h
        refine x_iald hx hb hK hW 16 (hI 16 (by decide)) lR_16 hi6 dX12_isTwice_18 ?_
        refine lv_iload_n hx hb dX12_isTwice_19 rfl (lv_at hl 1 rfl) ?_
        refine lv_icmp_eq (tgt := 33) hx hb dX12_isTwice_20 (by decide) (fun c7 => ?_) (fun c7 => ?_)
        · have h := h.1 c7
          exact blk33 x1 k4 hk4 x3 x2 _ _ _ _ hW (lv_sub hl [0, 1, 3] rfl) h
        · have h := h.2 c7
          refine lv_aload_n hx hb dX12_isTwice_23 rfl (lv_at hl 0 rfl) ?_
          refine xgX12_25r hx hb hts hown hK hW 0 hcX12_isTwice_X12 (hI 0 (by decide)) lR_0 (hts _ hwX12_isTwice_2) (sR_0_25 _) dX12_isTwice_24 ?_
          refine lv_iload_n hx hb dX12_isTwice_27 rfl (lv_at hl 3 rfl) ?_
          refine x_iald hx hb hK hW 17 (hI 17 (by decide)) lR_17 hi6 dX12_isTwice_28 ?_
          refine lv_iload_n hx hb dX12_isTwice_29 rfl (lv_at hl 1 rfl) ?_
          refine lv_icmp_ne (tgt := 37) hx hb dX12_isTwice_30 (by decide) (fun c9 => ?_) (fun c9 => ?_)
          · have h := h.1 c9
            refine lv_iconst (v := 0) hx hb dX12_isTwice_37 (by decide) ?_
            exact blk38 x1 k4 hk4 x3 x2 (0 : Int32) _ _ _ _ hW (lv_sub hl [0, 1, 3] rfl) h
          · have h := h.2 c9
            exact blk33 x1 k4 hk4 x3 x2 _ _ _ _ hW (lv_sub hl [0, 1, 3] rfl) h
  have main : ∀ (H : Heap) (locs : List Loc) (ls : Array Slot), xW D KA layR stR ad ids (xA ad ids s.heap.size) s.heap σ H locs → lv_has ls 4 [(0, .ref (ad 0)), (1, .int a1)] → W p l e rmX12_isTwice s m args below meth c H locs 0 0 Q (F0 m 0 ls []) := by
    intro H locs ls hW hl
    unfold wX12_isTwice at h
    refine lv_iconst (v := 0) hx hb dX12_isTwice_0 (by decide) ?_
    refine lv_istore_n (lv' := [(2, .int (0 : Int32)), (0, .ref (ad 0)), (1, .int a1)]) hx hb dX12_isTwice_1 rfl hl (by decide) rfl (fun ls hl => ?_)
    refine lv_iconst (v := 0) hx hb dX12_isTwice_2 (by decide) ?_
    refine lv_istore_n (lv' := [(3, .int (0 : Int32)), (2, .int (0 : Int32)), (0, .ref (ad 0)), (1, .int a1)]) hx hb dX12_isTwice_3 rfl hl (by decide) rfl (fun ls hl => ?_)
    obtain ⟨n, h⟩ := h
    exact blk4   a1 n (0 : Int32) (0 : Int32) _ _ _ _ hW (lv_sub hl [2, 3, 1, 0] rfl) h
  exact main _ _ _ hW hl
theorem hwX12_anyTwice_0 : (.fieldLink RX12 166 "FortyBeltsModel" "belts" "I" : Cond) ∈ wsX12_anyTwice := (List.mem_cons_of_mem _ (List.mem_append_left _ (List.mem_of_getElem? (i := 1) rfl)))
theorem hwX12_anyTwice_1 : (.fieldLink RX12 59 "FortyBeltsModel" "drumA" "[I" : Cond) ∈ wsX12_anyTwice := (List.mem_cons_of_mem _ (List.mem_append_left _ (List.mem_of_getElem? (i := 2) rfl)))
theorem hwX12_anyTwice_2 : (.fieldLink RX12 62 "FortyBeltsModel" "drumB" "[I" : Cond) ∈ wsX12_anyTwice := (List.mem_cons_of_mem _ (List.mem_append_left _ (List.mem_of_getElem? (i := 3) rfl)))
theorem hwX12_anyTwice_3 : (.fieldLink RX12 163 "FortyBeltsModel" "drumMany" "I" : Cond) ∈ wsX12_anyTwice := (List.mem_cons_of_mem _ (List.mem_append_left _ (List.mem_of_getElem? (i := 0) rfl)))
theorem hcX12_anyTwice_X12 : ∀ w ∈ wsX120, w ∈ wsX12_anyTwice := fun _ h => (List.mem_cons_of_mem _ (List.mem_append_right _ h))
set_option maxHeartbeats 4000000 in
set_option maxRecDepth 100000 in
theorem J_X12_anyTwice {D : va_G} {KA : Nat → ClassId} {zs : ZS} {ad : Nat → Nat} {ids : List Nat} {sz : Nat} (l : Launch) (hI : ∀ c, c < 35 → c ∈ ids)   {σ : St} {post : Int32 → St → Prop} (h : wX12_anyTwice   σ post) : Met l yX12_anyTwice wsX12_anyTwice rmX12_anyTwice (va_Pc [.ref (ad 0)] (xIn D KA zs layR stR ad ids sz σ)) (va_Qi post (xOut D KA layR stR ad ids) (xA ad ids sz)) 0 0 (xA ad ids sz) := by
  refine Met.ofW (cc := cX12_anyTwice) (maxL := 3) (ret := (some .boolean)) (by decide) rfl ?_
  intro p e s m args below meth c s₁ B hml hv
  obtain ⟨hav, hsz, hK, hZ, hP, hD⟩ := hv
  have hx := B.exec
  have hb := B.bytes
  have hr := B.returns
  have hts := atoms_spec (ws := wsX12_anyTwice) B.pre
  have hown : s.vm.findClass RX12 = some m.cls := findClass_of_methodNamed B.named
  have hlocks := B.notSynchronized
  subst hsz
  have hA : ∀ q : Nat, s.heap.size ≤ q → xA ad ids s.heap.size q := fun q h => Or.inr h
  have hW : xW D KA layR stR ad ids (xA ad ids s.heap.size) s.heap σ s.heap [] := ⟨hP, xA_D (D := D) hD, va_S.rf⟩
  have kr : ∀ (v : Int32) (σ : St) (H : Heap) (locs : List Loc) (ls : Array Slot) (pc : Nat), xW D KA layR stR ad ids (xA ad ids s.heap.size) s.heap σ H locs → isB v → post v σ → decode cX12_anyTwice pc = .ok (.ireturn, 1) → W p l e rmX12_anyTwice s m args below meth c H locs 0 0 (MQ below (va_Qi post (xOut D KA layR stR ad ids) (xA ad ids s.heap.size)) args s 0 0 (xA ad ids s.heap.size)) (F0 m pc ls [.int v]) := fun v σ H locs ls pc hW hz h hd => x_zret hx hb hr hlocks hW hz h hd
  have hl := lv_entry ([.ref (ad 0)]) (n := 3) (Nat.le_of_ble_eq_true rfl)
  rw [show entryFrame m args 3 = entryFrame m ([.ref (ad 0)] : List Value).toArray 3 from by rw [hav]]
  rw [lg_entry_eq]
  generalize (lg_sl ([.ref (ad 0)]) ++ List.replicate (3 - (lg_sl ([.ref (ad 0)])).length) Slot.unset).toArray = ls at hl ⊢
  have hl : lv_has ls 3 [(0, .ref (ad 0))] := hl
  show W p l e rmX12_anyTwice s m args below meth c s.heap [] 0 0 _ _
  generalize MQ below (va_Qi post (xOut D KA layR stR ad ids) (xA ad ids s.heap.size)) args s 0 0 (xA ad ids s.heap.size) = Q at kr ⊢
  have blk70 : ∀ (k38 : Int32 → Int32 → St → Prop) (hk38 : ∀ (x1 : Int32) (x2 : Int32) (σ : St) (H : Heap) (locs : List Loc) (ls : Array Slot), xW D KA layR stR ad ids (xA ad ids s.heap.size) s.heap σ H locs → lv_has ls 3 [(0, .ref (ad 0)), (1, .int x1), (2, .int x2)] → k38 x1 x2 σ → W p l e rmX12_anyTwice s m args below meth c H locs 0 0 Q (F0 m 38 ls [])) (x2 : Int32) (s0 : Int32) (σ : St) (H : Heap) (locs : List Loc) (ls : Array Slot), xW D KA layR stR ad ids (xA ad ids s.heap.size) s.heap σ H locs → lv_has ls 3 [(0, .ref (ad 0)), (2, .int x2)] → wX12_anyTwice_70 k38 post x2 s0 σ → W p l e rmX12_anyTwice s m args below meth c H locs 0 0 Q (F0 m 70 ls [.int s0]) := by
    intro  k38 hk38 x2 s0 σ H locs ls hW hl h
    unfold wX12_anyTwice_70 at h
    refine lv_istore_n (lv' := [(1, .int s0), (0, .ref (ad 0)), (2, .int x2)]) hx hb dX12_anyTwice_70 rfl hl (by decide) rfl (fun ls hl => ?_)
    obtain ⟨v1, hv1⟩ : ∃ y : Int32, y = x2 + (1 : Int32) := ⟨_, rfl⟩
    have h := h v1 hv1
    refine lv_iinc (v := v1) (lv' := [(2, .int v1), (1, .int s0), (0, .ref (ad 0))]) hx hb dX12_anyTwice_71 hl (k := 2) rfl (by rw [hv1]; rfl) (by decide) rfl (fun ls hl => ?_)
    refine lv_goto (tgt := 38) hx hb dX12_anyTwice_74 (by decide) ?_
    exact hk38 s0 v1 _ _ _ _ hW (lv_sub hl [2, 1, 0] rfl) h
  have blk65 : ∀ (k38 : Int32 → Int32 → St → Prop) (hk38 : ∀ (x1 : Int32) (x2 : Int32) (σ : St) (H : Heap) (locs : List Loc) (ls : Array Slot), xW D KA layR stR ad ids (xA ad ids s.heap.size) s.heap σ H locs → lv_has ls 3 [(0, .ref (ad 0)), (1, .int x1), (2, .int x2)] → k38 x1 x2 σ → W p l e rmX12_anyTwice s m args below meth c H locs 0 0 Q (F0 m 38 ls [])) (x2 : Int32) (σ : St) (H : Heap) (locs : List Loc) (ls : Array Slot), xW D KA layR stR ad ids (xA ad ids s.heap.size) s.heap σ H locs → lv_has ls 3 [(0, .ref (ad 0)), (2, .int x2)] → wX12_anyTwice_65 k38 post x2 σ → W p l e rmX12_anyTwice s m args below meth c H locs 0 0 Q (F0 m 65 ls []) := by
    intro  k38 hk38 x2 σ H locs ls hW hl h
    unfold wX12_anyTwice_65 at h
    refine lv_iconst (v := 1) hx hb dX12_anyTwice_65 (by decide) ?_
    refine lv_goto (tgt := 70) hx hb dX12_anyTwice_66 (by decide) ?_
    exact blk70  k38 hk38 x2 (1 : Int32) _ _ _ _ hW (lv_sub hl [0, 1] rfl) h
  have blk38 : ∀ (n : Nat) (x1 : Int32) (x2 : Int32) (σ : St) (H : Heap) (locs : List Loc) (ls : Array Slot), xW D KA layR stR ad ids (xA ad ids s.heap.size) s.heap σ H locs → lv_has ls 3 [(0, .ref (ad 0)), (1, .int x1), (2, .int x2)] → wX12_anyTwice_38 post  n x1 x2 σ → W p l e rmX12_anyTwice s m args below meth c H locs 0 0 Q (F0 m 38 ls []) := by
    intro    n
    induction n with
    | zero => intro x1 x2 σ H locs ls hW hl h; exact (h : False).elim
    | succ n ih =>
      intro x1 x2 σ H locs ls hW hl h
      have hk38 : ∀ (x1 : Int32) (x2 : Int32) (σ : St) (H : Heap) (locs : List Loc) (ls : Array Slot), xW D KA layR stR ad ids (xA ad ids s.heap.size) s.heap σ H locs → lv_has ls 3 [(0, .ref (ad 0)), (1, .int x1), (2, .int x2)] → (wX12_anyTwice_38 post  n) x1 x2 σ → W p l e rmX12_anyTwice s m args below meth c H locs 0 0 Q (F0 m 38 ls []) := fun x1 x2 σ H locs ls hW hl h => ih x1 x2 σ H locs ls hW hl h
      rw [wX12_anyTwice_38_s] at h
      try dsimp only at h
      generalize wX12_anyTwice_38 post  n = k38 at h hk38
      refine lv_iload_n hx hb dX12_anyTwice_38 rfl (lv_at hl 2 rfl) ?_
      refine lv_aload_n hx hb dX12_anyTwice_39 rfl (lv_at hl 0 rfl) ?_
      refine xgX12_28 hx hb hts hown hK hW 0 hcX12_anyTwice_X12 (hI 0 (by decide)) lR_0 (hts _ hwX12_anyTwice_0) dX12_anyTwice_40 ?_
      refine lv_icmp_ge (tgt := 77) hx hb dX12_anyTwice_43 (by decide) (fun c2 => ?_) (fun c2 => ?_)
      · have h := h.1 c2
        refine lv_iload_n hx hb dX12_anyTwice_77 rfl (lv_at hl 1 rfl) ?_
        obtain ⟨hz3, h⟩ := h
        exact kr _ _ _ _ _ _ hW hz3 h dX12_anyTwice_78
      · have h := h.2 c2
        refine lv_iload_n hx hb dX12_anyTwice_46 rfl (lv_at hl 1 rfl) ?_
        refine lv_if_ne (tgt := 65) hx hb dX12_anyTwice_47 (by decide) (fun c4 => ?_) (fun c4 => ?_)
        · have h := h.1 c4
          exact blk65  k38 hk38 x2 _ _ _ _ hW (lv_sub hl [0, 2] rfl) h
        · have h := h.2 c4
          refine lv_aload_n hx hb dX12_anyTwice_50 rfl (lv_at hl 0 rfl) ?_
          refine xgX12_24r hx hb hts hown hK hW 0 hcX12_anyTwice_X12 (hI 0 (by decide)) lR_0 (hts _ hwX12_anyTwice_1) (sR_0_24 _) dX12_anyTwice_51 ?_
          refine lv_iload_n hx hb dX12_anyTwice_54 rfl (lv_at hl 2 rfl) ?_
          obtain ⟨hi5, h⟩ := h
          refine x_iald hx hb hK hW 16 (hI 16 (by decide)) lR_16 hi5 dX12_anyTwice_55 ?_
          refine lv_aload_n hx hb dX12_anyTwice_56 rfl (lv_at hl 0 rfl) ?_
          refine xgX12_25r hx hb hts hown hK hW 0 hcX12_anyTwice_X12 (hI 0 (by decide)) lR_0 (hts _ hwX12_anyTwice_2) (sR_0_25 _) dX12_anyTwice_57 ?_
          refine lv_iload_n hx hb dX12_anyTwice_60 rfl (lv_at hl 2 rfl) ?_
          refine x_iald hx hb hK hW 17 (hI 17 (by decide)) lR_17 hi5 dX12_anyTwice_61 ?_
          refine lv_icmp_ne (tgt := 69) hx hb dX12_anyTwice_62 (by decide) (fun c7 => ?_) (fun c7 => ?_)
          · have h := h.1 c7
            refine lv_iconst (v := 0) hx hb dX12_anyTwice_69 (by decide) ?_
            exact blk70  k38 hk38 x2 (0 : Int32) _ _ _ _ hW (lv_sub hl [0, 2] rfl) h
          · have h := h.2 c7
            exact blk65  k38 hk38 x2 _ _ _ _ hW (lv_sub hl [0, 2] rfl) h
  have blk29 : ∀ (k4 : Int32 → Int32 → St → Prop) (hk4 : ∀ (x1 : Int32) (x2 : Int32) (σ : St) (H : Heap) (locs : List Loc) (ls : Array Slot), xW D KA layR stR ad ids (xA ad ids s.heap.size) s.heap σ H locs → lv_has ls 3 [(0, .ref (ad 0)), (1, .int x1), (2, .int x2)] → k4 x1 x2 σ → W p l e rmX12_anyTwice s m args below meth c H locs 0 0 Q (F0 m 4 ls [])) (x2 : Int32) (s0 : Int32) (σ : St) (H : Heap) (locs : List Loc) (ls : Array Slot), xW D KA layR stR ad ids (xA ad ids s.heap.size) s.heap σ H locs → lv_has ls 3 [(0, .ref (ad 0)), (2, .int x2)] → wX12_anyTwice_29 k4 post x2 s0 σ → W p l e rmX12_anyTwice s m args below meth c H locs 0 0 Q (F0 m 29 ls [.int s0]) := by
    intro  k4 hk4 x2 s0 σ H locs ls hW hl h
    unfold wX12_anyTwice_29 at h
    refine lv_istore_n (lv' := [(1, .int s0), (0, .ref (ad 0)), (2, .int x2)]) hx hb dX12_anyTwice_29 rfl hl (by decide) rfl (fun ls hl => ?_)
    obtain ⟨v8, hv8⟩ : ∃ y : Int32, y = x2 + (1 : Int32) := ⟨_, rfl⟩
    have h := h v8 hv8
    refine lv_iinc (v := v8) (lv' := [(2, .int v8), (1, .int s0), (0, .ref (ad 0))]) hx hb dX12_anyTwice_30 hl (k := 2) rfl (by rw [hv8]; rfl) (by decide) rfl (fun ls hl => ?_)
    refine lv_goto (tgt := 4) hx hb dX12_anyTwice_33 (by decide) ?_
    exact hk4 s0 v8 _ _ _ _ hW (lv_sub hl [2, 1, 0] rfl) h
  have blk24 : ∀ (k4 : Int32 → Int32 → St → Prop) (hk4 : ∀ (x1 : Int32) (x2 : Int32) (σ : St) (H : Heap) (locs : List Loc) (ls : Array Slot), xW D KA layR stR ad ids (xA ad ids s.heap.size) s.heap σ H locs → lv_has ls 3 [(0, .ref (ad 0)), (1, .int x1), (2, .int x2)] → k4 x1 x2 σ → W p l e rmX12_anyTwice s m args below meth c H locs 0 0 Q (F0 m 4 ls [])) (x2 : Int32) (σ : St) (H : Heap) (locs : List Loc) (ls : Array Slot), xW D KA layR stR ad ids (xA ad ids s.heap.size) s.heap σ H locs → lv_has ls 3 [(0, .ref (ad 0)), (2, .int x2)] → wX12_anyTwice_24 k4 post x2 σ → W p l e rmX12_anyTwice s m args below meth c H locs 0 0 Q (F0 m 24 ls []) := by
    intro  k4 hk4 x2 σ H locs ls hW hl h
    unfold wX12_anyTwice_24 at h
    refine lv_iconst (v := 1) hx hb dX12_anyTwice_24 (by decide) ?_
    refine lv_goto (tgt := 29) hx hb dX12_anyTwice_25 (by decide) ?_
    exact blk29  k4 hk4 x2 (1 : Int32) _ _ _ _ hW (lv_sub hl [0, 1] rfl) h
  have blk4 : ∀ (n : Nat) (x1 : Int32) (x2 : Int32) (σ : St) (H : Heap) (locs : List Loc) (ls : Array Slot), xW D KA layR stR ad ids (xA ad ids s.heap.size) s.heap σ H locs → lv_has ls 3 [(0, .ref (ad 0)), (1, .int x1), (2, .int x2)] → wX12_anyTwice_4 post  n x1 x2 σ → W p l e rmX12_anyTwice s m args below meth c H locs 0 0 Q (F0 m 4 ls []) := by
    intro    n
    induction n with
    | zero => intro x1 x2 σ H locs ls hW hl h; exact (h : False).elim
    | succ n ih =>
      intro x1 x2 σ H locs ls hW hl h
      have hk4 : ∀ (x1 : Int32) (x2 : Int32) (σ : St) (H : Heap) (locs : List Loc) (ls : Array Slot), xW D KA layR stR ad ids (xA ad ids s.heap.size) s.heap σ H locs → lv_has ls 3 [(0, .ref (ad 0)), (1, .int x1), (2, .int x2)] → (wX12_anyTwice_4 post  n) x1 x2 σ → W p l e rmX12_anyTwice s m args below meth c H locs 0 0 Q (F0 m 4 ls []) := fun x1 x2 σ H locs ls hW hl h => ih x1 x2 σ H locs ls hW hl h
      rw [wX12_anyTwice_4_s] at h
      try dsimp only at h
      generalize wX12_anyTwice_4 post  n = k4 at h hk4
      refine lv_iload_n hx hb dX12_anyTwice_4 rfl (lv_at hl 2 rfl) ?_
      refine lv_aload_n hx hb dX12_anyTwice_5 rfl (lv_at hl 0 rfl) ?_
      refine xgX12_20 hx hb hts hown hK hW 0 hcX12_anyTwice_X12 (hI 0 (by decide)) lR_0 (hts _ hwX12_anyTwice_3) dX12_anyTwice_6 ?_
      refine lv_icmp_ge (tgt := 36) hx hb dX12_anyTwice_9 (by decide) (fun c9 => ?_) (fun c9 => ?_)
      · have h := h.1 c9
        refine lv_iconst (v := 0) hx hb dX12_anyTwice_36 (by decide) ?_
        refine lv_istore_n (lv' := [(2, .int (0 : Int32)), (0, .ref (ad 0)), (1, .int x1)]) hx hb dX12_anyTwice_37 rfl hl (by decide) rfl (fun ls hl => ?_)
        obtain ⟨n, h⟩ := h
        exact blk38    n x1 (0 : Int32) _ _ _ _ hW (lv_sub hl [1, 2, 0] rfl) h
      · have h := h.2 c9
        refine lv_iload_n hx hb dX12_anyTwice_12 rfl (lv_at hl 1 rfl) ?_
        refine lv_if_ne (tgt := 24) hx hb dX12_anyTwice_13 (by decide) (fun c11 => ?_) (fun c11 => ?_)
        · have h := h.1 c11
          exact blk24  k4 hk4 x2 _ _ _ _ hW (lv_sub hl [0, 2] rfl) h
        · have h := h.2 c11
          refine lv_aload_n hx hb dX12_anyTwice_16 rfl (lv_at hl 0 rfl) ?_
          refine lv_iload_n hx hb dX12_anyTwice_17 rfl (lv_at hl 2 rfl) ?_
          refine x_calli (va_runV (As := [.int x2]) (rest := []) ⟨hx, hb, hml, hown, hts⟩ (J_X12_isTwice l hI h) (cwV 1 hts gX12_anyTwice_X12_isTwice rfl rfl rfl hdV_X12_isTwice ⟨Nat.le_of_ble_eq_true rfl, Nat.le_of_ble_eq_true rfl⟩) (x_preV (ci := 12) hK hZ hA hW (hI 0 (by decide)) lR_0 rfl) rfl rfl hl.1 rfl (lv_room (Nat.le_of_ble_eq_true rfl)) dX12_anyTwice_18 ⟨Nat.zero_le _, Nat.zero_le _⟩) hW hA (fun r13 σ12 H locs h hW => ?_)
          try dsimp only at h
          refine lv_if_eq (tgt := 28) hx hb dX12_anyTwice_21 (by decide) (fun c14 => ?_) (fun c14 => ?_)
          · have h := h.1 c14
            refine lv_iconst (v := 0) hx hb dX12_anyTwice_28 (by decide) ?_
            exact blk29  k4 hk4 x2 (0 : Int32) _ _ _ _ hW (lv_sub hl [0, 2] rfl) h
          · have h := h.2 c14
            exact blk24  k4 hk4 x2 _ _ _ _ hW (lv_sub hl [0, 2] rfl) h
  have main : ∀ (H : Heap) (locs : List Loc) (ls : Array Slot), xW D KA layR stR ad ids (xA ad ids s.heap.size) s.heap σ H locs → lv_has ls 3 [(0, .ref (ad 0))] → W p l e rmX12_anyTwice s m args below meth c H locs 0 0 Q (F0 m 0 ls []) := by
    intro H locs ls hW hl
    unfold wX12_anyTwice at h
    refine lv_iconst (v := 0) hx hb dX12_anyTwice_0 (by decide) ?_
    refine lv_istore_n (lv' := [(1, .int (0 : Int32)), (0, .ref (ad 0))]) hx hb dX12_anyTwice_1 rfl hl (by decide) rfl (fun ls hl => ?_)
    refine lv_iconst (v := 0) hx hb dX12_anyTwice_2 (by decide) ?_
    refine lv_istore_n (lv' := [(2, .int (0 : Int32)), (1, .int (0 : Int32)), (0, .ref (ad 0))]) hx hb dX12_anyTwice_3 rfl hl (by decide) rfl (fun ls hl => ?_)
    obtain ⟨n, h⟩ := h
    exact blk4    n (0 : Int32) (0 : Int32) _ _ _ _ hW (lv_sub hl [2, 1, 0] rfl) h
  exact main _ _ _ hW hl
theorem hwX12_back_0 : (.fieldLink RX12 459 "FortyBeltsModel" "imageMachines" "I" : Cond) ∈ wsX12_back := (List.mem_cons_of_mem _ (List.mem_append_left _ (List.mem_of_getElem? (i := 14) rfl)))
theorem hwX12_back_1 : (.fieldLink RX12 166 "FortyBeltsModel" "belts" "I" : Cond) ∈ wsX12_back := (List.mem_cons_of_mem _ (List.mem_append_left _ (List.mem_of_getElem? (i := 19) rfl)))
theorem hwX12_back_2 : (.fieldLink RX12 32 "FortyBeltsModel" "load" "[I" : Cond) ∈ wsX12_back := (List.mem_cons_of_mem _ (List.mem_append_left _ (List.mem_of_getElem? (i := 15) rfl)))
theorem hwX12_back_3 : (.fieldLink RX12 105 "FortyBeltsModel" "imageLoad" "[I" : Cond) ∈ wsX12_back := (List.mem_cons_of_mem _ (List.mem_append_left _ (List.mem_of_getElem? (i := 16) rfl)))
theorem hwX12_back_4 : (.fieldLink RX12 44 "FortyBeltsModel" "isRun" "[I" : Cond) ∈ wsX12_back := (List.mem_cons_of_mem _ (List.mem_append_left _ (List.mem_of_getElem? (i := 17) rfl)))
theorem hwX12_back_5 : (.fieldLink RX12 108 "FortyBeltsModel" "imageRun" "[I" : Cond) ∈ wsX12_back := (List.mem_cons_of_mem _ (List.mem_append_left _ (List.mem_of_getElem? (i := 18) rfl)))
theorem hwX12_back_6 : (.fieldLink RX12 456 "FortyBeltsModel" "imageBelts" "I" : Cond) ∈ wsX12_back := (List.mem_cons_of_mem _ (List.mem_append_left _ (List.mem_of_getElem? (i := 7) rfl)))
theorem hwX12_back_7 : (.fieldLink RX12 59 "FortyBeltsModel" "drumA" "[I" : Cond) ∈ wsX12_back := (List.mem_cons_of_mem _ (List.mem_append_left _ (List.mem_of_getElem? (i := 8) rfl)))
theorem hwX12_back_8 : (.fieldLink RX12 96 "FortyBeltsModel" "imageA" "[I" : Cond) ∈ wsX12_back := (List.mem_cons_of_mem _ (List.mem_append_left _ (List.mem_of_getElem? (i := 9) rfl)))
theorem hwX12_back_9 : (.fieldLink RX12 62 "FortyBeltsModel" "drumB" "[I" : Cond) ∈ wsX12_back := (List.mem_cons_of_mem _ (List.mem_append_left _ (List.mem_of_getElem? (i := 10) rfl)))
theorem hwX12_back_10 : (.fieldLink RX12 99 "FortyBeltsModel" "imageB" "[I" : Cond) ∈ wsX12_back := (List.mem_cons_of_mem _ (List.mem_append_left _ (List.mem_of_getElem? (i := 11) rfl)))
theorem hwX12_back_11 : (.fieldLink RX12 68 "FortyBeltsModel" "isOn" "[I" : Cond) ∈ wsX12_back := (List.mem_cons_of_mem _ (List.mem_append_left _ (List.mem_of_getElem? (i := 12) rfl)))
theorem hwX12_back_12 : (.fieldLink RX12 102 "FortyBeltsModel" "imageOn" "[I" : Cond) ∈ wsX12_back := (List.mem_cons_of_mem _ (List.mem_append_left _ (List.mem_of_getElem? (i := 13) rfl)))
theorem hwX12_back_13 : (.fieldLink RX12 453 "FortyBeltsModel" "hasImage" "Z" : Cond) ∈ wsX12_back := (List.mem_cons_of_mem _ (List.mem_append_left _ (List.mem_of_getElem? (i := 0) rfl)))
theorem hwX12_back_14 : (.fieldLink RX12 462 "FortyBeltsModel" "imageTurns" "I" : Cond) ∈ wsX12_back := (List.mem_cons_of_mem _ (List.mem_append_left _ (List.mem_of_getElem? (i := 1) rfl)))
theorem hwX12_back_15 : (.fieldLink RX12 145 "FortyBeltsModel" "engineTurns" "I" : Cond) ∈ wsX12_back := (List.mem_cons_of_mem _ (List.mem_append_left _ (List.mem_of_getElem? (i := 2) rfl)))
theorem hwX12_back_16 : (.fieldLink RX12 465 "FortyBeltsModel" "imagePower" "I" : Cond) ∈ wsX12_back := (List.mem_cons_of_mem _ (List.mem_append_left _ (List.mem_of_getElem? (i := 3) rfl)))
theorem hwX12_back_17 : (.fieldLink RX12 148 "FortyBeltsModel" "power" "I" : Cond) ∈ wsX12_back := (List.mem_cons_of_mem _ (List.mem_append_left _ (List.mem_of_getElem? (i := 4) rfl)))
theorem hwX12_back_18 : (.fieldLink RX12 468 "FortyBeltsModel" "imageRule" "I" : Cond) ∈ wsX12_back := (List.mem_cons_of_mem _ (List.mem_append_left _ (List.mem_of_getElem? (i := 5) rfl)))
theorem hwX12_back_19 : (.fieldLink RX12 236 "FortyBeltsModel" "rule" "I" : Cond) ∈ wsX12_back := (List.mem_cons_of_mem _ (List.mem_append_left _ (List.mem_of_getElem? (i := 6) rfl)))
theorem hcX12_back_X12 : ∀ w ∈ wsX120, w ∈ wsX12_back := fun _ h => (List.mem_cons_of_mem _ (List.mem_append_right _ h))
set_option maxHeartbeats 4000000 in
set_option maxRecDepth 100000 in
theorem J_X12_back {D : va_G} {KA : Nat → ClassId} {zs : ZS} {ad : Nat → Nat} {ids : List Nat} {sz : Nat} (l : Launch) (hI : ∀ c, c < 35 → c ∈ ids)   {σ : St} {post : Int32 → St → Prop} (h : wX12_back   σ post) : Met l yX12_back wsX12_back rmX12_back (va_Pc [.ref (ad 0)] (xIn D KA zs layR stR ad ids sz σ)) (va_Qi post (xOut D KA layR stR ad ids) (xA ad ids sz)) 0 0 (xA ad ids sz) := by
  refine Met.ofW (cc := cX12_back) (maxL := 2) (ret := (some .int)) (by decide) rfl ?_
  intro p e s m args below meth c s₁ B hml hv
  obtain ⟨hav, hsz, hK, hZ, hP, hD⟩ := hv
  have hx := B.exec
  have hb := B.bytes
  have hr := B.returns
  have hts := atoms_spec (ws := wsX12_back) B.pre
  have hown : s.vm.findClass RX12 = some m.cls := findClass_of_methodNamed B.named
  have hlocks := B.notSynchronized
  subst hsz
  have hA : ∀ q : Nat, s.heap.size ≤ q → xA ad ids s.heap.size q := fun q h => Or.inr h
  have hW : xW D KA layR stR ad ids (xA ad ids s.heap.size) s.heap σ s.heap [] := ⟨hP, xA_D (D := D) hD, va_S.rf⟩
  have kr : ∀ (v : Int32) (σ : St) (H : Heap) (locs : List Loc) (ls : Array Slot) (pc : Nat), xW D KA layR stR ad ids (xA ad ids s.heap.size) s.heap σ H locs → post v σ → decode cX12_back pc = .ok (.ireturn, 1) → W p l e rmX12_back s m args below meth c H locs 0 0 (MQ below (va_Qi post (xOut D KA layR stR ad ids) (xA ad ids s.heap.size)) args s 0 0 (xA ad ids s.heap.size)) (F0 m pc ls [.int v]) := fun v σ H locs ls pc hW h hd => x_iret hx hb hr hlocks hW h hd
  have hl := lv_entry ([.ref (ad 0)]) (n := 2) (Nat.le_of_ble_eq_true rfl)
  rw [show entryFrame m args 2 = entryFrame m ([.ref (ad 0)] : List Value).toArray 2 from by rw [hav]]
  rw [lg_entry_eq]
  generalize (lg_sl ([.ref (ad 0)]) ++ List.replicate (2 - (lg_sl ([.ref (ad 0)])).length) Slot.unset).toArray = ls at hl ⊢
  have hl : lv_has ls 2 [(0, .ref (ad 0))] := hl
  show W p l e rmX12_back s m args below meth c s.heap [] 0 0 _ _
  generalize MQ below (va_Qi post (xOut D KA layR stR ad ids) (xA ad ids s.heap.size)) args s 0 0 (xA ad ids s.heap.size) = Q at kr ⊢
  have blk88 : ∀ (n : Nat) (x1 : Int32) (σ : St) (H : Heap) (locs : List Loc) (ls : Array Slot), xW D KA layR stR ad ids (xA ad ids s.heap.size) s.heap σ H locs → lv_has ls 2 [(0, .ref (ad 0)), (1, .int x1)] → wX12_back_88 post  n x1 σ → W p l e rmX12_back s m args below meth c H locs 0 0 Q (F0 m 88 ls []) := by
    intro    n
    induction n with
    | zero => intro x1 σ H locs ls hW hl h; exact (h : False).elim
    | succ n ih =>
      intro x1 σ H locs ls hW hl h
      have hk88 : ∀ (x1 : Int32) (σ : St) (H : Heap) (locs : List Loc) (ls : Array Slot), xW D KA layR stR ad ids (xA ad ids s.heap.size) s.heap σ H locs → lv_has ls 2 [(0, .ref (ad 0)), (1, .int x1)] → (wX12_back_88 post  n) x1 σ → W p l e rmX12_back s m args below meth c H locs 0 0 Q (F0 m 88 ls []) := fun x1 σ H locs ls hW hl h => ih x1 σ H locs ls hW hl h
      rw [wX12_back_88_s] at h
      try dsimp only at h
      generalize wX12_back_88 post  n = k88 at h hk88
      refine lv_iload_n hx hb dX12_back_88 rfl (lv_at hl 1 rfl) ?_
      refine lv_aload_n hx hb dX12_back_89 rfl (lv_at hl 0 rfl) ?_
      refine xgX12_63 hx hb hts hown hK hW 0 hcX12_back_X12 (hI 0 (by decide)) lR_0 (hts _ hwX12_back_0) dX12_back_90 ?_
      refine lv_icmp_ge (tgt := 126) hx hb dX12_back_93 (by decide) (fun c1 => ?_) (fun c1 => ?_)
      · have h := h.1 c1
        refine lv_aload_n hx hb dX12_back_126 rfl (lv_at hl 0 rfl) ?_
        refine xgX12_28 hx hb hts hown hK hW 0 hcX12_back_X12 (hI 0 (by decide)) lR_0 (hts _ hwX12_back_1) dX12_back_127 ?_
        exact kr _ _ _ _ _ _ hW h dX12_back_130
      · have h := h.2 c1
        refine lv_aload_n hx hb dX12_back_96 rfl (lv_at hl 0 rfl) ?_
        refine xgX12_13r hx hb hts hown hK hW 0 hcX12_back_X12 (hI 0 (by decide)) lR_0 (hts _ hwX12_back_2) (sR_0_13 _) dX12_back_97 ?_
        refine lv_iload_n hx hb dX12_back_100 rfl (lv_at hl 1 rfl) ?_
        refine lv_aload_n hx hb dX12_back_101 rfl (lv_at hl 0 rfl) ?_
        refine xgX12_59r hx hb hts hown hK hW 0 hcX12_back_X12 (hI 0 (by decide)) lR_0 (hts _ hwX12_back_3) (sR_0_59 _) dX12_back_102 ?_
        refine lv_iload_n hx hb dX12_back_105 rfl (lv_at hl 1 rfl) ?_
        obtain ⟨hi2, h⟩ := h
        refine x_iald hx hb hK hW 29 (hI 29 (by decide)) lR_29 hi2 dX12_back_106 ?_
        refine x_iast hx hb hK hW 7 (hI 7 (by decide)) lR_7 hi2 dX12_back_107 (fun σ4 H locs hσ4 hW => ?_)
        have h := h σ4 hσ4
        refine lv_aload_n hx hb dX12_back_108 rfl (lv_at hl 0 rfl) ?_
        refine xgX12_17r hx hb hts hown hK hW 0 hcX12_back_X12 (hI 0 (by decide)) lR_0 (hts _ hwX12_back_4) (sR_0_17 _) dX12_back_109 ?_
        refine lv_iload_n hx hb dX12_back_112 rfl (lv_at hl 1 rfl) ?_
        refine lv_aload_n hx hb dX12_back_113 rfl (lv_at hl 0 rfl) ?_
        refine xgX12_60r hx hb hts hown hK hW 0 hcX12_back_X12 (hI 0 (by decide)) lR_0 (hts _ hwX12_back_5) (sR_0_60 _) dX12_back_114 ?_
        refine lv_iload_n hx hb dX12_back_117 rfl (lv_at hl 1 rfl) ?_
        refine x_iald hx hb hK hW 30 (hI 30 (by decide)) lR_30 hi2 dX12_back_118 ?_
        refine x_iast hx hb hK hW 11 (hI 11 (by decide)) lR_11 hi2 dX12_back_119 (fun σ7 H locs hσ7 hW => ?_)
        have h := h σ7 hσ7
        obtain ⟨v8, hv8⟩ : ∃ y : Int32, y = x1 + (1 : Int32) := ⟨_, rfl⟩
        have h := h v8 hv8
        refine lv_iinc (v := v8) (lv' := [(1, .int v8), (0, .ref (ad 0))]) hx hb dX12_back_120 hl (k := 1) rfl (by rw [hv8]; rfl) (by decide) rfl (fun ls hl => ?_)
        refine lv_goto (tgt := 88) hx hb dX12_back_123 (by decide) ?_
        exact hk88 v8 _ _ _ _ hW (lv_sub hl [1, 0] rfl) h
  have blk36 : ∀ (n : Nat) (x1 : Int32) (σ : St) (H : Heap) (locs : List Loc) (ls : Array Slot), xW D KA layR stR ad ids (xA ad ids s.heap.size) s.heap σ H locs → lv_has ls 2 [(0, .ref (ad 0)), (1, .int x1)] → wX12_back_36 post  n x1 σ → W p l e rmX12_back s m args below meth c H locs 0 0 Q (F0 m 36 ls []) := by
    intro    n
    induction n with
    | zero => intro x1 σ H locs ls hW hl h; exact (h : False).elim
    | succ n ih =>
      intro x1 σ H locs ls hW hl h
      have hk36 : ∀ (x1 : Int32) (σ : St) (H : Heap) (locs : List Loc) (ls : Array Slot), xW D KA layR stR ad ids (xA ad ids s.heap.size) s.heap σ H locs → lv_has ls 2 [(0, .ref (ad 0)), (1, .int x1)] → (wX12_back_36 post  n) x1 σ → W p l e rmX12_back s m args below meth c H locs 0 0 Q (F0 m 36 ls []) := fun x1 σ H locs ls hW hl h => ih x1 σ H locs ls hW hl h
      rw [wX12_back_36_s] at h
      try dsimp only at h
      generalize wX12_back_36 post  n = k36 at h hk36
      refine lv_iload_n hx hb dX12_back_36 rfl (lv_at hl 1 rfl) ?_
      refine lv_aload_n hx hb dX12_back_37 rfl (lv_at hl 0 rfl) ?_
      refine xgX12_62 hx hb hts hown hK hW 0 hcX12_back_X12 (hI 0 (by decide)) lR_0 (hts _ hwX12_back_6) dX12_back_38 ?_
      refine lv_icmp_ge (tgt := 86) hx hb dX12_back_41 (by decide) (fun c9 => ?_) (fun c9 => ?_)
      · have h := h.1 c9
        refine lv_iconst (v := 0) hx hb dX12_back_86 (by decide) ?_
        refine lv_istore_n (lv' := [(1, .int (0 : Int32)), (0, .ref (ad 0))]) hx hb dX12_back_87 rfl hl (by decide) rfl (fun ls hl => ?_)
        obtain ⟨n, h⟩ := h
        exact blk88    n (0 : Int32) _ _ _ _ hW (lv_sub hl [1, 0] rfl) h
      · have h := h.2 c9
        refine lv_aload_n hx hb dX12_back_44 rfl (lv_at hl 0 rfl) ?_
        refine xgX12_24r hx hb hts hown hK hW 0 hcX12_back_X12 (hI 0 (by decide)) lR_0 (hts _ hwX12_back_7) (sR_0_24 _) dX12_back_45 ?_
        refine lv_iload_n hx hb dX12_back_48 rfl (lv_at hl 1 rfl) ?_
        refine lv_aload_n hx hb dX12_back_49 rfl (lv_at hl 0 rfl) ?_
        refine xgX12_56r hx hb hts hown hK hW 0 hcX12_back_X12 (hI 0 (by decide)) lR_0 (hts _ hwX12_back_8) (sR_0_56 _) dX12_back_50 ?_
        refine lv_iload_n hx hb dX12_back_53 rfl (lv_at hl 1 rfl) ?_
        obtain ⟨hi11, h⟩ := h
        refine x_iald hx hb hK hW 26 (hI 26 (by decide)) lR_26 hi11 dX12_back_54 ?_
        refine x_iast hx hb hK hW 16 (hI 16 (by decide)) lR_16 hi11 dX12_back_55 (fun σ13 H locs hσ13 hW => ?_)
        have h := h σ13 hσ13
        refine lv_aload_n hx hb dX12_back_56 rfl (lv_at hl 0 rfl) ?_
        refine xgX12_25r hx hb hts hown hK hW 0 hcX12_back_X12 (hI 0 (by decide)) lR_0 (hts _ hwX12_back_9) (sR_0_25 _) dX12_back_57 ?_
        refine lv_iload_n hx hb dX12_back_60 rfl (lv_at hl 1 rfl) ?_
        refine lv_aload_n hx hb dX12_back_61 rfl (lv_at hl 0 rfl) ?_
        refine xgX12_57r hx hb hts hown hK hW 0 hcX12_back_X12 (hI 0 (by decide)) lR_0 (hts _ hwX12_back_10) (sR_0_57 _) dX12_back_62 ?_
        refine lv_iload_n hx hb dX12_back_65 rfl (lv_at hl 1 rfl) ?_
        refine x_iald hx hb hK hW 27 (hI 27 (by decide)) lR_27 hi11 dX12_back_66 ?_
        refine x_iast hx hb hK hW 17 (hI 17 (by decide)) lR_17 hi11 dX12_back_67 (fun σ16 H locs hσ16 hW => ?_)
        have h := h σ16 hσ16
        refine lv_aload_n hx hb dX12_back_68 rfl (lv_at hl 0 rfl) ?_
        refine xgX12_27r hx hb hts hown hK hW 0 hcX12_back_X12 (hI 0 (by decide)) lR_0 (hts _ hwX12_back_11) (sR_0_27 _) dX12_back_69 ?_
        refine lv_iload_n hx hb dX12_back_72 rfl (lv_at hl 1 rfl) ?_
        refine lv_aload_n hx hb dX12_back_73 rfl (lv_at hl 0 rfl) ?_
        refine xgX12_58r hx hb hts hown hK hW 0 hcX12_back_X12 (hI 0 (by decide)) lR_0 (hts _ hwX12_back_12) (sR_0_58 _) dX12_back_74 ?_
        refine lv_iload_n hx hb dX12_back_77 rfl (lv_at hl 1 rfl) ?_
        refine x_iald hx hb hK hW 28 (hI 28 (by decide)) lR_28 hi11 dX12_back_78 ?_
        refine x_iast hx hb hK hW 19 (hI 19 (by decide)) lR_19 hi11 dX12_back_79 (fun σ19 H locs hσ19 hW => ?_)
        have h := h σ19 hσ19
        obtain ⟨v20, hv20⟩ : ∃ y : Int32, y = x1 + (1 : Int32) := ⟨_, rfl⟩
        have h := h v20 hv20
        refine lv_iinc (v := v20) (lv' := [(1, .int v20), (0, .ref (ad 0))]) hx hb dX12_back_80 hl (k := 1) rfl (by rw [hv20]; rfl) (by decide) rfl (fun ls hl => ?_)
        refine lv_goto (tgt := 36) hx hb dX12_back_83 (by decide) ?_
        exact hk36 v20 _ _ _ _ hW (lv_sub hl [1, 0] rfl) h
  have main : ∀ (H : Heap) (locs : List Loc) (ls : Array Slot), xW D KA layR stR ad ids (xA ad ids s.heap.size) s.heap σ H locs → lv_has ls 2 [(0, .ref (ad 0))] → W p l e rmX12_back s m args below meth c H locs 0 0 Q (F0 m 0 ls []) := by
    intro H locs ls hW hl
    unfold wX12_back at h
    refine lv_aload_n hx hb dX12_back_0 rfl (lv_at hl 0 rfl) ?_
    refine xgX12_61 hx hb hts hown hK hW 0 hcX12_back_X12 (hI 0 (by decide)) lR_0 (hts _ hwX12_back_13) dX12_back_1 ?_
    refine lv_if_ne (tgt := 10) hx hb dX12_back_4 (by decide) (fun c1001 => ?_) (fun c1001 => ?_)
    · have h := h.1 c1001
      refine lv_aload_n hx hb dX12_back_10 rfl (lv_at hl 0 rfl) ?_
      refine lv_aload_n hx hb dX12_back_11 rfl (lv_at hl 0 rfl) ?_
      refine xgX12_64 hx hb hts hown hK hW 0 hcX12_back_X12 (hI 0 (by decide)) lR_0 (hts _ hwX12_back_14) dX12_back_12 ?_
      refine xpX12_10 hx hb hts hown hK hW 0 hcX12_back_X12 (hI 0 (by decide)) lR_0 (hts _ hwX12_back_15) dX12_back_15 (fun σ1002 H locs hσ1002 hW => ?_)
      have h := h σ1002 hσ1002
      refine lv_aload_n hx hb dX12_back_18 rfl (lv_at hl 0 rfl) ?_
      refine lv_aload_n hx hb dX12_back_19 rfl (lv_at hl 0 rfl) ?_
      refine xgX12_65 hx hb hts hown hK hW 0 hcX12_back_X12 (hI 0 (by decide)) lR_0 (hts _ hwX12_back_16) dX12_back_20 ?_
      refine xpX12_11 hx hb hts hown hK hW 0 hcX12_back_X12 (hI 0 (by decide)) lR_0 (hts _ hwX12_back_17) dX12_back_23 (fun σ1003 H locs hσ1003 hW => ?_)
      have h := h σ1003 hσ1003
      refine lv_aload_n hx hb dX12_back_26 rfl (lv_at hl 0 rfl) ?_
      refine lv_aload_n hx hb dX12_back_27 rfl (lv_at hl 0 rfl) ?_
      refine xgX12_66 hx hb hts hown hK hW 0 hcX12_back_X12 (hI 0 (by decide)) lR_0 (hts _ hwX12_back_18) dX12_back_28 ?_
      refine xpX12_4 hx hb hts hown hK hW 0 hcX12_back_X12 (hI 0 (by decide)) lR_0 (hts _ hwX12_back_19) dX12_back_31 (fun σ1004 H locs hσ1004 hW => ?_)
      have h := h σ1004 hσ1004
      refine lv_iconst (v := 0) hx hb dX12_back_34 (by decide) ?_
      refine lv_istore_n (lv' := [(1, .int (0 : Int32)), (0, .ref (ad 0))]) hx hb dX12_back_35 rfl hl (by decide) rfl (fun ls hl => ?_)
      obtain ⟨n, h⟩ := h
      exact blk36    n (0 : Int32) _ _ _ _ hW (lv_sub hl [1, 0] rfl) h
    · have h := h.2 c1001
      refine lv_bipush (v := (-3)) hx hb dX12_back_7 (by decide) ?_
      exact kr _ _ _ _ _ _ hW h dX12_back_9
  exact main _ _ _ hW hl
theorem hwX12_isBehind_0 : (.fieldLink RX12 166 "FortyBeltsModel" "belts" "I" : Cond) ∈ wsX12_isBehind := (List.mem_cons_of_mem _ (List.mem_append_left _ (List.mem_of_getElem? (i := 0) rfl)))
theorem hwX12_isBehind_1 : (.fieldLink RX12 56 "FortyBeltsModel" "driven" "[I" : Cond) ∈ wsX12_isBehind := (List.mem_cons_of_mem _ (List.mem_append_left _ (List.mem_of_getElem? (i := 1) rfl)))
theorem hwX12_isBehind_2 : (.fieldLink RX12 53 "FortyBeltsModel" "driver" "[I" : Cond) ∈ wsX12_isBehind := (List.mem_cons_of_mem _ (List.mem_append_left _ (List.mem_of_getElem? (i := 2) rfl)))
theorem hcX12_isBehind_X12 : ∀ w ∈ wsX120, w ∈ wsX12_isBehind := fun _ h => (List.mem_cons_of_mem _ (List.mem_append_right _ h))
set_option maxHeartbeats 4000000 in
set_option maxRecDepth 100000 in
theorem J_X12_isBehind {D : va_G} {KA : Nat → ClassId} {zs : ZS} {ad : Nat → Nat} {ids : List Nat} {sz : Nat} (l : Launch) (hI : ∀ c, c < 35 → c ∈ ids) {a1 : Int32} {a2 : Int32}  {σ : St} {post : Int32 → St → Prop} (h : wX12_isBehind  a1 a2 σ post) : Met l yX12_isBehind wsX12_isBehind rmX12_isBehind (va_Pc [.ref (ad 0), .int a1, .int a2] (xIn D KA zs layR stR ad ids sz σ)) (va_Qi post (xOut D KA layR stR ad ids) (xA ad ids sz)) 0 0 (xA ad ids sz) := by
  refine Met.ofW (cc := cX12_isBehind) (maxL := 6) (ret := (some .boolean)) (by decide) rfl ?_
  intro p e s m args below meth c s₁ B hml hv
  obtain ⟨hav, hsz, hK, hZ, hP, hD⟩ := hv
  have hx := B.exec
  have hb := B.bytes
  have hr := B.returns
  have hts := atoms_spec (ws := wsX12_isBehind) B.pre
  have hown : s.vm.findClass RX12 = some m.cls := findClass_of_methodNamed B.named
  have hlocks := B.notSynchronized
  subst hsz
  have hA : ∀ q : Nat, s.heap.size ≤ q → xA ad ids s.heap.size q := fun q h => Or.inr h
  have hW : xW D KA layR stR ad ids (xA ad ids s.heap.size) s.heap σ s.heap [] := ⟨hP, xA_D (D := D) hD, va_S.rf⟩
  have kr : ∀ (v : Int32) (σ : St) (H : Heap) (locs : List Loc) (ls : Array Slot) (pc : Nat), xW D KA layR stR ad ids (xA ad ids s.heap.size) s.heap σ H locs → isB v → post v σ → decode cX12_isBehind pc = .ok (.ireturn, 1) → W p l e rmX12_isBehind s m args below meth c H locs 0 0 (MQ below (va_Qi post (xOut D KA layR stR ad ids) (xA ad ids s.heap.size)) args s 0 0 (xA ad ids s.heap.size)) (F0 m pc ls [.int v]) := fun v σ H locs ls pc hW hz h hd => x_zret hx hb hr hlocks hW hz h hd
  have hl := lv_entry ([.ref (ad 0), .int a1, .int a2]) (n := 6) (Nat.le_of_ble_eq_true rfl)
  rw [show entryFrame m args 6 = entryFrame m ([.ref (ad 0), .int a1, .int a2] : List Value).toArray 6 from by rw [hav]]
  rw [lg_entry_eq]
  generalize (lg_sl ([.ref (ad 0), .int a1, .int a2]) ++ List.replicate (6 - (lg_sl ([.ref (ad 0), .int a1, .int a2])).length) Slot.unset).toArray = ls at hl ⊢
  have hl : lv_has ls 6 [(0, .ref (ad 0)), (1, .int a1), (2, .int a2)] := hl
  show W p l e rmX12_isBehind s m args below meth c s.heap [] 0 0 _ _
  generalize MQ below (va_Qi post (xOut D KA layR stR ad ids) (xA ad ids s.heap.size)) args s 0 0 (xA ad ids s.heap.size) = Q at kr ⊢
  have blk74 : ∀ (s0 : Int32) (σ : St) (H : Heap) (locs : List Loc) (ls : Array Slot), xW D KA layR stR ad ids (xA ad ids s.heap.size) s.heap σ H locs → lv_has ls 6 [] → wX12_isBehind_74 post s0 σ → W p l e rmX12_isBehind s m args below meth c H locs 0 0 Q (F0 m 74 ls [.int s0]) := by
    intro   s0 σ H locs ls hW hl h
    unfold wX12_isBehind_74 at h
    obtain ⟨hz1, h⟩ := h
    exact kr _ _ _ _ _ _ hW hz1 h dX12_isBehind_74
  have blk64 : ∀ (x2 : Int32) (x3 : Int32) (σ : St) (H : Heap) (locs : List Loc) (ls : Array Slot), xW D KA layR stR ad ids (xA ad ids s.heap.size) s.heap σ H locs → lv_has ls 6 [(2, .int x2), (3, .int x3)] → wX12_isBehind_64 post x2 x3 σ → W p l e rmX12_isBehind s m args below meth c H locs 0 0 Q (F0 m 64 ls []) := by
    intro   x2 x3 σ H locs ls hW hl h
    unfold wX12_isBehind_64 at h
    refine lv_iload_n hx hb dX12_isBehind_64 rfl (lv_at hl 1 rfl) ?_
    refine lv_iload_n hx hb dX12_isBehind_65 rfl (lv_at hl 0 rfl) ?_
    refine lv_icmp_ne (tgt := 73) hx hb dX12_isBehind_66 (by decide) (fun c2 => ?_) (fun c2 => ?_)
    · have h := h.1 c2
      refine lv_iconst (v := 0) hx hb dX12_isBehind_73 (by decide) ?_
      exact blk74   (0 : Int32) _ _ _ _ hW (lv_sub hl [] rfl) h
    · have h := h.2 c2
      refine lv_iconst (v := 1) hx hb dX12_isBehind_69 (by decide) ?_
      refine lv_goto (tgt := 74) hx hb dX12_isBehind_70 (by decide) ?_
      exact blk74   (1 : Int32) _ _ _ _ hW (lv_sub hl [] rfl) h
  have blk50 : ∀ (x2 : Int32) (x3 : Int32) (k2 : Int32 → St → Prop) (hk2 : ∀ (x3 : Int32) (σ : St) (H : Heap) (locs : List Loc) (ls : Array Slot), xW D KA layR stR ad ids (xA ad ids s.heap.size) s.heap σ H locs → lv_has ls 6 [(0, .ref (ad 0)), (2, .int x2), (3, .int x3)] → k2 x3 σ → W p l e rmX12_isBehind s m args below meth c H locs 0 0 Q (F0 m 2 ls [])) (k18 : Int32 → Int32 → St → Prop) (hk18 : ∀ (x4 : Int32) (x5 : Int32) (σ : St) (H : Heap) (locs : List Loc) (ls : Array Slot), xW D KA layR stR ad ids (xA ad ids s.heap.size) s.heap σ H locs → lv_has ls 6 [(0, .ref (ad 0)), (2, .int x2), (3, .int x3), (4, .int x4), (5, .int x5)] → k18 x4 x5 σ → W p l e rmX12_isBehind s m args below meth c H locs 0 0 Q (F0 m 18 ls [])) (x5 : Int32) (s0 : Int32) (σ : St) (H : Heap) (locs : List Loc) (ls : Array Slot), xW D KA layR stR ad ids (xA ad ids s.heap.size) s.heap σ H locs → lv_has ls 6 [(0, .ref (ad 0)), (2, .int x2), (3, .int x3), (5, .int x5)] → wX12_isBehind_50 k2 k18 post x2 x3 x5 s0 σ → W p l e rmX12_isBehind s m args below meth c H locs 0 0 Q (F0 m 50 ls [.int s0]) := by
    intro x2 x3 k2 hk2 k18 hk18 x5 s0 σ H locs ls hW hl h
    unfold wX12_isBehind_50 at h
    refine lv_istore (lv' := [(4, .int s0), (0, .ref (ad 0)), (2, .int x2), (3, .int x3), (5, .int x5)]) hx hb dX12_isBehind_50 hl (by decide) rfl (fun ls hl => ?_)
    obtain ⟨v3, hv3⟩ : ∃ y : Int32, y = x5 + (1 : Int32) := ⟨_, rfl⟩
    have h := h v3 hv3
    refine lv_iinc (v := v3) (lv' := [(5, .int v3), (4, .int s0), (0, .ref (ad 0)), (2, .int x2), (3, .int x3)]) hx hb dX12_isBehind_52 hl (k := 4) rfl (by rw [hv3]; rfl) (by decide) rfl (fun ls hl => ?_)
    refine lv_goto (tgt := 18) hx hb dX12_isBehind_55 (by decide) ?_
    exact hk18 s0 v3 _ _ _ _ hW (lv_sub hl [2, 3, 4, 1, 0] rfl) h
  have blk18 : ∀ (x2 : Int32) (k2 : Int32 → St → Prop) (hk2 : ∀ (x3 : Int32) (σ : St) (H : Heap) (locs : List Loc) (ls : Array Slot), xW D KA layR stR ad ids (xA ad ids s.heap.size) s.heap σ H locs → lv_has ls 6 [(0, .ref (ad 0)), (2, .int x2), (3, .int x3)] → k2 x3 σ → W p l e rmX12_isBehind s m args below meth c H locs 0 0 Q (F0 m 2 ls [])) (x3 : Int32) (n : Nat) (x4 : Int32) (x5 : Int32) (σ : St) (H : Heap) (locs : List Loc) (ls : Array Slot), xW D KA layR stR ad ids (xA ad ids s.heap.size) s.heap σ H locs → lv_has ls 6 [(0, .ref (ad 0)), (2, .int x2), (3, .int x3), (4, .int x4), (5, .int x5)] → wX12_isBehind_18 k2 post x2 x3 n x4 x5 σ → W p l e rmX12_isBehind s m args below meth c H locs 0 0 Q (F0 m 18 ls []) := by
    intro x2 k2 hk2 x3 n
    induction n with
    | zero => intro x4 x5 σ H locs ls hW hl h; exact (h : False).elim
    | succ n ih =>
      intro x4 x5 σ H locs ls hW hl h
      have hk18 : ∀ (x4 : Int32) (x5 : Int32) (σ : St) (H : Heap) (locs : List Loc) (ls : Array Slot), xW D KA layR stR ad ids (xA ad ids s.heap.size) s.heap σ H locs → lv_has ls 6 [(0, .ref (ad 0)), (2, .int x2), (3, .int x3), (4, .int x4), (5, .int x5)] → (wX12_isBehind_18 k2 post x2 x3 n) x4 x5 σ → W p l e rmX12_isBehind s m args below meth c H locs 0 0 Q (F0 m 18 ls []) := fun x4 x5 σ H locs ls hW hl h => ih x4 x5 σ H locs ls hW hl h
      rw [wX12_isBehind_18_s] at h
      try dsimp only at h
      generalize wX12_isBehind_18 k2 post x2 x3 n = k18 at h hk18
      refine lv_iload hx hb dX12_isBehind_18 (lv_at hl 4 rfl) ?_
      refine lv_aload_n hx hb dX12_isBehind_20 rfl (lv_at hl 0 rfl) ?_
      refine xgX12_28 hx hb hts hown hK hW 0 hcX12_isBehind_X12 (hI 0 (by decide)) lR_0 (hts _ hwX12_isBehind_0) dX12_isBehind_21 ?_
      refine lv_icmp_ge (tgt := 58) hx hb dX12_isBehind_24 (by decide) (fun c4 => ?_) (fun c4 => ?_)
      · have h := h.1 c4
        refine lv_iload hx hb dX12_isBehind_58 (lv_at hl 3 rfl) ?_
        refine lv_istore_n (lv' := [(3, .int x4), (0, .ref (ad 0)), (2, .int x2), (4, .int x4), (5, .int x5)]) hx hb dX12_isBehind_60 rfl hl (by decide) rfl (fun ls hl => ?_)
        refine lv_goto (tgt := 2) hx hb dX12_isBehind_61 (by decide) ?_
        exact hk2 x4 _ _ _ _ hW (lv_sub hl [1, 2, 0] rfl) h
      · have h := h.2 c4
        refine lv_aload_n hx hb dX12_isBehind_27 rfl (lv_at hl 0 rfl) ?_
        refine xgX12_23r hx hb hts hown hK hW 0 hcX12_isBehind_X12 (hI 0 (by decide)) lR_0 (hts _ hwX12_isBehind_1) (sR_0_23 _) dX12_isBehind_28 ?_
        refine lv_iload hx hb dX12_isBehind_31 (lv_at hl 4 rfl) ?_
        obtain ⟨hi5, h⟩ := h
        refine x_iald hx hb hK hW 15 (hI 15 (by decide)) lR_15 hi5 dX12_isBehind_33 ?_
        refine lv_iload_n hx hb dX12_isBehind_34 rfl (lv_at hl 2 rfl) ?_
        refine lv_icmp_ne (tgt := 48) hx hb dX12_isBehind_35 (by decide) (fun c6 => ?_) (fun c6 => ?_)
        · have h := h.1 c6
          refine lv_iload hx hb dX12_isBehind_48 (lv_at hl 3 rfl) ?_
          exact blk50 x2 x3 k2 hk2 k18 hk18 x5 x4 _ _ _ _ hW (lv_sub hl [0, 1, 2, 4] rfl) h
        · have h := h.2 c6
          refine lv_aload_n hx hb dX12_isBehind_38 rfl (lv_at hl 0 rfl) ?_
          refine xgX12_22r hx hb hts hown hK hW 0 hcX12_isBehind_X12 (hI 0 (by decide)) lR_0 (hts _ hwX12_isBehind_2) (sR_0_22 _) dX12_isBehind_39 ?_
          refine lv_iload hx hb dX12_isBehind_42 (lv_at hl 4 rfl) ?_
          refine x_iald hx hb hK hW 14 (hI 14 (by decide)) lR_14 hi5 dX12_isBehind_44 ?_
          refine lv_goto (tgt := 50) hx hb dX12_isBehind_45 (by decide) ?_
          exact blk50 x2 x3 k2 hk2 k18 hk18 x5 (gI σ 14 x5.toNatClampNeg) _ _ _ _ hW (lv_sub hl [0, 1, 2, 4] rfl) h
  have blk2 : ∀ (x2 : Int32) (n : Nat) (x3 : Int32) (σ : St) (H : Heap) (locs : List Loc) (ls : Array Slot), xW D KA layR stR ad ids (xA ad ids s.heap.size) s.heap σ H locs → lv_has ls 6 [(0, .ref (ad 0)), (2, .int x2), (3, .int x3)] → wX12_isBehind_2 post x2 n x3 σ → W p l e rmX12_isBehind s m args below meth c H locs 0 0 Q (F0 m 2 ls []) := by
    intro   x2 n
    induction n with
    | zero => intro x3 σ H locs ls hW hl h; exact (h : False).elim
    | succ n ih =>
      intro x3 σ H locs ls hW hl h
      have hk2 : ∀ (x3 : Int32) (σ : St) (H : Heap) (locs : List Loc) (ls : Array Slot), xW D KA layR stR ad ids (xA ad ids s.heap.size) s.heap σ H locs → lv_has ls 6 [(0, .ref (ad 0)), (2, .int x2), (3, .int x3)] → (wX12_isBehind_2 post x2 n) x3 σ → W p l e rmX12_isBehind s m args below meth c H locs 0 0 Q (F0 m 2 ls []) := fun x3 σ H locs ls hW hl h => ih x3 σ H locs ls hW hl h
      rw [wX12_isBehind_2_s] at h
      try dsimp only at h
      generalize wX12_isBehind_2 post x2 n = k2 at h hk2
      refine lv_iload_n hx hb dX12_isBehind_2 rfl (lv_at hl 2 rfl) ?_
      refine lv_iconst (v := (-1)) hx hb dX12_isBehind_3 (by decide) ?_
      refine lv_icmp_eq (tgt := 64) hx hb dX12_isBehind_4 (by decide) (fun c8 => ?_) (fun c8 => ?_)
      · have h := h.1 c8
        exact blk64   x2 x3 _ _ _ _ hW (lv_sub hl [1, 2] rfl) h
      · have h := h.2 c8
        refine lv_iload_n hx hb dX12_isBehind_7 rfl (lv_at hl 2 rfl) ?_
        refine lv_iload_n hx hb dX12_isBehind_8 rfl (lv_at hl 1 rfl) ?_
        refine lv_icmp_eq (tgt := 64) hx hb dX12_isBehind_9 (by decide) (fun c9 => ?_) (fun c9 => ?_)
        · have h := h.1 c9
          exact blk64   x2 x3 _ _ _ _ hW (lv_sub hl [1, 2] rfl) h
        · have h := h.2 c9
          refine lv_iconst (v := (-1)) hx hb dX12_isBehind_12 (by decide) ?_
          refine lv_istore (lv' := [(4, .int (-1 : Int32)), (0, .ref (ad 0)), (2, .int x2), (3, .int x3)]) hx hb dX12_isBehind_13 hl (by decide) rfl (fun ls hl => ?_)
          refine lv_iconst (v := 0) hx hb dX12_isBehind_15 (by decide) ?_
          refine lv_istore (lv' := [(5, .int (0 : Int32)), (4, .int (-1 : Int32)), (0, .ref (ad 0)), (2, .int x2), (3, .int x3)]) hx hb dX12_isBehind_16 hl (by decide) rfl (fun ls hl => ?_)
          obtain ⟨n, h⟩ := h
          exact blk18 x2 k2 hk2 x3 n (-1 : Int32) (0 : Int32) _ _ _ _ hW (lv_sub hl [2, 3, 4, 1, 0] rfl) h
  have main : ∀ (H : Heap) (locs : List Loc) (ls : Array Slot), xW D KA layR stR ad ids (xA ad ids s.heap.size) s.heap σ H locs → lv_has ls 6 [(0, .ref (ad 0)), (1, .int a1), (2, .int a2)] → W p l e rmX12_isBehind s m args below meth c H locs 0 0 Q (F0 m 0 ls []) := by
    intro H locs ls hW hl
    unfold wX12_isBehind at h
    refine lv_iload_n hx hb dX12_isBehind_0 rfl (lv_at hl 1 rfl) ?_
    refine lv_istore_n (lv' := [(3, .int a1), (0, .ref (ad 0)), (1, .int a1), (2, .int a2)]) hx hb dX12_isBehind_1 rfl hl (by decide) rfl (fun ls hl => ?_)
    obtain ⟨n, h⟩ := h
    exact blk2   a2 n a1 _ _ _ _ hW (lv_sub hl [1, 3, 0] rfl) h
  exact main _ _ _ hW hl
theorem hwX12_isDrum_0 : (.fieldLink RX12 163 "FortyBeltsModel" "drumMany" "I" : Cond) ∈ wsX12_isDrum := (List.mem_cons_of_mem _ (List.mem_append_left _ (List.mem_of_getElem? (i := 0) rfl)))
theorem hcX12_isDrum_X12 : ∀ w ∈ wsX120, w ∈ wsX12_isDrum := fun _ h => (List.mem_cons_of_mem _ (List.mem_append_right _ h))
set_option maxHeartbeats 4000000 in
set_option maxRecDepth 100000 in
theorem J_X12_isDrum {D : va_G} {KA : Nat → ClassId} {zs : ZS} {ad : Nat → Nat} {ids : List Nat} {sz : Nat} (l : Launch) (hI : ∀ c, c < 35 → c ∈ ids) {a1 : Int32}  {σ : St} {post : Int32 → St → Prop} (h : wX12_isDrum  a1 σ post) : Met l yX12_isDrum wsX12_isDrum rmX12_isDrum (va_Pc [.ref (ad 0), .int a1] (xIn D KA zs layR stR ad ids sz σ)) (va_Qi post (xOut D KA layR stR ad ids) (xA ad ids sz)) 0 0 (xA ad ids sz) := by
  refine Met.ofW (cc := cX12_isDrum) (maxL := 2) (ret := (some .boolean)) (by decide) rfl ?_
  intro p e s m args below meth c s₁ B hml hv
  obtain ⟨hav, hsz, hK, hZ, hP, hD⟩ := hv
  have hx := B.exec
  have hb := B.bytes
  have hr := B.returns
  have hts := atoms_spec (ws := wsX12_isDrum) B.pre
  have hown : s.vm.findClass RX12 = some m.cls := findClass_of_methodNamed B.named
  have hlocks := B.notSynchronized
  subst hsz
  have hA : ∀ q : Nat, s.heap.size ≤ q → xA ad ids s.heap.size q := fun q h => Or.inr h
  have hW : xW D KA layR stR ad ids (xA ad ids s.heap.size) s.heap σ s.heap [] := ⟨hP, xA_D (D := D) hD, va_S.rf⟩
  have kr : ∀ (v : Int32) (σ : St) (H : Heap) (locs : List Loc) (ls : Array Slot) (pc : Nat), xW D KA layR stR ad ids (xA ad ids s.heap.size) s.heap σ H locs → isB v → post v σ → decode cX12_isDrum pc = .ok (.ireturn, 1) → W p l e rmX12_isDrum s m args below meth c H locs 0 0 (MQ below (va_Qi post (xOut D KA layR stR ad ids) (xA ad ids s.heap.size)) args s 0 0 (xA ad ids s.heap.size)) (F0 m pc ls [.int v]) := fun v σ H locs ls pc hW hz h hd => x_zret hx hb hr hlocks hW hz h hd
  have hl := lv_entry ([.ref (ad 0), .int a1]) (n := 2) (Nat.le_of_ble_eq_true rfl)
  rw [show entryFrame m args 2 = entryFrame m ([.ref (ad 0), .int a1] : List Value).toArray 2 from by rw [hav]]
  rw [lg_entry_eq]
  generalize (lg_sl ([.ref (ad 0), .int a1]) ++ List.replicate (2 - (lg_sl ([.ref (ad 0), .int a1])).length) Slot.unset).toArray = ls at hl ⊢
  have hl : lv_has ls 2 [(0, .ref (ad 0)), (1, .int a1)] := hl
  show W p l e rmX12_isDrum s m args below meth c s.heap [] 0 0 _ _
  generalize MQ below (va_Qi post (xOut D KA layR stR ad ids) (xA ad ids s.heap.size)) args s 0 0 (xA ad ids s.heap.size) = Q at kr ⊢
  have main : ∀ (H : Heap) (locs : List Loc) (ls : Array Slot), xW D KA layR stR ad ids (xA ad ids s.heap.size) s.heap σ H locs → lv_has ls 2 [(0, .ref (ad 0)), (1, .int a1)] → W p l e rmX12_isDrum s m args below meth c H locs 0 0 Q (F0 m 0 ls []) := by
    intro H locs ls hW hl
    unfold wX12_isDrum at h
    refine lv_iload_n hx hb dX12_isDrum_0 rfl (lv_at hl 1 rfl) ?_
    refine lv_i2l hx hb dX12_isDrum_1 rfl ?_
    refine lv_lconst (v := 0) hx hb dX12_isDrum_2 (by decide) ?_
    refine lv_aload_n hx hb dX12_isDrum_3 rfl (lv_at hl 0 rfl) ?_
    refine xgX12_20 hx hb hts hown hK hW 0 hcX12_isDrum_X12 (hI 0 (by decide)) lR_0 (hts _ hwX12_isDrum_0) dX12_isDrum_4 ?_
    refine lv_iconst (v := 1) hx hb dX12_isDrum_7 (by decide) ?_
    refine lv_isub hx hb dX12_isDrum_8 ?_
    refine lv_i2l hx hb dX12_isDrum_9 rfl ?_
    refine x_calli (va_runS (As := [.long (a1.toInt64), .long (0 : Int64), .long (((gI σ 0 20) - (1 : Int32)).toInt64)]) (rest := []) ⟨hx, hb, hml, hown, hts⟩ (J_X12_in l hI h) (va_cwS 3 hts gX12_isDrum_X12_in rfl rfl rfl hdS_X12_in ⟨Nat.le_of_ble_eq_true rfl, Nat.le_of_ble_eq_true rfl⟩) (x_preS hK hZ hA hW) rfl rfl hl.1 rfl (lv_room (Nat.le_of_ble_eq_true rfl)) dX12_isDrum_10 ⟨Nat.zero_le _, Nat.zero_le _⟩) hW hA (fun r1002 σ1001 H locs h hW => ?_)
    try dsimp only at h
    obtain ⟨hz1003, h⟩ := h
    exact kr _ _ _ _ _ _ hW hz1003 h dX12_isDrum_13
  exact main _ _ _ hW hl
theorem hwX12_isShaft_0 : (.fieldLink RX12 153 "FortyBeltsModel" "shafts" "I" : Cond) ∈ wsX12_isShaft := (List.mem_cons_of_mem _ (List.mem_append_left _ (List.mem_of_getElem? (i := 0) rfl)))
theorem hcX12_isShaft_X12 : ∀ w ∈ wsX120, w ∈ wsX12_isShaft := fun _ h => (List.mem_cons_of_mem _ (List.mem_append_right _ h))
set_option maxHeartbeats 4000000 in
set_option maxRecDepth 100000 in
theorem J_X12_isShaft {D : va_G} {KA : Nat → ClassId} {zs : ZS} {ad : Nat → Nat} {ids : List Nat} {sz : Nat} (l : Launch) (hI : ∀ c, c < 35 → c ∈ ids) {a1 : Int32}  {σ : St} {post : Int32 → St → Prop} (h : wX12_isShaft  a1 σ post) : Met l yX12_isShaft wsX12_isShaft rmX12_isShaft (va_Pc [.ref (ad 0), .int a1] (xIn D KA zs layR stR ad ids sz σ)) (va_Qi post (xOut D KA layR stR ad ids) (xA ad ids sz)) 0 0 (xA ad ids sz) := by
  refine Met.ofW (cc := cX12_isShaft) (maxL := 2) (ret := (some .boolean)) (by decide) rfl ?_
  intro p e s m args below meth c s₁ B hml hv
  obtain ⟨hav, hsz, hK, hZ, hP, hD⟩ := hv
  have hx := B.exec
  have hb := B.bytes
  have hr := B.returns
  have hts := atoms_spec (ws := wsX12_isShaft) B.pre
  have hown : s.vm.findClass RX12 = some m.cls := findClass_of_methodNamed B.named
  have hlocks := B.notSynchronized
  subst hsz
  have hA : ∀ q : Nat, s.heap.size ≤ q → xA ad ids s.heap.size q := fun q h => Or.inr h
  have hW : xW D KA layR stR ad ids (xA ad ids s.heap.size) s.heap σ s.heap [] := ⟨hP, xA_D (D := D) hD, va_S.rf⟩
  have kr : ∀ (v : Int32) (σ : St) (H : Heap) (locs : List Loc) (ls : Array Slot) (pc : Nat), xW D KA layR stR ad ids (xA ad ids s.heap.size) s.heap σ H locs → isB v → post v σ → decode cX12_isShaft pc = .ok (.ireturn, 1) → W p l e rmX12_isShaft s m args below meth c H locs 0 0 (MQ below (va_Qi post (xOut D KA layR stR ad ids) (xA ad ids s.heap.size)) args s 0 0 (xA ad ids s.heap.size)) (F0 m pc ls [.int v]) := fun v σ H locs ls pc hW hz h hd => x_zret hx hb hr hlocks hW hz h hd
  have hl := lv_entry ([.ref (ad 0), .int a1]) (n := 2) (Nat.le_of_ble_eq_true rfl)
  rw [show entryFrame m args 2 = entryFrame m ([.ref (ad 0), .int a1] : List Value).toArray 2 from by rw [hav]]
  rw [lg_entry_eq]
  generalize (lg_sl ([.ref (ad 0), .int a1]) ++ List.replicate (2 - (lg_sl ([.ref (ad 0), .int a1])).length) Slot.unset).toArray = ls at hl ⊢
  have hl : lv_has ls 2 [(0, .ref (ad 0)), (1, .int a1)] := hl
  show W p l e rmX12_isShaft s m args below meth c s.heap [] 0 0 _ _
  generalize MQ below (va_Qi post (xOut D KA layR stR ad ids) (xA ad ids s.heap.size)) args s 0 0 (xA ad ids s.heap.size) = Q at kr ⊢
  have main : ∀ (H : Heap) (locs : List Loc) (ls : Array Slot), xW D KA layR stR ad ids (xA ad ids s.heap.size) s.heap σ H locs → lv_has ls 2 [(0, .ref (ad 0)), (1, .int a1)] → W p l e rmX12_isShaft s m args below meth c H locs 0 0 Q (F0 m 0 ls []) := by
    intro H locs ls hW hl
    unfold wX12_isShaft at h
    refine lv_iload_n hx hb dX12_isShaft_0 rfl (lv_at hl 1 rfl) ?_
    refine lv_i2l hx hb dX12_isShaft_1 rfl ?_
    refine lv_lconst (v := 0) hx hb dX12_isShaft_2 (by decide) ?_
    refine lv_aload_n hx hb dX12_isShaft_3 rfl (lv_at hl 0 rfl) ?_
    refine xgX12_9 hx hb hts hown hK hW 0 hcX12_isShaft_X12 (hI 0 (by decide)) lR_0 (hts _ hwX12_isShaft_0) dX12_isShaft_4 ?_
    refine lv_iconst (v := 1) hx hb dX12_isShaft_7 (by decide) ?_
    refine lv_isub hx hb dX12_isShaft_8 ?_
    refine lv_i2l hx hb dX12_isShaft_9 rfl ?_
    refine x_calli (va_runS (As := [.long (a1.toInt64), .long (0 : Int64), .long (((gI σ 0 9) - (1 : Int32)).toInt64)]) (rest := []) ⟨hx, hb, hml, hown, hts⟩ (J_X12_in l hI h) (va_cwS 3 hts gX12_isShaft_X12_in rfl rfl rfl hdS_X12_in ⟨Nat.le_of_ble_eq_true rfl, Nat.le_of_ble_eq_true rfl⟩) (x_preS hK hZ hA hW) rfl rfl hl.1 rfl (lv_room (Nat.le_of_ble_eq_true rfl)) dX12_isShaft_10 ⟨Nat.zero_le _, Nat.zero_le _⟩) hW hA (fun r1002 σ1001 H locs h hW => ?_)
    try dsimp only at h
    obtain ⟨hz1003, h⟩ := h
    exact kr _ _ _ _ _ _ hW hz1003 h dX12_isShaft_13
  exact main _ _ _ hW hl
theorem hwX12_belt_0 : (.fieldLink RX12 166 "FortyBeltsModel" "belts" "I" : Cond) ∈ wsX12_belt := (List.mem_cons_of_mem _ (List.mem_append_left _ (List.mem_append_left _ (List.mem_of_getElem? (i := 2) rfl))))
theorem hwX12_belt_1 : (.fieldLink RX12 50 "FortyBeltsModel" "kind" "[I" : Cond) ∈ wsX12_belt := (List.mem_cons_of_mem _ (List.mem_append_left _ (List.mem_append_left _ (List.mem_of_getElem? (i := 4) rfl))))
theorem hwX12_belt_2 : (.fieldLink RX12 53 "FortyBeltsModel" "driver" "[I" : Cond) ∈ wsX12_belt := (List.mem_cons_of_mem _ (List.mem_append_left _ (List.mem_append_left _ (List.mem_of_getElem? (i := 5) rfl))))
theorem hwX12_belt_3 : (.fieldLink RX12 56 "FortyBeltsModel" "driven" "[I" : Cond) ∈ wsX12_belt := (List.mem_cons_of_mem _ (List.mem_append_left _ (List.mem_append_left _ (List.mem_of_getElem? (i := 3) rfl))))
theorem hwX12_belt_4 : (.fieldLink RX12 59 "FortyBeltsModel" "drumA" "[I" : Cond) ∈ wsX12_belt := (List.mem_cons_of_mem _ (List.mem_append_left _ (List.mem_append_left _ (List.mem_of_getElem? (i := 6) rfl))))
theorem hwX12_belt_5 : (.fieldLink RX12 62 "FortyBeltsModel" "drumB" "[I" : Cond) ∈ wsX12_belt := (List.mem_cons_of_mem _ (List.mem_append_left _ (List.mem_append_left _ (List.mem_of_getElem? (i := 7) rfl))))
theorem hwX12_belt_6 : (.fieldLink RX12 65 "FortyBeltsModel" "grip" "[I" : Cond) ∈ wsX12_belt := (List.mem_cons_of_mem _ (List.mem_append_left _ (List.mem_append_left _ (List.mem_of_getElem? (i := 8) rfl))))
theorem hwX12_belt_7 : (.fieldLink RX12 68 "FortyBeltsModel" "isOn" "[I" : Cond) ∈ wsX12_belt := (List.mem_cons_of_mem _ (List.mem_append_left _ (List.mem_append_left _ (List.mem_of_getElem? (i := 9) rfl))))
theorem hwX12_belt_8 : (.constantLong RX12 188 (5) : Cond) ∈ wsX12_belt := (List.mem_cons_of_mem _ (List.mem_append_left _ (List.mem_append_left _ (List.mem_of_getElem? (i := 0) rfl))))
theorem hwX12_belt_9 : (.constantLong RX12 173 (999) : Cond) ∈ wsX12_belt := (List.mem_cons_of_mem _ (List.mem_append_left _ (List.mem_append_left _ (List.mem_of_getElem? (i := 1) rfl))))
theorem hcX12_belt_X12 : ∀ w ∈ wsX120, w ∈ wsX12_belt := fun _ h => (List.mem_cons_of_mem _ (List.mem_append_right _ h))
set_option maxHeartbeats 4000000 in
set_option maxRecDepth 100000 in
theorem J_X12_belt {D : va_G} {KA : Nat → ClassId} {zs : ZS} {ad : Nat → Nat} {ids : List Nat} {sz : Nat} (l : Launch) (hI : ∀ c, c < 35 → c ∈ ids) {a1 : Int32} {a2 : Int32} {a3 : Int32} {a4 : Int32}  {σ : St} {post : Int32 → St → Prop} (h : wX12_belt  a1 a2 a3 a4 σ post) : Met l yX12_belt wsX12_belt rmX12_belt (va_Pc [.ref (ad 0), .int a1, .int a2, .int a3, .int a4] (xIn D KA zs layR stR ad ids sz σ)) (va_Qi post (xOut D KA layR stR ad ids) (xA ad ids sz)) 0 0 (xA ad ids sz) := by
  refine Met.ofW (cc := cX12_belt) (maxL := 6) (ret := (some .int)) (by decide) rfl ?_
  intro p e s m args below meth c s₁ B hml hv
  obtain ⟨hav, hsz, hK, hZ, hP, hD⟩ := hv
  have hx := B.exec
  have hb := B.bytes
  have hr := B.returns
  have hts := atoms_spec (ws := wsX12_belt) B.pre
  have hown : s.vm.findClass RX12 = some m.cls := findClass_of_methodNamed B.named
  have hlocks := B.notSynchronized
  subst hsz
  have hA : ∀ q : Nat, s.heap.size ≤ q → xA ad ids s.heap.size q := fun q h => Or.inr h
  have hW : xW D KA layR stR ad ids (xA ad ids s.heap.size) s.heap σ s.heap [] := ⟨hP, xA_D (D := D) hD, va_S.rf⟩
  have kr : ∀ (v : Int32) (σ : St) (H : Heap) (locs : List Loc) (ls : Array Slot) (pc : Nat), xW D KA layR stR ad ids (xA ad ids s.heap.size) s.heap σ H locs → post v σ → decode cX12_belt pc = .ok (.ireturn, 1) → W p l e rmX12_belt s m args below meth c H locs 0 0 (MQ below (va_Qi post (xOut D KA layR stR ad ids) (xA ad ids s.heap.size)) args s 0 0 (xA ad ids s.heap.size)) (F0 m pc ls [.int v]) := fun v σ H locs ls pc hW h hd => x_iret hx hb hr hlocks hW h hd
  have hl := lv_entry ([.ref (ad 0), .int a1, .int a2, .int a3, .int a4]) (n := 6) (Nat.le_of_ble_eq_true rfl)
  rw [show entryFrame m args 6 = entryFrame m ([.ref (ad 0), .int a1, .int a2, .int a3, .int a4] : List Value).toArray 6 from by rw [hav]]
  rw [lg_entry_eq]
  generalize (lg_sl ([.ref (ad 0), .int a1, .int a2, .int a3, .int a4]) ++ List.replicate (6 - (lg_sl ([.ref (ad 0), .int a1, .int a2, .int a3, .int a4])).length) Slot.unset).toArray = ls at hl ⊢
  have hl : lv_has ls 6 [(0, .ref (ad 0)), (1, .int a1), (2, .int a2), (3, .int a3), (4, .int a4)] := hl
  show W p l e rmX12_belt s m args below meth c s.heap [] 0 0 _ _
  generalize MQ below (va_Qi post (xOut D KA layR stR ad ids) (xA ad ids s.heap.size)) args s 0 0 (xA ad ids s.heap.size) = Q at kr ⊢
  have blk115 : ∀ (x1 : Int32) (x2 : Int32) (x3 : Int32) (x4 : Int32) (n : Nat) (x5 : Int32) (σ : St) (H : Heap) (locs : List Loc) (ls : Array Slot), xW D KA layR stR ad ids (xA ad ids s.heap.size) s.heap σ H locs → lv_has ls 6 [(0, .ref (ad 0)), (1, .int x1), (2, .int x2), (3, .int x3), (4, .int x4), (5, .int x5)] → wX12_belt_115 post x1 x2 x3 x4 n x5 σ → W p l e rmX12_belt s m args below meth c H locs 0 0 Q (F0 m 115 ls []) := by
    intro   x1 x2 x3 x4 n
    induction n with
    | zero => intro x5 σ H locs ls hW hl h; exact (h : False).elim
    | succ n ih =>
      intro x5 σ H locs ls hW hl h
      have hk115 : ∀ (x5 : Int32) (σ : St) (H : Heap) (locs : List Loc) (ls : Array Slot), xW D KA layR stR ad ids (xA ad ids s.heap.size) s.heap σ H locs → lv_has ls 6 [(0, .ref (ad 0)), (1, .int x1), (2, .int x2), (3, .int x3), (4, .int x4), (5, .int x5)] → (wX12_belt_115 post x1 x2 x3 x4 n) x5 σ → W p l e rmX12_belt s m args below meth c H locs 0 0 Q (F0 m 115 ls []) := fun x5 σ H locs ls hW hl h => ih x5 σ H locs ls hW hl h
      rw [wX12_belt_115_s] at h
      try dsimp only at h
      generalize wX12_belt_115 post x1 x2 x3 x4 n = k115 at h hk115
      refine lv_iload hx hb dX12_belt_115 (lv_at hl 5 rfl) ?_
      refine lv_aload_n hx hb dX12_belt_117 rfl (lv_at hl 0 rfl) ?_
      refine xgX12_28 hx hb hts hown hK hW 0 hcX12_belt_X12 (hI 0 (by decide)) lR_0 (hts _ hwX12_belt_0) dX12_belt_118 ?_
      refine lv_icmp_ge (tgt := 147) hx hb dX12_belt_121 (by decide) (fun c1 => ?_) (fun c1 => ?_)
      · have h := h.1 c1
        refine lv_aload_n hx hb dX12_belt_147 rfl (lv_at hl 0 rfl) ?_
        refine lv_iload_n hx hb dX12_belt_148 rfl (lv_at hl 2 rfl) ?_
        refine lv_bipush (v := 10) hx hb dX12_belt_149 (by decide) ?_
        refine lv_idiv hx hb dX12_belt_151 (by decide) ?_
        refine lv_iload_n hx hb dX12_belt_152 rfl (lv_at hl 2 rfl) ?_
        refine lv_bipush (v := 10) hx hb dX12_belt_153 (by decide) ?_
        refine lv_irem hx hb dX12_belt_155 (by decide) ?_
        refine x_calli (va_runV (As := [.int (x2 / (10 : Int32)), .int (x2 - x2 / (10 : Int32) * (10 : Int32))]) (rest := []) ⟨hx, hb, hml, hown, hts⟩ (J_X12_isBehind l hI h) (cwV 2 hts gX12_belt_X12_isBehind rfl rfl rfl hdV_X12_isBehind ⟨Nat.le_of_ble_eq_true rfl, Nat.le_of_ble_eq_true rfl⟩) (x_preV (ci := 12) hK hZ hA hW (hI 0 (by decide)) lR_0 rfl) rfl rfl hl.1 rfl (lv_room (Nat.le_of_ble_eq_true rfl)) dX12_belt_156 ⟨Nat.zero_le _, Nat.zero_le _⟩) hW hA (fun r3 σ2 H locs h hW => ?_)
        try dsimp only at h
        refine lv_if_eq (tgt := 165) hx hb dX12_belt_159 (by decide) (fun c4 => ?_) (fun c4 => ?_)
        · have h := h.1 c4
          refine lv_aload_n hx hb dX12_belt_165 rfl (lv_at hl 0 rfl) ?_
          refine xgX12_28 hx hb hts hown hK hW 0 hcX12_belt_X12 (hI 0 (by decide)) lR_0 (hts _ hwX12_belt_0) dX12_belt_166 ?_
          refine lv_bipush (v := 7) hx hb dX12_belt_169 (by decide) ?_
          refine lv_icmp_ne (tgt := 177) hx hb dX12_belt_171 (by decide) (fun c5 => ?_) (fun c5 => ?_)
          · have h := h.1 c5
            refine lv_aload_n hx hb dX12_belt_177 rfl (lv_at hl 0 rfl) ?_
            refine xgX12_21r hx hb hts hown hK hW 0 hcX12_belt_X12 (hI 0 (by decide)) lR_0 (hts _ hwX12_belt_1) (sR_0_21 _) dX12_belt_178 ?_
            refine lv_aload_n hx hb dX12_belt_181 rfl (lv_at hl 0 rfl) ?_
            refine xgX12_28 hx hb hts hown hK hW 0 hcX12_belt_X12 (hI 0 (by decide)) lR_0 (hts _ hwX12_belt_0) dX12_belt_182 ?_
            refine lv_iload_n hx hb dX12_belt_185 rfl (lv_at hl 1 rfl) ?_
            obtain ⟨hi6, h⟩ := h
            refine x_iast hx hb hK hW 13 (hI 13 (by decide)) lR_13 hi6 dX12_belt_186 (fun σ7 H locs hσ7 hW => ?_)
            have h := h σ7 hσ7
            refine lv_aload_n hx hb dX12_belt_187 rfl (lv_at hl 0 rfl) ?_
            refine xgX12_22r hx hb hts hown hK hW 0 hcX12_belt_X12 (hI 0 (by decide)) lR_0 (hts _ hwX12_belt_2) (sR_0_22 _) dX12_belt_188 ?_
            refine lv_aload_n hx hb dX12_belt_191 rfl (lv_at hl 0 rfl) ?_
            refine xgX12_28 hx hb hts hown hK hW 0 hcX12_belt_X12 (hI 0 (by decide)) lR_0 (hts _ hwX12_belt_0) dX12_belt_192 ?_
            refine lv_iload_n hx hb dX12_belt_195 rfl (lv_at hl 2 rfl) ?_
            refine lv_bipush (v := 10) hx hb dX12_belt_196 (by decide) ?_
            refine lv_idiv hx hb dX12_belt_198 (by decide) ?_
            obtain ⟨hi8, h⟩ := h
            refine x_iast hx hb hK hW 14 (hI 14 (by decide)) lR_14 hi8 dX12_belt_199 (fun σ9 H locs hσ9 hW => ?_)
            have h := h σ9 hσ9
            refine lv_aload_n hx hb dX12_belt_200 rfl (lv_at hl 0 rfl) ?_
            refine xgX12_23r hx hb hts hown hK hW 0 hcX12_belt_X12 (hI 0 (by decide)) lR_0 (hts _ hwX12_belt_3) (sR_0_23 _) dX12_belt_201 ?_
            refine lv_aload_n hx hb dX12_belt_204 rfl (lv_at hl 0 rfl) ?_
            refine xgX12_28 hx hb hts hown hK hW 0 hcX12_belt_X12 (hI 0 (by decide)) lR_0 (hts _ hwX12_belt_0) dX12_belt_205 ?_
            refine lv_iload_n hx hb dX12_belt_208 rfl (lv_at hl 2 rfl) ?_
            refine lv_bipush (v := 10) hx hb dX12_belt_209 (by decide) ?_
            refine lv_irem hx hb dX12_belt_211 (by decide) ?_
            obtain ⟨hi10, h⟩ := h
            refine x_iast hx hb hK hW 15 (hI 15 (by decide)) lR_15 hi10 dX12_belt_212 (fun σ11 H locs hσ11 hW => ?_)
            have h := h σ11 hσ11
            refine lv_aload_n hx hb dX12_belt_213 rfl (lv_at hl 0 rfl) ?_
            refine xgX12_24r hx hb hts hown hK hW 0 hcX12_belt_X12 (hI 0 (by decide)) lR_0 (hts _ hwX12_belt_4) (sR_0_24 _) dX12_belt_214 ?_
            refine lv_aload_n hx hb dX12_belt_217 rfl (lv_at hl 0 rfl) ?_
            refine xgX12_28 hx hb hts hown hK hW 0 hcX12_belt_X12 (hI 0 (by decide)) lR_0 (hts _ hwX12_belt_0) dX12_belt_218 ?_
            refine lv_iload_n hx hb dX12_belt_221 rfl (lv_at hl 3 rfl) ?_
            refine lv_bipush (v := 100) hx hb dX12_belt_222 (by decide) ?_
            refine lv_idiv hx hb dX12_belt_224 (by decide) ?_
            obtain ⟨hi12, h⟩ := h
            refine x_iast hx hb hK hW 16 (hI 16 (by decide)) lR_16 hi12 dX12_belt_225 (fun σ13 H locs hσ13 hW => ?_)
            have h := h σ13 hσ13
            refine lv_aload_n hx hb dX12_belt_226 rfl (lv_at hl 0 rfl) ?_
            refine xgX12_25r hx hb hts hown hK hW 0 hcX12_belt_X12 (hI 0 (by decide)) lR_0 (hts _ hwX12_belt_5) (sR_0_25 _) dX12_belt_227 ?_
            refine lv_aload_n hx hb dX12_belt_230 rfl (lv_at hl 0 rfl) ?_
            refine xgX12_28 hx hb hts hown hK hW 0 hcX12_belt_X12 (hI 0 (by decide)) lR_0 (hts _ hwX12_belt_0) dX12_belt_231 ?_
            refine lv_iload_n hx hb dX12_belt_234 rfl (lv_at hl 3 rfl) ?_
            refine lv_bipush (v := 100) hx hb dX12_belt_235 (by decide) ?_
            refine lv_irem hx hb dX12_belt_237 (by decide) ?_
            obtain ⟨hi14, h⟩ := h
            refine x_iast hx hb hK hW 17 (hI 17 (by decide)) lR_17 hi14 dX12_belt_238 (fun σ15 H locs hσ15 hW => ?_)
            have h := h σ15 hσ15
            refine lv_aload_n hx hb dX12_belt_239 rfl (lv_at hl 0 rfl) ?_
            refine xgX12_26r hx hb hts hown hK hW 0 hcX12_belt_X12 (hI 0 (by decide)) lR_0 (hts _ hwX12_belt_6) (sR_0_26 _) dX12_belt_240 ?_
            refine lv_aload_n hx hb dX12_belt_243 rfl (lv_at hl 0 rfl) ?_
            refine xgX12_28 hx hb hts hown hK hW 0 hcX12_belt_X12 (hI 0 (by decide)) lR_0 (hts _ hwX12_belt_0) dX12_belt_244 ?_
            refine lv_iload hx hb dX12_belt_247 (lv_at hl 4 rfl) ?_
            obtain ⟨hi16, h⟩ := h
            refine x_iast hx hb hK hW 18 (hI 18 (by decide)) lR_18 hi16 dX12_belt_249 (fun σ17 H locs hσ17 hW => ?_)
            have h := h σ17 hσ17
            refine lv_aload_n hx hb dX12_belt_250 rfl (lv_at hl 0 rfl) ?_
            refine xgX12_27r hx hb hts hown hK hW 0 hcX12_belt_X12 (hI 0 (by decide)) lR_0 (hts _ hwX12_belt_7) (sR_0_27 _) dX12_belt_251 ?_
            refine lv_aload_n hx hb dX12_belt_254 rfl (lv_at hl 0 rfl) ?_
            refine xgX12_28 hx hb hts hown hK hW 0 hcX12_belt_X12 (hI 0 (by decide)) lR_0 (hts _ hwX12_belt_0) dX12_belt_255 ?_
            refine lv_iconst (v := 1) hx hb dX12_belt_258 (by decide) ?_
            obtain ⟨hi18, h⟩ := h
            refine x_iast hx hb hK hW 19 (hI 19 (by decide)) lR_19 hi18 dX12_belt_259 (fun σ19 H locs hσ19 hW => ?_)
            have h := h σ19 hσ19
            refine lv_aload_n hx hb dX12_belt_260 rfl (lv_at hl 0 rfl) ?_
            refine lv_dup hx hb dX12_belt_261 rfl ?_
            refine xgX12_28 hx hb hts hown hK hW 0 hcX12_belt_X12 (hI 0 (by decide)) lR_0 (hts _ hwX12_belt_0) dX12_belt_262 ?_
            refine lv_iconst (v := 1) hx hb dX12_belt_265 (by decide) ?_
            refine lv_iadd hx hb dX12_belt_266 ?_
            refine xpX12_28 hx hb hts hown hK hW 0 hcX12_belt_X12 (hI 0 (by decide)) lR_0 (hts _ hwX12_belt_0) dX12_belt_267 (fun σ20 H locs hσ20 hW => ?_)
            have h := h σ20 hσ20
            refine lv_aload_n hx hb dX12_belt_270 rfl (lv_at hl 0 rfl) ?_
            refine xgX12_28 hx hb hts hown hK hW 0 hcX12_belt_X12 (hI 0 (by decide)) lR_0 (hts _ hwX12_belt_0) dX12_belt_271 ?_
            refine lv_iconst (v := 1) hx hb dX12_belt_274 (by decide) ?_
            refine lv_isub hx hb dX12_belt_275 ?_
            exact kr _ _ _ _ _ _ hW h dX12_belt_276
          · have h := h.2 c5
            refine lv_bipush (v := (-4)) hx hb dX12_belt_174 (by decide) ?_
            exact kr _ _ _ _ _ _ hW h dX12_belt_176
        · have h := h.2 c4
          refine lv_bipush (v := (-3)) hx hb dX12_belt_162 (by decide) ?_
          exact kr _ _ _ _ _ _ hW h dX12_belt_164
      · have h := h.2 c1
        refine lv_aload_n hx hb dX12_belt_124 rfl (lv_at hl 0 rfl) ?_
        refine xgX12_23r hx hb hts hown hK hW 0 hcX12_belt_X12 (hI 0 (by decide)) lR_0 (hts _ hwX12_belt_3) (sR_0_23 _) dX12_belt_125 ?_
        refine lv_iload hx hb dX12_belt_128 (lv_at hl 5 rfl) ?_
        obtain ⟨hi21, h⟩ := h
        refine x_iald hx hb hK hW 15 (hI 15 (by decide)) lR_15 hi21 dX12_belt_130 ?_
        refine lv_iload_n hx hb dX12_belt_131 rfl (lv_at hl 2 rfl) ?_
        refine lv_bipush (v := 10) hx hb dX12_belt_132 (by decide) ?_
        refine lv_irem hx hb dX12_belt_134 (by decide) ?_
        refine lv_icmp_ne (tgt := 141) hx hb dX12_belt_135 (by decide) (fun c22 => ?_) (fun c22 => ?_)
        · have h := h.1 c22
          obtain ⟨v23, hv23⟩ : ∃ y : Int32, y = x5 + (1 : Int32) := ⟨_, rfl⟩
          have h := h v23 hv23
          refine lv_iinc (v := v23) (lv' := [(5, .int v23), (0, .ref (ad 0)), (1, .int x1), (2, .int x2), (3, .int x3), (4, .int x4)]) hx hb dX12_belt_141 hl (k := 5) rfl (by rw [hv23]; rfl) (by decide) rfl (fun ls hl => ?_)
          refine lv_goto (tgt := 115) hx hb dX12_belt_144 (by decide) ?_
          exact hk115 v23 _ _ _ _ hW (lv_sub hl [1, 2, 3, 4, 5, 0] rfl) h
        · have h := h.2 c22
          refine lv_bipush (v := (-3)) hx hb dX12_belt_138 (by decide) ?_
          exact kr _ _ _ _ _ _ hW h dX12_belt_140
  have blk109 : ∀ (σ : St) (H : Heap) (locs : List Loc) (ls : Array Slot), xW D KA layR stR ad ids (xA ad ids s.heap.size) s.heap σ H locs → lv_has ls 6 [] → wX12_belt_109 post  σ → W p l e rmX12_belt s m args below meth c H locs 0 0 Q (F0 m 109 ls []) := by
    intro    σ H locs ls hW hl h
    unfold wX12_belt_109 at h
    refine lv_bipush (v := (-2)) hx hb dX12_belt_109 (by decide) ?_
    exact kr _ _ _ _ _ _ hW h dX12_belt_111
  have blk56 : ∀ (σ : St) (H : Heap) (locs : List Loc) (ls : Array Slot), xW D KA layR stR ad ids (xA ad ids s.heap.size) s.heap σ H locs → lv_has ls 6 [] → wX12_belt_56 post  σ → W p l e rmX12_belt s m args below meth c H locs 0 0 Q (F0 m 56 ls []) := by
    intro    σ H locs ls hW hl h
    unfold wX12_belt_56 at h
    refine lv_bipush (v := (-2)) hx hb dX12_belt_56 (by decide) ?_
    exact kr _ _ _ _ _ _ hW h dX12_belt_58
  have main : ∀ (H : Heap) (locs : List Loc) (ls : Array Slot), xW D KA layR stR ad ids (xA ad ids s.heap.size) s.heap σ H locs → lv_has ls 6 [(0, .ref (ad 0)), (1, .int a1), (2, .int a2), (3, .int a3), (4, .int a4)] → W p l e rmX12_belt s m args below meth c H locs 0 0 Q (F0 m 0 ls []) := by
    intro H locs ls hW hl
    unfold wX12_belt at h
    refine lv_iload_n hx hb dX12_belt_0 rfl (lv_at hl 1 rfl) ?_
    refine lv_i2l hx hb dX12_belt_1 rfl ?_
    refine lv_lconst (v := 0) hx hb dX12_belt_2 (by decide) ?_
    refine lv_ldc2 hx hb hown (hts _ hwX12_belt_8) dX12_belt_3 ?_
    refine x_calli (va_runS (As := [.long (a1.toInt64), .long (0 : Int64), .long (5 : Int64)]) (rest := []) ⟨hx, hb, hml, hown, hts⟩ (J_X12_in l hI h) (va_cwS 3 hts gX12_belt_X12_in rfl rfl rfl hdS_X12_in ⟨Nat.le_of_ble_eq_true rfl, Nat.le_of_ble_eq_true rfl⟩) (x_preS hK hZ hA hW) rfl rfl hl.1 rfl (lv_room (Nat.le_of_ble_eq_true rfl)) dX12_belt_6 ⟨Nat.zero_le _, Nat.zero_le _⟩) hW hA (fun r1002 σ1001 H locs h hW => ?_)
    try dsimp only at h
    refine lv_if_eq (tgt := 56) hx hb dX12_belt_9 (by decide) (fun c1003 => ?_) (fun c1003 => ?_)
    · have h := h.1 c1003
      exact blk56    _ _ _ _ hW (lv_sub hl [] rfl) h
    · have h := h.2 c1003
      refine lv_iload_n hx hb dX12_belt_12 rfl (lv_at hl 2 rfl) ?_
      refine lv_if_lt (tgt := 56) hx hb dX12_belt_13 (by decide) (fun c1004 => ?_) (fun c1004 => ?_)
      · have h := h.1 c1004
        exact blk56    _ _ _ _ hW (lv_sub hl [] rfl) h
      · have h := h.2 c1004
        refine lv_aload_n hx hb dX12_belt_16 rfl (lv_at hl 0 rfl) ?_
        refine lv_iload_n hx hb dX12_belt_17 rfl (lv_at hl 2 rfl) ?_
        refine lv_bipush (v := 10) hx hb dX12_belt_18 (by decide) ?_
        refine lv_idiv hx hb dX12_belt_20 (by decide) ?_
        refine x_calli (va_runV (As := [.int (a2 / (10 : Int32))]) (rest := []) ⟨hx, hb, hml, hown, hts⟩ (J_X12_isShaft l hI h) (cwV 1 hts gX12_belt_X12_isShaft rfl rfl rfl hdV_X12_isShaft ⟨Nat.le_of_ble_eq_true rfl, Nat.le_of_ble_eq_true rfl⟩) (x_preV (ci := 12) hK hZ hA hW (hI 0 (by decide)) lR_0 rfl) rfl rfl hl.1 rfl (lv_room (Nat.le_of_ble_eq_true rfl)) dX12_belt_21 ⟨Nat.zero_le _, Nat.zero_le _⟩) hW hA (fun r1006 σ1005 H locs h hW => ?_)
        try dsimp only at h
        refine lv_if_eq (tgt := 56) hx hb dX12_belt_24 (by decide) (fun c1007 => ?_) (fun c1007 => ?_)
        · have h := h.1 c1007
          exact blk56    _ _ _ _ hW (lv_sub hl [] rfl) h
        · have h := h.2 c1007
          refine lv_aload_n hx hb dX12_belt_27 rfl (lv_at hl 0 rfl) ?_
          refine lv_iload_n hx hb dX12_belt_28 rfl (lv_at hl 2 rfl) ?_
          refine lv_bipush (v := 10) hx hb dX12_belt_29 (by decide) ?_
          refine lv_irem hx hb dX12_belt_31 (by decide) ?_
          refine x_calli (va_runV (As := [.int (a2 - a2 / (10 : Int32) * (10 : Int32))]) (rest := []) ⟨hx, hb, hml, hown, hts⟩ (J_X12_isShaft l hI h) (cwV 1 hts gX12_belt_X12_isShaft rfl rfl rfl hdV_X12_isShaft ⟨Nat.le_of_ble_eq_true rfl, Nat.le_of_ble_eq_true rfl⟩) (x_preV (ci := 12) hK hZ hA hW (hI 0 (by decide)) lR_0 rfl) rfl rfl hl.1 rfl (lv_room (Nat.le_of_ble_eq_true rfl)) dX12_belt_32 ⟨Nat.zero_le _, Nat.zero_le _⟩) hW hA (fun r1009 σ1008 H locs h hW => ?_)
          try dsimp only at h
          refine lv_if_eq (tgt := 56) hx hb dX12_belt_35 (by decide) (fun c1010 => ?_) (fun c1010 => ?_)
          · have h := h.1 c1010
            exact blk56    _ _ _ _ hW (lv_sub hl [] rfl) h
          · have h := h.2 c1010
            refine lv_iload_n hx hb dX12_belt_38 rfl (lv_at hl 2 rfl) ?_
            refine lv_bipush (v := 10) hx hb dX12_belt_39 (by decide) ?_
            refine lv_irem hx hb dX12_belt_41 (by decide) ?_
            refine lv_if_eq (tgt := 56) hx hb dX12_belt_42 (by decide) (fun c1011 => ?_) (fun c1011 => ?_)
            · have h := h.1 c1011
              exact blk56    _ _ _ _ hW (lv_sub hl [] rfl) h
            · have h := h.2 c1011
              refine lv_iload_n hx hb dX12_belt_45 rfl (lv_at hl 2 rfl) ?_
              refine lv_bipush (v := 10) hx hb dX12_belt_46 (by decide) ?_
              refine lv_idiv hx hb dX12_belt_48 (by decide) ?_
              refine lv_iload_n hx hb dX12_belt_49 rfl (lv_at hl 2 rfl) ?_
              refine lv_bipush (v := 10) hx hb dX12_belt_50 (by decide) ?_
              refine lv_irem hx hb dX12_belt_52 (by decide) ?_
              refine lv_icmp_ne (tgt := 59) hx hb dX12_belt_53 (by decide) (fun c1012 => ?_) (fun c1012 => ?_)
              · have h := h.1 c1012
                refine lv_iload_n hx hb dX12_belt_59 rfl (lv_at hl 3 rfl) ?_
                refine lv_if_lt (tgt := 109) hx hb dX12_belt_60 (by decide) (fun c1013 => ?_) (fun c1013 => ?_)
                · have h := h.1 c1013
                  exact blk109    _ _ _ _ hW (lv_sub hl [] rfl) h
                · have h := h.2 c1013
                  refine lv_aload_n hx hb dX12_belt_63 rfl (lv_at hl 0 rfl) ?_
                  refine lv_iload_n hx hb dX12_belt_64 rfl (lv_at hl 3 rfl) ?_
                  refine lv_bipush (v := 100) hx hb dX12_belt_65 (by decide) ?_
                  refine lv_idiv hx hb dX12_belt_67 (by decide) ?_
                  refine x_calli (va_runV (As := [.int (a3 / (100 : Int32))]) (rest := []) ⟨hx, hb, hml, hown, hts⟩ (J_X12_isDrum l hI h) (cwV 1 hts gX12_belt_X12_isDrum rfl rfl rfl hdV_X12_isDrum ⟨Nat.le_of_ble_eq_true rfl, Nat.le_of_ble_eq_true rfl⟩) (x_preV (ci := 12) hK hZ hA hW (hI 0 (by decide)) lR_0 rfl) rfl rfl hl.1 rfl (lv_room (Nat.le_of_ble_eq_true rfl)) dX12_belt_68 ⟨Nat.zero_le _, Nat.zero_le _⟩) hW hA (fun r1015 σ1014 H locs h hW => ?_)
                  try dsimp only at h
                  refine lv_if_eq (tgt := 109) hx hb dX12_belt_71 (by decide) (fun c1016 => ?_) (fun c1016 => ?_)
                  · have h := h.1 c1016
                    exact blk109    _ _ _ _ hW (lv_sub hl [] rfl) h
                  · have h := h.2 c1016
                    refine lv_aload_n hx hb dX12_belt_74 rfl (lv_at hl 0 rfl) ?_
                    refine lv_iload_n hx hb dX12_belt_75 rfl (lv_at hl 3 rfl) ?_
                    refine lv_bipush (v := 100) hx hb dX12_belt_76 (by decide) ?_
                    refine lv_irem hx hb dX12_belt_78 (by decide) ?_
                    refine x_calli (va_runV (As := [.int (a3 - a3 / (100 : Int32) * (100 : Int32))]) (rest := []) ⟨hx, hb, hml, hown, hts⟩ (J_X12_isDrum l hI h) (cwV 1 hts gX12_belt_X12_isDrum rfl rfl rfl hdV_X12_isDrum ⟨Nat.le_of_ble_eq_true rfl, Nat.le_of_ble_eq_true rfl⟩) (x_preV (ci := 12) hK hZ hA hW (hI 0 (by decide)) lR_0 rfl) rfl rfl hl.1 rfl (lv_room (Nat.le_of_ble_eq_true rfl)) dX12_belt_79 ⟨Nat.zero_le _, Nat.zero_le _⟩) hW hA (fun r1018 σ1017 H locs h hW => ?_)
                    try dsimp only at h
                    refine lv_if_eq (tgt := 109) hx hb dX12_belt_82 (by decide) (fun c1019 => ?_) (fun c1019 => ?_)
                    · have h := h.1 c1019
                      exact blk109    _ _ _ _ hW (lv_sub hl [] rfl) h
                    · have h := h.2 c1019
                      refine lv_iload_n hx hb dX12_belt_85 rfl (lv_at hl 3 rfl) ?_
                      refine lv_bipush (v := 100) hx hb dX12_belt_86 (by decide) ?_
                      refine lv_idiv hx hb dX12_belt_88 (by decide) ?_
                      refine lv_iload_n hx hb dX12_belt_89 rfl (lv_at hl 3 rfl) ?_
                      refine lv_bipush (v := 100) hx hb dX12_belt_90 (by decide) ?_
                      refine lv_irem hx hb dX12_belt_92 (by decide) ?_
                      refine lv_icmp_eq (tgt := 109) hx hb dX12_belt_93 (by decide) (fun c1020 => ?_) (fun c1020 => ?_)
                      · have h := h.1 c1020
                        exact blk109    _ _ _ _ hW (lv_sub hl [] rfl) h
                      · have h := h.2 c1020
                        refine lv_iload hx hb dX12_belt_96 (lv_at hl 4 rfl) ?_
                        refine lv_i2l hx hb dX12_belt_98 rfl ?_
                        refine lv_lconst (v := 1) hx hb dX12_belt_99 (by decide) ?_
                        refine lv_ldc2 hx hb hown (hts _ hwX12_belt_9) dX12_belt_100 ?_
                        refine x_calli (va_runS (As := [.long (a4.toInt64), .long (1 : Int64), .long (999 : Int64)]) (rest := []) ⟨hx, hb, hml, hown, hts⟩ (J_X12_in l hI h) (va_cwS 3 hts gX12_belt_X12_in rfl rfl rfl hdS_X12_in ⟨Nat.le_of_ble_eq_true rfl, Nat.le_of_ble_eq_true rfl⟩) (x_preS hK hZ hA hW) rfl rfl hl.1 rfl (lv_room (Nat.le_of_ble_eq_true rfl)) dX12_belt_103 ⟨Nat.zero_le _, Nat.zero_le _⟩) hW hA (fun r1022 σ1021 H locs h hW => ?_)
                        try dsimp only at h
                        refine lv_if_ne (tgt := 112) hx hb dX12_belt_106 (by decide) (fun c1023 => ?_) (fun c1023 => ?_)
                        · have h := h.1 c1023
                          refine lv_iconst (v := 0) hx hb dX12_belt_112 (by decide) ?_
                          refine lv_istore (lv' := [(5, .int (0 : Int32)), (0, .ref (ad 0)), (1, .int a1), (2, .int a2), (3, .int a3), (4, .int a4)]) hx hb dX12_belt_113 hl (by decide) rfl (fun ls hl => ?_)
                          obtain ⟨n, h⟩ := h
                          exact blk115   a1 a2 a3 a4 n (0 : Int32) _ _ _ _ hW (lv_sub hl [1, 2, 3, 4, 5, 0] rfl) h
                        · have h := h.2 c1023
                          exact blk109    _ _ _ _ hW (lv_sub hl [] rfl) h
              · have h := h.2 c1012
                exact blk56    _ _ _ _ hW (lv_sub hl [] rfl) h
  exact main _ _ _ hW hl
theorem hwX12_isMachine_0 : (.fieldLink RX12 160 "FortyBeltsModel" "machines" "I" : Cond) ∈ wsX12_isMachine := (List.mem_cons_of_mem _ (List.mem_append_left _ (List.mem_of_getElem? (i := 0) rfl)))
theorem hcX12_isMachine_X12 : ∀ w ∈ wsX120, w ∈ wsX12_isMachine := fun _ h => (List.mem_cons_of_mem _ (List.mem_append_right _ h))
set_option maxHeartbeats 4000000 in
set_option maxRecDepth 100000 in
theorem J_X12_isMachine {D : va_G} {KA : Nat → ClassId} {zs : ZS} {ad : Nat → Nat} {ids : List Nat} {sz : Nat} (l : Launch) (hI : ∀ c, c < 35 → c ∈ ids) {a1 : Int32}  {σ : St} {post : Int32 → St → Prop} (h : wX12_isMachine  a1 σ post) : Met l yX12_isMachine wsX12_isMachine rmX12_isMachine (va_Pc [.ref (ad 0), .int a1] (xIn D KA zs layR stR ad ids sz σ)) (va_Qi post (xOut D KA layR stR ad ids) (xA ad ids sz)) 0 0 (xA ad ids sz) := by
  refine Met.ofW (cc := cX12_isMachine) (maxL := 2) (ret := (some .boolean)) (by decide) rfl ?_
  intro p e s m args below meth c s₁ B hml hv
  obtain ⟨hav, hsz, hK, hZ, hP, hD⟩ := hv
  have hx := B.exec
  have hb := B.bytes
  have hr := B.returns
  have hts := atoms_spec (ws := wsX12_isMachine) B.pre
  have hown : s.vm.findClass RX12 = some m.cls := findClass_of_methodNamed B.named
  have hlocks := B.notSynchronized
  subst hsz
  have hA : ∀ q : Nat, s.heap.size ≤ q → xA ad ids s.heap.size q := fun q h => Or.inr h
  have hW : xW D KA layR stR ad ids (xA ad ids s.heap.size) s.heap σ s.heap [] := ⟨hP, xA_D (D := D) hD, va_S.rf⟩
  have kr : ∀ (v : Int32) (σ : St) (H : Heap) (locs : List Loc) (ls : Array Slot) (pc : Nat), xW D KA layR stR ad ids (xA ad ids s.heap.size) s.heap σ H locs → isB v → post v σ → decode cX12_isMachine pc = .ok (.ireturn, 1) → W p l e rmX12_isMachine s m args below meth c H locs 0 0 (MQ below (va_Qi post (xOut D KA layR stR ad ids) (xA ad ids s.heap.size)) args s 0 0 (xA ad ids s.heap.size)) (F0 m pc ls [.int v]) := fun v σ H locs ls pc hW hz h hd => x_zret hx hb hr hlocks hW hz h hd
  have hl := lv_entry ([.ref (ad 0), .int a1]) (n := 2) (Nat.le_of_ble_eq_true rfl)
  rw [show entryFrame m args 2 = entryFrame m ([.ref (ad 0), .int a1] : List Value).toArray 2 from by rw [hav]]
  rw [lg_entry_eq]
  generalize (lg_sl ([.ref (ad 0), .int a1]) ++ List.replicate (2 - (lg_sl ([.ref (ad 0), .int a1])).length) Slot.unset).toArray = ls at hl ⊢
  have hl : lv_has ls 2 [(0, .ref (ad 0)), (1, .int a1)] := hl
  show W p l e rmX12_isMachine s m args below meth c s.heap [] 0 0 _ _
  generalize MQ below (va_Qi post (xOut D KA layR stR ad ids) (xA ad ids s.heap.size)) args s 0 0 (xA ad ids s.heap.size) = Q at kr ⊢
  have main : ∀ (H : Heap) (locs : List Loc) (ls : Array Slot), xW D KA layR stR ad ids (xA ad ids s.heap.size) s.heap σ H locs → lv_has ls 2 [(0, .ref (ad 0)), (1, .int a1)] → W p l e rmX12_isMachine s m args below meth c H locs 0 0 Q (F0 m 0 ls []) := by
    intro H locs ls hW hl
    unfold wX12_isMachine at h
    refine lv_iload_n hx hb dX12_isMachine_0 rfl (lv_at hl 1 rfl) ?_
    refine lv_i2l hx hb dX12_isMachine_1 rfl ?_
    refine lv_lconst (v := 0) hx hb dX12_isMachine_2 (by decide) ?_
    refine lv_aload_n hx hb dX12_isMachine_3 rfl (lv_at hl 0 rfl) ?_
    refine xgX12_18 hx hb hts hown hK hW 0 hcX12_isMachine_X12 (hI 0 (by decide)) lR_0 (hts _ hwX12_isMachine_0) dX12_isMachine_4 ?_
    refine lv_iconst (v := 1) hx hb dX12_isMachine_7 (by decide) ?_
    refine lv_isub hx hb dX12_isMachine_8 ?_
    refine lv_i2l hx hb dX12_isMachine_9 rfl ?_
    refine x_calli (va_runS (As := [.long (a1.toInt64), .long (0 : Int64), .long (((gI σ 0 18) - (1 : Int32)).toInt64)]) (rest := []) ⟨hx, hb, hml, hown, hts⟩ (J_X12_in l hI h) (va_cwS 3 hts gX12_isMachine_X12_in rfl rfl rfl hdS_X12_in ⟨Nat.le_of_ble_eq_true rfl, Nat.le_of_ble_eq_true rfl⟩) (x_preS hK hZ hA hW) rfl rfl hl.1 rfl (lv_room (Nat.le_of_ble_eq_true rfl)) dX12_isMachine_10 ⟨Nat.zero_le _, Nat.zero_le _⟩) hW hA (fun r1002 σ1001 H locs h hW => ?_)
    try dsimp only at h
    obtain ⟨hz1003, h⟩ := h
    exact kr _ _ _ _ _ _ hW hz1003 h dX12_isMachine_13
  exact main _ _ _ hW hl
set_option maxHeartbeats 4000000 in
set_option maxRecDepth 100000 in
theorem J_X12_common {D : va_G} {KA : Nat → ClassId} {zs : ZS} {ad : Nat → Nat} {ids : List Nat} {sz : Nat} (l : Launch) (hI : ∀ c, c < 35 → c ∈ ids) {a0 : Int64} {a2 : Int64}  {σ : St} {post : Int64 → St → Prop} (h : wX12_common  a0 a2 σ post) : Met l yX12_common wsX12_common rmX12_common (va_Pc [.long a0, .long a2] (xIn D KA zs layR stR ad ids sz σ)) (va_Ql post (xOut D KA layR stR ad ids) (xA ad ids sz)) 0 0 (xA ad ids sz) := by
  refine Met.ofW (cc := cX12_common) (maxL := 10) (ret := (some .long)) (by decide) rfl ?_
  intro p e s m args below meth c s₁ B hml hv
  obtain ⟨hav, hsz, hK, hZ, hP, hD⟩ := hv
  have hx := B.exec
  have hb := B.bytes
  have hr := B.returns
  have hts := atoms_spec (ws := wsX12_common) B.pre
  have hown : s.vm.findClass RX12 = some m.cls := findClass_of_methodNamed B.named
  have hlocks := B.notSynchronized
  subst hsz
  have hA : ∀ q : Nat, s.heap.size ≤ q → xA ad ids s.heap.size q := fun q h => Or.inr h
  have hW : xW D KA layR stR ad ids (xA ad ids s.heap.size) s.heap σ s.heap [] := ⟨hP, xA_D (D := D) hD, va_S.rf⟩
  have kr : ∀ (v : Int64) (σ : St) (H : Heap) (locs : List Loc) (ls : Array Slot) (pc : Nat), xW D KA layR stR ad ids (xA ad ids s.heap.size) s.heap σ H locs → post v σ → decode cX12_common pc = .ok (.lreturn, 1) → W p l e rmX12_common s m args below meth c H locs 0 0 (MQ below (va_Ql post (xOut D KA layR stR ad ids) (xA ad ids s.heap.size)) args s 0 0 (xA ad ids s.heap.size)) (F0 m pc ls [.long v]) := fun v σ H locs ls pc hW h hd => x_lret hx hb hr hlocks hW h hd
  have hl := lv_entry ([.long a0, .long a2]) (n := 10) (Nat.le_of_ble_eq_true rfl)
  rw [show entryFrame m args 10 = entryFrame m ([.long a0, .long a2] : List Value).toArray 10 from by rw [hav]]
  rw [lg_entry_eq]
  generalize (lg_sl ([.long a0, .long a2]) ++ List.replicate (10 - (lg_sl ([.long a0, .long a2])).length) Slot.unset).toArray = ls at hl ⊢
  have hl : lv_has ls 10 [(0, .long a0), (2, .long a2)] := hl
  show W p l e rmX12_common s m args below meth c s.heap [] 0 0 _ _
  generalize MQ below (va_Ql post (xOut D KA layR stR ad ids) (xA ad ids s.heap.size)) args s 0 0 (xA ad ids s.heap.size) = Q at kr ⊢
  have blk6 : ∀ (n : Nat) (x4 : Int64) (x6 : Int64) (σ : St) (H : Heap) (locs : List Loc) (ls : Array Slot), xW D KA layR stR ad ids (xA ad ids s.heap.size) s.heap σ H locs → lv_has ls 10 [(4, .long x4), (6, .long x6)] → wX12_common_6 post  n x4 x6 σ → W p l e rmX12_common s m args below meth c H locs 0 0 Q (F0 m 6 ls []) := by
    intro    n
    induction n with
    | zero => intro x4 x6 σ H locs ls hW hl h; exact (h : False).elim
    | succ n ih =>
      intro x4 x6 σ H locs ls hW hl h
      have hk6 : ∀ (x4 : Int64) (x6 : Int64) (σ : St) (H : Heap) (locs : List Loc) (ls : Array Slot), xW D KA layR stR ad ids (xA ad ids s.heap.size) s.heap σ H locs → lv_has ls 10 [(4, .long x4), (6, .long x6)] → (wX12_common_6 post  n) x4 x6 σ → W p l e rmX12_common s m args below meth c H locs 0 0 Q (F0 m 6 ls []) := fun x4 x6 σ H locs ls hW hl h => ih x4 x6 σ H locs ls hW hl h
      rw [wX12_common_6_s] at h
      try dsimp only at h
      generalize wX12_common_6 post  n = k6 at h hk6
      refine lv_lload hx hb dX12_common_6 (lv_at hl 1 rfl) ?_
      refine lv_lconst (v := 0) hx hb dX12_common_8 (by decide) ?_
      refine W.lcmp hx hb dX12_common_9 ?_
      refine lv_if_eq (tgt := 31) hx hb dX12_common_10 (by decide) (fun c1 => ?_) (fun c1 => ?_)
      · have h := h.1 c1
        refine lv_lload hx hb dX12_common_31 (lv_at hl 0 rfl) ?_
        exact kr _ _ _ _ _ _ hW h dX12_common_33
      · have h := h.2 c1
        refine lv_lload hx hb dX12_common_13 (lv_at hl 0 rfl) ?_
        refine lv_lload hx hb dX12_common_15 (lv_at hl 1 rfl) ?_
        obtain ⟨hd2, h⟩ := h
        refine lv_lrem hx hb dX12_common_17 hd2 ?_
        refine lv_topl (fun v3 hv3 => ?_)
        have h := h v3 hv3
        refine lv_lstore (lv' := [(8, .long v3), (4, .long x4), (6, .long x6)]) hx hb dX12_common_18 hl (by decide) rfl (fun ls hl => ?_)
        refine lv_lload hx hb dX12_common_20 (lv_at hl 2 rfl) ?_
        refine lv_lstore (lv' := [(4, .long x6), (8, .long v3), (6, .long x6)]) hx hb dX12_common_22 hl (by decide) rfl (fun ls hl => ?_)
        refine lv_lload hx hb dX12_common_24 (lv_at hl 1 rfl) ?_
        refine lv_lstore (lv' := [(6, .long v3), (4, .long x6), (8, .long v3)]) hx hb dX12_common_26 hl (by decide) rfl (fun ls hl => ?_)
        refine lv_goto (tgt := 6) hx hb dX12_common_28 (by decide) ?_
        exact hk6 x6 v3 _ _ _ _ hW (lv_sub hl [1, 0] rfl) h
  have main : ∀ (H : Heap) (locs : List Loc) (ls : Array Slot), xW D KA layR stR ad ids (xA ad ids s.heap.size) s.heap σ H locs → lv_has ls 10 [(0, .long a0), (2, .long a2)] → W p l e rmX12_common s m args below meth c H locs 0 0 Q (F0 m 0 ls []) := by
    intro H locs ls hW hl
    unfold wX12_common at h
    refine lv_lload_n hx hb dX12_common_0 rfl (lv_at hl 0 rfl) ?_
    refine lv_lstore (lv' := [(4, .long a0), (0, .long a0), (2, .long a2)]) hx hb dX12_common_1 hl (by decide) rfl (fun ls hl => ?_)
    refine lv_lload_n hx hb dX12_common_3 rfl (lv_at hl 2 rfl) ?_
    refine lv_lstore (lv' := [(6, .long a2), (4, .long a0), (0, .long a0), (2, .long a2)]) hx hb dX12_common_4 hl (by decide) rfl (fun ls hl => ?_)
    obtain ⟨n, h⟩ := h
    exact blk6    n a0 a2 _ _ _ _ hW (lv_sub hl [1, 0] rfl) h
  exact main _ _ _ hW hl
theorem hwX12_sizeA_0 : (.fieldLink RX12 47 "FortyBeltsModel" "drumSize" "[I" : Cond) ∈ wsX12_sizeA := (List.mem_cons_of_mem _ (List.mem_append_left _ (List.mem_of_getElem? (i := 0) rfl)))
theorem hwX12_sizeA_1 : (.fieldLink RX12 59 "FortyBeltsModel" "drumA" "[I" : Cond) ∈ wsX12_sizeA := (List.mem_cons_of_mem _ (List.mem_append_left _ (List.mem_of_getElem? (i := 1) rfl)))
theorem hcX12_sizeA_X12 : ∀ w ∈ wsX120, w ∈ wsX12_sizeA := fun _ h => (List.mem_cons_of_mem _ (List.mem_append_right _ h))
set_option maxHeartbeats 4000000 in
set_option maxRecDepth 100000 in
theorem J_X12_sizeA {D : va_G} {KA : Nat → ClassId} {zs : ZS} {ad : Nat → Nat} {ids : List Nat} {sz : Nat} (l : Launch) (hI : ∀ c, c < 35 → c ∈ ids) {a1 : Int32}  {σ : St} {post : Int32 → St → Prop} (h : wX12_sizeA  a1 σ post) : Met l yX12_sizeA wsX12_sizeA rmX12_sizeA (va_Pc [.ref (ad 0), .int a1] (xIn D KA zs layR stR ad ids sz σ)) (va_Qi post (xOut D KA layR stR ad ids) (xA ad ids sz)) 0 0 (xA ad ids sz) := by
  refine Met.ofW (cc := cX12_sizeA) (maxL := 2) (ret := (some .int)) (by decide) rfl ?_
  intro p e s m args below meth c s₁ B hml hv
  obtain ⟨hav, hsz, hK, hZ, hP, hD⟩ := hv
  have hx := B.exec
  have hb := B.bytes
  have hr := B.returns
  have hts := atoms_spec (ws := wsX12_sizeA) B.pre
  have hown : s.vm.findClass RX12 = some m.cls := findClass_of_methodNamed B.named
  have hlocks := B.notSynchronized
  subst hsz
  have hA : ∀ q : Nat, s.heap.size ≤ q → xA ad ids s.heap.size q := fun q h => Or.inr h
  have hW : xW D KA layR stR ad ids (xA ad ids s.heap.size) s.heap σ s.heap [] := ⟨hP, xA_D (D := D) hD, va_S.rf⟩
  have kr : ∀ (v : Int32) (σ : St) (H : Heap) (locs : List Loc) (ls : Array Slot) (pc : Nat), xW D KA layR stR ad ids (xA ad ids s.heap.size) s.heap σ H locs → post v σ → decode cX12_sizeA pc = .ok (.ireturn, 1) → W p l e rmX12_sizeA s m args below meth c H locs 0 0 (MQ below (va_Qi post (xOut D KA layR stR ad ids) (xA ad ids s.heap.size)) args s 0 0 (xA ad ids s.heap.size)) (F0 m pc ls [.int v]) := fun v σ H locs ls pc hW h hd => x_iret hx hb hr hlocks hW h hd
  have hl := lv_entry ([.ref (ad 0), .int a1]) (n := 2) (Nat.le_of_ble_eq_true rfl)
  rw [show entryFrame m args 2 = entryFrame m ([.ref (ad 0), .int a1] : List Value).toArray 2 from by rw [hav]]
  rw [lg_entry_eq]
  generalize (lg_sl ([.ref (ad 0), .int a1]) ++ List.replicate (2 - (lg_sl ([.ref (ad 0), .int a1])).length) Slot.unset).toArray = ls at hl ⊢
  have hl : lv_has ls 2 [(0, .ref (ad 0)), (1, .int a1)] := hl
  show W p l e rmX12_sizeA s m args below meth c s.heap [] 0 0 _ _
  generalize MQ below (va_Qi post (xOut D KA layR stR ad ids) (xA ad ids s.heap.size)) args s 0 0 (xA ad ids s.heap.size) = Q at kr ⊢
  have main : ∀ (H : Heap) (locs : List Loc) (ls : Array Slot), xW D KA layR stR ad ids (xA ad ids s.heap.size) s.heap σ H locs → lv_has ls 2 [(0, .ref (ad 0)), (1, .int a1)] → W p l e rmX12_sizeA s m args below meth c H locs 0 0 Q (F0 m 0 ls []) := by
    intro H locs ls hW hl
    unfold wX12_sizeA at h
    refine lv_aload_n hx hb dX12_sizeA_0 rfl (lv_at hl 0 rfl) ?_
    refine xgX12_19r hx hb hts hown hK hW 0 hcX12_sizeA_X12 (hI 0 (by decide)) lR_0 (hts _ hwX12_sizeA_0) (sR_0_19 _) dX12_sizeA_1 ?_
    refine lv_aload_n hx hb dX12_sizeA_4 rfl (lv_at hl 0 rfl) ?_
    refine xgX12_24r hx hb hts hown hK hW 0 hcX12_sizeA_X12 (hI 0 (by decide)) lR_0 (hts _ hwX12_sizeA_1) (sR_0_24 _) dX12_sizeA_5 ?_
    refine lv_iload_n hx hb dX12_sizeA_8 rfl (lv_at hl 1 rfl) ?_
    obtain ⟨hi1001, h⟩ := h
    refine x_iald hx hb hK hW 16 (hI 16 (by decide)) lR_16 hi1001 dX12_sizeA_9 ?_
    obtain ⟨hi1002, h⟩ := h
    refine x_iald hx hb hK hW 12 (hI 12 (by decide)) lR_12 hi1002 dX12_sizeA_10 ?_
    exact kr _ _ _ _ _ _ hW h dX12_sizeA_11
  exact main _ _ _ hW hl
theorem hwX12_sizeB_0 : (.fieldLink RX12 71 "FortyBeltsModel" "cutBelt" "I" : Cond) ∈ wsX12_sizeB := (List.mem_cons_of_mem _ (List.mem_append_left _ (List.mem_of_getElem? (i := 0) rfl)))
theorem hwX12_sizeB_1 : (.fieldLink RX12 47 "FortyBeltsModel" "drumSize" "[I" : Cond) ∈ wsX12_sizeB := (List.mem_cons_of_mem _ (List.mem_append_left _ (List.mem_of_getElem? (i := 2) rfl)))
theorem hwX12_sizeB_2 : (.fieldLink RX12 62 "FortyBeltsModel" "drumB" "[I" : Cond) ∈ wsX12_sizeB := (List.mem_cons_of_mem _ (List.mem_append_left _ (List.mem_of_getElem? (i := 3) rfl)))
theorem hwX12_sizeB_3 : (.fieldLink RX12 200 "FortyBeltsModel" "cutSize" "I" : Cond) ∈ wsX12_sizeB := (List.mem_cons_of_mem _ (List.mem_append_left _ (List.mem_of_getElem? (i := 1) rfl)))
theorem hcX12_sizeB_X12 : ∀ w ∈ wsX120, w ∈ wsX12_sizeB := fun _ h => (List.mem_cons_of_mem _ (List.mem_append_right _ h))
set_option maxHeartbeats 4000000 in
set_option maxRecDepth 100000 in
theorem J_X12_sizeB {D : va_G} {KA : Nat → ClassId} {zs : ZS} {ad : Nat → Nat} {ids : List Nat} {sz : Nat} (l : Launch) (hI : ∀ c, c < 35 → c ∈ ids) {a1 : Int32}  {σ : St} {post : Int32 → St → Prop} (h : wX12_sizeB  a1 σ post) : Met l yX12_sizeB wsX12_sizeB rmX12_sizeB (va_Pc [.ref (ad 0), .int a1] (xIn D KA zs layR stR ad ids sz σ)) (va_Qi post (xOut D KA layR stR ad ids) (xA ad ids sz)) 0 0 (xA ad ids sz) := by
  refine Met.ofW (cc := cX12_sizeB) (maxL := 2) (ret := (some .int)) (by decide) rfl ?_
  intro p e s m args below meth c s₁ B hml hv
  obtain ⟨hav, hsz, hK, hZ, hP, hD⟩ := hv
  have hx := B.exec
  have hb := B.bytes
  have hr := B.returns
  have hts := atoms_spec (ws := wsX12_sizeB) B.pre
  have hown : s.vm.findClass RX12 = some m.cls := findClass_of_methodNamed B.named
  have hlocks := B.notSynchronized
  subst hsz
  have hA : ∀ q : Nat, s.heap.size ≤ q → xA ad ids s.heap.size q := fun q h => Or.inr h
  have hW : xW D KA layR stR ad ids (xA ad ids s.heap.size) s.heap σ s.heap [] := ⟨hP, xA_D (D := D) hD, va_S.rf⟩
  have kr : ∀ (v : Int32) (σ : St) (H : Heap) (locs : List Loc) (ls : Array Slot) (pc : Nat), xW D KA layR stR ad ids (xA ad ids s.heap.size) s.heap σ H locs → post v σ → decode cX12_sizeB pc = .ok (.ireturn, 1) → W p l e rmX12_sizeB s m args below meth c H locs 0 0 (MQ below (va_Qi post (xOut D KA layR stR ad ids) (xA ad ids s.heap.size)) args s 0 0 (xA ad ids s.heap.size)) (F0 m pc ls [.int v]) := fun v σ H locs ls pc hW h hd => x_iret hx hb hr hlocks hW h hd
  have hl := lv_entry ([.ref (ad 0), .int a1]) (n := 2) (Nat.le_of_ble_eq_true rfl)
  rw [show entryFrame m args 2 = entryFrame m ([.ref (ad 0), .int a1] : List Value).toArray 2 from by rw [hav]]
  rw [lg_entry_eq]
  generalize (lg_sl ([.ref (ad 0), .int a1]) ++ List.replicate (2 - (lg_sl ([.ref (ad 0), .int a1])).length) Slot.unset).toArray = ls at hl ⊢
  have hl : lv_has ls 2 [(0, .ref (ad 0)), (1, .int a1)] := hl
  show W p l e rmX12_sizeB s m args below meth c s.heap [] 0 0 _ _
  generalize MQ below (va_Qi post (xOut D KA layR stR ad ids) (xA ad ids s.heap.size)) args s 0 0 (xA ad ids s.heap.size) = Q at kr ⊢
  have blk26 : ∀ (s0 : Int32) (σ : St) (H : Heap) (locs : List Loc) (ls : Array Slot), xW D KA layR stR ad ids (xA ad ids s.heap.size) s.heap σ H locs → lv_has ls 2 [] → wX12_sizeB_26 post s0 σ → W p l e rmX12_sizeB s m args below meth c H locs 0 0 Q (F0 m 26 ls [.int s0]) := by
    intro   s0 σ H locs ls hW hl h
    unfold wX12_sizeB_26 at h
    exact kr _ _ _ _ _ _ hW h dX12_sizeB_26
  have main : ∀ (H : Heap) (locs : List Loc) (ls : Array Slot), xW D KA layR stR ad ids (xA ad ids s.heap.size) s.heap σ H locs → lv_has ls 2 [(0, .ref (ad 0)), (1, .int a1)] → W p l e rmX12_sizeB s m args below meth c H locs 0 0 Q (F0 m 0 ls []) := by
    intro H locs ls hW hl
    unfold wX12_sizeB at h
    refine lv_iload_n hx hb dX12_sizeB_0 rfl (lv_at hl 1 rfl) ?_
    refine lv_aload_n hx hb dX12_sizeB_1 rfl (lv_at hl 0 rfl) ?_
    refine xgX12_29 hx hb hts hown hK hW 0 hcX12_sizeB_X12 (hI 0 (by decide)) lR_0 (hts _ hwX12_sizeB_0) dX12_sizeB_2 ?_
    refine lv_icmp_ne (tgt := 15) hx hb dX12_sizeB_5 (by decide) (fun c1001 => ?_) (fun c1001 => ?_)
    · have h := h.1 c1001
      refine lv_aload_n hx hb dX12_sizeB_15 rfl (lv_at hl 0 rfl) ?_
      refine xgX12_19r hx hb hts hown hK hW 0 hcX12_sizeB_X12 (hI 0 (by decide)) lR_0 (hts _ hwX12_sizeB_1) (sR_0_19 _) dX12_sizeB_16 ?_
      refine lv_aload_n hx hb dX12_sizeB_19 rfl (lv_at hl 0 rfl) ?_
      refine xgX12_25r hx hb hts hown hK hW 0 hcX12_sizeB_X12 (hI 0 (by decide)) lR_0 (hts _ hwX12_sizeB_2) (sR_0_25 _) dX12_sizeB_20 ?_
      refine lv_iload_n hx hb dX12_sizeB_23 rfl (lv_at hl 1 rfl) ?_
      obtain ⟨hi1002, h⟩ := h
      refine x_iald hx hb hK hW 17 (hI 17 (by decide)) lR_17 hi1002 dX12_sizeB_24 ?_
      obtain ⟨hi1003, h⟩ := h
      refine x_iald hx hb hK hW 12 (hI 12 (by decide)) lR_12 hi1003 dX12_sizeB_25 ?_
      exact blk26   (gI σ 12 (gI σ 17 a1.toNatClampNeg).toNatClampNeg) _ _ _ _ hW (lv_sub hl [] rfl) h
    · have h := h.2 c1001
      refine lv_aload_n hx hb dX12_sizeB_8 rfl (lv_at hl 0 rfl) ?_
      refine xgX12_30 hx hb hts hown hK hW 0 hcX12_sizeB_X12 (hI 0 (by decide)) lR_0 (hts _ hwX12_sizeB_3) dX12_sizeB_9 ?_
      refine lv_goto (tgt := 26) hx hb dX12_sizeB_12 (by decide) ?_
      exact blk26   (gI σ 0 30) _ _ _ _ hW (lv_sub hl [] rfl) h
  exact main _ _ _ hW hl
theorem hwX12_lays_0 : (.fieldLink RX12 78 "FortyBeltsModel" "below" "[J" : Cond) ∈ wsX12_lays := (List.mem_cons_of_mem _ (List.mem_append_left _ (List.mem_append_left _ (List.mem_of_getElem? (i := 2) rfl))))
theorem hwX12_lays_1 : (.fieldLink RX12 53 "FortyBeltsModel" "driver" "[I" : Cond) ∈ wsX12_lays := (List.mem_cons_of_mem _ (List.mem_append_left _ (List.mem_append_left _ (List.mem_of_getElem? (i := 6) rfl))))
theorem hwX12_lays_2 : (.fieldLink RX12 74 "FortyBeltsModel" "above" "[J" : Cond) ∈ wsX12_lays := (List.mem_cons_of_mem _ (List.mem_append_left _ (List.mem_append_left _ (List.mem_of_getElem? (i := 0) rfl))))
theorem hwX12_lays_3 : (.fieldLink RX12 56 "FortyBeltsModel" "driven" "[I" : Cond) ∈ wsX12_lays := (List.mem_cons_of_mem _ (List.mem_append_left _ (List.mem_append_left _ (List.mem_of_getElem? (i := 7) rfl))))
theorem hwX12_lays_4 : (.fieldLink RX12 81 "FortyBeltsModel" "ways" "[I" : Cond) ∈ wsX12_lays := (List.mem_cons_of_mem _ (List.mem_append_left _ (List.mem_append_left _ (List.mem_of_getElem? (i := 3) rfl))))
theorem hwX12_lays_5 : (.fieldLink RX12 50 "FortyBeltsModel" "kind" "[I" : Cond) ∈ wsX12_lays := (List.mem_cons_of_mem _ (List.mem_append_left _ (List.mem_append_left _ (List.mem_of_getElem? (i := 8) rfl))))
theorem hwX12_lays_6 : (.fieldLink RX12 166 "FortyBeltsModel" "belts" "I" : Cond) ∈ wsX12_lays := (List.mem_cons_of_mem _ (List.mem_append_left _ (List.mem_append_left _ (List.mem_of_getElem? (i := 4) rfl))))
theorem hwX12_lays_7 : (.fieldLink RX12 68 "FortyBeltsModel" "isOn" "[I" : Cond) ∈ wsX12_lays := (List.mem_cons_of_mem _ (List.mem_append_left _ (List.mem_append_left _ (List.mem_of_getElem? (i := 5) rfl))))
theorem hwX12_lays_8 : (.fieldLink RX12 145 "FortyBeltsModel" "engineTurns" "I" : Cond) ∈ wsX12_lays := (List.mem_cons_of_mem _ (List.mem_append_left _ (List.mem_append_left _ (List.mem_of_getElem? (i := 1) rfl))))
theorem hcX12_lays_X12 : ∀ w ∈ wsX120, w ∈ wsX12_lays := fun _ h => (List.mem_cons_of_mem _ (List.mem_append_right _ h))
set_option maxHeartbeats 4000000 in
set_option maxRecDepth 100000 in
theorem J_X12_lays {D : va_G} {KA : Nat → ClassId} {zs : ZS} {ad : Nat → Nat} {ids : List Nat} {sz : Nat} (l : Launch) (hI : ∀ c, c < 35 → c ∈ ids)   {σ : St} {post : St → Prop} (h : wX12_lays   σ post) : Met l yX12_lays wsX12_lays rmX12_lays (va_Pc [.ref (ad 0)] (xIn D KA zs layR stR ad ids sz σ)) (va_Qv post (xOut D KA layR stR ad ids) (xA ad ids sz)) 0 0 (xA ad ids sz) := by
  refine Met.ofW (cc := cX12_lays) (maxL := 9) (ret := none) (by decide) rfl ?_
  intro p e s m args below meth c s₁ B hml hv
  obtain ⟨hav, hsz, hK, hZ, hP, hD⟩ := hv
  have hx := B.exec
  have hb := B.bytes
  have hr := B.returns
  have hts := atoms_spec (ws := wsX12_lays) B.pre
  have hown : s.vm.findClass RX12 = some m.cls := findClass_of_methodNamed B.named
  have hlocks := B.notSynchronized
  subst hsz
  have hA : ∀ q : Nat, s.heap.size ≤ q → xA ad ids s.heap.size q := fun q h => Or.inr h
  have hW : xW D KA layR stR ad ids (xA ad ids s.heap.size) s.heap σ s.heap [] := ⟨hP, xA_D (D := D) hD, va_S.rf⟩
  have kr : ∀ (σ : St) (H : Heap) (locs : List Loc) (ls : Array Slot) (pc : Nat), xW D KA layR stR ad ids (xA ad ids s.heap.size) s.heap σ H locs → post σ → decode cX12_lays pc = .ok (.return_, 1) → W p l e rmX12_lays s m args below meth c H locs 0 0 (MQ below (va_Qv post (xOut D KA layR stR ad ids) (xA ad ids s.heap.size)) args s 0 0 (xA ad ids s.heap.size)) (F0 m pc ls []) := fun σ H locs ls pc hW h hd => x_vret hx hb hr hlocks hW h hd
  have hl := lv_entry ([.ref (ad 0)]) (n := 9) (Nat.le_of_ble_eq_true rfl)
  rw [show entryFrame m args 9 = entryFrame m ([.ref (ad 0)] : List Value).toArray 9 from by rw [hav]]
  rw [lg_entry_eq]
  generalize (lg_sl ([.ref (ad 0)]) ++ List.replicate (9 - (lg_sl ([.ref (ad 0)])).length) Slot.unset).toArray = ls at hl ⊢
  have hl : lv_has ls 9 [(0, .ref (ad 0))] := hl
  show W p l e rmX12_lays s m args below meth c s.heap [] 0 0 _ _
  generalize MQ below (va_Qv post (xOut D KA layR stR ad ids) (xA ad ids s.heap.size)) args s 0 0 (xA ad ids s.heap.size) = Q at kr ⊢
  have blk247 : ∀ (k57 : Int32 → St → Prop) (hk57 : ∀ (x1 : Int32) (σ : St) (H : Heap) (locs : List Loc) (ls : Array Slot), xW D KA layR stR ad ids (xA ad ids s.heap.size) s.heap σ H locs → lv_has ls 9 [(0, .ref (ad 0)), (1, .int x1)] → k57 x1 σ → W p l e rmX12_lays s m args below meth c H locs 0 0 Q (F0 m 57 ls [])) (k65 : Int32 → Int32 → St → Prop) (hk65 : ∀ (x1 : Int32) (x2 : Int32) (σ : St) (H : Heap) (locs : List Loc) (ls : Array Slot), xW D KA layR stR ad ids (xA ad ids s.heap.size) s.heap σ H locs → lv_has ls 9 [(0, .ref (ad 0)), (1, .int x1), (2, .int x2)] → k65 x1 x2 σ → W p l e rmX12_lays s m args below meth c H locs 0 0 Q (F0 m 65 ls [])) (x1 : Int32) (x2 : Int32) (σ : St) (H : Heap) (locs : List Loc) (ls : Array Slot), xW D KA layR stR ad ids (xA ad ids s.heap.size) s.heap σ H locs → lv_has ls 9 [(0, .ref (ad 0)), (1, .int x1), (2, .int x2)] → wX12_lays_247 k57 k65 post x1 x2 σ → W p l e rmX12_lays s m args below meth c H locs 0 0 Q (F0 m 247 ls []) := by
    intro  k57 hk57 k65 hk65 x1 x2 σ H locs ls hW hl h
    unfold wX12_lays_247 at h
    obtain ⟨v1, hv1⟩ : ∃ y : Int32, y = x2 + (1 : Int32) := ⟨_, rfl⟩
    have h := h v1 hv1
    refine lv_iinc (v := v1) (lv' := [(2, .int v1), (0, .ref (ad 0)), (1, .int x1)]) hx hb dX12_lays_247 hl (k := 2) rfl (by rw [hv1]; rfl) (by decide) rfl (fun ls hl => ?_)
    refine lv_goto (tgt := 65) hx hb dX12_lays_250 (by decide) ?_
    exact hk65 x1 v1 _ _ _ _ hW (lv_sub hl [1, 2, 0] rfl) h
  have blk243 : ∀ (k57 : Int32 → St → Prop) (hk57 : ∀ (x1 : Int32) (σ : St) (H : Heap) (locs : List Loc) (ls : Array Slot), xW D KA layR stR ad ids (xA ad ids s.heap.size) s.heap σ H locs → lv_has ls 9 [(0, .ref (ad 0)), (1, .int x1)] → k57 x1 σ → W p l e rmX12_lays s m args below meth c H locs 0 0 Q (F0 m 57 ls [])) (k65 : Int32 → Int32 → St → Prop) (hk65 : ∀ (x1 : Int32) (x2 : Int32) (σ : St) (H : Heap) (locs : List Loc) (ls : Array Slot), xW D KA layR stR ad ids (xA ad ids s.heap.size) s.heap σ H locs → lv_has ls 9 [(0, .ref (ad 0)), (1, .int x1), (2, .int x2)] → k65 x1 x2 σ → W p l e rmX12_lays s m args below meth c H locs 0 0 Q (F0 m 65 ls [])) (x2 : Int32) (s1 : Int32) (s2 : Int32) (s3 : Int32) (σ : St) (H : Heap) (locs : List Loc) (ls : Array Slot), xW D KA layR stR ad ids (xA ad ids s.heap.size) s.heap σ H locs → lv_has ls 9 [(0, .ref (ad 0)), (2, .int x2)] → wX12_lays_243 k57 k65 post x2 s1 s2 s3 σ → W p l e rmX12_lays s m args below meth c H locs 0 0 Q (F0 m 243 ls [.int s3, .int s2, .int s1, .ref (ad 22)]) := by
    intro  k57 hk57 k65 hk65 x2 s1 s2 s3 σ H locs ls hW hl h
    unfold wX12_lays_243 at h
    refine lv_imul hx hb dX12_lays_243 ?_
    obtain ⟨hi2, h⟩ := h
    refine x_iast hx hb hK hW 22 (hI 22 (by decide)) lR_22 hi2 dX12_lays_244 (fun σ3 H locs hσ3 hW => ?_)
    have h := h σ3 hσ3
    refine lv_iconst (v := 1) hx hb dX12_lays_245 (by decide) ?_
    refine lv_istore_n (lv' := [(1, .int (1 : Int32)), (0, .ref (ad 0)), (2, .int x2)]) hx hb dX12_lays_246 rfl hl (by decide) rfl (fun ls hl => ?_)
    exact blk247  k57 hk57 k65 hk65 (1 : Int32) x2 _ _ _ _ hW (lv_sub hl [1, 0, 2] rfl) h
  have blk144 : ∀ (k57 : Int32 → St → Prop) (hk57 : ∀ (x1 : Int32) (σ : St) (H : Heap) (locs : List Loc) (ls : Array Slot), xW D KA layR stR ad ids (xA ad ids s.heap.size) s.heap σ H locs → lv_has ls 9 [(0, .ref (ad 0)), (1, .int x1)] → k57 x1 σ → W p l e rmX12_lays s m args below meth c H locs 0 0 Q (F0 m 57 ls [])) (k65 : Int32 → Int32 → St → Prop) (hk65 : ∀ (x1 : Int32) (x2 : Int32) (σ : St) (H : Heap) (locs : List Loc) (ls : Array Slot), xW D KA layR stR ad ids (xA ad ids s.heap.size) s.heap σ H locs → lv_has ls 9 [(0, .ref (ad 0)), (1, .int x1), (2, .int x2)] → k65 x1 x2 σ → W p l e rmX12_lays s m args below meth c H locs 0 0 Q (F0 m 65 ls [])) (x2 : Int32) (s0 : Int64) (s1 : Int32) (s2 : Int32) (σ : St) (H : Heap) (locs : List Loc) (ls : Array Slot), xW D KA layR stR ad ids (xA ad ids s.heap.size) s.heap σ H locs → lv_has ls 9 [(0, .ref (ad 0)), (2, .int x2)] → wX12_lays_144 k57 k65 post x2 s0 s1 s2 σ → W p l e rmX12_lays s m args below meth c H locs 0 0 Q (F0 m 144 ls [.int s2, .int s1, .long s0]) := by
    intro  k57 hk57 k65 hk65 x2 s0 s1 s2 σ H locs ls hW hl h
    unfold wX12_lays_144 at h
    refine lv_iadd hx hb dX12_lays_144 ?_
    refine lv_i2l hx hb dX12_lays_145 rfl ?_
    refine lv_lmul hx hb dX12_lays_146 ?_
    refine lv_topl (fun v4 hv4 => ?_)
    have h := h v4 hv4
    refine lv_lstore_n (lv' := [(3, .long v4), (0, .ref (ad 0)), (2, .int x2)]) hx hb dX12_lays_147 rfl hl (by decide) rfl (fun ls hl => ?_)
    refine lv_aload_n hx hb dX12_lays_148 rfl (lv_at hl 1 rfl) ?_
    refine xgX12_32r hx hb hts hown hK hW 0 hcX12_lays_X12 (hI 0 (by decide)) lR_0 (hts _ hwX12_lays_0) (sR_0_32 _) dX12_lays_149 ?_
    refine lv_aload_n hx hb dX12_lays_152 rfl (lv_at hl 1 rfl) ?_
    refine xgX12_22r hx hb hts hown hK hW 0 hcX12_lays_X12 (hI 0 (by decide)) lR_0 (hts _ hwX12_lays_1) (sR_0_22 _) dX12_lays_153 ?_
    refine lv_iload_n hx hb dX12_lays_156 rfl (lv_at hl 2 rfl) ?_
    obtain ⟨hi5, h⟩ := h
    refine x_iald hx hb hK hW 14 (hI 14 (by decide)) lR_14 hi5 dX12_lays_157 ?_
    obtain ⟨hi6, h⟩ := h
    refine x_lald hx hb hK hW 21 (hI 21 (by decide)) lR_21 hi6 dX12_lays_158 ?_
    refine lv_aload_n hx hb dX12_lays_159 rfl (lv_at hl 1 rfl) ?_
    refine lv_iload_n hx hb dX12_lays_160 rfl (lv_at hl 2 rfl) ?_
    refine x_calli (va_runV (As := [.int x2]) (rest := [.long (gJ σ 21 (gI σ 14 x2.toNatClampNeg).toNatClampNeg)]) ⟨hx, hb, hml, hown, hts⟩ (J_X12_sizeB l hI h) (cwV 1 hts gX12_lays_X12_sizeB rfl rfl rfl hdV_X12_sizeB ⟨Nat.le_of_ble_eq_true rfl, Nat.le_of_ble_eq_true rfl⟩) (x_preV (ci := 12) hK hZ hA hW (hI 0 (by decide)) lR_0 rfl) rfl rfl hl.1 rfl (lv_room (Nat.le_of_ble_eq_true rfl)) dX12_lays_161 ⟨Nat.zero_le _, Nat.zero_le _⟩) hW hA (fun r8 σ7 H locs h hW => ?_)
    try dsimp only at h
    refine lv_i2l hx hb dX12_lays_164 rfl ?_
    refine lv_lmul hx hb dX12_lays_165 ?_
    refine lv_topl (fun v9 hv9 => ?_)
    have h := h v9 hv9
    refine lv_lstore (lv' := [(5, .long v9), (3, .long v4), (0, .ref (ad 0)), (2, .int x2)]) hx hb dX12_lays_166 hl (by decide) rfl (fun ls hl => ?_)
    refine lv_lload_n hx hb dX12_lays_168 rfl (lv_at hl 1 rfl) ?_
    refine lv_lload hx hb dX12_lays_169 (lv_at hl 0 rfl) ?_
    refine x_calll (va_runS (As := [.long v4, .long v9]) (rest := []) ⟨hx, hb, hml, hown, hts⟩ (J_X12_common l hI h) (va_cwS 2 hts gX12_lays_X12_common rfl rfl rfl hdS_X12_common ⟨Nat.le_of_ble_eq_true rfl, Nat.le_of_ble_eq_true rfl⟩) (x_preS hK hZ hA hW) rfl rfl hl.1 rfl (lv_room (Nat.le_of_ble_eq_true rfl)) dX12_lays_171 ⟨Nat.zero_le _, Nat.zero_le _⟩) hW hA (fun r11 σ10 H locs h hW => ?_)
    try dsimp only at h
    refine lv_lstore (lv' := [(7, .long r11), (5, .long v9), (3, .long v4), (0, .ref (ad 0)), (2, .int x2)]) hx hb dX12_lays_174 hl (by decide) rfl (fun ls hl => ?_)
    refine lv_aload_n hx hb dX12_lays_176 rfl (lv_at hl 3 rfl) ?_
    refine xgX12_31r hx hb hts hown hK hW 0 hcX12_lays_X12 (hI 0 (by decide)) lR_0 (hts _ hwX12_lays_2) (sR_0_31 _) dX12_lays_177 ?_
    refine lv_aload_n hx hb dX12_lays_180 rfl (lv_at hl 3 rfl) ?_
    refine xgX12_23r hx hb hts hown hK hW 0 hcX12_lays_X12 (hI 0 (by decide)) lR_0 (hts _ hwX12_lays_3) (sR_0_23 _) dX12_lays_181 ?_
    refine lv_iload_n hx hb dX12_lays_184 rfl (lv_at hl 4 rfl) ?_
    refine x_iald hx hb hK hW 15 (hI 15 (by decide)) lR_15 hi5 dX12_lays_185 ?_
    refine lv_lload_n hx hb dX12_lays_186 rfl (lv_at hl 2 rfl) ?_
    refine lv_lload hx hb dX12_lays_187 (lv_at hl 0 rfl) ?_
    obtain ⟨hd13, h⟩ := h
    refine lv_ldiv hx hb dX12_lays_189 hd13 ?_
    obtain ⟨hi14, h⟩ := h
    refine x_last hx hb hK hW 20 (hI 20 (by decide)) lR_20 hi14 dX12_lays_190 (fun σ15 H locs hσ15 hW => ?_)
    have h := h σ15 hσ15
    refine lv_aload_n hx hb dX12_lays_191 rfl (lv_at hl 3 rfl) ?_
    refine xgX12_32r hx hb hts hown hK hW 0 hcX12_lays_X12 (hI 0 (by decide)) lR_0 (hts _ hwX12_lays_0) (sR_0_32 _) dX12_lays_192 ?_
    refine lv_aload_n hx hb dX12_lays_195 rfl (lv_at hl 3 rfl) ?_
    refine xgX12_23r hx hb hts hown hK hW 0 hcX12_lays_X12 (hI 0 (by decide)) lR_0 (hts _ hwX12_lays_3) (sR_0_23 _) dX12_lays_196 ?_
    refine lv_iload_n hx hb dX12_lays_199 rfl (lv_at hl 4 rfl) ?_
    refine x_iald hx hb hK hW 15 (hI 15 (by decide)) lR_15 hi5 dX12_lays_200 ?_
    refine lv_lload hx hb dX12_lays_201 (lv_at hl 1 rfl) ?_
    refine lv_lload hx hb dX12_lays_203 (lv_at hl 0 rfl) ?_
    refine lv_ldiv hx hb dX12_lays_205 hd13 ?_
    obtain ⟨hi18, h⟩ := h
    refine x_last hx hb hK hW 21 (hI 21 (by decide)) lR_21 hi18 dX12_lays_206 (fun σ19 H locs hσ19 hW => ?_)
    have h := h σ19 hσ19
    refine lv_aload_n hx hb dX12_lays_207 rfl (lv_at hl 3 rfl) ?_
    refine xgX12_33r hx hb hts hown hK hW 0 hcX12_lays_X12 (hI 0 (by decide)) lR_0 (hts _ hwX12_lays_4) (sR_0_33 _) dX12_lays_208 ?_
    refine lv_aload_n hx hb dX12_lays_211 rfl (lv_at hl 3 rfl) ?_
    refine xgX12_23r hx hb hts hown hK hW 0 hcX12_lays_X12 (hI 0 (by decide)) lR_0 (hts _ hwX12_lays_3) (sR_0_23 _) dX12_lays_212 ?_
    refine lv_iload_n hx hb dX12_lays_215 rfl (lv_at hl 4 rfl) ?_
    refine x_iald hx hb hK hW 15 (hI 15 (by decide)) lR_15 hi5 dX12_lays_216 ?_
    refine lv_aload_n hx hb dX12_lays_217 rfl (lv_at hl 3 rfl) ?_
    refine xgX12_33r hx hb hts hown hK hW 0 hcX12_lays_X12 (hI 0 (by decide)) lR_0 (hts _ hwX12_lays_4) (sR_0_33 _) dX12_lays_218 ?_
    refine lv_aload_n hx hb dX12_lays_221 rfl (lv_at hl 3 rfl) ?_
    refine xgX12_22r hx hb hts hown hK hW 0 hcX12_lays_X12 (hI 0 (by decide)) lR_0 (hts _ hwX12_lays_1) (sR_0_22 _) dX12_lays_222 ?_
    refine lv_iload_n hx hb dX12_lays_225 rfl (lv_at hl 4 rfl) ?_
    refine x_iald hx hb hK hW 14 (hI 14 (by decide)) lR_14 hi5 dX12_lays_226 ?_
    obtain ⟨hi22, h⟩ := h
    refine x_iald hx hb hK hW 22 (hI 22 (by decide)) lR_22 hi22 dX12_lays_227 ?_
    refine lv_aload_n hx hb dX12_lays_228 rfl (lv_at hl 3 rfl) ?_
    refine xgX12_21r hx hb hts hown hK hW 0 hcX12_lays_X12 (hI 0 (by decide)) lR_0 (hts _ hwX12_lays_5) (sR_0_21 _) dX12_lays_229 ?_
    refine lv_iload_n hx hb dX12_lays_232 rfl (lv_at hl 4 rfl) ?_
    refine x_iald hx hb hK hW 13 (hI 13 (by decide)) lR_13 hi5 dX12_lays_233 ?_
    refine lv_iconst (v := 1) hx hb dX12_lays_234 (by decide) ?_
    refine lv_icmp_ne (tgt := 242) hx hb dX12_lays_235 (by decide) (fun c24 => ?_) (fun c24 => ?_)
    · have h := h.1 c24
      refine lv_iconst (v := 1) hx hb dX12_lays_242 (by decide) ?_
      exact blk243  k57 hk57 k65 hk65 x2 (gI σ19 15 x2.toNatClampNeg) (gI σ19 22 (gI σ19 14 x2.toNatClampNeg).toNatClampNeg) (1 : Int32) _ _ _ _ hW (lv_sub hl [3, 4] rfl) h
    · have h := h.2 c24
      refine lv_iconst (v := (-1)) hx hb dX12_lays_238 (by decide) ?_
      refine lv_goto (tgt := 243) hx hb dX12_lays_239 (by decide) ?_
      exact blk243  k57 hk57 k65 hk65 x2 (gI σ19 15 x2.toNatClampNeg) (gI σ19 22 (gI σ19 14 x2.toNatClampNeg).toNatClampNeg) (-1 : Int32) _ _ _ _ hW (lv_sub hl [3, 4] rfl) h
  have blk65 : ∀ (k57 : Int32 → St → Prop) (hk57 : ∀ (x1 : Int32) (σ : St) (H : Heap) (locs : List Loc) (ls : Array Slot), xW D KA layR stR ad ids (xA ad ids s.heap.size) s.heap σ H locs → lv_has ls 9 [(0, .ref (ad 0)), (1, .int x1)] → k57 x1 σ → W p l e rmX12_lays s m args below meth c H locs 0 0 Q (F0 m 57 ls []))  (n : Nat) (x1 : Int32) (x2 : Int32) (σ : St) (H : Heap) (locs : List Loc) (ls : Array Slot), xW D KA layR stR ad ids (xA ad ids s.heap.size) s.heap σ H locs → lv_has ls 9 [(0, .ref (ad 0)), (1, .int x1), (2, .int x2)] → wX12_lays_65 k57 post  n x1 x2 σ → W p l e rmX12_lays s m args below meth c H locs 0 0 Q (F0 m 65 ls []) := by
    intro  k57 hk57  n
    induction n with
    | zero => intro x1 x2 σ H locs ls hW hl h; exact (h : False).elim
    | succ n ih =>
      intro x1 x2 σ H locs ls hW hl h
      have hk65 : ∀ (x1 : Int32) (x2 : Int32) (σ : St) (H : Heap) (locs : List Loc) (ls : Array Slot), xW D KA layR stR ad ids (xA ad ids s.heap.size) s.heap σ H locs → lv_has ls 9 [(0, .ref (ad 0)), (1, .int x1), (2, .int x2)] → (wX12_lays_65 k57 post  n) x1 x2 σ → W p l e rmX12_lays s m args below meth c H locs 0 0 Q (F0 m 65 ls []) := fun x1 x2 σ H locs ls hW hl h => ih x1 x2 σ H locs ls hW hl h
      rw [wX12_lays_65_s] at h
      try dsimp only at h
      generalize wX12_lays_65 k57 post  n = k65 at h hk65
      refine lv_iload_n hx hb dX12_lays_65 rfl (lv_at hl 2 rfl) ?_
      refine lv_aload_n hx hb dX12_lays_66 rfl (lv_at hl 0 rfl) ?_
      refine xgX12_28 hx hb hts hown hK hW 0 hcX12_lays_X12 (hI 0 (by decide)) lR_0 (hts _ hwX12_lays_6) dX12_lays_67 ?_
      refine lv_icmp_ge (tgt := 253) hx hb dX12_lays_70 (by decide) (fun c25 => ?_) (fun c25 => ?_)
      · have h := h.1 c25
        refine lv_goto (tgt := 57) hx hb dX12_lays_253 (by decide) ?_
        exact hk57 x1 _ _ _ _ hW (lv_sub hl [0, 1] rfl) h
      · have h := h.2 c25
        refine lv_aload_n hx hb dX12_lays_73 rfl (lv_at hl 0 rfl) ?_
        refine xgX12_27r hx hb hts hown hK hW 0 hcX12_lays_X12 (hI 0 (by decide)) lR_0 (hts _ hwX12_lays_7) (sR_0_27 _) dX12_lays_74 ?_
        refine lv_iload_n hx hb dX12_lays_77 rfl (lv_at hl 2 rfl) ?_
        obtain ⟨hi26, h⟩ := h
        refine x_iald hx hb hK hW 19 (hI 19 (by decide)) lR_19 hi26 dX12_lays_78 ?_
        refine lv_if_eq (tgt := 247) hx hb dX12_lays_79 (by decide) (fun c27 => ?_) (fun c27 => ?_)
        · have h := h.1 c27
          exact blk247  k57 hk57 k65 hk65 x1 x2 _ _ _ _ hW (lv_sub hl [0, 1, 2] rfl) h
        · have h := h.2 c27
          refine lv_aload_n hx hb dX12_lays_82 rfl (lv_at hl 0 rfl) ?_
          refine xgX12_33r hx hb hts hown hK hW 0 hcX12_lays_X12 (hI 0 (by decide)) lR_0 (hts _ hwX12_lays_4) (sR_0_33 _) dX12_lays_83 ?_
          refine lv_aload_n hx hb dX12_lays_86 rfl (lv_at hl 0 rfl) ?_
          refine xgX12_22r hx hb hts hown hK hW 0 hcX12_lays_X12 (hI 0 (by decide)) lR_0 (hts _ hwX12_lays_1) (sR_0_22 _) dX12_lays_87 ?_
          refine lv_iload_n hx hb dX12_lays_90 rfl (lv_at hl 2 rfl) ?_
          refine x_iald hx hb hK hW 14 (hI 14 (by decide)) lR_14 hi26 dX12_lays_91 ?_
          obtain ⟨hi29, h⟩ := h
          refine x_iald hx hb hK hW 22 (hI 22 (by decide)) lR_22 hi29 dX12_lays_92 ?_
          refine lv_if_eq (tgt := 247) hx hb dX12_lays_93 (by decide) (fun c30 => ?_) (fun c30 => ?_)
          · have h := h.1 c30
            exact blk247  k57 hk57 k65 hk65 x1 x2 _ _ _ _ hW (lv_sub hl [0, 1, 2] rfl) h
          · have h := h.2 c30
            refine lv_aload_n hx hb dX12_lays_96 rfl (lv_at hl 0 rfl) ?_
            refine xgX12_33r hx hb hts hown hK hW 0 hcX12_lays_X12 (hI 0 (by decide)) lR_0 (hts _ hwX12_lays_4) (sR_0_33 _) dX12_lays_97 ?_
            refine lv_aload_n hx hb dX12_lays_100 rfl (lv_at hl 0 rfl) ?_
            refine xgX12_23r hx hb hts hown hK hW 0 hcX12_lays_X12 (hI 0 (by decide)) lR_0 (hts _ hwX12_lays_3) (sR_0_23 _) dX12_lays_101 ?_
            refine lv_iload_n hx hb dX12_lays_104 rfl (lv_at hl 2 rfl) ?_
            refine x_iald hx hb hK hW 15 (hI 15 (by decide)) lR_15 hi26 dX12_lays_105 ?_
            obtain ⟨hi32, h⟩ := h
            refine x_iald hx hb hK hW 22 (hI 22 (by decide)) lR_22 hi32 dX12_lays_106 ?_
            refine lv_if_eq (tgt := 113) hx hb dX12_lays_107 (by decide) (fun c33 => ?_) (fun c33 => ?_)
            · have h := h.1 c33
              refine lv_aload_n hx hb dX12_lays_113 rfl (lv_at hl 0 rfl) ?_
              refine xgX12_31r hx hb hts hown hK hW 0 hcX12_lays_X12 (hI 0 (by decide)) lR_0 (hts _ hwX12_lays_2) (sR_0_31 _) dX12_lays_114 ?_
              refine lv_aload_n hx hb dX12_lays_117 rfl (lv_at hl 0 rfl) ?_
              refine xgX12_22r hx hb hts hown hK hW 0 hcX12_lays_X12 (hI 0 (by decide)) lR_0 (hts _ hwX12_lays_1) (sR_0_22 _) dX12_lays_118 ?_
              refine lv_iload_n hx hb dX12_lays_121 rfl (lv_at hl 2 rfl) ?_
              refine x_iald hx hb hK hW 14 (hI 14 (by decide)) lR_14 hi26 dX12_lays_122 ?_
              refine x_lald hx hb hK hW 20 (hI 20 (by decide)) lR_20 hi29 dX12_lays_123 ?_
              refine lv_aload_n hx hb dX12_lays_124 rfl (lv_at hl 0 rfl) ?_
              refine lv_iload_n hx hb dX12_lays_125 rfl (lv_at hl 2 rfl) ?_
              refine x_calli (va_runV (As := [.int x2]) (rest := [.long (gJ σ 20 (gI σ 14 x2.toNatClampNeg).toNatClampNeg)]) ⟨hx, hb, hml, hown, hts⟩ (J_X12_sizeA l hI h) (cwV 1 hts gX12_lays_X12_sizeA rfl rfl rfl hdV_X12_sizeA ⟨Nat.le_of_ble_eq_true rfl, Nat.le_of_ble_eq_true rfl⟩) (x_preV (ci := 12) hK hZ hA hW (hI 0 (by decide)) lR_0 rfl) rfl rfl hl.1 rfl (lv_room (Nat.le_of_ble_eq_true rfl)) dX12_lays_126 ⟨Nat.zero_le _, Nat.zero_le _⟩) hW hA (fun r37 σ36 H locs h hW => ?_)
              try dsimp only at h
              refine lv_aload_n hx hb dX12_lays_129 rfl (lv_at hl 0 rfl) ?_
              refine xgX12_21r hx hb hts hown hK hW 0 hcX12_lays_X12 (hI 0 (by decide)) lR_0 (hts _ hwX12_lays_5) (sR_0_21 _) dX12_lays_130 ?_
              refine lv_iload_n hx hb dX12_lays_133 rfl (lv_at hl 2 rfl) ?_
              refine x_iald hx hb hK hW 13 (hI 13 (by decide)) lR_13 hi26 dX12_lays_134 ?_
              refine lv_iconst (v := 3) hx hb dX12_lays_135 (by decide) ?_
              refine lv_icmp_ne (tgt := 143) hx hb dX12_lays_136 (by decide) (fun c39 => ?_) (fun c39 => ?_)
              · have h := h.1 c39
                refine lv_iconst (v := 0) hx hb dX12_lays_143 (by decide) ?_
                exact blk144  k57 hk57 k65 hk65 x2 (gJ σ 20 (gI σ 14 x2.toNatClampNeg).toNatClampNeg) r37 (0 : Int32) _ _ _ _ hW (lv_sub hl [0, 2] rfl) h
              · have h := h.2 c39
                refine lv_iconst (v := 2) hx hb dX12_lays_139 (by decide) ?_
                refine lv_goto (tgt := 144) hx hb dX12_lays_140 (by decide) ?_
                exact blk144  k57 hk57 k65 hk65 x2 (gJ σ 20 (gI σ 14 x2.toNatClampNeg).toNatClampNeg) r37 (2 : Int32) _ _ _ _ hW (lv_sub hl [0, 2] rfl) h
            · have h := h.2 c33
              refine lv_goto (tgt := 247) hx hb dX12_lays_110 (by decide) ?_
              exact blk247  k57 hk57 k65 hk65 x1 x2 _ _ _ _ hW (lv_sub hl [0, 1, 2] rfl) h
  have blk57 : ∀ (n : Nat) (x1 : Int32) (σ : St) (H : Heap) (locs : List Loc) (ls : Array Slot), xW D KA layR stR ad ids (xA ad ids s.heap.size) s.heap σ H locs → lv_has ls 9 [(0, .ref (ad 0)), (1, .int x1)] → wX12_lays_57 post  n x1 σ → W p l e rmX12_lays s m args below meth c H locs 0 0 Q (F0 m 57 ls []) := by
    intro    n
    induction n with
    | zero => intro x1 σ H locs ls hW hl h; exact (h : False).elim
    | succ n ih =>
      intro x1 σ H locs ls hW hl h
      have hk57 : ∀ (x1 : Int32) (σ : St) (H : Heap) (locs : List Loc) (ls : Array Slot), xW D KA layR stR ad ids (xA ad ids s.heap.size) s.heap σ H locs → lv_has ls 9 [(0, .ref (ad 0)), (1, .int x1)] → (wX12_lays_57 post  n) x1 σ → W p l e rmX12_lays s m args below meth c H locs 0 0 Q (F0 m 57 ls []) := fun x1 σ H locs ls hW hl h => ih x1 σ H locs ls hW hl h
      rw [wX12_lays_57_s] at h
      try dsimp only at h
      generalize wX12_lays_57 post  n = k57 at h hk57
      refine lv_iload_n hx hb dX12_lays_57 rfl (lv_at hl 1 rfl) ?_
      refine lv_if_eq (tgt := 256) hx hb dX12_lays_58 (by decide) (fun c40 => ?_) (fun c40 => ?_)
      · have h := h.1 c40
        exact kr _ _ _ _ _ hW h dX12_lays_256
      · have h := h.2 c40
        refine lv_iconst (v := 0) hx hb dX12_lays_61 (by decide) ?_
        refine lv_istore_n (lv' := [(1, .int (0 : Int32)), (0, .ref (ad 0))]) hx hb dX12_lays_62 rfl hl (by decide) rfl (fun ls hl => ?_)
        refine lv_iconst (v := 0) hx hb dX12_lays_63 (by decide) ?_
        refine lv_istore_n (lv' := [(2, .int (0 : Int32)), (1, .int (0 : Int32)), (0, .ref (ad 0))]) hx hb dX12_lays_64 rfl hl (by decide) rfl (fun ls hl => ?_)
        obtain ⟨n, h⟩ := h
        exact blk65  k57 hk57  n (0 : Int32) (0 : Int32) _ _ _ _ hW (lv_sub hl [2, 1, 0] rfl) h
  have blk48 : ∀ (k2 : Int32 → St → Prop) (hk2 : ∀ (x1 : Int32) (σ : St) (H : Heap) (locs : List Loc) (ls : Array Slot), xW D KA layR stR ad ids (xA ad ids s.heap.size) s.heap σ H locs → lv_has ls 9 [(0, .ref (ad 0)), (1, .int x1)] → k2 x1 σ → W p l e rmX12_lays s m args below meth c H locs 0 0 Q (F0 m 2 ls [])) (x1 : Int32) (s1 : Int32) (s2 : Int32) (σ : St) (H : Heap) (locs : List Loc) (ls : Array Slot), xW D KA layR stR ad ids (xA ad ids s.heap.size) s.heap σ H locs → lv_has ls 9 [(0, .ref (ad 0)), (1, .int x1)] → wX12_lays_48 k2 post x1 s1 s2 σ → W p l e rmX12_lays s m args below meth c H locs 0 0 Q (F0 m 48 ls [.int s2, .int s1, .ref (ad 22)]) := by
    intro  k2 hk2 x1 s1 s2 σ H locs ls hW hl h
    unfold wX12_lays_48 at h
    obtain ⟨hi42, h⟩ := h
    refine x_iast hx hb hK hW 22 (hI 22 (by decide)) lR_22 hi42 dX12_lays_48 (fun σ43 H locs hσ43 hW => ?_)
    have h := h σ43 hσ43
    obtain ⟨v44, hv44⟩ : ∃ y : Int32, y = x1 + (1 : Int32) := ⟨_, rfl⟩
    have h := h v44 hv44
    refine lv_iinc (v := v44) (lv' := [(1, .int v44), (0, .ref (ad 0))]) hx hb dX12_lays_49 hl (k := 1) rfl (by rw [hv44]; rfl) (by decide) rfl (fun ls hl => ?_)
    refine lv_goto (tgt := 2) hx hb dX12_lays_52 (by decide) ?_
    exact hk2 v44 _ _ _ _ hW (lv_sub hl [1, 0] rfl) h
  have blk26 : ∀ (k2 : Int32 → St → Prop) (hk2 : ∀ (x1 : Int32) (σ : St) (H : Heap) (locs : List Loc) (ls : Array Slot), xW D KA layR stR ad ids (xA ad ids s.heap.size) s.heap σ H locs → lv_has ls 9 [(0, .ref (ad 0)), (1, .int x1)] → k2 x1 σ → W p l e rmX12_lays s m args below meth c H locs 0 0 Q (F0 m 2 ls [])) (x1 : Int32) (s1 : Int32) (s2 : Int64) (σ : St) (H : Heap) (locs : List Loc) (ls : Array Slot), xW D KA layR stR ad ids (xA ad ids s.heap.size) s.heap σ H locs → lv_has ls 9 [(0, .ref (ad 0)), (1, .int x1)] → wX12_lays_26 k2 post x1 s1 s2 σ → W p l e rmX12_lays s m args below meth c H locs 0 0 Q (F0 m 26 ls [.long s2, .int s1, .ref (ad 20)]) := by
    intro  k2 hk2 x1 s1 s2 σ H locs ls hW hl h
    unfold wX12_lays_26 at h
    obtain ⟨hi45, h⟩ := h
    refine x_last hx hb hK hW 20 (hI 20 (by decide)) lR_20 hi45 dX12_lays_26 (fun σ46 H locs hσ46 hW => ?_)
    have h := h σ46 hσ46
    refine lv_aload_n hx hb dX12_lays_27 rfl (lv_at hl 0 rfl) ?_
    refine xgX12_32r hx hb hts hown hK hW 0 hcX12_lays_X12 (hI 0 (by decide)) lR_0 (hts _ hwX12_lays_0) (sR_0_32 _) dX12_lays_28 ?_
    refine lv_iload_n hx hb dX12_lays_31 rfl (lv_at hl 1 rfl) ?_
    refine lv_lconst (v := 1) hx hb dX12_lays_32 (by decide) ?_
    obtain ⟨hi47, h⟩ := h
    refine x_last hx hb hK hW 21 (hI 21 (by decide)) lR_21 hi47 dX12_lays_33 (fun σ48 H locs hσ48 hW => ?_)
    have h := h σ48 hσ48
    refine lv_aload_n hx hb dX12_lays_34 rfl (lv_at hl 0 rfl) ?_
    refine xgX12_33r hx hb hts hown hK hW 0 hcX12_lays_X12 (hI 0 (by decide)) lR_0 (hts _ hwX12_lays_4) (sR_0_33 _) dX12_lays_35 ?_
    refine lv_iload_n hx hb dX12_lays_38 rfl (lv_at hl 1 rfl) ?_
    refine lv_iload_n hx hb dX12_lays_39 rfl (lv_at hl 1 rfl) ?_
    refine lv_if_ne (tgt := 47) hx hb dX12_lays_40 (by decide) (fun c49 => ?_) (fun c49 => ?_)
    · have h := h.1 c49
      refine lv_iconst (v := 0) hx hb dX12_lays_47 (by decide) ?_
      exact blk48  k2 hk2 x1 x1 (0 : Int32) _ _ _ _ hW (lv_sub hl [0, 1] rfl) h
    · have h := h.2 c49
      refine lv_iconst (v := 1) hx hb dX12_lays_43 (by decide) ?_
      refine lv_goto (tgt := 48) hx hb dX12_lays_44 (by decide) ?_
      exact blk48  k2 hk2 x1 x1 (1 : Int32) _ _ _ _ hW (lv_sub hl [0, 1] rfl) h
  have blk2 : ∀ (n : Nat) (x1 : Int32) (σ : St) (H : Heap) (locs : List Loc) (ls : Array Slot), xW D KA layR stR ad ids (xA ad ids s.heap.size) s.heap σ H locs → lv_has ls 9 [(0, .ref (ad 0)), (1, .int x1)] → wX12_lays_2 post  n x1 σ → W p l e rmX12_lays s m args below meth c H locs 0 0 Q (F0 m 2 ls []) := by
    intro    n
    induction n with
    | zero => intro x1 σ H locs ls hW hl h; exact (h : False).elim
    | succ n ih =>
      intro x1 σ H locs ls hW hl h
      have hk2 : ∀ (x1 : Int32) (σ : St) (H : Heap) (locs : List Loc) (ls : Array Slot), xW D KA layR stR ad ids (xA ad ids s.heap.size) s.heap σ H locs → lv_has ls 9 [(0, .ref (ad 0)), (1, .int x1)] → (wX12_lays_2 post  n) x1 σ → W p l e rmX12_lays s m args below meth c H locs 0 0 Q (F0 m 2 ls []) := fun x1 σ H locs ls hW hl h => ih x1 σ H locs ls hW hl h
      rw [wX12_lays_2_s] at h
      try dsimp only at h
      generalize wX12_lays_2 post  n = k2 at h hk2
      refine lv_iload_n hx hb dX12_lays_2 rfl (lv_at hl 1 rfl) ?_
      refine lv_bipush (v := 8) hx hb dX12_lays_3 (by decide) ?_
      refine lv_icmp_ge (tgt := 55) hx hb dX12_lays_5 (by decide) (fun c50 => ?_) (fun c50 => ?_)
      · have h := h.1 c50
        refine lv_iconst (v := 1) hx hb dX12_lays_55 (by decide) ?_
        refine lv_istore_n (lv' := [(1, .int (1 : Int32)), (0, .ref (ad 0))]) hx hb dX12_lays_56 rfl hl (by decide) rfl (fun ls hl => ?_)
        obtain ⟨n, h⟩ := h
        exact blk57    n (1 : Int32) _ _ _ _ hW (lv_sub hl [1, 0] rfl) h
      · have h := h.2 c50
        refine lv_aload_n hx hb dX12_lays_8 rfl (lv_at hl 0 rfl) ?_
        refine xgX12_31r hx hb hts hown hK hW 0 hcX12_lays_X12 (hI 0 (by decide)) lR_0 (hts _ hwX12_lays_2) (sR_0_31 _) dX12_lays_9 ?_
        refine lv_iload_n hx hb dX12_lays_12 rfl (lv_at hl 1 rfl) ?_
        refine lv_iload_n hx hb dX12_lays_13 rfl (lv_at hl 1 rfl) ?_
        refine lv_if_ne (tgt := 25) hx hb dX12_lays_14 (by decide) (fun c52 => ?_) (fun c52 => ?_)
        · have h := h.1 c52
          refine lv_lconst (v := 0) hx hb dX12_lays_25 (by decide) ?_
          exact blk26  k2 hk2 x1 x1 (0 : Int64) _ _ _ _ hW (lv_sub hl [0, 1] rfl) h
        · have h := h.2 c52
          refine lv_aload_n hx hb dX12_lays_17 rfl (lv_at hl 0 rfl) ?_
          refine xgX12_10 hx hb hts hown hK hW 0 hcX12_lays_X12 (hI 0 (by decide)) lR_0 (hts _ hwX12_lays_8) dX12_lays_18 ?_
          refine lv_i2l hx hb dX12_lays_21 rfl ?_
          refine lv_goto (tgt := 26) hx hb dX12_lays_22 (by decide) ?_
          exact blk26  k2 hk2 x1 x1 ((gI σ 0 10).toInt64) _ _ _ _ hW (lv_sub hl [0, 1] rfl) h
  have main : ∀ (H : Heap) (locs : List Loc) (ls : Array Slot), xW D KA layR stR ad ids (xA ad ids s.heap.size) s.heap σ H locs → lv_has ls 9 [(0, .ref (ad 0))] → W p l e rmX12_lays s m args below meth c H locs 0 0 Q (F0 m 0 ls []) := by
    intro H locs ls hW hl
    unfold wX12_lays at h
    refine lv_iconst (v := 0) hx hb dX12_lays_0 (by decide) ?_
    refine lv_istore_n (lv' := [(1, .int (0 : Int32)), (0, .ref (ad 0))]) hx hb dX12_lays_1 rfl hl (by decide) rfl (fun ls hl => ?_)
    obtain ⟨n, h⟩ := h
    exact blk2    n (0 : Int32) _ _ _ _ hW (lv_sub hl [1, 0] rfl) h
  exact main _ _ _ hW hl
