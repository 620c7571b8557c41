theorem hwX6_machinesOn_0 : (.fieldLink RX6 59 "FortyBelts$Mill" "machineCount" "I" : Cond) ∈ wsX6_machinesOn := (List.mem_cons_of_mem _ (List.mem_append_left _ (List.mem_append_left _ (List.mem_of_getElem? (i := 0) rfl))))
theorem hwX6_machinesOn_1 : (.fieldLink RX6 33 "FortyBelts$Mill" "machines" "[LFortyBelts$Machine;" : Cond) ∈ wsX6_machinesOn := (List.mem_cons_of_mem _ (List.mem_append_left _ (List.mem_append_left _ (List.mem_of_getElem? (i := 1) rfl))))
theorem hwX6_machinesOn_2 : (.fieldLink RX6 116 "FortyBelts$Machine" "on" "Z" : Cond) ∈ wsX6_machinesOn := (List.mem_cons_of_mem _ (List.mem_append_left _ (List.mem_append_left _ (List.mem_of_getElem? (i := 2) rfl))))
theorem hwX6_machinesOn_3 : (.fieldLink RX6 117 "FortyBelts$Machine" "shaft" "I" : Cond) ∈ wsX6_machinesOn := (List.mem_cons_of_mem _ (List.mem_append_left _ (List.mem_append_left _ (List.mem_of_getElem? (i := 3) rfl))))
theorem hcX6_machinesOn_X6 : ∀ w ∈ wsX60, w ∈ wsX6_machinesOn := fun _ h => (List.mem_cons_of_mem _ (List.mem_append_left _ (List.mem_append_right _ h)))
theorem hcX6_machinesOn_X5 : ∀ w ∈ wsX50, w ∈ wsX6_machinesOn := fun _ h => (List.mem_cons_of_mem _ (List.mem_append_right _ h))
set_option maxHeartbeats 4000000 in
set_option maxRecDepth 100000 in
theorem J_X6_machinesOn {D : va_G} {KA : Nat → ClassId} {zs : ZS} {ad : Nat → Nat} {ids : List Nat} {sz : Nat} (l : Launch) (hI : ∀ c, c < 52 ∧ ¬ c = 19 → c ∈ ids) {a1 : Int32}  {σ : St} {post : Int32 → St → Prop} (h : wX6_machinesOn ids a1 σ post) : Met l yX6_machinesOn wsX6_machinesOn rmX6_machinesOn (va_Pc [.ref (ad 1), .int a1] (xIn D KA zs layX stX ad ids sz σ)) (va_Qi post (xOut D KA layX stX ad ids) (xA ad ids sz)) 0 0 (xA ad ids sz) := by
  refine Met.ofW (cc := cX6_machinesOn) (maxL := 4) (ret := (some .int)) (by decide) rfl ?_
  intro p e s m args below meth c s₁ B hml hv
  obtain ⟨hav, hsz, hK, hZ, hP, hD⟩ := hv
  have hx := B.exec
  have hb := B.bytes
  have hr := B.returns
  have hts := atoms_spec (ws := wsX6_machinesOn) B.pre
  have hown : s.vm.findClass RX6 = some m.cls := findClass_of_methodNamed B.named
  have hlocks := B.notSynchronized
  subst hsz
  have hA : ∀ q : Nat, s.heap.size ≤ q → xA ad ids s.heap.size q := fun q h => Or.inr h
  have hW : xW D KA layX stX ad ids (xA ad ids s.heap.size) s.heap σ s.heap [] := ⟨hP, xA_D (D := D) hD, va_S.rf⟩
  have kr : ∀ (v : Int32) (σ : St) (H : Heap) (locs : List Loc) (ls : Array Slot) (pc : Nat), xW D KA layX stX ad ids (xA ad ids s.heap.size) s.heap σ H locs → post v σ → decode cX6_machinesOn pc = .ok (.ireturn, 1) → W p l e rmX6_machinesOn s m args below meth c H locs 0 0 (MQ below (va_Qi post (xOut D KA layX stX ad ids) (xA ad ids s.heap.size)) args s 0 0 (xA ad ids s.heap.size)) (F0 m pc ls [.int v]) := fun v σ H locs ls pc hW h hd => x_iret hx hb hr hlocks hW h hd
  have hl := lv_entry ([.ref (ad 1), .int a1]) (n := 4) (Nat.le_of_ble_eq_true rfl)
  rw [show entryFrame m args 4 = entryFrame m ([.ref (ad 1), .int a1] : List Value).toArray 4 from by rw [hav]]
  rw [lg_entry_eq]
  generalize (lg_sl ([.ref (ad 1), .int a1]) ++ List.replicate (4 - (lg_sl ([.ref (ad 1), .int a1])).length) Slot.unset).toArray = ls at hl ⊢
  have hl : lv_has ls 4 [(0, .ref (ad 1)), (1, .int a1)] := hl
  show W p l e rmX6_machinesOn s m args below meth c s.heap [] 0 0 _ _
  generalize MQ below (va_Qi post (xOut D KA layX stX ad ids) (xA ad ids s.heap.size)) args s 0 0 (xA ad ids s.heap.size) = Q at kr ⊢
  have blk47 : ∀ (x1 : Int32) (k4 : Int32 → Int32 → St → Prop) (hk4 : ∀ (x2 : Int32) (x3 : Int32) (σ : St) (H : Heap) (locs : List Loc) (ls : Array Slot), xW D KA layX stX ad ids (xA ad ids s.heap.size) s.heap σ H locs → lv_has ls 4 [(0, .ref (ad 1)), (1, .int x1), (2, .int x2), (3, .int x3)] → k4 x2 x3 σ → W p l e rmX6_machinesOn s m args below meth c H locs 0 0 Q (F0 m 4 ls [])) (x2 : Int32) (x3 : Int32) (σ : St) (H : Heap) (locs : List Loc) (ls : Array Slot), xW D KA layX stX ad ids (xA ad ids s.heap.size) s.heap σ H locs → lv_has ls 4 [(0, .ref (ad 1)), (1, .int x1), (2, .int x2), (3, .int x3)] → wX6_machinesOn_47 ids k4 post x1 x2 x3 σ → W p l e rmX6_machinesOn s m args below meth c H locs 0 0 Q (F0 m 47 ls []) := by
    intro x1 k4 hk4 x2 x3 σ H locs ls hW hl h
    unfold wX6_machinesOn_47 at h
    obtain ⟨v1, hv1⟩ : ∃ y : Int32, y = x3 + (1 : Int32) := ⟨_, rfl⟩
    have h := h v1 hv1
    refine lv_iinc (v := v1) (lv' := [(3, .int v1), (0, .ref (ad 1)), (1, .int x1), (2, .int x2)]) hx hb dX6_machinesOn_47 hl (k := 3) rfl (by rw [hv1]; rfl) (by decide) rfl (fun ls hl => ?_)
    refine lv_goto (tgt := 4) hx hb dX6_machinesOn_50 (by decide) ?_
    exact hk4 x2 v1 _ _ _ _ hW (lv_sub hl [1, 2, 3, 0] rfl) h
  have blk4 : ∀ (x1 : Int32) (n : Nat) (x2 : Int32) (x3 : Int32) (σ : St) (H : Heap) (locs : List Loc) (ls : Array Slot), xW D KA layX stX ad ids (xA ad ids s.heap.size) s.heap σ H locs → lv_has ls 4 [(0, .ref (ad 1)), (1, .int x1), (2, .int x2), (3, .int x3)] → wX6_machinesOn_4 ids post x1 n x2 x3 σ → W p l e rmX6_machinesOn s m args below meth c H locs 0 0 Q (F0 m 4 ls []) := by
    intro   x1 n
    induction n with
    | zero => intro x2 x3 σ H locs ls hW hl h; exact (h : False).elim
    | succ n ih =>
      intro x2 x3 σ H locs ls hW hl h
      have hk4 : ∀ (x2 : Int32) (x3 : Int32) (σ : St) (H : Heap) (locs : List Loc) (ls : Array Slot), xW D KA layX stX ad ids (xA ad ids s.heap.size) s.heap σ H locs → lv_has ls 4 [(0, .ref (ad 1)), (1, .int x1), (2, .int x2), (3, .int x3)] → (wX6_machinesOn_4 ids post x1 n) x2 x3 σ → W p l e rmX6_machinesOn s m args below meth c H locs 0 0 Q (F0 m 4 ls []) := fun x2 x3 σ H locs ls hW hl h => ih x2 x3 σ H locs ls hW hl h
      rw [wX6_machinesOn_4_s] at h
      try dsimp only at h
      generalize wX6_machinesOn_4 ids post x1 n = k4 at h hk4
      refine lv_iload_n hx hb dX6_machinesOn_4 rfl (lv_at hl 3 rfl) ?_
      refine lv_aload_n hx hb dX6_machinesOn_5 rfl (lv_at hl 0 rfl) ?_
      refine xgX6_1 hx hb hts hown hK hW 1 hcX6_machinesOn_X6 (hI 1 (by decide)) lX_1 (hts _ hwX6_machinesOn_0) dX6_machinesOn_6 ?_
      refine lv_icmp_ge (tgt := 53) hx hb dX6_machinesOn_9 (by decide) (fun c2 => ?_) (fun c2 => ?_)
      · have h := h.1 c2
        refine lv_iload_n hx hb dX6_machinesOn_53 rfl (lv_at hl 2 rfl) ?_
        exact kr _ _ _ _ _ _ hW h dX6_machinesOn_54
      · have h := h.2 c2
        refine lv_aload_n hx hb dX6_machinesOn_12 rfl (lv_at hl 0 rfl) ?_
        refine xgX6_10r hx hb hts hown hK hW 1 hcX6_machinesOn_X6 (hI 1 (by decide)) lX_1 (hts _ hwX6_machinesOn_1) (sX_1_10 _) dX6_machinesOn_13 ?_
        refine lv_iload_n hx hb dX6_machinesOn_16 rfl (lv_at hl 3 rfl) ?_
        obtain ⟨hi3, h⟩ := h
        obtain ⟨o4, hr5, ok_o4, h⟩ := h
        refine x_ald hx hb hK hW 9 1 (hI 9 (by decide)) lX_9 rfl hi3 ((sX_9 _ _).trans hr5) dX6_machinesOn_17 ?_
        refine xgX5_5 hx hb hts hown hK hW o4 hcX6_machinesOn_X5 ok_o4.1 (lay_okM ok_o4) (hts _ hwX6_machinesOn_2) dX6_machinesOn_18 ?_
        refine lv_if_eq (tgt := 47) hx hb dX6_machinesOn_21 (by decide) (fun c6 => ?_) (fun c6 => ?_)
        · have h := h.1 c6
          exact blk47 x1 k4 hk4 x2 x3 _ _ _ _ hW (lv_sub hl [0, 1, 2, 3] rfl) h
        · have h := h.2 c6
          refine lv_iload_n hx hb dX6_machinesOn_24 rfl (lv_at hl 1 rfl) ?_
          refine lv_aload_n hx hb dX6_machinesOn_25 rfl (lv_at hl 0 rfl) ?_
          refine xgX6_10r hx hb hts hown hK hW 1 hcX6_machinesOn_X6 (hI 1 (by decide)) lX_1 (hts _ hwX6_machinesOn_1) (sX_1_10 _) dX6_machinesOn_26 ?_
          refine lv_iload_n hx hb dX6_machinesOn_29 rfl (lv_at hl 3 rfl) ?_
          obtain ⟨o8, hr9, ok_o8, h⟩ := h
          refine x_ald hx hb hK hW 9 1 (hI 9 (by decide)) lX_9 rfl hi3 ((sX_9 _ _).trans hr9) dX6_machinesOn_30 ?_
          refine xgX5_0 hx hb hts hown hK hW o8 hcX6_machinesOn_X5 ok_o8.1 (lay_okM ok_o8) (hts _ hwX6_machinesOn_3) dX6_machinesOn_31 ?_
          refine lv_ishr hx hb dX6_machinesOn_34 ?_
          refine lv_iconst (v := 1) hx hb dX6_machinesOn_35 (by decide) ?_
          refine lv_iand hx hb dX6_machinesOn_36 ?_
          refine lv_iconst (v := 1) hx hb dX6_machinesOn_37 (by decide) ?_
          refine lv_icmp_ne (tgt := 47) hx hb dX6_machinesOn_38 (by decide) (fun c10 => ?_) (fun c10 => ?_)
          · have h := h.1 c10
            exact blk47 x1 k4 hk4 x2 x3 _ _ _ _ hW (lv_sub hl [0, 1, 2, 3] rfl) h
          · have h := h.2 c10
            refine lv_iload_n hx hb dX6_machinesOn_41 rfl (lv_at hl 2 rfl) ?_
            refine lv_iconst (v := 1) hx hb dX6_machinesOn_42 (by decide) ?_
            refine lv_iload_n hx hb dX6_machinesOn_43 rfl (lv_at hl 3 rfl) ?_
            refine lv_ishl hx hb dX6_machinesOn_44 ?_
            refine lv_ior hx hb dX6_machinesOn_45 ?_
            refine lv_topi (fun v11 hv11 => ?_)
            have h := h v11 hv11
            refine lv_istore_n (lv' := [(2, .int v11), (0, .ref (ad 1)), (1, .int x1), (3, .int x3)]) hx hb dX6_machinesOn_46 rfl hl (by decide) rfl (fun ls hl => ?_)
            exact blk47 x1 k4 hk4 v11 x3 _ _ _ _ hW (lv_sub hl [1, 2, 0, 3] rfl) h
  have main : ∀ (H : Heap) (locs : List Loc) (ls : Array Slot), xW D KA layX stX ad ids (xA ad ids s.heap.size) s.heap σ H locs → lv_has ls 4 [(0, .ref (ad 1)), (1, .int a1)] → W p l e rmX6_machinesOn s m args below meth c H locs 0 0 Q (F0 m 0 ls []) := by
    intro H locs ls hW hl
    unfold wX6_machinesOn at h
    refine lv_iconst (v := 0) hx hb dX6_machinesOn_0 (by decide) ?_
    refine lv_istore_n (lv' := [(2, .int (0 : Int32)), (0, .ref (ad 1)), (1, .int a1)]) hx hb dX6_machinesOn_1 rfl hl (by decide) rfl (fun ls hl => ?_)
    refine lv_iconst (v := 0) hx hb dX6_machinesOn_2 (by decide) ?_
    refine lv_istore_n (lv' := [(3, .int (0 : Int32)), (2, .int (0 : Int32)), (0, .ref (ad 1)), (1, .int a1)]) hx hb dX6_machinesOn_3 rfl hl (by decide) rfl (fun ls hl => ?_)
    obtain ⟨n, h⟩ := h
    exact blk4   a1 n (0 : Int32) (0 : Int32) _ _ _ _ hW (lv_sub hl [2, 3, 1, 0] rfl) h
  exact main _ _ _ hW hl
set_option maxHeartbeats 4000000 in
set_option maxRecDepth 100000 in
theorem J_X6_switchedOn {D : va_G} {KA : Nat → ClassId} {zs : ZS} {ad : Nat → Nat} {ids : List Nat} {sz : Nat} (l : Launch) (hI : ∀ c, c < 52 ∧ ¬ c = 19 → c ∈ ids)   {σ : St} {post : Int32 → St → Prop} (h : wX6_switchedOn ids  σ post) : Met l yX6_switchedOn wsX6_switchedOn rmX6_switchedOn (va_Pc [.ref (ad 1)] (xIn D KA zs layX stX ad ids sz σ)) (va_Qi post (xOut D KA layX stX ad ids) (xA ad ids sz)) 0 0 (xA ad ids sz) := by
  refine Met.ofW (cc := cX6_switchedOn) (maxL := 1) (ret := (some .int)) (by decide) rfl ?_
  intro p e s m args below meth c s₁ B hml hv
  obtain ⟨hav, hsz, hK, hZ, hP, hD⟩ := hv
  have hx := B.exec
  have hb := B.bytes
  have hr := B.returns
  have hts := atoms_spec (ws := wsX6_switchedOn) B.pre
  have hown : s.vm.findClass RX6 = some m.cls := findClass_of_methodNamed B.named
  have hlocks := B.notSynchronized
  subst hsz
  have hA : ∀ q : Nat, s.heap.size ≤ q → xA ad ids s.heap.size q := fun q h => Or.inr h
  have hW : xW D KA layX stX ad ids (xA ad ids s.heap.size) s.heap σ s.heap [] := ⟨hP, xA_D (D := D) hD, va_S.rf⟩
  have kr : ∀ (v : Int32) (σ : St) (H : Heap) (locs : List Loc) (ls : Array Slot) (pc : Nat), xW D KA layX stX ad ids (xA ad ids s.heap.size) s.heap σ H locs → post v σ → decode cX6_switchedOn pc = .ok (.ireturn, 1) → W p l e rmX6_switchedOn s m args below meth c H locs 0 0 (MQ below (va_Qi post (xOut D KA layX stX ad ids) (xA ad ids s.heap.size)) args s 0 0 (xA ad ids s.heap.size)) (F0 m pc ls [.int v]) := fun v σ H locs ls pc hW h hd => x_iret hx hb hr hlocks hW h hd
  have hl := lv_entry ([.ref (ad 1)]) (n := 1) (Nat.le_of_ble_eq_true rfl)
  rw [show entryFrame m args 1 = entryFrame m ([.ref (ad 1)] : List Value).toArray 1 from by rw [hav]]
  rw [lg_entry_eq]
  generalize (lg_sl ([.ref (ad 1)]) ++ List.replicate (1 - (lg_sl ([.ref (ad 1)])).length) Slot.unset).toArray = ls at hl ⊢
  have hl : lv_has ls 1 [(0, .ref (ad 1))] := hl
  show W p l e rmX6_switchedOn s m args below meth c s.heap [] 0 0 _ _
  generalize MQ below (va_Qi post (xOut D KA layX stX ad ids) (xA ad ids s.heap.size)) args s 0 0 (xA ad ids s.heap.size) = Q at kr ⊢
  have main : ∀ (H : Heap) (locs : List Loc) (ls : Array Slot), xW D KA layX stX ad ids (xA ad ids s.heap.size) s.heap σ H locs → lv_has ls 1 [(0, .ref (ad 1))] → W p l e rmX6_switchedOn s m args below meth c H locs 0 0 Q (F0 m 0 ls []) := by
    intro H locs ls hW hl
    unfold wX6_switchedOn at h
    refine lv_aload_n hx hb dX6_switchedOn_0 rfl (lv_at hl 0 rfl) ?_
    refine lv_sipush (v := 255) hx hb dX6_switchedOn_1 (by decide) ?_
    refine x_calli (va_runV (As := [.int (255 : Int32)]) (rest := []) ⟨hx, hb, hml, hown, hts⟩ (J_X6_machinesOn l hI h) (cwV 1 hts gX6_switchedOn_X6_machinesOn rfl rfl rfl hdV_X6_machinesOn ⟨Nat.le_of_ble_eq_true rfl, Nat.le_of_ble_eq_true rfl⟩) (x_preV (ci := 6) hK hZ hA hW (hI 1 (by decide)) lX_1 rfl) rfl rfl hl.1 rfl (lv_room (Nat.le_of_ble_eq_true rfl)) dX6_switchedOn_4 ⟨Nat.zero_le _, Nat.zero_le _⟩) hW hA (fun r1002 σ1001 H locs h hW => ?_)
    try dsimp only at h
    exact kr _ _ _ _ _ _ hW h dX6_switchedOn_7
  exact main _ _ _ hW hl
theorem hwX6_turning_0 : (.fieldLink RX6 59 "FortyBelts$Mill" "machineCount" "I" : Cond) ∈ wsX6_turning := (List.mem_cons_of_mem _ (List.mem_append_left _ (List.mem_append_left _ (List.mem_of_getElem? (i := 0) rfl))))
theorem hwX6_turning_1 : (.fieldLink RX6 21 "FortyBelts$Mill" "above" "[J" : Cond) ∈ wsX6_turning := (List.mem_cons_of_mem _ (List.mem_append_left _ (List.mem_append_left _ (List.mem_of_getElem? (i := 1) rfl))))
theorem hwX6_turning_2 : (.fieldLink RX6 33 "FortyBelts$Mill" "machines" "[LFortyBelts$Machine;" : Cond) ∈ wsX6_turning := (List.mem_cons_of_mem _ (List.mem_append_left _ (List.mem_append_left _ (List.mem_of_getElem? (i := 2) rfl))))
theorem hwX6_turning_3 : (.fieldLink RX6 117 "FortyBelts$Machine" "shaft" "I" : Cond) ∈ wsX6_turning := (List.mem_cons_of_mem _ (List.mem_append_left _ (List.mem_append_left _ (List.mem_of_getElem? (i := 3) rfl))))
theorem hcX6_turning_X6 : ∀ w ∈ wsX60, w ∈ wsX6_turning := fun _ h => (List.mem_cons_of_mem _ (List.mem_append_left _ (List.mem_append_right _ h)))
theorem hcX6_turning_X5 : ∀ w ∈ wsX50, w ∈ wsX6_turning := fun _ h => (List.mem_cons_of_mem _ (List.mem_append_right _ h))
set_option maxHeartbeats 4000000 in
set_option maxRecDepth 100000 in
theorem J_X6_turning {D : va_G} {KA : Nat → ClassId} {zs : ZS} {ad : Nat → Nat} {ids : List Nat} {sz : Nat} (l : Launch) (hI : ∀ c, c < 52 ∧ ¬ c = 19 → c ∈ ids)   {σ : St} {post : Int32 → St → Prop} (h : wX6_turning ids  σ post) : Met l yX6_turning wsX6_turning rmX6_turning (va_Pc [.ref (ad 1)] (xIn D KA zs layX stX ad ids sz σ)) (va_Qi post (xOut D KA layX stX ad ids) (xA ad ids sz)) 0 0 (xA ad ids sz) := by
  refine Met.ofW (cc := cX6_turning) (maxL := 3) (ret := (some .int)) (by decide) rfl ?_
  intro p e s m args below meth c s₁ B hml hv
  obtain ⟨hav, hsz, hK, hZ, hP, hD⟩ := hv
  have hx := B.exec
  have hb := B.bytes
  have hr := B.returns
  have hts := atoms_spec (ws := wsX6_turning) B.pre
  have hown : s.vm.findClass RX6 = some m.cls := findClass_of_methodNamed B.named
  have hlocks := B.notSynchronized
  subst hsz
  have hA : ∀ q : Nat, s.heap.size ≤ q → xA ad ids s.heap.size q := fun q h => Or.inr h
  have hW : xW D KA layX stX ad ids (xA ad ids s.heap.size) s.heap σ s.heap [] := ⟨hP, xA_D (D := D) hD, va_S.rf⟩
  have kr : ∀ (v : Int32) (σ : St) (H : Heap) (locs : List Loc) (ls : Array Slot) (pc : Nat), xW D KA layX stX ad ids (xA ad ids s.heap.size) s.heap σ H locs → post v σ → decode cX6_turning pc = .ok (.ireturn, 1) → W p l e rmX6_turning s m args below meth c H locs 0 0 (MQ below (va_Qi post (xOut D KA layX stX ad ids) (xA ad ids s.heap.size)) args s 0 0 (xA ad ids s.heap.size)) (F0 m pc ls [.int v]) := fun v σ H locs ls pc hW h hd => x_iret hx hb hr hlocks hW h hd
  have hl := lv_entry ([.ref (ad 1)]) (n := 3) (Nat.le_of_ble_eq_true rfl)
  rw [show entryFrame m args 3 = entryFrame m ([.ref (ad 1)] : List Value).toArray 3 from by rw [hav]]
  rw [lg_entry_eq]
  generalize (lg_sl ([.ref (ad 1)]) ++ List.replicate (3 - (lg_sl ([.ref (ad 1)])).length) Slot.unset).toArray = ls at hl ⊢
  have hl : lv_has ls 3 [(0, .ref (ad 1))] := hl
  show W p l e rmX6_turning s m args below meth c s.heap [] 0 0 _ _
  generalize MQ below (va_Qi post (xOut D KA layX stX ad ids) (xA ad ids s.heap.size)) args s 0 0 (xA ad ids s.heap.size) = Q at kr ⊢
  have blk37 : ∀ (k4 : Int32 → Int32 → St → Prop) (hk4 : ∀ (x1 : Int32) (x2 : Int32) (σ : St) (H : Heap) (locs : List Loc) (ls : Array Slot), xW D KA layX stX ad ids (xA ad ids s.heap.size) s.heap σ H locs → lv_has ls 3 [(0, .ref (ad 1)), (1, .int x1), (2, .int x2)] → k4 x1 x2 σ → W p l e rmX6_turning s m args below meth c H locs 0 0 Q (F0 m 4 ls [])) (x1 : Int32) (x2 : Int32) (σ : St) (H : Heap) (locs : List Loc) (ls : Array Slot), xW D KA layX stX ad ids (xA ad ids s.heap.size) s.heap σ H locs → lv_has ls 3 [(0, .ref (ad 1)), (1, .int x1), (2, .int x2)] → wX6_turning_37 ids k4 post x1 x2 σ → W p l e rmX6_turning s m args below meth c H locs 0 0 Q (F0 m 37 ls []) := by
    intro  k4 hk4 x1 x2 σ H locs ls hW hl h
    unfold wX6_turning_37 at h
    obtain ⟨v1, hv1⟩ : ∃ y : Int32, y = x2 + (1 : Int32) := ⟨_, rfl⟩
    have h := h v1 hv1
    refine lv_iinc (v := v1) (lv' := [(2, .int v1), (0, .ref (ad 1)), (1, .int x1)]) hx hb dX6_turning_37 hl (k := 2) rfl (by rw [hv1]; rfl) (by decide) rfl (fun ls hl => ?_)
    refine lv_goto (tgt := 4) hx hb dX6_turning_40 (by decide) ?_
    exact hk4 x1 v1 _ _ _ _ hW (lv_sub hl [1, 2, 0] rfl) h
  have blk4 : ∀ (n : Nat) (x1 : Int32) (x2 : Int32) (σ : St) (H : Heap) (locs : List Loc) (ls : Array Slot), xW D KA layX stX ad ids (xA ad ids s.heap.size) s.heap σ H locs → lv_has ls 3 [(0, .ref (ad 1)), (1, .int x1), (2, .int x2)] → wX6_turning_4 ids post  n x1 x2 σ → W p l e rmX6_turning s m args below meth c H locs 0 0 Q (F0 m 4 ls []) := by
    intro    n
    induction n with
    | zero => intro x1 x2 σ H locs ls hW hl h; exact (h : False).elim
    | succ n ih =>
      intro x1 x2 σ H locs ls hW hl h
      have hk4 : ∀ (x1 : Int32) (x2 : Int32) (σ : St) (H : Heap) (locs : List Loc) (ls : Array Slot), xW D KA layX stX ad ids (xA ad ids s.heap.size) s.heap σ H locs → lv_has ls 3 [(0, .ref (ad 1)), (1, .int x1), (2, .int x2)] → (wX6_turning_4 ids post  n) x1 x2 σ → W p l e rmX6_turning s m args below meth c H locs 0 0 Q (F0 m 4 ls []) := fun x1 x2 σ H locs ls hW hl h => ih x1 x2 σ H locs ls hW hl h
      rw [wX6_turning_4_s] at h
      try dsimp only at h
      generalize wX6_turning_4 ids post  n = k4 at h hk4
      refine lv_iload_n hx hb dX6_turning_4 rfl (lv_at hl 2 rfl) ?_
      refine lv_aload_n hx hb dX6_turning_5 rfl (lv_at hl 0 rfl) ?_
      refine xgX6_1 hx hb hts hown hK hW 1 hcX6_turning_X6 (hI 1 (by decide)) lX_1 (hts _ hwX6_turning_0) dX6_turning_6 ?_
      refine lv_icmp_ge (tgt := 43) hx hb dX6_turning_9 (by decide) (fun c2 => ?_) (fun c2 => ?_)
      · have h := h.1 c2
        refine lv_iload_n hx hb dX6_turning_43 rfl (lv_at hl 1 rfl) ?_
        exact kr _ _ _ _ _ _ hW h dX6_turning_44
      · have h := h.2 c2
        refine lv_aload_n hx hb dX6_turning_12 rfl (lv_at hl 0 rfl) ?_
        refine xgX6_7r hx hb hts hown hK hW 1 hcX6_turning_X6 (hI 1 (by decide)) lX_1 (hts _ hwX6_turning_1) (sX_1_7 _) dX6_turning_13 ?_
        refine lv_aload_n hx hb dX6_turning_16 rfl (lv_at hl 0 rfl) ?_
        refine xgX6_10r hx hb hts hown hK hW 1 hcX6_turning_X6 (hI 1 (by decide)) lX_1 (hts _ hwX6_turning_2) (sX_1_10 _) dX6_turning_17 ?_
        refine lv_iload_n hx hb dX6_turning_20 rfl (lv_at hl 2 rfl) ?_
        obtain ⟨hi3, h⟩ := h
        obtain ⟨o4, hr5, ok_o4, h⟩ := h
        refine x_ald hx hb hK hW 9 1 (hI 9 (by decide)) lX_9 rfl hi3 ((sX_9 _ _).trans hr5) dX6_turning_21 ?_
        refine xgX5_0 hx hb hts hown hK hW o4 hcX6_turning_X5 ok_o4.1 (lay_okM ok_o4) (hts _ hwX6_turning_3) dX6_turning_22 ?_
        obtain ⟨hi6, h⟩ := h
        refine x_lald hx hb hK hW 6 (hI 6 (by decide)) lX_6 hi6 dX6_turning_25 ?_
        refine lv_lconst (v := 0) hx hb dX6_turning_26 (by decide) ?_
        refine W.lcmp hx hb dX6_turning_27 ?_
        refine lv_if_le (tgt := 37) hx hb dX6_turning_28 (by decide) (fun c7 => ?_) (fun c7 => ?_)
        · have h := h.1 c7
          exact blk37  k4 hk4 x1 x2 _ _ _ _ hW (lv_sub hl [0, 1, 2] rfl) h
        · have h := h.2 c7
          refine lv_iload_n hx hb dX6_turning_31 rfl (lv_at hl 1 rfl) ?_
          refine lv_iconst (v := 1) hx hb dX6_turning_32 (by decide) ?_
          refine lv_iload_n hx hb dX6_turning_33 rfl (lv_at hl 2 rfl) ?_
          refine lv_ishl hx hb dX6_turning_34 ?_
          refine lv_ior hx hb dX6_turning_35 ?_
          refine lv_topi (fun v8 hv8 => ?_)
          have h := h v8 hv8
          refine lv_istore_n (lv' := [(1, .int v8), (0, .ref (ad 1)), (2, .int x2)]) hx hb dX6_turning_36 rfl hl (by decide) rfl (fun ls hl => ?_)
          exact blk37  k4 hk4 v8 x2 _ _ _ _ hW (lv_sub hl [1, 0, 2] rfl) h
  have main : ∀ (H : Heap) (locs : List Loc) (ls : Array Slot), xW D KA layX stX ad ids (xA ad ids s.heap.size) s.heap σ H locs → lv_has ls 3 [(0, .ref (ad 1))] → W p l e rmX6_turning s m args below meth c H locs 0 0 Q (F0 m 0 ls []) := by
    intro H locs ls hW hl
    unfold wX6_turning at h
    refine lv_iconst (v := 0) hx hb dX6_turning_0 (by decide) ?_
    refine lv_istore_n (lv' := [(1, .int (0 : Int32)), (0, .ref (ad 1))]) hx hb dX6_turning_1 rfl hl (by decide) rfl (fun ls hl => ?_)
    refine lv_iconst (v := 0) hx hb dX6_turning_2 (by decide) ?_
    refine lv_istore_n (lv' := [(2, .int (0 : Int32)), (1, .int (0 : Int32)), (0, .ref (ad 1))]) hx hb dX6_turning_3 rfl hl (by decide) rfl (fun ls hl => ?_)
    obtain ⟨n, h⟩ := h
    exact blk4    n (0 : Int32) (0 : Int32) _ _ _ _ hW (lv_sub hl [2, 1, 0] rfl) h
  exact main _ _ _ hW hl
theorem hwX11_minding_0 : (.fieldLink RX11 10 "FortyBelts" "mill" "LFortyBelts$Mill;" : Cond) ∈ wsX11_minding := (List.mem_cons_of_mem _ (List.mem_append_left _ (List.mem_append_left _ (List.mem_append_left _ (List.mem_append_left _ (List.mem_append_left _ (List.mem_of_getElem? (i := 0) rfl)))))))
theorem hwX11_minding_1 : (.fieldLink RX11 92 "FortyBelts$Mill" "machineCount" "I" : Cond) ∈ wsX11_minding := (List.mem_cons_of_mem _ (List.mem_append_left _ (List.mem_append_left _ (List.mem_append_left _ (List.mem_append_left _ (List.mem_append_left _ (List.mem_of_getElem? (i := 2) rfl)))))))
theorem hwX11_minding_2 : (.fieldLink RX11 113 "FortyBelts$Mill" "machines" "[LFortyBelts$Machine;" : Cond) ∈ wsX11_minding := (List.mem_cons_of_mem _ (List.mem_append_left _ (List.mem_append_left _ (List.mem_append_left _ (List.mem_append_left _ (List.mem_append_left _ (List.mem_of_getElem? (i := 3) rfl)))))))
theorem hwX11_minding_3 : (.fieldLink RX11 403 "FortyBelts$Machine" "shaft" "I" : Cond) ∈ wsX11_minding := (List.mem_cons_of_mem _ (List.mem_append_left _ (List.mem_append_left _ (List.mem_append_left _ (List.mem_append_left _ (List.mem_append_left _ (List.mem_of_getElem? (i := 4) rfl)))))))
theorem hwX11_minding_4 : (.fieldLink RX11 85 "FortyBelts$Mill" "power" "I" : Cond) ∈ wsX11_minding := (List.mem_cons_of_mem _ (List.mem_append_left _ (List.mem_append_left _ (List.mem_append_left _ (List.mem_append_left _ (List.mem_append_left _ (List.mem_of_getElem? (i := 1) rfl)))))))
theorem hcX11_minding_X11 : ∀ w ∈ wsX110, w ∈ wsX11_minding := fun _ h => (List.mem_cons_of_mem _ (List.mem_append_left _ (List.mem_append_left _ (List.mem_append_left _ (List.mem_append_right _ h)))))
theorem hcX11_minding_X6 : ∀ w ∈ wsX60, w ∈ wsX11_minding := fun _ h => (List.mem_cons_of_mem _ (List.mem_append_left _ (List.mem_append_left _ (List.mem_append_right _ h))))
theorem hcX11_minding_X5 : ∀ w ∈ wsX50, w ∈ wsX11_minding := fun _ h => (List.mem_cons_of_mem _ (List.mem_append_left _ (List.mem_append_right _ h)))
set_option maxHeartbeats 4000000 in
set_option maxRecDepth 100000 in
theorem J_X11_minding {D : va_G} {KA : Nat → ClassId} {zs : ZS} {ad : Nat → Nat} {ids : List Nat} {sz : Nat} (l : Launch) (hI : ∀ c, c < 52 ∧ ¬ c = 19 → c ∈ ids) {a1 : Int32}  {σ : St} {post : Int32 → St → Prop} (h : wX11_minding ids a1 σ post) : Met l yX11_minding wsX11_minding rmX11_minding (va_Pc [.ref (ad 0), .int a1] (xIn D KA zs layX stX ad ids sz σ)) (va_Qi post (xOut D KA layX stX ad ids) (xA ad ids sz)) 0 0 (xA ad ids sz) := by
  refine Met.ofW (cc := cX11_minding) (maxL := 9) (ret := (some .int)) (by decide) rfl ?_
  intro p e s m args below meth c s₁ B hml hv
  obtain ⟨hav, hsz, hK, hZ, hP, hD⟩ := hv
  have hx := B.exec
  have hb := B.bytes
  have hr := B.returns
  have hts := atoms_spec (ws := wsX11_minding) B.pre
  have hown : s.vm.findClass RX11 = some m.cls := findClass_of_methodNamed B.named
  have hlocks := B.notSynchronized
  subst hsz
  have hA : ∀ q : Nat, s.heap.size ≤ q → xA ad ids s.heap.size q := fun q h => Or.inr h
  have hW : xW D KA layX stX ad ids (xA ad ids s.heap.size) s.heap σ s.heap [] := ⟨hP, xA_D (D := D) hD, va_S.rf⟩
  have kr : ∀ (v : Int32) (σ : St) (H : Heap) (locs : List Loc) (ls : Array Slot) (pc : Nat), xW D KA layX stX ad ids (xA ad ids s.heap.size) s.heap σ H locs → post v σ → decode cX11_minding pc = .ok (.ireturn, 1) → W p l e rmX11_minding s m args below meth c H locs 0 0 (MQ below (va_Qi post (xOut D KA layX stX ad ids) (xA ad ids s.heap.size)) args s 0 0 (xA ad ids s.heap.size)) (F0 m pc ls [.int v]) := fun v σ H locs ls pc hW h hd => x_iret hx hb hr hlocks hW h hd
  have hl := lv_entry ([.ref (ad 0), .int a1]) (n := 9) (Nat.le_of_ble_eq_true rfl)
  rw [show entryFrame m args 9 = entryFrame m ([.ref (ad 0), .int a1] : List Value).toArray 9 from by rw [hav]]
  rw [lg_entry_eq]
  generalize (lg_sl ([.ref (ad 0), .int a1]) ++ List.replicate (9 - (lg_sl ([.ref (ad 0), .int a1])).length) Slot.unset).toArray = ls at hl ⊢
  have hl : lv_has ls 9 [(0, .ref (ad 0)), (1, .int a1)] := hl
  show W p l e rmX11_minding s m args below meth c s.heap [] 0 0 _ _
  generalize MQ below (va_Qi post (xOut D KA layX stX ad ids) (xA ad ids s.heap.size)) args s 0 0 (xA ad ids s.heap.size) = Q at kr ⊢
  have blk121 : ∀ (x1 : Int32) (x2 : Int32) (x3 : Int64) (k46 : Int32 → Int32 → St → Prop) (hk46 : ∀ (x5 : Int32) (x6 : Int32) (σ : St) (H : Heap) (locs : List Loc) (ls : Array Slot), xW D KA layX stX ad ids (xA ad ids s.heap.size) s.heap σ H locs → lv_has ls 9 [(0, .ref (ad 0)), (1, .int x1), (2, .int x2), (3, .long x3), (5, .int x5), (6, .int x6)] → k46 x5 x6 σ → W p l e rmX11_minding s m args below meth c H locs 0 0 Q (F0 m 46 ls [])) (x5 : Int32) (x6 : Int32) (σ : St) (H : Heap) (locs : List Loc) (ls : Array Slot), xW D KA layX stX ad ids (xA ad ids s.heap.size) s.heap σ H locs → lv_has ls 9 [(0, .ref (ad 0)), (1, .int x1), (2, .int x2), (3, .long x3), (5, .int x5), (6, .int x6)] → wX11_minding_121 ids k46 post x1 x2 x3 x5 x6 σ → W p l e rmX11_minding s m args below meth c H locs 0 0 Q (F0 m 121 ls []) := by
    intro x1 x2 x3 k46 hk46 x5 x6 σ H locs ls hW hl h
    unfold wX11_minding_121 at h
    obtain ⟨v1, hv1⟩ : ∃ y : Int32, y = x6 + (1 : Int32) := ⟨_, rfl⟩
    have h := h v1 hv1
    refine lv_iinc (v := v1) (lv' := [(6, .int v1), (0, .ref (ad 0)), (1, .int x1), (2, .int x2), (3, .long x3), (5, .int x5)]) hx hb dX11_minding_121 hl (k := 5) rfl (by rw [hv1]; rfl) (by decide) rfl (fun ls hl => ?_)
    refine lv_goto (tgt := 46) hx hb dX11_minding_124 (by decide) ?_
    exact hk46 x5 v1 _ _ _ _ hW (lv_sub hl [1, 2, 3, 4, 5, 0] rfl) h
  have blk46 : ∀ (x1 : Int32) (x2 : Int32) (x3 : Int64) (n : Nat) (x5 : Int32) (x6 : Int32) (σ : St) (H : Heap) (locs : List Loc) (ls : Array Slot), xW D KA layX stX ad ids (xA ad ids s.heap.size) s.heap σ H locs → lv_has ls 9 [(0, .ref (ad 0)), (1, .int x1), (2, .int x2), (3, .long x3), (5, .int x5), (6, .int x6)] → wX11_minding_46 ids post x1 x2 x3 n x5 x6 σ → W p l e rmX11_minding s m args below meth c H locs 0 0 Q (F0 m 46 ls []) := by
    intro   x1 x2 x3 n
    induction n with
    | zero => intro x5 x6 σ H locs ls hW hl h; exact (h : False).elim
    | succ n ih =>
      intro x5 x6 σ H locs ls hW hl h
      have hk46 : ∀ (x5 : Int32) (x6 : Int32) (σ : St) (H : Heap) (locs : List Loc) (ls : Array Slot), xW D KA layX stX ad ids (xA ad ids s.heap.size) s.heap σ H locs → lv_has ls 9 [(0, .ref (ad 0)), (1, .int x1), (2, .int x2), (3, .long x3), (5, .int x5), (6, .int x6)] → (wX11_minding_46 ids post x1 x2 x3 n) x5 x6 σ → W p l e rmX11_minding s m args below meth c H locs 0 0 Q (F0 m 46 ls []) := fun x5 x6 σ H locs ls hW hl h => ih x5 x6 σ H locs ls hW hl h
      rw [wX11_minding_46_s] at h
      try dsimp only at h
      generalize wX11_minding_46 ids post x1 x2 x3 n = k46 at h hk46
      refine lv_iload hx hb dX11_minding_46 (lv_at hl 5 rfl) ?_
      refine lv_aload_n hx hb dX11_minding_48 rfl (lv_at hl 0 rfl) ?_
      refine xgX11_0r hx hb hts hown hK hW 0 hcX11_minding_X11 (hI 0 (by decide)) lX_0 (hts _ hwX11_minding_0) (sX_0_0 _) dX11_minding_49 ?_
      refine xgX6_1 hx hb hts hown hK hW 1 hcX11_minding_X6 (hI 1 (by decide)) lX_1 (hts _ hwX11_minding_1) dX11_minding_52 ?_
      refine lv_icmp_ge (tgt := 127) hx hb dX11_minding_55 (by decide) (fun c2 => ?_) (fun c2 => ?_)
      · have h := h.1 c2
        refine lv_iload hx hb dX11_minding_127 (lv_at hl 4 rfl) ?_
        exact kr _ _ _ _ _ _ hW h dX11_minding_129
      · have h := h.2 c2
        refine lv_aload_n hx hb dX11_minding_58 rfl (lv_at hl 0 rfl) ?_
        refine xgX11_0r hx hb hts hown hK hW 0 hcX11_minding_X11 (hI 0 (by decide)) lX_0 (hts _ hwX11_minding_0) (sX_0_0 _) dX11_minding_59 ?_
        refine xgX6_10r hx hb hts hown hK hW 1 hcX11_minding_X6 (hI 1 (by decide)) lX_1 (hts _ hwX11_minding_2) (sX_1_10 _) dX11_minding_62 ?_
        refine lv_iload hx hb dX11_minding_65 (lv_at hl 5 rfl) ?_
        obtain ⟨hi3, h⟩ := h
        obtain ⟨o4, hr5, ok_o4, h⟩ := h
        refine x_ald hx hb hK hW 9 1 (hI 9 (by decide)) lX_9 rfl hi3 ((sX_9 _ _).trans hr5) dX11_minding_67 ?_
        refine lv_astore (lv' := [(7, .ref (ad o4)), (0, .ref (ad 0)), (1, .int x1), (2, .int x2), (3, .long x3), (5, .int x5), (6, .int x6)]) hx hb dX11_minding_68 hl (by decide) rfl (fun ls hl => ?_)
        refine lv_lload_n hx hb dX11_minding_70 rfl (lv_at hl 4 rfl) ?_
        refine lv_aload_n hx hb dX11_minding_71 rfl (lv_at hl 1 rfl) ?_
        refine xgX11_0r hx hb hts hown hK hW 0 hcX11_minding_X11 (hI 0 (by decide)) lX_0 (hts _ hwX11_minding_0) (sX_0_0 _) dX11_minding_72 ?_
        refine lv_aload hx hb dX11_minding_75 (lv_at hl 0 rfl) ?_
        refine xgX5_0 hx hb hts hown hK hW o4 hcX11_minding_X5 ok_o4.1 (lay_okM ok_o4) (hts _ hwX11_minding_3) dX11_minding_77 ?_
        refine x_calli (va_runV (As := [.int (gI σ o4 0)]) (rest := [.long x3]) ⟨hx, hb, hml, hown, hts⟩ (J_X6_cutTurns l hI h) (cwV 1 hts gX11_minding_X6_cutTurns rfl rfl rfl hdV_X6_cutTurns ⟨Nat.le_of_ble_eq_true rfl, Nat.le_of_ble_eq_true rfl⟩) (x_preV (ci := 6) hK hZ hA hW (hI 1 (by decide)) lX_1 rfl) rfl rfl hl.1 rfl (lv_room (Nat.le_of_ble_eq_true rfl)) dX11_minding_80 ⟨Nat.zero_le _, Nat.zero_le _⟩) hW hA (fun r7 σ6 H locs h hW => ?_)
        try dsimp only at h
        refine lv_i2l hx hb dX11_minding_83 rfl ?_
        refine lv_lmul hx hb dX11_minding_84 ?_
        refine lv_iload_n hx hb dX11_minding_85 rfl (lv_at hl 2 rfl) ?_
        refine lv_i2l hx hb dX11_minding_86 rfl ?_
        obtain ⟨hd8, h⟩ := h
        refine lv_ldiv hx hb dX11_minding_87 hd8 ?_
        refine lv_l2i hx hb dX11_minding_88 rfl ?_
        refine lv_topi (fun v9 hv9 => ?_)
        have h := h v9 hv9
        refine lv_istore (lv' := [(8, .int v9), (7, .ref (ad o4)), (0, .ref (ad 0)), (1, .int x1), (2, .int x2), (3, .long x3), (5, .int x5), (6, .int x6)]) hx hb dX11_minding_89 hl (by decide) rfl (fun ls hl => ?_)
        refine lv_iload_n hx hb dX11_minding_91 rfl (lv_at hl 4 rfl) ?_
        refine lv_iload hx hb dX11_minding_92 (lv_at hl 7 rfl) ?_
        refine lv_ishr hx hb dX11_minding_94 ?_
        refine lv_iconst (v := 1) hx hb dX11_minding_95 (by decide) ?_
        refine lv_iand hx hb dX11_minding_96 ?_
        refine lv_iconst (v := 1) hx hb dX11_minding_97 (by decide) ?_
        refine lv_icmp_ne (tgt := 121) hx hb dX11_minding_98 (by decide) (fun c10 => ?_) (fun c10 => ?_)
        · have h := h.1 c10
          exact blk121 x1 x2 x3 k46 hk46 x5 x6 _ _ _ _ hW (lv_sub hl [2, 3, 4, 5, 6, 7] rfl) h
        · have h := h.2 c10
          refine lv_aload_n hx hb dX11_minding_101 rfl (lv_at hl 2 rfl) ?_
          refine lv_aload hx hb dX11_minding_102 (lv_at hl 1 rfl) ?_
          refine lv_iload hx hb dX11_minding_104 (lv_at hl 0 rfl) ?_
          refine x_calli (va_runV (As := [.ref (ad o4), .int v9]) (rest := []) ⟨hx, hb, hml, hown, hts⟩ (J_X11_minds l hI ok_o4 h) (cwV 2 hts gX11_minding_X11_minds rfl rfl rfl hdV_X11_minds ⟨Nat.le_of_ble_eq_true rfl, Nat.le_of_ble_eq_true rfl⟩) (x_preV (ci := 11) hK hZ hA hW (hI 0 (by decide)) lX_0 rfl) rfl rfl hl.1 rfl (lv_room (Nat.le_of_ble_eq_true rfl)) dX11_minding_106 ⟨Nat.zero_le _, Nat.zero_le _⟩) hW hA (fun r12 σ11 H locs h hW => ?_)
          try dsimp only at h
          refine lv_if_eq (tgt := 121) hx hb dX11_minding_109 (by decide) (fun c13 => ?_) (fun c13 => ?_)
          · have h := h.1 c13
            exact blk121 x1 x2 x3 k46 hk46 x5 x6 _ _ _ _ hW (lv_sub hl [2, 3, 4, 5, 6, 7] rfl) h
          · have h := h.2 c13
            refine lv_iload hx hb dX11_minding_112 (lv_at hl 6 rfl) ?_
            refine lv_iconst (v := 1) hx hb dX11_minding_114 (by decide) ?_
            refine lv_iload hx hb dX11_minding_115 (lv_at hl 7 rfl) ?_
            refine lv_ishl hx hb dX11_minding_117 ?_
            refine lv_ior hx hb dX11_minding_118 ?_
            refine lv_topi (fun v14 hv14 => ?_)
            have h := h v14 hv14
            refine lv_istore (lv' := [(5, .int v14), (8, .int v9), (7, .ref (ad o4)), (0, .ref (ad 0)), (1, .int x1), (2, .int x2), (3, .long x3), (6, .int x6)]) hx hb dX11_minding_119 hl (by decide) rfl (fun ls hl => ?_)
            exact blk121 x1 x2 x3 k46 hk46 v14 x6 _ _ _ _ hW (lv_sub hl [3, 4, 5, 6, 0, 7] rfl) h
  have main : ∀ (H : Heap) (locs : List Loc) (ls : Array Slot), xW D KA layX stX ad ids (xA ad ids s.heap.size) s.heap σ H locs → lv_has ls 9 [(0, .ref (ad 0)), (1, .int a1)] → W p l e rmX11_minding s m args below meth c H locs 0 0 Q (F0 m 0 ls []) := by
    intro H locs ls hW hl
    unfold wX11_minding at h
    refine lv_iload_n hx hb dX11_minding_0 rfl (lv_at hl 1 rfl) ?_
    refine lv_aload_n hx hb dX11_minding_1 rfl (lv_at hl 0 rfl) ?_
    refine xgX11_0r hx hb hts hown hK hW 0 hcX11_minding_X11 (hI 0 (by decide)) lX_0 (hts _ hwX11_minding_0) (sX_0_0 _) dX11_minding_2 ?_
    refine xgX6_15 hx hb hts hown hK hW 1 hcX11_minding_X6 (hI 1 (by decide)) lX_1 (hts _ hwX11_minding_4) dX11_minding_5 ?_
    refine lv_icmp_gt (tgt := 13) hx hb dX11_minding_8 (by decide) (fun c1001 => ?_) (fun c1001 => ?_)
    · have h := h.1 c1001
      refine lv_aload_n hx hb dX11_minding_13 rfl (lv_at hl 0 rfl) ?_
      refine xgX11_0r hx hb hts hown hK hW 0 hcX11_minding_X11 (hI 0 (by decide)) lX_0 (hts _ hwX11_minding_0) (sX_0_0 _) dX11_minding_14 ?_
      refine x_calli (va_runV (As := []) (rest := []) ⟨hx, hb, hml, hown, hts⟩ (J_X6_switchedOn l hI h) (cwV 0 hts gX11_minding_X6_switchedOn rfl rfl rfl hdV_X6_switchedOn ⟨Nat.le_of_ble_eq_true rfl, Nat.le_of_ble_eq_true rfl⟩) (x_preV (ci := 6) hK hZ hA hW (hI 1 (by decide)) lX_1 rfl) rfl rfl hl.1 rfl (lv_room (Nat.le_of_ble_eq_true rfl)) dX11_minding_17 ⟨Nat.zero_le _, Nat.zero_le _⟩) hW hA (fun r1003 σ1002 H locs h hW => ?_)
      try dsimp only at h
      refine lv_aload_n hx hb dX11_minding_20 rfl (lv_at hl 0 rfl) ?_
      refine xgX11_0r hx hb hts hown hK hW 0 hcX11_minding_X11 (hI 0 (by decide)) lX_0 (hts _ hwX11_minding_0) (sX_0_0 _) dX11_minding_21 ?_
      refine x_calli (va_runV (As := []) (rest := [.int r1003]) ⟨hx, hb, hml, hown, hts⟩ (J_X6_turning l hI h) (cwV 0 hts gX11_minding_X6_turning rfl rfl rfl hdV_X6_turning ⟨Nat.le_of_ble_eq_true rfl, Nat.le_of_ble_eq_true rfl⟩) (x_preV (ci := 6) hK hZ hA hW (hI 1 (by decide)) lX_1 rfl) rfl rfl hl.1 rfl (lv_room (Nat.le_of_ble_eq_true rfl)) dX11_minding_24 ⟨Nat.zero_le _, Nat.zero_le _⟩) hW hA (fun r1005 σ1004 H locs h hW => ?_)
      try dsimp only at h
      refine lv_iand hx hb dX11_minding_27 ?_
      refine lv_topi (fun v1006 hv1006 => ?_)
      have h := h v1006 hv1006
      refine lv_istore_n (lv' := [(2, .int v1006), (0, .ref (ad 0)), (1, .int a1)]) hx hb dX11_minding_28 rfl hl (by decide) rfl (fun ls hl => ?_)
      refine lv_iload_n hx hb dX11_minding_29 rfl (lv_at hl 2 rfl) ?_
      refine lv_aload_n hx hb dX11_minding_30 rfl (lv_at hl 1 rfl) ?_
      refine xgX11_0r hx hb hts hown hK hW 0 hcX11_minding_X11 (hI 0 (by decide)) lX_0 (hts _ hwX11_minding_0) (sX_0_0 _) dX11_minding_31 ?_
      refine xgX6_15 hx hb hts hown hK hW 1 hcX11_minding_X6 (hI 1 (by decide)) lX_1 (hts _ hwX11_minding_4) dX11_minding_34 ?_
      refine lv_isub hx hb dX11_minding_37 ?_
      refine lv_i2l hx hb dX11_minding_38 rfl ?_
      refine lv_topl (fun v1007 hv1007 => ?_)
      have h := h v1007 hv1007
      refine lv_lstore_n (lv' := [(3, .long v1007), (2, .int v1006), (0, .ref (ad 0)), (1, .int a1)]) hx hb dX11_minding_39 rfl hl (by decide) rfl (fun ls hl => ?_)
      refine lv_iconst (v := 0) hx hb dX11_minding_40 (by decide) ?_
      refine lv_istore (lv' := [(5, .int (0 : Int32)), (3, .long v1007), (2, .int v1006), (0, .ref (ad 0)), (1, .int a1)]) hx hb dX11_minding_41 hl (by decide) rfl (fun ls hl => ?_)
      refine lv_iconst (v := 0) hx hb dX11_minding_43 (by decide) ?_
      refine lv_istore (lv' := [(6, .int (0 : Int32)), (5, .int (0 : Int32)), (3, .long v1007), (2, .int v1006), (0, .ref (ad 0)), (1, .int a1)]) hx hb dX11_minding_44 hl (by decide) rfl (fun ls hl => ?_)
      obtain ⟨n, h⟩ := h
      exact blk46   a1 v1006 v1007 n (0 : Int32) (0 : Int32) _ _ _ _ hW (lv_sub hl [4, 5, 3, 2, 1, 0] rfl) h
    · have h := h.2 c1001
      refine lv_iconst (v := 0) hx hb dX11_minding_11 (by decide) ?_
      exact kr _ _ _ _ _ _ hW h dX11_minding_12
  exact main _ _ _ hW hl
theorem hwX6_loadedOn_0 : (.fieldLink RX6 59 "FortyBelts$Mill" "machineCount" "I" : Cond) ∈ wsX6_loadedOn := (List.mem_cons_of_mem _ (List.mem_append_left _ (List.mem_append_left _ (List.mem_append_left _ (List.mem_of_getElem? (i := 0) rfl)))))
theorem hwX6_loadedOn_1 : (.fieldLink RX6 33 "FortyBelts$Mill" "machines" "[LFortyBelts$Machine;" : Cond) ∈ wsX6_loadedOn := (List.mem_cons_of_mem _ (List.mem_append_left _ (List.mem_append_left _ (List.mem_append_left _ (List.mem_of_getElem? (i := 1) rfl)))))
theorem hwX6_loadedOn_2 : (.fieldLink RX6 130 "FortyBelts$Machine" "load" "I" : Cond) ∈ wsX6_loadedOn := (List.mem_cons_of_mem _ (List.mem_append_left _ (List.mem_append_left _ (List.mem_append_left _ (List.mem_of_getElem? (i := 2) rfl)))))
theorem hwX6_loadedOn_3 : (.fieldLink RX6 117 "FortyBelts$Machine" "shaft" "I" : Cond) ∈ wsX6_loadedOn := (List.mem_cons_of_mem _ (List.mem_append_left _ (List.mem_append_left _ (List.mem_append_left _ (List.mem_of_getElem? (i := 3) rfl)))))
theorem hwX6_loadedOn_4 : (.constantLong RX6 136 (100) : Cond) ∈ wsX6_loadedOn := (List.mem_cons_of_mem _ (List.mem_append_left _ (List.mem_append_left _ (List.mem_append_left _ (List.mem_of_getElem? (i := 4) rfl)))))
theorem hcX6_loadedOn_X6 : ∀ w ∈ wsX60, w ∈ wsX6_loadedOn := fun _ h => (List.mem_cons_of_mem _ (List.mem_append_left _ (List.mem_append_right _ h)))
theorem hcX6_loadedOn_X5 : ∀ w ∈ wsX50, w ∈ wsX6_loadedOn := fun _ h => (List.mem_cons_of_mem _ (List.mem_append_right _ h))
set_option maxHeartbeats 4000000 in
set_option maxRecDepth 100000 in
theorem J_X6_loadedOn {D : va_G} {KA : Nat → ClassId} {zs : ZS} {ad : Nat → Nat} {ids : List Nat} {sz : Nat} (l : Launch) (hI : ∀ c, c < 52 ∧ ¬ c = 19 → c ∈ ids) {a1 : Int32}  {σ : St} {post : Int32 → St → Prop} (h : wX6_loadedOn ids a1 σ post) : Met l yX6_loadedOn wsX6_loadedOn rmX6_loadedOn (va_Pc [.ref (ad 1), .int a1] (xIn D KA zs layX stX ad ids sz σ)) (va_Qi post (xOut D KA layX stX ad ids) (xA ad ids sz)) 0 0 (xA ad ids sz) := by
  refine Met.ofW (cc := cX6_loadedOn) (maxL := 5) (ret := (some .int)) (by decide) rfl ?_
  intro p e s m args below meth c s₁ B hml hv
  obtain ⟨hav, hsz, hK, hZ, hP, hD⟩ := hv
  have hx := B.exec
  have hb := B.bytes
  have hr := B.returns
  have hts := atoms_spec (ws := wsX6_loadedOn) B.pre
  have hown : s.vm.findClass RX6 = some m.cls := findClass_of_methodNamed B.named
  have hlocks := B.notSynchronized
  subst hsz
  have hA : ∀ q : Nat, s.heap.size ≤ q → xA ad ids s.heap.size q := fun q h => Or.inr h
  have hW : xW D KA layX stX ad ids (xA ad ids s.heap.size) s.heap σ s.heap [] := ⟨hP, xA_D (D := D) hD, va_S.rf⟩
  have kr : ∀ (v : Int32) (σ : St) (H : Heap) (locs : List Loc) (ls : Array Slot) (pc : Nat), xW D KA layX stX ad ids (xA ad ids s.heap.size) s.heap σ H locs → post v σ → decode cX6_loadedOn pc = .ok (.ireturn, 1) → W p l e rmX6_loadedOn s m args below meth c H locs 0 0 (MQ below (va_Qi post (xOut D KA layX stX ad ids) (xA ad ids s.heap.size)) args s 0 0 (xA ad ids s.heap.size)) (F0 m pc ls [.int v]) := fun v σ H locs ls pc hW h hd => x_iret hx hb hr hlocks hW h hd
  have hl := lv_entry ([.ref (ad 1), .int a1]) (n := 5) (Nat.le_of_ble_eq_true rfl)
  rw [show entryFrame m args 5 = entryFrame m ([.ref (ad 1), .int a1] : List Value).toArray 5 from by rw [hav]]
  rw [lg_entry_eq]
  generalize (lg_sl ([.ref (ad 1), .int a1]) ++ List.replicate (5 - (lg_sl ([.ref (ad 1), .int a1])).length) Slot.unset).toArray = ls at hl ⊢
  have hl : lv_has ls 5 [(0, .ref (ad 1)), (1, .int a1)] := hl
  show W p l e rmX6_loadedOn s m args below meth c s.heap [] 0 0 _ _
  generalize MQ below (va_Qi post (xOut D KA layX stX ad ids) (xA ad ids s.heap.size)) args s 0 0 (xA ad ids s.heap.size) = Q at kr ⊢
  have blk65 : ∀ (x3 : Int32) (k11 : Int32 → Int32 → St → Prop) (hk11 : ∀ (x2 : Int32) (x4 : Int32) (σ : St) (H : Heap) (locs : List Loc) (ls : Array Slot), xW D KA layX stX ad ids (xA ad ids s.heap.size) s.heap σ H locs → lv_has ls 5 [(0, .ref (ad 1)), (2, .int x2), (3, .int x3), (4, .int x4)] → k11 x2 x4 σ → W p l e rmX6_loadedOn s m args below meth c H locs 0 0 Q (F0 m 11 ls [])) (x2 : Int32) (x4 : Int32) (σ : St) (H : Heap) (locs : List Loc) (ls : Array Slot), xW D KA layX stX ad ids (xA ad ids s.heap.size) s.heap σ H locs → lv_has ls 5 [(0, .ref (ad 1)), (2, .int x2), (3, .int x3), (4, .int x4)] → wX6_loadedOn_65 ids k11 post x2 x3 x4 σ → W p l e rmX6_loadedOn s m args below meth c H locs 0 0 Q (F0 m 65 ls []) := by
    intro x3 k11 hk11 x2 x4 σ H locs ls hW hl h
    unfold wX6_loadedOn_65 at h
    obtain ⟨v1, hv1⟩ : ∃ y : Int32, y = x4 + (1 : Int32) := ⟨_, rfl⟩
    have h := h v1 hv1
    refine lv_iinc (v := v1) (lv' := [(4, .int v1), (0, .ref (ad 1)), (2, .int x2), (3, .int x3)]) hx hb dX6_loadedOn_65 hl (k := 3) rfl (by rw [hv1]; rfl) (by decide) rfl (fun ls hl => ?_)
    refine lv_goto (tgt := 11) hx hb dX6_loadedOn_68 (by decide) ?_
    exact hk11 x2 v1 _ _ _ _ hW (lv_sub hl [1, 2, 3, 0] rfl) h
  have blk11 : ∀ (x3 : Int32) (n : Nat) (x2 : Int32) (x4 : Int32) (σ : St) (H : Heap) (locs : List Loc) (ls : Array Slot), xW D KA layX stX ad ids (xA ad ids s.heap.size) s.heap σ H locs → lv_has ls 5 [(0, .ref (ad 1)), (2, .int x2), (3, .int x3), (4, .int x4)] → wX6_loadedOn_11 ids post x3 n x2 x4 σ → W p l e rmX6_loadedOn s m args below meth c H locs 0 0 Q (F0 m 11 ls []) := by
    intro   x3 n
    induction n with
    | zero => intro x2 x4 σ H locs ls hW hl h; exact (h : False).elim
    | succ n ih =>
      intro x2 x4 σ H locs ls hW hl h
      have hk11 : ∀ (x2 : Int32) (x4 : Int32) (σ : St) (H : Heap) (locs : List Loc) (ls : Array Slot), xW D KA layX stX ad ids (xA ad ids s.heap.size) s.heap σ H locs → lv_has ls 5 [(0, .ref (ad 1)), (2, .int x2), (3, .int x3), (4, .int x4)] → (wX6_loadedOn_11 ids post x3 n) x2 x4 σ → W p l e rmX6_loadedOn s m args below meth c H locs 0 0 Q (F0 m 11 ls []) := fun x2 x4 σ H locs ls hW hl h => ih x2 x4 σ H locs ls hW hl h
      rw [wX6_loadedOn_11_s] at h
      try dsimp only at h
      generalize wX6_loadedOn_11 ids post x3 n = k11 at h hk11
      refine lv_iload hx hb dX6_loadedOn_11 (lv_at hl 3 rfl) ?_
      refine lv_aload_n hx hb dX6_loadedOn_13 rfl (lv_at hl 0 rfl) ?_
      refine xgX6_1 hx hb hts hown hK hW 1 hcX6_loadedOn_X6 (hI 1 (by decide)) lX_1 (hts _ hwX6_loadedOn_0) dX6_loadedOn_14 ?_
      refine lv_icmp_ge (tgt := 71) hx hb dX6_loadedOn_17 (by decide) (fun c2 => ?_) (fun c2 => ?_)
      · have h := h.1 c2
        refine lv_iload_n hx hb dX6_loadedOn_71 rfl (lv_at hl 1 rfl) ?_
        exact kr _ _ _ _ _ _ hW h dX6_loadedOn_72
      · have h := h.2 c2
        refine lv_iload_n hx hb dX6_loadedOn_20 rfl (lv_at hl 2 rfl) ?_
        refine lv_iload hx hb dX6_loadedOn_21 (lv_at hl 3 rfl) ?_
        refine lv_ishr hx hb dX6_loadedOn_23 ?_
        refine lv_iconst (v := 1) hx hb dX6_loadedOn_24 (by decide) ?_
        refine lv_iand hx hb dX6_loadedOn_25 ?_
        refine lv_iconst (v := 1) hx hb dX6_loadedOn_26 (by decide) ?_
        refine lv_icmp_ne (tgt := 65) hx hb dX6_loadedOn_27 (by decide) (fun c3 => ?_) (fun c3 => ?_)
        · have h := h.1 c3
          exact blk65 x3 k11 hk11 x2 x4 _ _ _ _ hW (lv_sub hl [0, 1, 2, 3] rfl) h
        · have h := h.2 c3
          refine lv_iload_n hx hb dX6_loadedOn_30 rfl (lv_at hl 1 rfl) ?_
          refine lv_aload_n hx hb dX6_loadedOn_31 rfl (lv_at hl 0 rfl) ?_
          refine xgX6_10r hx hb hts hown hK hW 1 hcX6_loadedOn_X6 (hI 1 (by decide)) lX_1 (hts _ hwX6_loadedOn_1) (sX_1_10 _) dX6_loadedOn_32 ?_
          refine lv_iload hx hb dX6_loadedOn_35 (lv_at hl 3 rfl) ?_
          obtain ⟨hi4, h⟩ := h
          obtain ⟨o5, hr6, ok_o5, h⟩ := h
          refine x_ald hx hb hK hW 9 1 (hI 9 (by decide)) lX_9 rfl hi4 ((sX_9 _ _).trans hr6) dX6_loadedOn_37 ?_
          refine xgX5_3 hx hb hts hown hK hW o5 hcX6_loadedOn_X5 ok_o5.1 (lay_okM ok_o5) (hts _ hwX6_loadedOn_2) dX6_loadedOn_38 ?_
          refine lv_i2l hx hb dX6_loadedOn_41 rfl ?_
          refine lv_aload_n hx hb dX6_loadedOn_42 rfl (lv_at hl 0 rfl) ?_
          refine lv_aload_n hx hb dX6_loadedOn_43 rfl (lv_at hl 0 rfl) ?_
          refine xgX6_10r hx hb hts hown hK hW 1 hcX6_loadedOn_X6 (hI 1 (by decide)) lX_1 (hts _ hwX6_loadedOn_1) (sX_1_10 _) dX6_loadedOn_44 ?_
          refine lv_iload hx hb dX6_loadedOn_47 (lv_at hl 3 rfl) ?_
          obtain ⟨o8, hr9, ok_o8, h⟩ := h
          refine x_ald hx hb hK hW 9 1 (hI 9 (by decide)) lX_9 rfl hi4 ((sX_9 _ _).trans hr9) dX6_loadedOn_49 ?_
          refine xgX5_0 hx hb hts hown hK hW o8 hcX6_loadedOn_X5 ok_o8.1 (lay_okM ok_o8) (hts _ hwX6_loadedOn_3) dX6_loadedOn_50 ?_
          refine x_calli (va_runV (As := [.int (gI σ o8 0)]) (rest := [.long ((gI σ o5 3).toInt64), .int x2]) ⟨hx, hb, hml, hown, hts⟩ (J_X6_cutTurns l hI h) (cwV 1 hts gX6_loadedOn_X6_cutTurns rfl rfl rfl hdV_X6_cutTurns ⟨Nat.le_of_ble_eq_true rfl, Nat.le_of_ble_eq_true rfl⟩) (x_preV (ci := 6) hK hZ hA hW (hI 1 (by decide)) lX_1 rfl) rfl rfl hl.1 rfl (lv_room (Nat.le_of_ble_eq_true rfl)) dX6_loadedOn_53 ⟨Nat.zero_le _, Nat.zero_le _⟩) hW hA (fun r11 σ10 H locs h hW => ?_)
          try dsimp only at h
          refine lv_i2l hx hb dX6_loadedOn_56 rfl ?_
          refine lv_lmul hx hb dX6_loadedOn_57 ?_
          refine lv_ldc2 hx hb hown (hts _ hwX6_loadedOn_4) dX6_loadedOn_58 ?_
          refine lv_ldiv hx hb dX6_loadedOn_61 (by decide) ?_
          refine lv_l2i hx hb dX6_loadedOn_62 rfl ?_
          refine lv_iadd hx hb dX6_loadedOn_63 ?_
          refine lv_topi (fun v12 hv12 => ?_)
          have h := h v12 hv12
          refine lv_istore_n (lv' := [(2, .int v12), (0, .ref (ad 1)), (3, .int x3), (4, .int x4)]) hx hb dX6_loadedOn_64 rfl hl (by decide) rfl (fun ls hl => ?_)
          exact blk65 x3 k11 hk11 v12 x4 _ _ _ _ hW (lv_sub hl [1, 0, 2, 3] rfl) h
  have main : ∀ (H : Heap) (locs : List Loc) (ls : Array Slot), xW D KA layX stX ad ids (xA ad ids s.heap.size) s.heap σ H locs → lv_has ls 5 [(0, .ref (ad 1)), (1, .int a1)] → W p l e rmX6_loadedOn s m args below meth c H locs 0 0 Q (F0 m 0 ls []) := by
    intro H locs ls hW hl
    unfold wX6_loadedOn at h
    refine lv_iconst (v := 0) hx hb dX6_loadedOn_0 (by decide) ?_
    refine lv_istore_n (lv' := [(2, .int (0 : Int32)), (0, .ref (ad 1)), (1, .int a1)]) hx hb dX6_loadedOn_1 rfl hl (by decide) rfl (fun ls hl => ?_)
    refine lv_aload_n hx hb dX6_loadedOn_2 rfl (lv_at hl 1 rfl) ?_
    refine lv_iload_n hx hb dX6_loadedOn_3 rfl (lv_at hl 2 rfl) ?_
    refine x_calli (va_runV (As := [.int a1]) (rest := []) ⟨hx, hb, hml, hown, hts⟩ (J_X6_machinesOn l hI h) (cwV 1 hts gX6_loadedOn_X6_machinesOn rfl rfl rfl hdV_X6_machinesOn ⟨Nat.le_of_ble_eq_true rfl, Nat.le_of_ble_eq_true rfl⟩) (x_preV (ci := 6) hK hZ hA hW (hI 1 (by decide)) lX_1 rfl) rfl rfl hl.1 rfl (lv_room (Nat.le_of_ble_eq_true rfl)) dX6_loadedOn_4 ⟨Nat.zero_le _, Nat.zero_le _⟩) hW hA (fun r1002 σ1001 H locs h hW => ?_)
    try dsimp only at h
    refine lv_istore_n (lv' := [(3, .int r1002), (2, .int (0 : Int32)), (0, .ref (ad 1)), (1, .int a1)]) hx hb dX6_loadedOn_7 rfl hl (by decide) rfl (fun ls hl => ?_)
    refine lv_iconst (v := 0) hx hb dX6_loadedOn_8 (by decide) ?_
    refine lv_istore (lv' := [(4, .int (0 : Int32)), (3, .int r1002), (2, .int (0 : Int32)), (0, .ref (ad 1)), (1, .int a1)]) hx hb dX6_loadedOn_9 hl (by decide) rfl (fun ls hl => ?_)
    obtain ⟨n, h⟩ := h
    exact blk11   r1002 n (0 : Int32) (0 : Int32) _ _ _ _ hW (lv_sub hl [3, 2, 1, 0] rfl) h
  exact main _ _ _ hW hl
set_option maxHeartbeats 4000000 in
set_option maxRecDepth 100000 in
theorem J_X6_loadedInAll {D : va_G} {KA : Nat → ClassId} {zs : ZS} {ad : Nat → Nat} {ids : List Nat} {sz : Nat} (l : Launch) (hI : ∀ c, c < 52 ∧ ¬ c = 19 → c ∈ ids)   {σ : St} {post : Int32 → St → Prop} (h : wX6_loadedInAll ids  σ post) : Met l yX6_loadedInAll wsX6_loadedInAll rmX6_loadedInAll (va_Pc [.ref (ad 1)] (xIn D KA zs layX stX ad ids sz σ)) (va_Qi post (xOut D KA layX stX ad ids) (xA ad ids sz)) 0 0 (xA ad ids sz) := by
  refine Met.ofW (cc := cX6_loadedInAll) (maxL := 1) (ret := (some .int)) (by decide) rfl ?_
  intro p e s m args below meth c s₁ B hml hv
  obtain ⟨hav, hsz, hK, hZ, hP, hD⟩ := hv
  have hx := B.exec
  have hb := B.bytes
  have hr := B.returns
  have hts := atoms_spec (ws := wsX6_loadedInAll) B.pre
  have hown : s.vm.findClass RX6 = some m.cls := findClass_of_methodNamed B.named
  have hlocks := B.notSynchronized
  subst hsz
  have hA : ∀ q : Nat, s.heap.size ≤ q → xA ad ids s.heap.size q := fun q h => Or.inr h
  have hW : xW D KA layX stX ad ids (xA ad ids s.heap.size) s.heap σ s.heap [] := ⟨hP, xA_D (D := D) hD, va_S.rf⟩
  have kr : ∀ (v : Int32) (σ : St) (H : Heap) (locs : List Loc) (ls : Array Slot) (pc : Nat), xW D KA layX stX ad ids (xA ad ids s.heap.size) s.heap σ H locs → post v σ → decode cX6_loadedInAll pc = .ok (.ireturn, 1) → W p l e rmX6_loadedInAll s m args below meth c H locs 0 0 (MQ below (va_Qi post (xOut D KA layX stX ad ids) (xA ad ids s.heap.size)) args s 0 0 (xA ad ids s.heap.size)) (F0 m pc ls [.int v]) := fun v σ H locs ls pc hW h hd => x_iret hx hb hr hlocks hW h hd
  have hl := lv_entry ([.ref (ad 1)]) (n := 1) (Nat.le_of_ble_eq_true rfl)
  rw [show entryFrame m args 1 = entryFrame m ([.ref (ad 1)] : List Value).toArray 1 from by rw [hav]]
  rw [lg_entry_eq]
  generalize (lg_sl ([.ref (ad 1)]) ++ List.replicate (1 - (lg_sl ([.ref (ad 1)])).length) Slot.unset).toArray = ls at hl ⊢
  have hl : lv_has ls 1 [(0, .ref (ad 1))] := hl
  show W p l e rmX6_loadedInAll s m args below meth c s.heap [] 0 0 _ _
  generalize MQ below (va_Qi post (xOut D KA layX stX ad ids) (xA ad ids s.heap.size)) args s 0 0 (xA ad ids s.heap.size) = Q at kr ⊢
  have main : ∀ (H : Heap) (locs : List Loc) (ls : Array Slot), xW D KA layX stX ad ids (xA ad ids s.heap.size) s.heap σ H locs → lv_has ls 1 [(0, .ref (ad 1))] → W p l e rmX6_loadedInAll s m args below meth c H locs 0 0 Q (F0 m 0 ls []) := by
    intro H locs ls hW hl
    unfold wX6_loadedInAll at h
    refine lv_aload_n hx hb dX6_loadedInAll_0 rfl (lv_at hl 0 rfl) ?_
    refine lv_sipush (v := 255) hx hb dX6_loadedInAll_1 (by decide) ?_
    refine x_calli (va_runV (As := [.int (255 : Int32)]) (rest := []) ⟨hx, hb, hml, hown, hts⟩ (J_X6_loadedOn l hI h) (cwV 1 hts gX6_loadedInAll_X6_loadedOn rfl rfl rfl hdV_X6_loadedOn ⟨Nat.le_of_ble_eq_true rfl, Nat.le_of_ble_eq_true rfl⟩) (x_preV (ci := 6) hK hZ hA hW (hI 1 (by decide)) lX_1 rfl) rfl rfl hl.1 rfl (lv_room (Nat.le_of_ble_eq_true rfl)) dX6_loadedInAll_4 ⟨Nat.zero_le _, Nat.zero_le _⟩) hW hA (fun r1002 σ1001 H locs h hW => ?_)
    try dsimp only at h
    exact kr _ _ _ _ _ _ hW h dX6_loadedInAll_7
  exact main _ _ _ hW hl
theorem hwX1_above_0 : (.sameField "FortyBelts$Cone" "FortyBelts$Belt" "a" "I" : Cond) ∈ wsX1_above := (List.mem_cons_of_mem _ (List.mem_append_left _ (List.mem_append_left _ (List.mem_append_left _ (List.mem_append_left _ (List.mem_append_left _ (List.mem_append_left _ (List.mem_of_getElem? (i := 1) rfl))))))))
theorem hwX1_above_1 : (.fieldLink RX1 7 "FortyBelts$Cone" "a" "I" : Cond) ∈ wsX1_above := (List.mem_cons_of_mem _ (List.mem_append_left _ (List.mem_append_left _ (List.mem_append_left _ (List.mem_append_left _ (List.mem_append_left _ (List.mem_append_left _ (List.mem_of_getElem? (i := 0) rfl))))))))
theorem hcX1_above_X0 : ∀ w ∈ wsX00, w ∈ wsX1_above := fun _ h => (List.mem_cons_of_mem _ (List.mem_append_left _ (List.mem_append_left _ (List.mem_append_left _ (List.mem_append_left _ (List.mem_append_left _ (List.mem_append_right _ h)))))))
theorem hcX1_above_X1 : ∀ w ∈ wsX10, w ∈ wsX1_above := fun _ h => (List.mem_cons_of_mem _ (List.mem_append_left _ (List.mem_append_left _ (List.mem_append_left _ (List.mem_append_left _ (List.mem_append_right _ h))))))
theorem hcX1_above_X2 : ∀ w ∈ wsX20, w ∈ wsX1_above := fun _ h => (List.mem_cons_of_mem _ (List.mem_append_left _ (List.mem_append_left _ (List.mem_append_left _ (List.mem_append_right _ h)))))
theorem hcX1_above_X3 : ∀ w ∈ wsX30, w ∈ wsX1_above := fun _ h => (List.mem_cons_of_mem _ (List.mem_append_left _ (List.mem_append_left _ (List.mem_append_right _ h))))
theorem hcX1_above_X4 : ∀ w ∈ wsX40, w ∈ wsX1_above := fun _ h => (List.mem_cons_of_mem _ (List.mem_append_left _ (List.mem_append_right _ h)))
theorem hcX1_above_X10 : ∀ w ∈ wsX100, w ∈ wsX1_above := fun _ h => (List.mem_cons_of_mem _ (List.mem_append_right _ h))
theorem hBX1_above : xHB wsX1_above := ⟨hcX1_above_X0, hcX1_above_X1, hcX1_above_X2, hcX1_above_X3, hcX1_above_X4, hcX1_above_X10⟩
set_option maxHeartbeats 4000000 in
set_option maxRecDepth 100000 in
theorem J_X1_above {D : va_G} {KA : Nat → ClassId} {zs : ZS} {ad : Nat → Nat} {ids : List Nat} {sz : Nat} (l : Launch) (hI : ∀ c, c < 52 ∧ ¬ c = 19 → c ∈ ids) {a0 : Nat} (ok_a0 : okB ids a0) {σ : St} {post : Int32 → St → Prop} (h : wX1_above ids a0 σ post) : Met l yX1_above wsX1_above rmX1_above (va_Pc [.ref (ad a0)] (xIn D KA zs layX stX ad ids sz σ)) (va_Qi post (xOut D KA layX stX ad ids) (xA ad ids sz)) 0 0 (xA ad ids sz) := by
  refine Met.ofW (cc := cX1_above) (maxL := 1) (ret := (some .int)) (by decide) rfl ?_
  intro p e s m args below meth c s₁ B hml hv
  obtain ⟨hav, hsz, hK, hZ, hP, hD⟩ := hv
  have hx := B.exec
  have hb := B.bytes
  have hr := B.returns
  have hts := atoms_spec (ws := wsX1_above) B.pre
  have hown : s.vm.findClass RX1 = some m.cls := findClass_of_methodNamed B.named
  have hlocks := B.notSynchronized
  subst hsz
  have hA : ∀ q : Nat, s.heap.size ≤ q → xA ad ids s.heap.size q := fun q h => Or.inr h
  have hW : xW D KA layX stX ad ids (xA ad ids s.heap.size) s.heap σ s.heap [] := ⟨hP, xA_D (D := D) hD, va_S.rf⟩
  have kr : ∀ (v : Int32) (σ : St) (H : Heap) (locs : List Loc) (ls : Array Slot) (pc : Nat), xW D KA layX stX ad ids (xA ad ids s.heap.size) s.heap σ H locs → post v σ → decode cX1_above pc = .ok (.ireturn, 1) → W p l e rmX1_above s m args below meth c H locs 0 0 (MQ below (va_Qi post (xOut D KA layX stX ad ids) (xA ad ids s.heap.size)) args s 0 0 (xA ad ids s.heap.size)) (F0 m pc ls [.int v]) := fun v σ H locs ls pc hW h hd => x_iret hx hb hr hlocks hW h hd
  have hl := lv_entry ([.ref (ad a0)]) (n := 1) (Nat.le_of_ble_eq_true rfl)
  rw [show entryFrame m args 1 = entryFrame m ([.ref (ad a0)] : List Value).toArray 1 from by rw [hav]]
  rw [lg_entry_eq]
  generalize (lg_sl ([.ref (ad a0)]) ++ List.replicate (1 - (lg_sl ([.ref (ad a0)])).length) Slot.unset).toArray = ls at hl ⊢
  have hl : lv_has ls 1 [(0, .ref (ad a0))] := hl
  show W p l e rmX1_above s m args below meth c s.heap [] 0 0 _ _
  generalize MQ below (va_Qi post (xOut D KA layX stX ad ids) (xA ad ids s.heap.size)) args s 0 0 (xA ad ids s.heap.size) = Q at kr ⊢
  have main : ∀ (H : Heap) (locs : List Loc) (ls : Array Slot), xW D KA layX stX ad ids (xA ad ids s.heap.size) s.heap σ H locs → lv_has ls 1 [(0, .ref (ad a0))] → W p l e rmX1_above s m args below meth c H locs 0 0 Q (F0 m 0 ls []) := by
    intro H locs ls hW hl
    unfold wX1_above at h
    refine lv_aload_n hx hb dX1_above_0 rfl (lv_at hl 0 rfl) ?_
    refine xgB_6 hx hb hts hown hK hW a0 hBX1_above ok_a0 (hts _ hwX1_above_1) (fun x h => u_same (hts _ hwX1_above_0) x h) dX1_above_1 ?_
    refine lv_iconst (v := 2) hx hb dX1_above_4 (by decide) ?_
    refine lv_iadd hx hb dX1_above_5 ?_
    exact kr _ _ _ _ _ _ hW h dX1_above_6
  exact main _ _ _ hW hl
theorem hwX6_spin_0 : (.fieldLink RX6 65 "FortyBelts$Mill" "beltCount" "I" : Cond) ∈ wsX6_spin := (List.mem_cons_of_mem _ (List.mem_append_left _ (List.mem_append_left _ (List.mem_append_left _ (List.mem_append_left _ (List.mem_append_left _ (List.mem_append_left _ (List.mem_append_left _ (List.mem_append_left _ (List.mem_of_getElem? (i := 5) rfl))))))))))
theorem hwX6_spin_1 : (.fieldLink RX6 42 "FortyBelts$Mill" "belts" "[LFortyBelts$Belt;" : Cond) ∈ wsX6_spin := (List.mem_cons_of_mem _ (List.mem_append_left _ (List.mem_append_left _ (List.mem_append_left _ (List.mem_append_left _ (List.mem_append_left _ (List.mem_append_left _ (List.mem_append_left _ (List.mem_append_left _ (List.mem_of_getElem? (i := 6) rfl))))))))))
theorem hwX6_spin_2 : (.fieldLink RX6 46 "FortyBelts$Mill" "order" "[I" : Cond) ∈ wsX6_spin := (List.mem_cons_of_mem _ (List.mem_append_left _ (List.mem_append_left _ (List.mem_append_left _ (List.mem_append_left _ (List.mem_append_left _ (List.mem_append_left _ (List.mem_append_left _ (List.mem_append_left _ (List.mem_of_getElem? (i := 7) rfl))))))))))
theorem hwX6_spin_3 : (.fieldLink RX6 89 "FortyBelts$Belt" "on" "Z" : Cond) ∈ wsX6_spin := (List.mem_cons_of_mem _ (List.mem_append_left _ (List.mem_append_left _ (List.mem_append_left _ (List.mem_append_left _ (List.mem_append_left _ (List.mem_append_left _ (List.mem_append_left _ (List.mem_append_left _ (List.mem_of_getElem? (i := 8) rfl))))))))))
theorem hwX6_spin_4 : (.fieldLink RX6 21 "FortyBelts$Mill" "above" "[J" : Cond) ∈ wsX6_spin := (List.mem_cons_of_mem _ (List.mem_append_left _ (List.mem_append_left _ (List.mem_append_left _ (List.mem_append_left _ (List.mem_append_left _ (List.mem_append_left _ (List.mem_append_left _ (List.mem_append_left _ (List.mem_of_getElem? (i := 1) rfl))))))))))
theorem hwX6_spin_5 : (.fieldLink RX6 68 "FortyBelts$Belt" "driven" "I" : Cond) ∈ wsX6_spin := (List.mem_cons_of_mem _ (List.mem_append_left _ (List.mem_append_left _ (List.mem_append_left _ (List.mem_append_left _ (List.mem_append_left _ (List.mem_append_left _ (List.mem_append_left _ (List.mem_append_left _ (List.mem_of_getElem? (i := 9) rfl))))))))))
theorem hwX6_spin_6 : (.fieldLink RX6 86 "FortyBelts$Belt" "driver" "I" : Cond) ∈ wsX6_spin := (List.mem_cons_of_mem _ (List.mem_append_left _ (List.mem_append_left _ (List.mem_append_left _ (List.mem_append_left _ (List.mem_append_left _ (List.mem_append_left _ (List.mem_append_left _ (List.mem_append_left _ (List.mem_of_getElem? (i := 10) rfl))))))))))
theorem hwX6_spin_7 : (.code yX0_above cX0_above 1 (some .int) : Cond) ∈ wsX6_spin := (List.mem_cons_of_mem _ (List.mem_append_left _ (List.mem_append_left _ (List.mem_append_left _ (List.mem_append_left _ (List.mem_append_left _ (List.mem_append_left _ (List.mem_append_left _ (List.mem_append_left _ (List.mem_of_getElem? (i := 15) rfl))))))))))
theorem hwX6_spin_8 : (.fieldLink RX6 25 "FortyBelts$Mill" "below" "[J" : Cond) ∈ wsX6_spin := (List.mem_cons_of_mem _ (List.mem_append_left _ (List.mem_append_left _ (List.mem_append_left _ (List.mem_append_left _ (List.mem_append_left _ (List.mem_append_left _ (List.mem_append_left _ (List.mem_append_left _ (List.mem_of_getElem? (i := 2) rfl))))))))))
theorem hwX6_spin_9 : (.fieldLink RX6 28 "FortyBelts$Mill" "ways" "[I" : Cond) ∈ wsX6_spin := (List.mem_cons_of_mem _ (List.mem_append_left _ (List.mem_append_left _ (List.mem_append_left _ (List.mem_append_left _ (List.mem_append_left _ (List.mem_append_left _ (List.mem_append_left _ (List.mem_append_left _ (List.mem_of_getElem? (i := 3) rfl))))))))))
theorem hwX6_spin_10 : (.code yX0_way cX0_way 1 (some .int) : Cond) ∈ wsX6_spin := (List.mem_cons_of_mem _ (List.mem_append_left _ (List.mem_append_left _ (List.mem_append_left _ (List.mem_append_left _ (List.mem_append_left _ (List.mem_append_left _ (List.mem_append_left _ (List.mem_append_right _ (List.mem_append_left _ (List.mem_of_getElem? (i := 21) rfl)))))))))))
theorem hwX6_spin_11 : (.fieldLink RX6 56 "FortyBelts$Mill" "shaftCount" "I" : Cond) ∈ wsX6_spin := (List.mem_cons_of_mem _ (List.mem_append_left _ (List.mem_append_left _ (List.mem_append_left _ (List.mem_append_left _ (List.mem_append_left _ (List.mem_append_left _ (List.mem_append_left _ (List.mem_append_left _ (List.mem_of_getElem? (i := 0) rfl))))))))))
theorem hwX6_spin_12 : (.fieldLink RX6 49 "FortyBelts$Mill" "engineTurns" "I" : Cond) ∈ wsX6_spin := (List.mem_cons_of_mem _ (List.mem_append_left _ (List.mem_append_left _ (List.mem_append_left _ (List.mem_append_left _ (List.mem_append_left _ (List.mem_append_left _ (List.mem_append_left _ (List.mem_append_left _ (List.mem_of_getElem? (i := 4) rfl))))))))))
theorem hcX6_spin_X6 : ∀ w ∈ wsX60, w ∈ wsX6_spin := fun _ h => (List.mem_cons_of_mem _ (List.mem_append_left _ (List.mem_append_left _ (List.mem_append_left _ (List.mem_append_left _ (List.mem_append_left _ (List.mem_append_left _ (List.mem_append_right _ h))))))))
theorem hcX6_spin_X0 : ∀ w ∈ wsX00, w ∈ wsX6_spin := fun _ h => (List.mem_cons_of_mem _ (List.mem_append_left _ (List.mem_append_left _ (List.mem_append_left _ (List.mem_append_left _ (List.mem_append_left _ (List.mem_append_right _ h)))))))
theorem hcX6_spin_X1 : ∀ w ∈ wsX10, w ∈ wsX6_spin := fun _ h => (List.mem_cons_of_mem _ (List.mem_append_left _ (List.mem_append_left _ (List.mem_append_left _ (List.mem_append_left _ (List.mem_append_right _ h))))))
theorem hcX6_spin_X2 : ∀ w ∈ wsX20, w ∈ wsX6_spin := fun _ h => (List.mem_cons_of_mem _ (List.mem_append_left _ (List.mem_append_left _ (List.mem_append_left _ (List.mem_append_right _ h)))))
theorem hcX6_spin_X3 : ∀ w ∈ wsX30, w ∈ wsX6_spin := fun _ h => (List.mem_cons_of_mem _ (List.mem_append_left _ (List.mem_append_left _ (List.mem_append_right _ h))))
theorem hcX6_spin_X4 : ∀ w ∈ wsX40, w ∈ wsX6_spin := fun _ h => (List.mem_cons_of_mem _ (List.mem_append_left _ (List.mem_append_right _ h)))
theorem hcX6_spin_X10 : ∀ w ∈ wsX100, w ∈ wsX6_spin := fun _ h => (List.mem_cons_of_mem _ (List.mem_append_right _ h))
theorem hBX6_spin : xHB wsX6_spin := ⟨hcX6_spin_X0, hcX6_spin_X1, hcX6_spin_X2, hcX6_spin_X3, hcX6_spin_X4, hcX6_spin_X10⟩
set_option maxHeartbeats 4000000 in
set_option maxRecDepth 100000 in
theorem J_X6_spin {D : va_G} {KA : Nat → ClassId} {zs : ZS} {ad : Nat → Nat} {ids : List Nat} {sz : Nat} (l : Launch) (hI : ∀ c, c < 52 ∧ ¬ c = 19 → c ∈ ids)   {σ : St} {post : St → Prop} (h : wX6_spin ids  σ post) : Met l yX6_spin wsX6_spin rmX6_spin (va_Pc [.ref (ad 1)] (xIn D KA zs layX stX ad ids sz σ)) (va_Qv post (xOut D KA layX stX ad ids) (xA ad ids sz)) 0 0 (xA ad ids sz) := by
  refine Met.ofW (cc := cX6_spin) (maxL := 3) (ret := none) (by decide) rfl ?_
  intro p e s m args below meth c s₁ B hml hv
  obtain ⟨hav, hsz, hK, hZ, hP, hD⟩ := hv
  have hx := B.exec
  have hb := B.bytes
  have hr := B.returns
  have hts := atoms_spec (ws := wsX6_spin) B.pre
  have hown : s.vm.findClass RX6 = some m.cls := findClass_of_methodNamed B.named
  have hlocks := B.notSynchronized
  subst hsz
  have hA : ∀ q : Nat, s.heap.size ≤ q → xA ad ids s.heap.size q := fun q h => Or.inr h
  have hW : xW D KA layX stX ad ids (xA ad ids s.heap.size) s.heap σ s.heap [] := ⟨hP, xA_D (D := D) hD, va_S.rf⟩
  have kr : ∀ (σ : St) (H : Heap) (locs : List Loc) (ls : Array Slot) (pc : Nat), xW D KA layX stX ad ids (xA ad ids s.heap.size) s.heap σ H locs → post σ → decode cX6_spin pc = .ok (.return_, 1) → W p l e rmX6_spin s m args below meth c H locs 0 0 (MQ below (va_Qv post (xOut D KA layX stX ad ids) (xA ad ids s.heap.size)) args s 0 0 (xA ad ids s.heap.size)) (F0 m pc ls []) := fun σ H locs ls pc hW h hd => x_vret hx hb hr hlocks hW h hd
  have hl := lv_entry ([.ref (ad 1)]) (n := 3) (Nat.le_of_ble_eq_true rfl)
  rw [show entryFrame m args 3 = entryFrame m ([.ref (ad 1)] : List Value).toArray 3 from by rw [hav]]
  rw [lg_entry_eq]
  generalize (lg_sl ([.ref (ad 1)]) ++ List.replicate (3 - (lg_sl ([.ref (ad 1)])).length) Slot.unset).toArray = ls at hl ⊢
  have hl : lv_has ls 3 [(0, .ref (ad 1))] := hl
  show W p l e rmX6_spin s m args below meth c s.heap [] 0 0 _ _
  generalize MQ below (va_Qv post (xOut D KA layX stX ad ids) (xA ad ids s.heap.size)) args s 0 0 (xA ad ids s.heap.size) = Q at kr ⊢
  have blk155 : ∀ (k57 : Int32 → St → Prop) (hk57 : ∀ (x1 : Int32) (σ : St) (H : Heap) (locs : List Loc) (ls : Array Slot), xW D KA layX stX ad ids (xA ad ids s.heap.size) s.heap σ H locs → lv_has ls 3 [(0, .ref (ad 1)), (1, .int x1)] → k57 x1 σ → W p l e rmX6_spin s m args below meth c H locs 0 0 Q (F0 m 57 ls [])) (x1 : Int32) (σ : St) (H : Heap) (locs : List Loc) (ls : Array Slot), xW D KA layX stX ad ids (xA ad ids s.heap.size) s.heap σ H locs → lv_has ls 3 [(0, .ref (ad 1)), (1, .int x1)] → wX6_spin_155 ids k57 post x1 σ → W p l e rmX6_spin s m args below meth c H locs 0 0 Q (F0 m 155 ls []) := by
    intro  k57 hk57 x1 σ H locs ls hW hl h
    unfold wX6_spin_155 at h
    obtain ⟨v1, hv1⟩ : ∃ y : Int32, y = x1 + (1 : Int32) := ⟨_, rfl⟩
    have h := h v1 hv1
    refine lv_iinc (v := v1) (lv' := [(1, .int v1), (0, .ref (ad 1))]) hx hb dX6_spin_155 hl (k := 1) rfl (by rw [hv1]; rfl) (by decide) rfl (fun ls hl => ?_)
    refine lv_goto (tgt := 57) hx hb dX6_spin_158 (by decide) ?_
    exact hk57 v1 _ _ _ _ hW (lv_sub hl [1, 0] rfl) h
  have blk57 : ∀ (n : Nat) (x1 : Int32) (σ : St) (H : Heap) (locs : List Loc) (ls : Array Slot), xW D KA layX stX ad ids (xA ad ids s.heap.size) s.heap σ H locs → lv_has ls 3 [(0, .ref (ad 1)), (1, .int x1)] → wX6_spin_57 ids post  n x1 σ → W p l e rmX6_spin s m args below meth c H locs 0 0 Q (F0 m 57 ls []) := by
    intro    n
    induction n with
    | zero => intro x1 σ H locs ls hW hl h; exact (h : False).elim
    | succ n ih =>
      intro x1 σ H locs ls hW hl h
      have hk57 : ∀ (x1 : Int32) (σ : St) (H : Heap) (locs : List Loc) (ls : Array Slot), xW D KA layX stX ad ids (xA ad ids s.heap.size) s.heap σ H locs → lv_has ls 3 [(0, .ref (ad 1)), (1, .int x1)] → (wX6_spin_57 ids post  n) x1 σ → W p l e rmX6_spin s m args below meth c H locs 0 0 Q (F0 m 57 ls []) := fun x1 σ H locs ls hW hl h => ih x1 σ H locs ls hW hl h
      rw [wX6_spin_57_s] at h
      try dsimp only at h
      generalize wX6_spin_57 ids post  n = k57 at h hk57
      refine lv_iload_n hx hb dX6_spin_57 rfl (lv_at hl 1 rfl) ?_
      refine lv_aload_n hx hb dX6_spin_58 rfl (lv_at hl 0 rfl) ?_
      refine xgX6_3 hx hb hts hown hK hW 1 hcX6_spin_X6 (hI 1 (by decide)) lX_1 (hts _ hwX6_spin_0) dX6_spin_59 ?_
      refine lv_icmp_ge (tgt := 161) hx hb dX6_spin_62 (by decide) (fun c2 => ?_) (fun c2 => ?_)
      · have h := h.1 c2
        exact kr _ _ _ _ _ hW h dX6_spin_161
      · have h := h.2 c2
        refine lv_aload_n hx hb dX6_spin_65 rfl (lv_at hl 0 rfl) ?_
        refine xgX6_12r hx hb hts hown hK hW 1 hcX6_spin_X6 (hI 1 (by decide)) lX_1 (hts _ hwX6_spin_1) (sX_1_12 _) dX6_spin_66 ?_
        refine lv_aload_n hx hb dX6_spin_69 rfl (lv_at hl 0 rfl) ?_
        refine xgX6_13r hx hb hts hown hK hW 1 hcX6_spin_X6 (hI 1 (by decide)) lX_1 (hts _ hwX6_spin_2) (sX_1_13 _) dX6_spin_70 ?_
        refine lv_iload_n hx hb dX6_spin_73 rfl (lv_at hl 1 rfl) ?_
        obtain ⟨hi3, h⟩ := h
        refine x_iald hx hb hK hW 12 (hI 12 (by decide)) lX_12 hi3 dX6_spin_74 ?_
        obtain ⟨hi4, h⟩ := h
        obtain ⟨o5, hr6, ok_o5, h⟩ := h
        refine x_ald hx hb hK hW 11 0 (hI 11 (by decide)) lX_11 rfl hi4 ((sX_11 _ _).trans hr6) dX6_spin_75 ?_
        refine lv_astore_n (lv' := [(2, .ref (ad o5)), (0, .ref (ad 1)), (1, .int x1)]) hx hb dX6_spin_76 rfl hl (by decide) rfl (fun ls hl => ?_)
        refine lv_aload_n hx hb dX6_spin_77 rfl (lv_at hl 0 rfl) ?_
        refine xgB_8 hx hb hts hown hK hW o5 hBX6_spin ok_o5 (hts _ hwX6_spin_3) (fun _ h => h) dX6_spin_78 ?_
        refine lv_if_eq (tgt := 155) hx hb dX6_spin_81 (by decide) (fun c7 => ?_) (fun c7 => ?_)
        · have h := h.1 c7
          exact blk155  k57 hk57 x1 _ _ _ _ hW (lv_sub hl [1, 2] rfl) h
        · have h := h.2 c7
          refine lv_aload_n hx hb dX6_spin_84 rfl (lv_at hl 1 rfl) ?_
          refine xgX6_7r hx hb hts hown hK hW 1 hcX6_spin_X6 (hI 1 (by decide)) lX_1 (hts _ hwX6_spin_4) (sX_1_7 _) dX6_spin_85 ?_
          refine lv_aload_n hx hb dX6_spin_88 rfl (lv_at hl 0 rfl) ?_
          refine xgB_2 hx hb hts hown hK hW o5 hBX6_spin ok_o5 (hts _ hwX6_spin_5) (fun _ h => h) dX6_spin_89 ?_
          refine lv_aload_n hx hb dX6_spin_92 rfl (lv_at hl 1 rfl) ?_
          refine xgX6_7r hx hb hts hown hK hW 1 hcX6_spin_X6 (hI 1 (by decide)) lX_1 (hts _ hwX6_spin_4) (sX_1_7 _) dX6_spin_93 ?_
          refine lv_aload_n hx hb dX6_spin_96 rfl (lv_at hl 0 rfl) ?_
          refine xgB_1 hx hb hts hown hK hW o5 hBX6_spin ok_o5 (hts _ hwX6_spin_6) (fun _ h => h) dX6_spin_97 ?_
          obtain ⟨hi8, h⟩ := h
          refine x_lald hx hb hK hW 6 (hI 6 (by decide)) lX_6 hi8 dX6_spin_100 ?_
          refine lv_aload_n hx hb dX6_spin_101 rfl (lv_at hl 0 rfl) ?_
          have hr9 : ∀ post : Int32 → St → Prop, wB_above ids o5 σ post → va_Run p l e rmX6_spin s m args below meth c H locs 0 0 0 0 (F0 m 102 ls ([].reverse ++ .ref (ad o5) :: [.long (gJ σ 6 (gI σ o5 1).toNatClampNeg), .int (gI σ o5 2), .ref (ad 6)])) [.long (gJ σ 6 (gI σ o5 1).toNatClampNeg), .int (gI σ o5 2), .ref (ad 6)] (va_Qi post (xOut D KA layX stX ad ids) (xA ad ids H.size) (Value.ref (ad o5) :: []).toArray) (xA ad ids H.size) := by
            intro post h
            unfold wB_above at h
            rcases (okB_cases ok_o5) with hq | hq | hq | hq | hq | hq
            · exact va_runV (As := []) (rest := [.long (gJ σ 6 (gI σ o5 1).toNatClampNeg), .int (gI σ o5 2), .ref (ad 6)]) ⟨hx, hb, hml, hown, hts⟩ (J_X0_above l hI ok_o5 (h.1 (Or.inl hq))) (cwV 0 hts gX6_spin_X0_above rfl rfl rfl hdV_X0_above ⟨Nat.le_of_ble_eq_true rfl, Nat.le_of_ble_eq_true rfl⟩) (x_preV (ci := 0) hK hZ hA hW ok_o5.1 (lay_okB0 ok_o5 hq) rfl) rfl rfl hl.1 rfl (lv_room (Nat.le_of_ble_eq_true rfl)) dX6_spin_102 ⟨Nat.zero_le _, Nat.zero_le _⟩
            · exact va_runU (As := []) (rest := [.long (gJ σ 6 (gI σ o5 1).toNatClampNeg), .int (gI σ o5 2), .ref (ad 6)]) ⟨hx, hb, hml, hown, hts⟩ (J_X0_above l hI ok_o5 (h.1 (Or.inr (Or.inl hq)))) (va_cwU 0 hts gX6_spin_X0_above_u93X2 rfl rfl rfl rfl (by decide +kernel) ⟨Nat.le_of_ble_eq_true rfl, Nat.le_of_ble_eq_true rfl⟩) (x_preV (ci := 2) hK hZ hA hW ok_o5.1 (lay_okB1 ok_o5 hq) rfl) rfl rfl hl.1 rfl (lv_room (Nat.le_of_ble_eq_true rfl)) dX6_spin_102 ⟨Nat.zero_le _, Nat.zero_le _⟩
            · exact va_runU (As := []) (rest := [.long (gJ σ 6 (gI σ o5 1).toNatClampNeg), .int (gI σ o5 2), .ref (ad 6)]) ⟨hx, hb, hml, hown, hts⟩ (J_X0_above l hI ok_o5 (h.1 (Or.inr (Or.inr (Or.inl hq))))) (va_cwU 0 hts gX6_spin_X0_above_u93X3 rfl rfl rfl rfl (by decide +kernel) ⟨Nat.le_of_ble_eq_true rfl, Nat.le_of_ble_eq_true rfl⟩) (x_preV (ci := 3) hK hZ hA hW ok_o5.1 (lay_okB2 ok_o5 hq) rfl) rfl rfl hl.1 rfl (lv_room (Nat.le_of_ble_eq_true rfl)) dX6_spin_102 ⟨Nat.zero_le _, Nat.zero_le _⟩
            · exact va_runU (As := []) (rest := [.long (gJ σ 6 (gI σ o5 1).toNatClampNeg), .int (gI σ o5 2), .ref (ad 6)]) ⟨hx, hb, hml, hown, hts⟩ (J_X1_above l hI ok_o5 (h.2 hq)) (va_cwO 0 hts gX6_spin_X1_above_u93X1 rfl rfl rfl hwX6_spin_7 (by decide +kernel) ⟨Nat.le_of_ble_eq_true rfl, Nat.le_of_ble_eq_true rfl⟩) (x_preV (ci := 1) hK hZ hA hW ok_o5.1 (lay_okB3 ok_o5 hq) rfl) rfl rfl hl.1 rfl (lv_room (Nat.le_of_ble_eq_true rfl)) dX6_spin_102 ⟨Nat.zero_le _, Nat.zero_le _⟩
            · exact va_runU (As := []) (rest := [.long (gJ σ 6 (gI σ o5 1).toNatClampNeg), .int (gI σ o5 2), .ref (ad 6)]) ⟨hx, hb, hml, hown, hts⟩ (J_X0_above l hI ok_o5 (h.1 (Or.inr (Or.inr (Or.inr (Or.inl hq)))))) (va_cwU 0 hts gX6_spin_X0_above_u93X4 rfl rfl rfl rfl (by decide +kernel) ⟨Nat.le_of_ble_eq_true rfl, Nat.le_of_ble_eq_true rfl⟩) (x_preV (ci := 4) hK hZ hA hW ok_o5.1 (lay_okB4 ok_o5 hq) rfl) rfl rfl hl.1 rfl (lv_room (Nat.le_of_ble_eq_true rfl)) dX6_spin_102 ⟨Nat.zero_le _, Nat.zero_le _⟩
            · exact va_runU (As := []) (rest := [.long (gJ σ 6 (gI σ o5 1).toNatClampNeg), .int (gI σ o5 2), .ref (ad 6)]) ⟨hx, hb, hml, hown, hts⟩ (J_X0_above l hI ok_o5 (h.1 (Or.inr (Or.inr (Or.inr (Or.inr hq)))))) (va_cwU 0 hts gX6_spin_X0_above_u93X10 rfl rfl rfl rfl (by decide +kernel) ⟨Nat.le_of_ble_eq_true rfl, Nat.le_of_ble_eq_true rfl⟩) (x_preV (ci := 10) hK hZ hA hW ok_o5.1 (lay_okB5 ok_o5 hq) rfl) rfl rfl hl.1 rfl (lv_room (Nat.le_of_ble_eq_true rfl)) dX6_spin_102 ⟨Nat.zero_le _, Nat.zero_le _⟩
          refine x_calli (hr9 _ h) hW hA (fun r11 σ10 H locs h hW => ?_)
          try dsimp only at h
          refine lv_i2l hx hb dX6_spin_105 rfl ?_
          refine lv_lmul hx hb dX6_spin_106 ?_
          obtain ⟨hi12, h⟩ := h
          refine x_last hx hb hK hW 6 (hI 6 (by decide)) lX_6 hi12 dX6_spin_107 (fun σ13 H locs hσ13 hW => ?_)
          have h := h σ13 hσ13
          refine lv_aload_n hx hb dX6_spin_108 rfl (lv_at hl 1 rfl) ?_
          refine xgX6_8r hx hb hts hown hK hW 1 hcX6_spin_X6 (hI 1 (by decide)) lX_1 (hts _ hwX6_spin_8) (sX_1_8 _) dX6_spin_109 ?_
          refine lv_aload_n hx hb dX6_spin_112 rfl (lv_at hl 0 rfl) ?_
          refine xgB_2 hx hb hts hown hK hW o5 hBX6_spin ok_o5 (hts _ hwX6_spin_5) (fun _ h => h) dX6_spin_113 ?_
          refine lv_aload_n hx hb dX6_spin_116 rfl (lv_at hl 1 rfl) ?_
          refine xgX6_8r hx hb hts hown hK hW 1 hcX6_spin_X6 (hI 1 (by decide)) lX_1 (hts _ hwX6_spin_8) (sX_1_8 _) dX6_spin_117 ?_
          refine lv_aload_n hx hb dX6_spin_120 rfl (lv_at hl 0 rfl) ?_
          refine xgB_1 hx hb hts hown hK hW o5 hBX6_spin ok_o5 (hts _ hwX6_spin_6) (fun _ h => h) dX6_spin_121 ?_
          obtain ⟨hi14, h⟩ := h
          refine x_lald hx hb hK hW 7 (hI 7 (by decide)) lX_7 hi14 dX6_spin_124 ?_
          refine lv_aload_n hx hb dX6_spin_125 rfl (lv_at hl 0 rfl) ?_
          have hr15 : ∀ post : Int32 → St → Prop, wX0_below ids o5 σ13 post → va_Run p l e rmX6_spin s m args below meth c H locs 0 0 0 0 (F0 m 126 ls ([].reverse ++ .ref (ad o5) :: [.long (gJ σ13 7 (gI σ13 o5 1).toNatClampNeg), .int (gI σ13 o5 2), .ref (ad 7)])) [.long (gJ σ13 7 (gI σ13 o5 1).toNatClampNeg), .int (gI σ13 o5 2), .ref (ad 7)] (va_Qi post (xOut D KA layX stX ad ids) (xA ad ids H.size) (Value.ref (ad o5) :: []).toArray) (xA ad ids H.size) := by
            intro post h
            rcases (okB_cases ok_o5) with hq | hq | hq | hq | hq | hq
            · exact va_runV (As := []) (rest := [.long (gJ σ13 7 (gI σ13 o5 1).toNatClampNeg), .int (gI σ13 o5 2), .ref (ad 7)]) ⟨hx, hb, hml, hown, hts⟩ (J_X0_below l hI ok_o5 h) (cwV 0 hts gX6_spin_X0_below rfl rfl rfl hdV_X0_below ⟨Nat.le_of_ble_eq_true rfl, Nat.le_of_ble_eq_true rfl⟩) (x_preV (ci := 0) hK hZ hA hW ok_o5.1 (lay_okB0 ok_o5 hq) rfl) rfl rfl hl.1 rfl (lv_room (Nat.le_of_ble_eq_true rfl)) dX6_spin_126 ⟨Nat.zero_le _, Nat.zero_le _⟩
            · exact va_runU (As := []) (rest := [.long (gJ σ13 7 (gI σ13 o5 1).toNatClampNeg), .int (gI σ13 o5 2), .ref (ad 7)]) ⟨hx, hb, hml, hown, hts⟩ (J_X0_below l hI ok_o5 h) (va_cwU 0 hts gX6_spin_X0_below_u96X2 rfl rfl rfl rfl (by decide +kernel) ⟨Nat.le_of_ble_eq_true rfl, Nat.le_of_ble_eq_true rfl⟩) (x_preV (ci := 2) hK hZ hA hW ok_o5.1 (lay_okB1 ok_o5 hq) rfl) rfl rfl hl.1 rfl (lv_room (Nat.le_of_ble_eq_true rfl)) dX6_spin_126 ⟨Nat.zero_le _, Nat.zero_le _⟩
            · exact va_runU (As := []) (rest := [.long (gJ σ13 7 (gI σ13 o5 1).toNatClampNeg), .int (gI σ13 o5 2), .ref (ad 7)]) ⟨hx, hb, hml, hown, hts⟩ (J_X0_below l hI ok_o5 h) (va_cwU 0 hts gX6_spin_X0_below_u96X3 rfl rfl rfl rfl (by decide +kernel) ⟨Nat.le_of_ble_eq_true rfl, Nat.le_of_ble_eq_true rfl⟩) (x_preV (ci := 3) hK hZ hA hW ok_o5.1 (lay_okB2 ok_o5 hq) rfl) rfl rfl hl.1 rfl (lv_room (Nat.le_of_ble_eq_true rfl)) dX6_spin_126 ⟨Nat.zero_le _, Nat.zero_le _⟩
            · exact va_runU (As := []) (rest := [.long (gJ σ13 7 (gI σ13 o5 1).toNatClampNeg), .int (gI σ13 o5 2), .ref (ad 7)]) ⟨hx, hb, hml, hown, hts⟩ (J_X0_below l hI ok_o5 h) (va_cwU 0 hts gX6_spin_X0_below_u96X1 rfl rfl rfl rfl (by decide +kernel) ⟨Nat.le_of_ble_eq_true rfl, Nat.le_of_ble_eq_true rfl⟩) (x_preV (ci := 1) hK hZ hA hW ok_o5.1 (lay_okB3 ok_o5 hq) rfl) rfl rfl hl.1 rfl (lv_room (Nat.le_of_ble_eq_true rfl)) dX6_spin_126 ⟨Nat.zero_le _, Nat.zero_le _⟩
            · exact va_runU (As := []) (rest := [.long (gJ σ13 7 (gI σ13 o5 1).toNatClampNeg), .int (gI σ13 o5 2), .ref (ad 7)]) ⟨hx, hb, hml, hown, hts⟩ (J_X0_below l hI ok_o5 h) (va_cwU 0 hts gX6_spin_X0_below_u96X4 rfl rfl rfl rfl (by decide +kernel) ⟨Nat.le_of_ble_eq_true rfl, Nat.le_of_ble_eq_true rfl⟩) (x_preV (ci := 4) hK hZ hA hW ok_o5.1 (lay_okB4 ok_o5 hq) rfl) rfl rfl hl.1 rfl (lv_room (Nat.le_of_ble_eq_true rfl)) dX6_spin_126 ⟨Nat.zero_le _, Nat.zero_le _⟩
            · exact va_runU (As := []) (rest := [.long (gJ σ13 7 (gI σ13 o5 1).toNatClampNeg), .int (gI σ13 o5 2), .ref (ad 7)]) ⟨hx, hb, hml, hown, hts⟩ (J_X0_below l hI ok_o5 h) (va_cwU 0 hts gX6_spin_X0_below_u96X10 rfl rfl rfl rfl (by decide +kernel) ⟨Nat.le_of_ble_eq_true rfl, Nat.le_of_ble_eq_true rfl⟩) (x_preV (ci := 10) hK hZ hA hW ok_o5.1 (lay_okB5 ok_o5 hq) rfl) rfl rfl hl.1 rfl (lv_room (Nat.le_of_ble_eq_true rfl)) dX6_spin_126 ⟨Nat.zero_le _, Nat.zero_le _⟩
          refine x_calli (hr15 _ h) hW hA (fun r17 σ16 H locs h hW => ?_)
          try dsimp only at h
          refine lv_i2l hx hb dX6_spin_129 rfl ?_
          refine lv_lmul hx hb dX6_spin_130 ?_
          obtain ⟨hi18, h⟩ := h
          refine x_last hx hb hK hW 7 (hI 7 (by decide)) lX_7 hi18 dX6_spin_131 (fun σ19 H locs hσ19 hW => ?_)
          have h := h σ19 hσ19
          refine lv_aload_n hx hb dX6_spin_132 rfl (lv_at hl 1 rfl) ?_
          refine xgX6_9r hx hb hts hown hK hW 1 hcX6_spin_X6 (hI 1 (by decide)) lX_1 (hts _ hwX6_spin_9) (sX_1_9 _) dX6_spin_133 ?_
          refine lv_aload_n hx hb dX6_spin_136 rfl (lv_at hl 0 rfl) ?_
          refine xgB_2 hx hb hts hown hK hW o5 hBX6_spin ok_o5 (hts _ hwX6_spin_5) (fun _ h => h) dX6_spin_137 ?_
          refine lv_aload_n hx hb dX6_spin_140 rfl (lv_at hl 1 rfl) ?_
          refine xgX6_9r hx hb hts hown hK hW 1 hcX6_spin_X6 (hI 1 (by decide)) lX_1 (hts _ hwX6_spin_9) (sX_1_9 _) dX6_spin_141 ?_
          refine lv_aload_n hx hb dX6_spin_144 rfl (lv_at hl 0 rfl) ?_
          refine xgB_1 hx hb hts hown hK hW o5 hBX6_spin ok_o5 (hts _ hwX6_spin_6) (fun _ h => h) dX6_spin_145 ?_
          obtain ⟨hi20, h⟩ := h
          refine x_iald hx hb hK hW 8 (hI 8 (by decide)) lX_8 hi20 dX6_spin_148 ?_
          refine lv_aload_n hx hb dX6_spin_149 rfl (lv_at hl 0 rfl) ?_
          have hr21 : ∀ post : Int32 → St → Prop, wB_way ids o5 σ19 post → va_Run p l e rmX6_spin s m args below meth c H locs 0 0 0 0 (F0 m 150 ls ([].reverse ++ .ref (ad o5) :: [.int (gI σ19 8 (gI σ19 o5 1).toNatClampNeg), .int (gI σ19 o5 2), .ref (ad 8)])) [.int (gI σ19 8 (gI σ19 o5 1).toNatClampNeg), .int (gI σ19 o5 2), .ref (ad 8)] (va_Qi post (xOut D KA layX stX ad ids) (xA ad ids H.size) (Value.ref (ad o5) :: []).toArray) (xA ad ids H.size) := by
            intro post h
            unfold wB_way at h
            rcases (okB_cases ok_o5) with hq | hq | hq | hq | hq | hq
            · exact va_runV (As := []) (rest := [.int (gI σ19 8 (gI σ19 o5 1).toNatClampNeg), .int (gI σ19 o5 2), .ref (ad 8)]) ⟨hx, hb, hml, hown, hts⟩ (J_X0_way l hI ok_o5 (h.1 (Or.inl hq))) (cwV 0 hts gX6_spin_X0_way rfl rfl rfl hdV_X0_way ⟨Nat.le_of_ble_eq_true rfl, Nat.le_of_ble_eq_true rfl⟩) (x_preV (ci := 0) hK hZ hA hW ok_o5.1 (lay_okB0 ok_o5 hq) rfl) rfl rfl hl.1 rfl (lv_room (Nat.le_of_ble_eq_true rfl)) dX6_spin_150 ⟨Nat.zero_le _, Nat.zero_le _⟩
            · exact va_runU (As := []) (rest := [.int (gI σ19 8 (gI σ19 o5 1).toNatClampNeg), .int (gI σ19 o5 2), .ref (ad 8)]) ⟨hx, hb, hml, hown, hts⟩ (J_X2_way l hI ok_o5 (h.2.1 hq)) (va_cwO 0 hts gX6_spin_X2_way_u98X2 rfl rfl rfl hwX6_spin_10 (by decide +kernel) ⟨Nat.le_of_ble_eq_true rfl, Nat.le_of_ble_eq_true rfl⟩) (x_preV (ci := 2) hK hZ hA hW ok_o5.1 (lay_okB1 ok_o5 hq) rfl) rfl rfl hl.1 rfl (lv_room (Nat.le_of_ble_eq_true rfl)) dX6_spin_150 ⟨Nat.zero_le _, Nat.zero_le _⟩
            · exact va_runU (As := []) (rest := [.int (gI σ19 8 (gI σ19 o5 1).toNatClampNeg), .int (gI σ19 o5 2), .ref (ad 8)]) ⟨hx, hb, hml, hown, hts⟩ (J_X0_way l hI ok_o5 (h.1 (Or.inr (Or.inl hq)))) (va_cwU 0 hts gX6_spin_X0_way_u98X3 rfl rfl rfl rfl (by decide +kernel) ⟨Nat.le_of_ble_eq_true rfl, Nat.le_of_ble_eq_true rfl⟩) (x_preV (ci := 3) hK hZ hA hW ok_o5.1 (lay_okB2 ok_o5 hq) rfl) rfl rfl hl.1 rfl (lv_room (Nat.le_of_ble_eq_true rfl)) dX6_spin_150 ⟨Nat.zero_le _, Nat.zero_le _⟩
            · exact va_runU (As := []) (rest := [.int (gI σ19 8 (gI σ19 o5 1).toNatClampNeg), .int (gI σ19 o5 2), .ref (ad 8)]) ⟨hx, hb, hml, hown, hts⟩ (J_X0_way l hI ok_o5 (h.1 (Or.inr (Or.inr (Or.inl hq))))) (va_cwU 0 hts gX6_spin_X0_way_u98X1 rfl rfl rfl rfl (by decide +kernel) ⟨Nat.le_of_ble_eq_true rfl, Nat.le_of_ble_eq_true rfl⟩) (x_preV (ci := 1) hK hZ hA hW ok_o5.1 (lay_okB3 ok_o5 hq) rfl) rfl rfl hl.1 rfl (lv_room (Nat.le_of_ble_eq_true rfl)) dX6_spin_150 ⟨Nat.zero_le _, Nat.zero_le _⟩
            · exact va_runU (As := []) (rest := [.int (gI σ19 8 (gI σ19 o5 1).toNatClampNeg), .int (gI σ19 o5 2), .ref (ad 8)]) ⟨hx, hb, hml, hown, hts⟩ (J_X0_way l hI ok_o5 (h.1 (Or.inr (Or.inr (Or.inr hq))))) (va_cwU 0 hts gX6_spin_X0_way_u98X4 rfl rfl rfl rfl (by decide +kernel) ⟨Nat.le_of_ble_eq_true rfl, Nat.le_of_ble_eq_true rfl⟩) (x_preV (ci := 4) hK hZ hA hW ok_o5.1 (lay_okB4 ok_o5 hq) rfl) rfl rfl hl.1 rfl (lv_room (Nat.le_of_ble_eq_true rfl)) dX6_spin_150 ⟨Nat.zero_le _, Nat.zero_le _⟩
            · exact va_runU (As := []) (rest := [.int (gI σ19 8 (gI σ19 o5 1).toNatClampNeg), .int (gI σ19 o5 2), .ref (ad 8)]) ⟨hx, hb, hml, hown, hts⟩ (J_X10_way l hI ok_o5 (h.2.2 hq)) (va_cwO 0 hts gX6_spin_X10_way_u98X10 rfl rfl rfl hwX6_spin_10 (by decide +kernel) ⟨Nat.le_of_ble_eq_true rfl, Nat.le_of_ble_eq_true rfl⟩) (x_preV (ci := 10) hK hZ hA hW ok_o5.1 (lay_okB5 ok_o5 hq) rfl) rfl rfl hl.1 rfl (lv_room (Nat.le_of_ble_eq_true rfl)) dX6_spin_150 ⟨Nat.zero_le _, Nat.zero_le _⟩
          refine x_calli (hr21 _ h) hW hA (fun r23 σ22 H locs h hW => ?_)
          try dsimp only at h
          refine lv_imul hx hb dX6_spin_153 ?_
          obtain ⟨hi24, h⟩ := h
          refine x_iast hx hb hK hW 8 (hI 8 (by decide)) lX_8 hi24 dX6_spin_154 (fun σ25 H locs hσ25 hW => ?_)
          have h := h σ25 hσ25
          exact blk155  k57 hk57 x1 _ _ _ _ hW (lv_sub hl [1, 2] rfl) h
  have blk2 : ∀ (n : Nat) (x1 : Int32) (σ : St) (H : Heap) (locs : List Loc) (ls : Array Slot), xW D KA layX stX ad ids (xA ad ids s.heap.size) s.heap σ H locs → lv_has ls 3 [(0, .ref (ad 1)), (1, .int x1)] → wX6_spin_2 ids post  n x1 σ → W p l e rmX6_spin s m args below meth c H locs 0 0 Q (F0 m 2 ls []) := by
    intro    n
    induction n with
    | zero => intro x1 σ H locs ls hW hl h; exact (h : False).elim
    | succ n ih =>
      intro x1 σ H locs ls hW hl h
      have hk2 : ∀ (x1 : Int32) (σ : St) (H : Heap) (locs : List Loc) (ls : Array Slot), xW D KA layX stX ad ids (xA ad ids s.heap.size) s.heap σ H locs → lv_has ls 3 [(0, .ref (ad 1)), (1, .int x1)] → (wX6_spin_2 ids post  n) x1 σ → W p l e rmX6_spin s m args below meth c H locs 0 0 Q (F0 m 2 ls []) := fun x1 σ H locs ls hW hl h => ih x1 σ H locs ls hW hl h
      rw [wX6_spin_2_s] at h
      try dsimp only at h
      generalize wX6_spin_2 ids post  n = k2 at h hk2
      refine lv_iload_n hx hb dX6_spin_2 rfl (lv_at hl 1 rfl) ?_
      refine lv_aload_n hx hb dX6_spin_3 rfl (lv_at hl 0 rfl) ?_
      refine xgX6_0 hx hb hts hown hK hW 1 hcX6_spin_X6 (hI 1 (by decide)) lX_1 (hts _ hwX6_spin_11) dX6_spin_4 ?_
      refine lv_icmp_ge (tgt := 37) hx hb dX6_spin_7 (by decide) (fun c26 => ?_) (fun c26 => ?_)
      · have h := h.1 c26
        refine lv_aload_n hx hb dX6_spin_37 rfl (lv_at hl 0 rfl) ?_
        refine xgX6_7r hx hb hts hown hK hW 1 hcX6_spin_X6 (hI 1 (by decide)) lX_1 (hts _ hwX6_spin_4) (sX_1_7 _) dX6_spin_38 ?_
        refine lv_iconst (v := 0) hx hb dX6_spin_41 (by decide) ?_
        refine lv_aload_n hx hb dX6_spin_42 rfl (lv_at hl 0 rfl) ?_
        refine xgX6_14 hx hb hts hown hK hW 1 hcX6_spin_X6 (hI 1 (by decide)) lX_1 (hts _ hwX6_spin_12) dX6_spin_43 ?_
        refine lv_i2l hx hb dX6_spin_46 rfl ?_
        obtain ⟨hi27, h⟩ := h
        refine x_last hx hb hK hW 6 (hI 6 (by decide)) lX_6 hi27 dX6_spin_47 (fun σ28 H locs hσ28 hW => ?_)
        have h := h σ28 hσ28
        refine lv_aload_n hx hb dX6_spin_48 rfl (lv_at hl 0 rfl) ?_
        refine xgX6_9r hx hb hts hown hK hW 1 hcX6_spin_X6 (hI 1 (by decide)) lX_1 (hts _ hwX6_spin_9) (sX_1_9 _) dX6_spin_49 ?_
        refine lv_iconst (v := 0) hx hb dX6_spin_52 (by decide) ?_
        refine lv_iconst (v := 1) hx hb dX6_spin_53 (by decide) ?_
        refine x_iast hx hb hK hW 8 (hI 8 (by decide)) lX_8 hi27 dX6_spin_54 (fun σ30 H locs hσ30 hW => ?_)
        have h := h σ30 hσ30
        refine lv_iconst (v := 0) hx hb dX6_spin_55 (by decide) ?_
        refine lv_istore_n (lv' := [(1, .int (0 : Int32)), (0, .ref (ad 1))]) hx hb dX6_spin_56 rfl hl (by decide) rfl (fun ls hl => ?_)
        obtain ⟨n, h⟩ := h
        exact blk57    n (0 : Int32) _ _ _ _ hW (lv_sub hl [1, 0] rfl) h
      · have h := h.2 c26
        refine lv_aload_n hx hb dX6_spin_10 rfl (lv_at hl 0 rfl) ?_
        refine xgX6_7r hx hb hts hown hK hW 1 hcX6_spin_X6 (hI 1 (by decide)) lX_1 (hts _ hwX6_spin_4) (sX_1_7 _) dX6_spin_11 ?_
        refine lv_iload_n hx hb dX6_spin_14 rfl (lv_at hl 1 rfl) ?_
        refine lv_lconst (v := 0) hx hb dX6_spin_15 (by decide) ?_
        obtain ⟨hi32, h⟩ := h
        refine x_last hx hb hK hW 6 (hI 6 (by decide)) lX_6 hi32 dX6_spin_16 (fun σ33 H locs hσ33 hW => ?_)
        have h := h σ33 hσ33
        refine lv_aload_n hx hb dX6_spin_17 rfl (lv_at hl 0 rfl) ?_
        refine xgX6_8r hx hb hts hown hK hW 1 hcX6_spin_X6 (hI 1 (by decide)) lX_1 (hts _ hwX6_spin_8) (sX_1_8 _) dX6_spin_18 ?_
        refine lv_iload_n hx hb dX6_spin_21 rfl (lv_at hl 1 rfl) ?_
        refine lv_lconst (v := 1) hx hb dX6_spin_22 (by decide) ?_
        refine x_last hx hb hK hW 7 (hI 7 (by decide)) lX_7 hi32 dX6_spin_23 (fun σ35 H locs hσ35 hW => ?_)
        have h := h σ35 hσ35
        refine lv_aload_n hx hb dX6_spin_24 rfl (lv_at hl 0 rfl) ?_
        refine xgX6_9r hx hb hts hown hK hW 1 hcX6_spin_X6 (hI 1 (by decide)) lX_1 (hts _ hwX6_spin_9) (sX_1_9 _) dX6_spin_25 ?_
        refine lv_iload_n hx hb dX6_spin_28 rfl (lv_at hl 1 rfl) ?_
        refine lv_iconst (v := 0) hx hb dX6_spin_29 (by decide) ?_
        refine x_iast hx hb hK hW 8 (hI 8 (by decide)) lX_8 hi32 dX6_spin_30 (fun σ37 H locs hσ37 hW => ?_)
        have h := h σ37 hσ37
        obtain ⟨v38, hv38⟩ : ∃ y : Int32, y = x1 + (1 : Int32) := ⟨_, rfl⟩
        have h := h v38 hv38
        refine lv_iinc (v := v38) (lv' := [(1, .int v38), (0, .ref (ad 1))]) hx hb dX6_spin_31 hl (k := 1) rfl (by rw [hv38]; rfl) (by decide) rfl (fun ls hl => ?_)
        refine lv_goto (tgt := 2) hx hb dX6_spin_34 (by decide) ?_
        exact hk2 v38 _ _ _ _ hW (lv_sub hl [1, 0] rfl) h
  have main : ∀ (H : Heap) (locs : List Loc) (ls : Array Slot), xW D KA layX stX ad ids (xA ad ids s.heap.size) s.heap σ H locs → lv_has ls 3 [(0, .ref (ad 1))] → W p l e rmX6_spin s m args below meth c H locs 0 0 Q (F0 m 0 ls []) := by
    intro H locs ls hW hl
    unfold wX6_spin at h
    refine lv_iconst (v := 0) hx hb dX6_spin_0 (by decide) ?_
    refine lv_istore_n (lv' := [(1, .int (0 : Int32)), (0, .ref (ad 1))]) hx hb dX6_spin_1 rfl hl (by decide) rfl (fun ls hl => ?_)
    obtain ⟨n, h⟩ := h
    exact blk2    n (0 : Int32) _ _ _ _ hW (lv_sub hl [1, 0] rfl) h
  exact main _ _ _ hW hl
theorem hwX11_bite_0 : (.fieldLink RX11 10 "FortyBelts" "mill" "LFortyBelts$Mill;" : Cond) ∈ wsX11_bite := (List.mem_cons_of_mem _ (List.mem_append_left _ (List.mem_append_left _ (List.mem_append_left _ (List.mem_append_left _ (List.mem_append_left _ (List.mem_append_left _ (List.mem_append_left _ (List.mem_append_left _ (List.mem_append_left _ (List.mem_append_left _ (List.mem_append_left _ (List.mem_of_getElem? (i := 0) rfl)))))))))))))
theorem hwX11_bite_1 : (.fieldLink RX11 113 "FortyBelts$Mill" "machines" "[LFortyBelts$Machine;" : Cond) ∈ wsX11_bite := (List.mem_cons_of_mem _ (List.mem_append_left _ (List.mem_append_left _ (List.mem_append_left _ (List.mem_append_left _ (List.mem_append_left _ (List.mem_append_left _ (List.mem_append_left _ (List.mem_append_left _ (List.mem_append_left _ (List.mem_append_left _ (List.mem_append_left _ (List.mem_of_getElem? (i := 1) rfl)))))))))))))
theorem hwX11_bite_2 : (.fieldLink RX11 100 "FortyBelts$Machine" "load" "I" : Cond) ∈ wsX11_bite := (List.mem_cons_of_mem _ (List.mem_append_left _ (List.mem_append_left _ (List.mem_append_left _ (List.mem_append_left _ (List.mem_append_left _ (List.mem_append_left _ (List.mem_append_left _ (List.mem_append_left _ (List.mem_append_left _ (List.mem_append_left _ (List.mem_append_left _ (List.mem_of_getElem? (i := 2) rfl)))))))))))))
theorem hcX11_bite_X11 : ∀ w ∈ wsX110, w ∈ wsX11_bite := fun _ h => (List.mem_cons_of_mem _ (List.mem_append_left _ (List.mem_append_left _ (List.mem_append_left _ (List.mem_append_left _ (List.mem_append_left _ (List.mem_append_left _ (List.mem_append_left _ (List.mem_append_left _ (List.mem_append_left _ (List.mem_append_right _ h)))))))))))
theorem hcX11_bite_X6 : ∀ w ∈ wsX60, w ∈ wsX11_bite := fun _ h => (List.mem_cons_of_mem _ (List.mem_append_left _ (List.mem_append_left _ (List.mem_append_left _ (List.mem_append_left _ (List.mem_append_left _ (List.mem_append_left _ (List.mem_append_left _ (List.mem_append_left _ (List.mem_append_right _ h))))))))))
theorem hcX11_bite_X5 : ∀ w ∈ wsX50, w ∈ wsX11_bite := fun _ h => (List.mem_cons_of_mem _ (List.mem_append_left _ (List.mem_append_left _ (List.mem_append_left _ (List.mem_append_left _ (List.mem_append_left _ (List.mem_append_left _ (List.mem_append_left _ (List.mem_append_right _ h)))))))))
set_option maxHeartbeats 4000000 in
set_option maxRecDepth 100000 in
theorem J_X11_bite {D : va_G} {KA : Nat → ClassId} {zs : ZS} {ad : Nat → Nat} {ids : List Nat} {sz : Nat} (l : Launch) (hI : ∀ c, c < 52 ∧ ¬ c = 19 → c ∈ ids) {a1 : Int32} {a2 : Int32}  {σ : St} {post : Int32 → St → Prop} (h : wX11_bite ids a1 a2 σ post) : Met l yX11_bite wsX11_bite rmX11_bite (va_Pc [.ref (ad 0), .int a1, .int a2] (xIn D KA zs layX stX ad ids sz σ)) (va_Qi post (xOut D KA layX stX ad ids) (xA ad ids sz)) 0 0 (xA ad ids sz) := by
  refine Met.ofW (cc := cX11_bite) (maxL := 5) (ret := (some .int)) (by decide) rfl ?_
  intro p e s m args below meth c s₁ B hml hv
  obtain ⟨hav, hsz, hK, hZ, hP, hD⟩ := hv
  have hx := B.exec
  have hb := B.bytes
  have hr := B.returns
  have hts := atoms_spec (ws := wsX11_bite) B.pre
  have hown : s.vm.findClass RX11 = some m.cls := findClass_of_methodNamed B.named
  have hlocks := B.notSynchronized
  subst hsz
  have hA : ∀ q : Nat, s.heap.size ≤ q → xA ad ids s.heap.size q := fun q h => Or.inr h
  have hW : xW D KA layX stX ad ids (xA ad ids s.heap.size) s.heap σ s.heap [] := ⟨hP, xA_D (D := D) hD, va_S.rf⟩
  have kr : ∀ (v : Int32) (σ : St) (H : Heap) (locs : List Loc) (ls : Array Slot) (pc : Nat), xW D KA layX stX ad ids (xA ad ids s.heap.size) s.heap σ H locs → post v σ → decode cX11_bite pc = .ok (.ireturn, 1) → W p l e rmX11_bite s m args below meth c H locs 0 0 (MQ below (va_Qi post (xOut D KA layX stX ad ids) (xA ad ids s.heap.size)) args s 0 0 (xA ad ids s.heap.size)) (F0 m pc ls [.int v]) := fun v σ H locs ls pc hW h hd => x_iret hx hb hr hlocks hW h hd
  have hl := lv_entry ([.ref (ad 0), .int a1, .int a2]) (n := 5) (Nat.le_of_ble_eq_true rfl)
  rw [show entryFrame m args 5 = entryFrame m ([.ref (ad 0), .int a1, .int a2] : List Value).toArray 5 from by rw [hav]]
  rw [lg_entry_eq]
  generalize (lg_sl ([.ref (ad 0), .int a1, .int a2]) ++ List.replicate (5 - (lg_sl ([.ref (ad 0), .int a1, .int a2])).length) Slot.unset).toArray = ls at hl ⊢
  have hl : lv_has ls 5 [(0, .ref (ad 0)), (1, .int a1), (2, .int a2)] := hl
  show W p l e rmX11_bite s m args below meth c s.heap [] 0 0 _ _
  generalize MQ below (va_Qi post (xOut D KA layX stX ad ids) (xA ad ids s.heap.size)) args s 0 0 (xA ad ids s.heap.size) = Q at kr ⊢
  have blk19 : ∀ (σ : St) (H : Heap) (locs : List Loc) (ls : Array Slot), xW D KA layX stX ad ids (xA ad ids s.heap.size) s.heap σ H locs → lv_has ls 5 [] → wX11_bite_19 ids post  σ → W p l e rmX11_bite s m args below meth c H locs 0 0 Q (F0 m 19 ls []) := by
    intro    σ H locs ls hW hl h
    unfold wX11_bite_19 at h
    refine lv_bipush (v := (-2)) hx hb dX11_bite_19 (by decide) ?_
    exact kr _ _ _ _ _ _ hW h dX11_bite_21
  have main : ∀ (H : Heap) (locs : List Loc) (ls : Array Slot), xW D KA layX stX ad ids (xA ad ids s.heap.size) s.heap σ H locs → lv_has ls 5 [(0, .ref (ad 0)), (1, .int a1), (2, .int a2)] → W p l e rmX11_bite s m args below meth c H locs 0 0 Q (F0 m 0 ls []) := by
    intro H locs ls hW hl
    unfold wX11_bite at h
    refine lv_aload_n hx hb dX11_bite_0 rfl (lv_at hl 0 rfl) ?_
    refine lv_iload_n hx hb dX11_bite_1 rfl (lv_at hl 1 rfl) ?_
    refine x_calli (va_runV (As := [.int a1]) (rest := []) ⟨hx, hb, hml, hown, hts⟩ (J_X11_isMachine l hI h) (cwV 1 hts gX11_bite_X11_isMachine rfl rfl rfl hdV_X11_isMachine ⟨Nat.le_of_ble_eq_true rfl, Nat.le_of_ble_eq_true rfl⟩) (x_preV (ci := 11) hK hZ hA hW (hI 0 (by decide)) lX_0 rfl) rfl rfl hl.1 rfl (lv_room (Nat.le_of_ble_eq_true rfl)) dX11_bite_2 ⟨Nat.zero_le _, Nat.zero_le _⟩) hW hA (fun r1002 σ1001 H locs h hW => ?_)
    try dsimp only at h
    refine lv_if_eq (tgt := 19) hx hb dX11_bite_5 (by decide) (fun c1003 => ?_) (fun c1003 => ?_)
    · have h := h.1 c1003
      exact blk19    _ _ _ _ hW (lv_sub hl [] rfl) h
    · have h := h.2 c1003
      refine lv_iload_n hx hb dX11_bite_8 rfl (lv_at hl 2 rfl) ?_
      refine lv_iconst (v := 0) hx hb dX11_bite_9 (by decide) ?_
      refine lv_sipush (v := 9999) hx hb dX11_bite_10 (by decide) ?_
      refine x_calli (va_runS (As := [.int a2, .int (0 : Int32), .int (9999 : Int32)]) (rest := []) ⟨hx, hb, hml, hown, hts⟩ (J_X11_within l hI h) (va_cwS 3 hts gX11_bite_X11_within rfl rfl rfl hdS_X11_within ⟨Nat.le_of_ble_eq_true rfl, Nat.le_of_ble_eq_true rfl⟩) (x_preS hK hZ hA hW) rfl rfl hl.1 rfl (lv_room (Nat.le_of_ble_eq_true rfl)) dX11_bite_13 ⟨Nat.zero_le _, Nat.zero_le _⟩) hW hA (fun r1005 σ1004 H locs h hW => ?_)
      try dsimp only at h
      refine lv_if_ne (tgt := 22) hx hb dX11_bite_16 (by decide) (fun c1006 => ?_) (fun c1006 => ?_)
      · have h := h.1 c1006
        refine lv_aload_n hx hb dX11_bite_22 rfl (lv_at hl 0 rfl) ?_
        refine xgX11_0r hx hb hts hown hK hW 0 hcX11_bite_X11 (hI 0 (by decide)) lX_0 (hts _ hwX11_bite_0) (sX_0_0 _) dX11_bite_23 ?_
        refine x_callv (va_runV (As := []) (rest := []) ⟨hx, hb, hml, hown, hts⟩ (J_X6_spin l hI h) (cwV 0 hts gX11_bite_X6_spin rfl rfl rfl hdV_X6_spin ⟨Nat.le_of_ble_eq_true rfl, Nat.le_of_ble_eq_true rfl⟩) (x_preV (ci := 6) hK hZ hA hW (hI 1 (by decide)) lX_1 rfl) rfl rfl hl.1 rfl (lv_room (Nat.le_of_ble_eq_true rfl)) dX11_bite_26 ⟨Nat.zero_le _, Nat.zero_le _⟩) hW hA (fun σ1007 H locs h hW => ?_)
        try dsimp only at h
        refine lv_aload_n hx hb dX11_bite_29 rfl (lv_at hl 0 rfl) ?_
        refine xgX11_0r hx hb hts hown hK hW 0 hcX11_bite_X11 (hI 0 (by decide)) lX_0 (hts _ hwX11_bite_0) (sX_0_0 _) dX11_bite_30 ?_
        refine xgX6_10r hx hb hts hown hK hW 1 hcX11_bite_X6 (hI 1 (by decide)) lX_1 (hts _ hwX11_bite_1) (sX_1_10 _) dX11_bite_33 ?_
        refine lv_iload_n hx hb dX11_bite_36 rfl (lv_at hl 1 rfl) ?_
        obtain ⟨hi1008, h⟩ := h
        obtain ⟨o1009, hr1010, ok_o1009, h⟩ := h
        refine x_ald hx hb hK hW 9 1 (hI 9 (by decide)) lX_9 rfl hi1008 ((sX_9 _ _).trans hr1010) dX11_bite_37 ?_
        refine lv_astore_n (lv' := [(3, .ref (ad o1009)), (0, .ref (ad 0)), (1, .int a1), (2, .int a2)]) hx hb dX11_bite_38 rfl hl (by decide) rfl (fun ls hl => ?_)
        refine lv_aload_n hx hb dX11_bite_39 rfl (lv_at hl 0 rfl) ?_
        refine lv_dup hx hb dX11_bite_40 rfl ?_
        refine xgX5_3 hx hb hts hown hK hW o1009 hcX11_bite_X5 ok_o1009.1 (lay_okM ok_o1009) (hts _ hwX11_bite_2) dX11_bite_41 ?_
        refine lv_iload_n hx hb dX11_bite_44 rfl (lv_at hl 3 rfl) ?_
        refine lv_iadd hx hb dX11_bite_45 ?_
        refine xpX5_3 hx hb hts hown hK hW o1009 hcX11_bite_X5 ok_o1009.1 (lay_okM ok_o1009) (hts _ hwX11_bite_2) dX11_bite_46 (fun σ1011 H locs hσ1011 hW => ?_)
        have h := h σ1011 hσ1011
        refine lv_aload_n hx hb dX11_bite_49 rfl (lv_at hl 1 rfl) ?_
        refine xgX11_0r hx hb hts hown hK hW 0 hcX11_bite_X11 (hI 0 (by decide)) lX_0 (hts _ hwX11_bite_0) (sX_0_0 _) dX11_bite_50 ?_
        refine x_calli (va_runV (As := []) (rest := []) ⟨hx, hb, hml, hown, hts⟩ (J_X6_loadedInAll l hI h) (cwV 0 hts gX11_bite_X6_loadedInAll rfl rfl rfl hdV_X6_loadedInAll ⟨Nat.le_of_ble_eq_true rfl, Nat.le_of_ble_eq_true rfl⟩) (x_preV (ci := 6) hK hZ hA hW (hI 1 (by decide)) lX_1 rfl) rfl rfl hl.1 rfl (lv_room (Nat.le_of_ble_eq_true rfl)) dX11_bite_53 ⟨Nat.zero_le _, Nat.zero_le _⟩) hW hA (fun r1013 σ1012 H locs h hW => ?_)
        try dsimp only at h
        refine lv_istore (lv' := [(4, .int r1013), (3, .ref (ad o1009)), (0, .ref (ad 0)), (1, .int a1), (2, .int a2)]) hx hb dX11_bite_56 hl (by decide) rfl (fun ls hl => ?_)
        refine lv_aload_n hx hb dX11_bite_58 rfl (lv_at hl 1 rfl) ?_
        refine lv_dup hx hb dX11_bite_59 rfl ?_
        refine xgX5_3 hx hb hts hown hK hW o1009 hcX11_bite_X5 ok_o1009.1 (lay_okM ok_o1009) (hts _ hwX11_bite_2) dX11_bite_60 ?_
        refine lv_iload_n hx hb dX11_bite_63 rfl (lv_at hl 4 rfl) ?_
        refine lv_isub hx hb dX11_bite_64 ?_
        refine xpX5_3 hx hb hts hown hK hW o1009 hcX11_bite_X5 ok_o1009.1 (lay_okM ok_o1009) (hts _ hwX11_bite_2) dX11_bite_65 (fun σ1014 H locs hσ1014 hW => ?_)
        have h := h σ1014 hσ1014
        refine lv_aload_n hx hb dX11_bite_68 rfl (lv_at hl 2 rfl) ?_
        refine lv_iload hx hb dX11_bite_69 (lv_at hl 0 rfl) ?_
        refine x_calli (va_runV (As := [.int r1013]) (rest := []) ⟨hx, hb, hml, hown, hts⟩ (J_X11_minding l hI h) (cwV 1 hts gX11_bite_X11_minding rfl rfl rfl hdV_X11_minding ⟨Nat.le_of_ble_eq_true rfl, Nat.le_of_ble_eq_true rfl⟩) (x_preV (ci := 11) hK hZ hA hW (hI 0 (by decide)) lX_0 rfl) rfl rfl hl.1 rfl (lv_room (Nat.le_of_ble_eq_true rfl)) dX11_bite_71 ⟨Nat.zero_le _, Nat.zero_le _⟩) hW hA (fun r1016 σ1015 H locs h hW => ?_)
        try dsimp only at h
        refine lv_iconst (v := 1) hx hb dX11_bite_74 (by decide) ?_
        refine lv_iload_n hx hb dX11_bite_75 rfl (lv_at hl 3 rfl) ?_
        refine lv_ishl hx hb dX11_bite_76 ?_
        refine lv_iconst (v := (-1)) hx hb dX11_bite_77 (by decide) ?_
        refine lv_ixor hx hb dX11_bite_78 ?_
        refine lv_iand hx hb dX11_bite_79 ?_
        exact kr _ _ _ _ _ _ hW h dX11_bite_80
      · have h := h.2 c1006
        exact blk19    _ _ _ _ hW (lv_sub hl [] rfl) h
  exact main _ _ _ hW hl
set_option maxHeartbeats 4000000 in
set_option maxRecDepth 100000 in
theorem J_X11_isSheet {D : va_G} {KA : Nat → ClassId} {zs : ZS} {ad : Nat → Nat} {ids : List Nat} {sz : Nat} (l : Launch) (hI : ∀ c, c < 52 ∧ ¬ c = 19 → c ∈ ids) {a0 : Int32}  {σ : St} {post : Int32 → St → Prop} (h : wX11_isSheet ids a0 σ post) : Met l yX11_isSheet wsX11_isSheet rmX11_isSheet (va_Pc [.int a0] (xIn D KA zs layX stX ad ids sz σ)) (va_Qi post (xOut D KA layX stX ad ids) (xA ad ids sz)) 0 0 (xA ad ids sz) := by
  refine Met.ofW (cc := cX11_isSheet) (maxL := 1) (ret := (some .boolean)) (by decide) rfl ?_
  intro p e s m args below meth c s₁ B hml hv
  obtain ⟨hav, hsz, hK, hZ, hP, hD⟩ := hv
  have hx := B.exec
  have hb := B.bytes
  have hr := B.returns
  have hts := atoms_spec (ws := wsX11_isSheet) B.pre
  have hown : s.vm.findClass RX11 = some m.cls := findClass_of_methodNamed B.named
  have hlocks := B.notSynchronized
  subst hsz
  have hA : ∀ q : Nat, s.heap.size ≤ q → xA ad ids s.heap.size q := fun q h => Or.inr h
  have hW : xW D KA layX stX ad ids (xA ad ids s.heap.size) s.heap σ s.heap [] := ⟨hP, xA_D (D := D) hD, va_S.rf⟩
  have kr : ∀ (v : Int32) (σ : St) (H : Heap) (locs : List Loc) (ls : Array Slot) (pc : Nat), xW D KA layX stX ad ids (xA ad ids s.heap.size) s.heap σ H locs → isB v → post v σ → decode cX11_isSheet pc = .ok (.ireturn, 1) → W p l e rmX11_isSheet s m args below meth c H locs 0 0 (MQ below (va_Qi post (xOut D KA layX stX ad ids) (xA ad ids s.heap.size)) args s 0 0 (xA ad ids s.heap.size)) (F0 m pc ls [.int v]) := fun v σ H locs ls pc hW hz h hd => x_zret hx hb hr hlocks hW hz h hd
  have hl := lv_entry ([.int a0]) (n := 1) (Nat.le_of_ble_eq_true rfl)
  rw [show entryFrame m args 1 = entryFrame m ([.int a0] : List Value).toArray 1 from by rw [hav]]
  rw [lg_entry_eq]
  generalize (lg_sl ([.int a0]) ++ List.replicate (1 - (lg_sl ([.int a0])).length) Slot.unset).toArray = ls at hl ⊢
  have hl : lv_has ls 1 [(0, .int a0)] := hl
  show W p l e rmX11_isSheet s m args below meth c s.heap [] 0 0 _ _
  generalize MQ below (va_Qi post (xOut D KA layX stX ad ids) (xA ad ids s.heap.size)) args s 0 0 (xA ad ids s.heap.size) = Q at kr ⊢
  have main : ∀ (H : Heap) (locs : List Loc) (ls : Array Slot), xW D KA layX stX ad ids (xA ad ids s.heap.size) s.heap σ H locs → lv_has ls 1 [(0, .int a0)] → W p l e rmX11_isSheet s m args below meth c H locs 0 0 Q (F0 m 0 ls []) := by
    intro H locs ls hW hl
    unfold wX11_isSheet at h
    refine lv_iload_n hx hb dX11_isSheet_0 rfl (lv_at hl 0 rfl) ?_
    refine lv_iconst (v := 0) hx hb dX11_isSheet_1 (by decide) ?_
    refine lv_iconst (v := 3) hx hb dX11_isSheet_2 (by decide) ?_
    refine x_calli (va_runS (As := [.int a0, .int (0 : Int32), .int (3 : Int32)]) (rest := []) ⟨hx, hb, hml, hown, hts⟩ (J_X11_within l hI h) (va_cwS 3 hts gX11_isSheet_X11_within rfl rfl rfl hdS_X11_within ⟨Nat.le_of_ble_eq_true rfl, Nat.le_of_ble_eq_true rfl⟩) (x_preS hK hZ hA hW) rfl rfl hl.1 rfl (lv_room (Nat.le_of_ble_eq_true rfl)) dX11_isSheet_3 ⟨Nat.zero_le _, Nat.zero_le _⟩) hW hA (fun r1002 σ1001 H locs h hW => ?_)
    try dsimp only at h
    obtain ⟨hz1003, h⟩ := h
    exact kr _ _ _ _ _ _ hW hz1003 h dX11_isSheet_6
  exact main _ _ _ hW hl
theorem hwX8_put_0 : (.fieldLink RX8 9 "FortyBelts$Sheet" "sort" "I" : Cond) ∈ wsX8_put := (List.mem_cons_of_mem _ (List.mem_append_left _ (List.mem_of_getElem? (i := 0) rfl)))
theorem hwX8_put_1 : (.fieldLink RX8 13 "FortyBelts$Sheet" "items" "[I" : Cond) ∈ wsX8_put := (List.mem_cons_of_mem _ (List.mem_append_left _ (List.mem_of_getElem? (i := 1) rfl)))
theorem hcX8_put_X8 : ∀ w ∈ wsX80, w ∈ wsX8_put := fun _ h => (List.mem_cons_of_mem _ (List.mem_append_right _ h))
set_option maxHeartbeats 4000000 in
set_option maxRecDepth 100000 in
theorem J_X8_put {D : va_G} {KA : Nat → ClassId} {zs : ZS} {ad : Nat → Nat} {ids : List Nat} {sz : Nat} (l : Launch) (hI : ∀ c, c < 52 ∧ ¬ c = 19 → c ∈ ids) {a0 : Nat} {a1 : Int32} {a2 : Int32} (ok_a0 : okS ids a0) {σ : St} {post : St → Prop} (h : wX8_put ids a0 a1 a2 σ post) : Met l yX8_put wsX8_put rmX8_put (va_Pc [.ref (ad a0), .int a1, .int a2] (xIn D KA zs layX stX ad ids sz σ)) (va_Qv post (xOut D KA layX stX ad ids) (xA ad ids sz)) 0 0 (xA ad ids sz) := by
  refine Met.ofW (cc := cX8_put) (maxL := 3) (ret := none) (by decide) rfl ?_
  intro p e s m args below meth c s₁ B hml hv
  obtain ⟨hav, hsz, hK, hZ, hP, hD⟩ := hv
  have hx := B.exec
  have hb := B.bytes
  have hr := B.returns
  have hts := atoms_spec (ws := wsX8_put) B.pre
  have hown : s.vm.findClass RX8 = some m.cls := findClass_of_methodNamed B.named
  have hlocks := B.notSynchronized
  subst hsz
  have hA : ∀ q : Nat, s.heap.size ≤ q → xA ad ids s.heap.size q := fun q h => Or.inr h
  have hW : xW D KA layX stX ad ids (xA ad ids s.heap.size) s.heap σ s.heap [] := ⟨hP, xA_D (D := D) hD, va_S.rf⟩
  have kr : ∀ (σ : St) (H : Heap) (locs : List Loc) (ls : Array Slot) (pc : Nat), xW D KA layX stX ad ids (xA ad ids s.heap.size) s.heap σ H locs → post σ → decode cX8_put pc = .ok (.return_, 1) → W p l e rmX8_put s m args below meth c H locs 0 0 (MQ below (va_Qv post (xOut D KA layX stX ad ids) (xA ad ids s.heap.size)) args s 0 0 (xA ad ids s.heap.size)) (F0 m pc ls []) := fun σ H locs ls pc hW h hd => x_vret hx hb hr hlocks hW h hd
  have hl := lv_entry ([.ref (ad a0), .int a1, .int a2]) (n := 3) (Nat.le_of_ble_eq_true rfl)
  rw [show entryFrame m args 3 = entryFrame m ([.ref (ad a0), .int a1, .int a2] : List Value).toArray 3 from by rw [hav]]
  rw [lg_entry_eq]
  generalize (lg_sl ([.ref (ad a0), .int a1, .int a2]) ++ List.replicate (3 - (lg_sl ([.ref (ad a0), .int a1, .int a2])).length) Slot.unset).toArray = ls at hl ⊢
  have hl : lv_has ls 3 [(0, .ref (ad a0)), (1, .int a1), (2, .int a2)] := hl
  show W p l e rmX8_put s m args below meth c s.heap [] 0 0 _ _
  generalize MQ below (va_Qv post (xOut D KA layX stX ad ids) (xA ad ids s.heap.size)) args s 0 0 (xA ad ids s.heap.size) = Q at kr ⊢
  have blk61 : ∀ (σ : St) (H : Heap) (locs : List Loc) (ls : Array Slot), xW D KA layX stX ad ids (xA ad ids s.heap.size) s.heap σ H locs → lv_has ls 3 [] → wX8_put_61 ids post  σ → W p l e rmX8_put s m args below meth c H locs 0 0 Q (F0 m 61 ls []) := by
    intro    σ H locs ls hW hl h
    unfold wX8_put_61 at h
    exact kr _ _ _ _ _ hW h dX8_put_61
  have main : ∀ (H : Heap) (locs : List Loc) (ls : Array Slot), xW D KA layX stX ad ids (xA ad ids s.heap.size) s.heap σ H locs → lv_has ls 3 [(0, .ref (ad a0)), (1, .int a1), (2, .int a2)] → W p l e rmX8_put s m args below meth c H locs 0 0 Q (F0 m 0 ls []) := by
    intro H locs ls hW hl
    unfold wX8_put at h
    refine lv_aload_n hx hb dX8_put_0 rfl (lv_at hl 0 rfl) ?_
    refine xgX8_0 hx hb hts hown hK hW a0 hcX8_put_X8 ok_a0.1 (lay_okS ok_a0) (hts _ hwX8_put_0) dX8_put_1 ?_
    refine lv_topi (fun v1001 hv1001 => ?_)
    have h := h v1001 hv1001
    obtain ⟨hcase, h⟩ := h
    by_cases hc4_0 : v1001 = (0 : Int32)
    · have h := hcase hc4_0
      clear hcase
      refine lv_lookup (tgt := 32) hx hb dX8_put_4 (by decide) (by rw [hc4_0] <;> decide) (by decide) ?_
      refine lv_aload_n hx hb dX8_put_32 rfl (lv_at hl 0 rfl) ?_
      refine xgX8_2r hx hb hts hown hK hW a0 hcX8_put_X8 ok_a0.1 (lay_okS ok_a0) (hts _ hwX8_put_1) (st_okS1 ok_a0) dX8_put_33 ?_
      refine lv_iload_n hx hb dX8_put_36 rfl (lv_at hl 1 rfl) ?_
      refine lv_iload_n hx hb dX8_put_37 rfl (lv_at hl 2 rfl) ?_
      refine lv_i2b hx hb dX8_put_38 rfl ?_
      obtain ⟨hi1002, h⟩ := h
      refine x_iast hx hb hK hW (a0 + 1) (hI _ (okS_lt1 ok_a0)) (lay_okS1 ok_a0) hi1002 dX8_put_39 (fun σ1003 H locs hσ1003 hW => ?_)
      have h := h σ1003 hσ1003
      refine lv_goto (tgt := 61) hx hb dX8_put_40 (by decide) ?_
      exact blk61    _ _ _ _ hW (lv_sub hl [] rfl) h
    clear hcase
    obtain ⟨hcase, h⟩ := h
    by_cases hc4_1 : v1001 = (1 : Int32)
    · have h := hcase hc4_1
      clear hcase
      refine lv_lookup (tgt := 43) hx hb dX8_put_4 (by decide) (by rw [hc4_1] <;> decide) (by decide) ?_
      refine lv_aload_n hx hb dX8_put_43 rfl (lv_at hl 0 rfl) ?_
      refine xgX8_2r hx hb hts hown hK hW a0 hcX8_put_X8 ok_a0.1 (lay_okS ok_a0) (hts _ hwX8_put_1) (st_okS1 ok_a0) dX8_put_44 ?_
      refine lv_iload_n hx hb dX8_put_47 rfl (lv_at hl 1 rfl) ?_
      refine lv_iload_n hx hb dX8_put_48 rfl (lv_at hl 2 rfl) ?_
      refine lv_i2s hx hb dX8_put_49 rfl ?_
      obtain ⟨hi1004, h⟩ := h
      refine x_iast hx hb hK hW (a0 + 1) (hI _ (okS_lt1 ok_a0)) (lay_okS1 ok_a0) hi1004 dX8_put_50 (fun σ1005 H locs hσ1005 hW => ?_)
      have h := h σ1005 hσ1005
      refine lv_goto (tgt := 61) hx hb dX8_put_51 (by decide) ?_
      exact blk61    _ _ _ _ hW (lv_sub hl [] rfl) h
    clear hcase
    have h := h ⟨hc4_0, hc4_1⟩
    refine lv_lookup (tgt := 54) hx hb dX8_put_4 (by decide) (off := 50) (lsw_out v1001 _ _ (fun q hq => ?_)) (by decide) ?_
    · simp only [List.mem_cons, List.not_mem_nil, or_false] at hq
      rcases hq with rfl | rfl
      · exact fun hq => hc4_0 (Int32.toInt_inj.mp hq)
      · exact fun hq => hc4_1 (Int32.toInt_inj.mp hq)
    refine lv_aload_n hx hb dX8_put_54 rfl (lv_at hl 0 rfl) ?_
    refine xgX8_2r hx hb hts hown hK hW a0 hcX8_put_X8 ok_a0.1 (lay_okS ok_a0) (hts _ hwX8_put_1) (st_okS1 ok_a0) dX8_put_55 ?_
    refine lv_iload_n hx hb dX8_put_58 rfl (lv_at hl 1 rfl) ?_
    refine lv_iload_n hx hb dX8_put_59 rfl (lv_at hl 2 rfl) ?_
    obtain ⟨hi1006, h⟩ := h
    refine x_iast hx hb hK hW (a0 + 1) (hI _ (okS_lt1 ok_a0)) (lay_okS1 ok_a0) hi1006 dX8_put_60 (fun σ1007 H locs hσ1007 hW => ?_)
    have h := h σ1007 hσ1007
    exact blk61    _ _ _ _ hW (lv_sub hl [] rfl) h
  exact main _ _ _ hW hl
theorem hwX11_cell_0 : (.fieldLink RX11 60 "FortyBelts" "sheets" "[LFortyBelts$Sheet;" : Cond) ∈ wsX11_cell := (List.mem_cons_of_mem _ (List.mem_append_left _ (List.mem_append_left _ (List.mem_of_getElem? (i := 0) rfl))))
theorem hwX11_cell_1 : (.fieldLink RX11 333 "FortyBelts$Sheet" "sort" "I" : Cond) ∈ wsX11_cell := (List.mem_cons_of_mem _ (List.mem_append_left _ (List.mem_append_left _ (List.mem_of_getElem? (i := 1) rfl))))
theorem hwX11_cell_2 : (.fieldLink RX11 336 "FortyBelts$Sheet" "size" "I" : Cond) ∈ wsX11_cell := (List.mem_cons_of_mem _ (List.mem_append_left _ (List.mem_append_left _ (List.mem_of_getElem? (i := 2) rfl))))
theorem hcX11_cell_X11 : ∀ w ∈ wsX110, w ∈ wsX11_cell := fun _ h => (List.mem_cons_of_mem _ (List.mem_append_left _ (List.mem_append_right _ h)))
theorem hcX11_cell_X8 : ∀ w ∈ wsX80, w ∈ wsX11_cell := fun _ h => (List.mem_cons_of_mem _ (List.mem_append_right _ h))
set_option maxHeartbeats 4000000 in
set_option maxRecDepth 100000 in
theorem J_X11_cell {D : va_G} {KA : Nat → ClassId} {zs : ZS} {ad : Nat → Nat} {ids : List Nat} {sz : Nat} (l : Launch) (hI : ∀ c, c < 52 ∧ ¬ c = 19 → c ∈ ids) {a1 : Int32} {a2 : Int32} {a3 : Int32}  {σ : St} {post : Int32 → St → Prop} (h : wX11_cell ids a1 a2 a3 σ post) : Met l yX11_cell wsX11_cell rmX11_cell (va_Pc [.ref (ad 0), .int a1, .int a2, .int a3] (xIn D KA zs layX stX ad ids sz σ)) (va_Qi post (xOut D KA layX stX ad ids) (xA ad ids sz)) 0 0 (xA ad ids sz) := by
  refine Met.ofW (cc := cX11_cell) (maxL := 5) (ret := (some .int)) (by decide) rfl ?_
  intro p e s m args below meth c s₁ B hml hv
  obtain ⟨hav, hsz, hK, hZ, hP, hD⟩ := hv
  have hx := B.exec
  have hb := B.bytes
  have hr := B.returns
  have hts := atoms_spec (ws := wsX11_cell) B.pre
  have hown : s.vm.findClass RX11 = some m.cls := findClass_of_methodNamed B.named
  have hlocks := B.notSynchronized
  subst hsz
  have hA : ∀ q : Nat, s.heap.size ≤ q → xA ad ids s.heap.size q := fun q h => Or.inr h
  have hW : xW D KA layX stX ad ids (xA ad ids s.heap.size) s.heap σ s.heap [] := ⟨hP, xA_D (D := D) hD, va_S.rf⟩
  have kr : ∀ (v : Int32) (σ : St) (H : Heap) (locs : List Loc) (ls : Array Slot) (pc : Nat), xW D KA layX stX ad ids (xA ad ids s.heap.size) s.heap σ H locs → post v σ → decode cX11_cell pc = .ok (.ireturn, 1) → W p l e rmX11_cell s m args below meth c H locs 0 0 (MQ below (va_Qi post (xOut D KA layX stX ad ids) (xA ad ids s.heap.size)) args s 0 0 (xA ad ids s.heap.size)) (F0 m pc ls [.int v]) := fun v σ H locs ls pc hW h hd => x_iret hx hb hr hlocks hW h hd
  have hl := lv_entry ([.ref (ad 0), .int a1, .int a2, .int a3]) (n := 5) (Nat.le_of_ble_eq_true rfl)
  rw [show entryFrame m args 5 = entryFrame m ([.ref (ad 0), .int a1, .int a2, .int a3] : List Value).toArray 5 from by rw [hav]]
  rw [lg_entry_eq]
  generalize (lg_sl ([.ref (ad 0), .int a1, .int a2, .int a3]) ++ List.replicate (5 - (lg_sl ([.ref (ad 0), .int a1, .int a2, .int a3])).length) Slot.unset).toArray = ls at hl ⊢
  have hl : lv_has ls 5 [(0, .ref (ad 0)), (1, .int a1), (2, .int a2), (3, .int a3)] := hl
  show W p l e rmX11_cell s m args below meth c s.heap [] 0 0 _ _
  generalize MQ below (va_Qi post (xOut D KA layX stX ad ids) (xA ad ids s.heap.size)) args s 0 0 (xA ad ids s.heap.size) = Q at kr ⊢
  have main : ∀ (H : Heap) (locs : List Loc) (ls : Array Slot), xW D KA layX stX ad ids (xA ad ids s.heap.size) s.heap σ H locs → lv_has ls 5 [(0, .ref (ad 0)), (1, .int a1), (2, .int a2), (3, .int a3)] → W p l e rmX11_cell s m args below meth c H locs 0 0 Q (F0 m 0 ls []) := by
    intro H locs ls hW hl
    unfold wX11_cell at h
    refine lv_iload_n hx hb dX11_cell_0 rfl (lv_at hl 1 rfl) ?_
    refine x_calli (va_runS (As := [.int a1]) (rest := []) ⟨hx, hb, hml, hown, hts⟩ (J_X11_isSheet l hI h) (va_cwS 1 hts gX11_cell_X11_isSheet rfl rfl rfl hdS_X11_isSheet ⟨Nat.le_of_ble_eq_true rfl, Nat.le_of_ble_eq_true rfl⟩) (x_preS hK hZ hA hW) rfl rfl hl.1 rfl (lv_room (Nat.le_of_ble_eq_true rfl)) dX11_cell_1 ⟨Nat.zero_le _, Nat.zero_le _⟩) hW hA (fun r1002 σ1001 H locs h hW => ?_)
    try dsimp only at h
    refine lv_if_ne (tgt := 10) hx hb dX11_cell_4 (by decide) (fun c1003 => ?_) (fun c1003 => ?_)
    · have h := h.1 c1003
      refine lv_aload_n hx hb dX11_cell_10 rfl (lv_at hl 0 rfl) ?_
      refine xgX11_6r hx hb hts hown hK hW 0 hcX11_cell_X11 (hI 0 (by decide)) lX_0 (hts _ hwX11_cell_0) (sX_0_6 _) dX11_cell_11 ?_
      refine lv_iload_n hx hb dX11_cell_14 rfl (lv_at hl 1 rfl) ?_
      obtain ⟨hi1004, h⟩ := h
      refine x_ald hx hb hK hW 16 2 (hI 16 (by decide)) lX_16 rfl hi1004 (st_aokS hi1004) dX11_cell_15 ?_
      refine lv_astore (lv' := [(4, .ref (ad (44 + 2 * a1.toNatClampNeg))), (0, .ref (ad 0)), (1, .int a1), (2, .int a2), (3, .int a3)]) hx hb dX11_cell_16 hl (by decide) rfl (fun ls hl => ?_)
      refine lv_aload hx hb dX11_cell_18 (lv_at hl 0 rfl) ?_
      refine xgX8_0 hx hb hts hown hK hW (44 + 2 * a1.toNatClampNeg) hcX11_cell_X8 (okS_of hI hi1004).1 (lay_okS (okS_of hI hi1004)) (hts _ hwX11_cell_1) dX11_cell_20 ?_
      refine lv_iconst (v := (-1)) hx hb dX11_cell_23 (by decide) ?_
      refine lv_icmp_ne (tgt := 30) hx hb dX11_cell_24 (by decide) (fun c1005 => ?_) (fun c1005 => ?_)
      · have h := h.1 c1005
        refine lv_iload_n hx hb dX11_cell_30 rfl (lv_at hl 3 rfl) ?_
        refine lv_iconst (v := 0) hx hb dX11_cell_31 (by decide) ?_
        refine lv_aload hx hb dX11_cell_32 (lv_at hl 0 rfl) ?_
        refine xgX8_1 hx hb hts hown hK hW (44 + 2 * a1.toNatClampNeg) hcX11_cell_X8 (okS_of hI hi1004).1 (lay_okS (okS_of hI hi1004)) (hts _ hwX11_cell_2) dX11_cell_34 ?_
        refine lv_iconst (v := 1) hx hb dX11_cell_37 (by decide) ?_
        refine lv_isub hx hb dX11_cell_38 ?_
        refine x_calli (va_runS (As := [.int a2, .int (0 : Int32), .int ((gI σ1001 (44 + 2 * a1.toNatClampNeg) 1) - (1 : Int32))]) (rest := []) ⟨hx, hb, hml, hown, hts⟩ (J_X11_within l hI h) (va_cwS 3 hts gX11_cell_X11_within rfl rfl rfl hdS_X11_within ⟨Nat.le_of_ble_eq_true rfl, Nat.le_of_ble_eq_true rfl⟩) (x_preS hK hZ hA hW) rfl rfl hl.1 rfl (lv_room (Nat.le_of_ble_eq_true rfl)) dX11_cell_39 ⟨Nat.zero_le _, Nat.zero_le _⟩) hW hA (fun r1007 σ1006 H locs h hW => ?_)
        try dsimp only at h
        refine lv_if_ne (tgt := 48) hx hb dX11_cell_42 (by decide) (fun c1008 => ?_) (fun c1008 => ?_)
        · have h := h.1 c1008
          refine lv_aload hx hb dX11_cell_48 (lv_at hl 0 rfl) ?_
          refine lv_iload_n hx hb dX11_cell_50 rfl (lv_at hl 3 rfl) ?_
          refine lv_iload_n hx hb dX11_cell_51 rfl (lv_at hl 4 rfl) ?_
          refine x_callv (va_runV (As := [.int a2, .int a3]) (rest := []) ⟨hx, hb, hml, hown, hts⟩ (J_X8_put l hI (okS_of hI hi1004) h) (cwV 2 hts gX11_cell_X8_put rfl rfl rfl hdV_X8_put ⟨Nat.le_of_ble_eq_true rfl, Nat.le_of_ble_eq_true rfl⟩) (x_preV (ci := 8) hK hZ hA hW (okS_of hI hi1004).1 (lay_okS (okS_of hI hi1004)) rfl) rfl rfl hl.1 rfl (lv_room (Nat.le_of_ble_eq_true rfl)) dX11_cell_52 ⟨Nat.zero_le _, Nat.zero_le _⟩) hW hA (fun σ1009 H locs h hW => ?_)
          try dsimp only at h
          refine lv_iconst (v := 1) hx hb dX11_cell_55 (by decide) ?_
          exact kr _ _ _ _ _ _ hW h dX11_cell_56
        · have h := h.2 c1008
          refine lv_bipush (v := (-12)) hx hb dX11_cell_45 (by decide) ?_
          exact kr _ _ _ _ _ _ hW h dX11_cell_47
      · have h := h.2 c1005
        refine lv_bipush (v := (-11)) hx hb dX11_cell_27 (by decide) ?_
        exact kr _ _ _ _ _ _ hW h dX11_cell_29
    · have h := h.2 c1003
      refine lv_bipush (v := (-2)) hx hb dX11_cell_7 (by decide) ?_
      exact kr _ _ _ _ _ _ hW h dX11_cell_9
  exact main _ _ _ hW hl
theorem hwX11_isBelt_0 : (.fieldLink RX11 10 "FortyBelts" "mill" "LFortyBelts$Mill;" : Cond) ∈ wsX11_isBelt := (List.mem_cons_of_mem _ (List.mem_append_left _ (List.mem_append_left _ (List.mem_of_getElem? (i := 0) rfl))))
theorem hwX11_isBelt_1 : (.fieldLink RX11 145 "FortyBelts$Mill" "beltCount" "I" : Cond) ∈ wsX11_isBelt := (List.mem_cons_of_mem _ (List.mem_append_left _ (List.mem_append_left _ (List.mem_of_getElem? (i := 1) rfl))))
theorem hcX11_isBelt_X11 : ∀ w ∈ wsX110, w ∈ wsX11_isBelt := fun _ h => (List.mem_cons_of_mem _ (List.mem_append_left _ (List.mem_append_right _ h)))
theorem hcX11_isBelt_X6 : ∀ w ∈ wsX60, w ∈ wsX11_isBelt := fun _ h => (List.mem_cons_of_mem _ (List.mem_append_right _ h))
set_option maxHeartbeats 4000000 in
set_option maxRecDepth 100000 in
theorem J_X11_isBelt {D : va_G} {KA : Nat → ClassId} {zs : ZS} {ad : Nat → Nat} {ids : List Nat} {sz : Nat} (l : Launch) (hI : ∀ c, c < 52 ∧ ¬ c = 19 → c ∈ ids) {a1 : Int32}  {σ : St} {post : Int32 → St → Prop} (h : wX11_isBelt ids a1 σ post) : Met l yX11_isBelt wsX11_isBelt rmX11_isBelt (va_Pc [.ref (ad 0), .int a1] (xIn D KA zs layX stX ad ids sz σ)) (va_Qi post (xOut D KA layX stX ad ids) (xA ad ids sz)) 0 0 (xA ad ids sz) := by
  refine Met.ofW (cc := cX11_isBelt) (maxL := 2) (ret := (some .boolean)) (by decide) rfl ?_
  intro p e s m args below meth c s₁ B hml hv
  obtain ⟨hav, hsz, hK, hZ, hP, hD⟩ := hv
  have hx := B.exec
  have hb := B.bytes
  have hr := B.returns
  have hts := atoms_spec (ws := wsX11_isBelt) B.pre
  have hown : s.vm.findClass RX11 = some m.cls := findClass_of_methodNamed B.named
  have hlocks := B.notSynchronized
  subst hsz
  have hA : ∀ q : Nat, s.heap.size ≤ q → xA ad ids s.heap.size q := fun q h => Or.inr h
  have hW : xW D KA layX stX ad ids (xA ad ids s.heap.size) s.heap σ s.heap [] := ⟨hP, xA_D (D := D) hD, va_S.rf⟩
  have kr : ∀ (v : Int32) (σ : St) (H : Heap) (locs : List Loc) (ls : Array Slot) (pc : Nat), xW D KA layX stX ad ids (xA ad ids s.heap.size) s.heap σ H locs → isB v → post v σ → decode cX11_isBelt pc = .ok (.ireturn, 1) → W p l e rmX11_isBelt s m args below meth c H locs 0 0 (MQ below (va_Qi post (xOut D KA layX stX ad ids) (xA ad ids s.heap.size)) args s 0 0 (xA ad ids s.heap.size)) (F0 m pc ls [.int v]) := fun v σ H locs ls pc hW hz h hd => x_zret hx hb hr hlocks hW hz h hd
  have hl := lv_entry ([.ref (ad 0), .int a1]) (n := 2) (Nat.le_of_ble_eq_true rfl)
  rw [show entryFrame m args 2 = entryFrame m ([.ref (ad 0), .int a1] : List Value).toArray 2 from by rw [hav]]
  rw [lg_entry_eq]
  generalize (lg_sl ([.ref (ad 0), .int a1]) ++ List.replicate (2 - (lg_sl ([.ref (ad 0), .int a1])).length) Slot.unset).toArray = ls at hl ⊢
  have hl : lv_has ls 2 [(0, .ref (ad 0)), (1, .int a1)] := hl
  show W p l e rmX11_isBelt s m args below meth c s.heap [] 0 0 _ _
  generalize MQ below (va_Qi post (xOut D KA layX stX ad ids) (xA ad ids s.heap.size)) args s 0 0 (xA ad ids s.heap.size) = Q at kr ⊢
  have main : ∀ (H : Heap) (locs : List Loc) (ls : Array Slot), xW D KA layX stX ad ids (xA ad ids s.heap.size) s.heap σ H locs → lv_has ls 2 [(0, .ref (ad 0)), (1, .int a1)] → W p l e rmX11_isBelt s m args below meth c H locs 0 0 Q (F0 m 0 ls []) := by
    intro H locs ls hW hl
    unfold wX11_isBelt at h
    refine lv_iload_n hx hb dX11_isBelt_0 rfl (lv_at hl 1 rfl) ?_
    refine lv_iconst (v := 0) hx hb dX11_isBelt_1 (by decide) ?_
    refine lv_aload_n hx hb dX11_isBelt_2 rfl (lv_at hl 0 rfl) ?_
    refine xgX11_0r hx hb hts hown hK hW 0 hcX11_isBelt_X11 (hI 0 (by decide)) lX_0 (hts _ hwX11_isBelt_0) (sX_0_0 _) dX11_isBelt_3 ?_
    refine xgX6_3 hx hb hts hown hK hW 1 hcX11_isBelt_X6 (hI 1 (by decide)) lX_1 (hts _ hwX11_isBelt_1) dX11_isBelt_6 ?_
    refine lv_iconst (v := 1) hx hb dX11_isBelt_9 (by decide) ?_
    refine lv_isub hx hb dX11_isBelt_10 ?_
    refine x_calli (va_runS (As := [.int a1, .int (0 : Int32), .int ((gI σ 1 3) - (1 : Int32))]) (rest := []) ⟨hx, hb, hml, hown, hts⟩ (J_X11_within l hI h) (va_cwS 3 hts gX11_isBelt_X11_within rfl rfl rfl hdS_X11_within ⟨Nat.le_of_ble_eq_true rfl, Nat.le_of_ble_eq_true rfl⟩) (x_preS hK hZ hA hW) rfl rfl hl.1 rfl (lv_room (Nat.le_of_ble_eq_true rfl)) dX11_isBelt_11 ⟨Nat.zero_le _, Nat.zero_le _⟩) hW hA (fun r1002 σ1001 H locs h hW => ?_)
    try dsimp only at h
    obtain ⟨hz1003, h⟩ := h
    exact kr _ _ _ _ _ _ hW hz1003 h dX11_isBelt_14
  exact main _ _ _ hW hl
theorem hwX11_change_0 : (.fieldLink RX11 10 "FortyBelts" "mill" "LFortyBelts$Mill;" : Cond) ∈ wsX11_change := (List.mem_cons_of_mem _ (List.mem_append_left _ (List.mem_append_left _ (List.mem_append_left _ (List.mem_append_left _ (List.mem_append_left _ (List.mem_append_left _ (List.mem_append_left _ (List.mem_append_left _ (List.mem_append_left _ (List.mem_of_getElem? (i := 0) rfl)))))))))))
theorem hwX11_change_1 : (.fieldLink RX11 170 "FortyBelts$Belt" "driverDrum" "I" : Cond) ∈ wsX11_change := (List.mem_cons_of_mem _ (List.mem_append_left _ (List.mem_append_left _ (List.mem_append_left _ (List.mem_append_left _ (List.mem_append_left _ (List.mem_append_left _ (List.mem_append_left _ (List.mem_append_left _ (List.mem_append_left _ (List.mem_of_getElem? (i := 2) rfl)))))))))))
theorem hwX11_change_2 : (.fieldLink RX11 173 "FortyBelts$Belt" "drivenDrum" "I" : Cond) ∈ wsX11_change := (List.mem_cons_of_mem _ (List.mem_append_left _ (List.mem_append_left _ (List.mem_append_left _ (List.mem_append_left _ (List.mem_append_left _ (List.mem_append_left _ (List.mem_append_left _ (List.mem_append_left _ (List.mem_append_left _ (List.mem_of_getElem? (i := 3) rfl)))))))))))
theorem hwX11_change_3 : (.fieldLink RX11 163 "FortyBelts$Mill" "belts" "[LFortyBelts$Belt;" : Cond) ∈ wsX11_change := (List.mem_cons_of_mem _ (List.mem_append_left _ (List.mem_append_left _ (List.mem_append_left _ (List.mem_append_left _ (List.mem_append_left _ (List.mem_append_left _ (List.mem_append_left _ (List.mem_append_left _ (List.mem_append_left _ (List.mem_of_getElem? (i := 1) rfl)))))))))))
theorem hcX11_change_X11 : ∀ w ∈ wsX110, w ∈ wsX11_change := fun _ h => (List.mem_cons_of_mem _ (List.mem_append_left _ (List.mem_append_left _ (List.mem_append_left _ (List.mem_append_left _ (List.mem_append_left _ (List.mem_append_left _ (List.mem_append_left _ (List.mem_append_right _ h)))))))))
theorem hcX11_change_X0 : ∀ w ∈ wsX00, w ∈ wsX11_change := fun _ h => (List.mem_cons_of_mem _ (List.mem_append_left _ (List.mem_append_left _ (List.mem_append_left _ (List.mem_append_left _ (List.mem_append_left _ (List.mem_append_right _ h)))))))
theorem hcX11_change_X1 : ∀ w ∈ wsX10, w ∈ wsX11_change := fun _ h => (List.mem_cons_of_mem _ (List.mem_append_left _ (List.mem_append_left _ (List.mem_append_left _ (List.mem_append_left _ (List.mem_append_right _ h))))))
theorem hcX11_change_X2 : ∀ w ∈ wsX20, w ∈ wsX11_change := fun _ h => (List.mem_cons_of_mem _ (List.mem_append_left _ (List.mem_append_left _ (List.mem_append_left _ (List.mem_append_right _ h)))))
theorem hcX11_change_X3 : ∀ w ∈ wsX30, w ∈ wsX11_change := fun _ h => (List.mem_cons_of_mem _ (List.mem_append_left _ (List.mem_append_left _ (List.mem_append_right _ h))))
theorem hcX11_change_X4 : ∀ w ∈ wsX40, w ∈ wsX11_change := fun _ h => (List.mem_cons_of_mem _ (List.mem_append_left _ (List.mem_append_right _ h)))
theorem hcX11_change_X10 : ∀ w ∈ wsX100, w ∈ wsX11_change := fun _ h => (List.mem_cons_of_mem _ (List.mem_append_right _ h))
theorem hcX11_change_X6 : ∀ w ∈ wsX60, w ∈ wsX11_change := fun _ h => (List.mem_cons_of_mem _ (List.mem_append_left _ (List.mem_append_left _ (List.mem_append_left _ (List.mem_append_left _ (List.mem_append_left _ (List.mem_append_left _ (List.mem_append_right _ h))))))))
theorem hBX11_change : xHB wsX11_change := ⟨hcX11_change_X0, hcX11_change_X1, hcX11_change_X2, hcX11_change_X3, hcX11_change_X4, hcX11_change_X10⟩
set_option maxHeartbeats 4000000 in
set_option maxRecDepth 100000 in
theorem J_X11_change {D : va_G} {KA : Nat → ClassId} {zs : ZS} {ad : Nat → Nat} {ids : List Nat} {sz : Nat} (l : Launch) (hI : ∀ c, c < 52 ∧ ¬ c = 19 → c ∈ ids) {a1 : Int32} {a2 : Int32} {a3 : Int32}  {σ : St} {post : Int32 → St → Prop} (h : wX11_change ids a1 a2 a3 σ post) : Met l yX11_change wsX11_change rmX11_change (va_Pc [.ref (ad 0), .int a1, .int a2, .int a3] (xIn D KA zs layX stX ad ids sz σ)) (va_Qi post (xOut D KA layX stX ad ids) (xA ad ids sz)) 0 0 (xA ad ids sz) := by
  refine Met.ofW (cc := cX11_change) (maxL := 7) (ret := (some .int)) (by decide) rfl ?_
  intro p e s m args below meth c s₁ B hml hv
  obtain ⟨hav, hsz, hK, hZ, hP, hD⟩ := hv
  have hx := B.exec
  have hb := B.bytes
  have hr := B.returns
  have hts := atoms_spec (ws := wsX11_change) B.pre
  have hown : s.vm.findClass RX11 = some m.cls := findClass_of_methodNamed B.named
  have hlocks := B.notSynchronized
  subst hsz
  have hA : ∀ q : Nat, s.heap.size ≤ q → xA ad ids s.heap.size q := fun q h => Or.inr h
  have hW : xW D KA layX stX ad ids (xA ad ids s.heap.size) s.heap σ s.heap [] := ⟨hP, xA_D (D := D) hD, va_S.rf⟩
  have kr : ∀ (v : Int32) (σ : St) (H : Heap) (locs : List Loc) (ls : Array Slot) (pc : Nat), xW D KA layX stX ad ids (xA ad ids s.heap.size) s.heap σ H locs → post v σ → decode cX11_change pc = .ok (.ireturn, 1) → W p l e rmX11_change s m args below meth c H locs 0 0 (MQ below (va_Qi post (xOut D KA layX stX ad ids) (xA ad ids s.heap.size)) args s 0 0 (xA ad ids s.heap.size)) (F0 m pc ls [.int v]) := fun v σ H locs ls pc hW h hd => x_iret hx hb hr hlocks hW h hd
  have hl := lv_entry ([.ref (ad 0), .int a1, .int a2, .int a3]) (n := 7) (Nat.le_of_ble_eq_true rfl)
  rw [show entryFrame m args 7 = entryFrame m ([.ref (ad 0), .int a1, .int a2, .int a3] : List Value).toArray 7 from by rw [hav]]
  rw [lg_entry_eq]
  generalize (lg_sl ([.ref (ad 0), .int a1, .int a2, .int a3]) ++ List.replicate (7 - (lg_sl ([.ref (ad 0), .int a1, .int a2, .int a3])).length) Slot.unset).toArray = ls at hl ⊢
  have hl : lv_has ls 7 [(0, .ref (ad 0)), (1, .int a1), (2, .int a2), (3, .int a3)] := hl
  show W p l e rmX11_change s m args below meth c s.heap [] 0 0 _ _
  generalize MQ below (va_Qi post (xOut D KA layX stX ad ids) (xA ad ids s.heap.size)) args s 0 0 (xA ad ids s.heap.size) = Q at kr ⊢
  have blk75 : ∀ (x2 : Int32) (x3 : Int32) (x4 : Nat) (ok_x4 : okB ids x4) (x5 : Int32) (s0 : Int32) (σ : St) (H : Heap) (locs : List Loc) (ls : Array Slot), xW D KA layX stX ad ids (xA ad ids s.heap.size) s.heap σ H locs → lv_has ls 7 [(0, .ref (ad 0)), (2, .int x2), (3, .int x3), (4, .ref (ad x4)), (5, .int x5)] → wX11_change_75 ids post x2 x3 x4 x5 s0 σ → W p l e rmX11_change s m args below meth c H locs 0 0 Q (F0 m 75 ls [.int s0]) := by
    intro   x2 x3 x4 ok_x4 x5 s0 σ H locs ls hW hl h
    unfold wX11_change_75 at h
    refine lv_istore (lv' := [(6, .int s0), (0, .ref (ad 0)), (2, .int x2), (3, .int x3), (4, .ref (ad x4)), (5, .int x5)]) hx hb dX11_change_75 hl (by decide) rfl (fun ls hl => ?_)
    refine lv_iload_n hx hb dX11_change_77 rfl (lv_at hl 3 rfl) ?_
    refine lv_iload hx hb dX11_change_78 (lv_at hl 0 rfl) ?_
    refine lv_icmp_ne (tgt := 86) hx hb dX11_change_80 (by decide) (fun c1 => ?_) (fun c1 => ?_)
    · have h := h.1 c1
      refine lv_aload_n hx hb dX11_change_86 rfl (lv_at hl 1 rfl) ?_
      refine xgX11_0r hx hb hts hown hK hW 0 hcX11_change_X11 (hI 0 (by decide)) lX_0 (hts _ hwX11_change_0) (sX_0_0 _) dX11_change_87 ?_
      refine lv_aload hx hb dX11_change_90 (lv_at hl 4 rfl) ?_
      refine lv_iload_n hx hb dX11_change_92 rfl (lv_at hl 2 rfl) ?_
      refine lv_iload_n hx hb dX11_change_93 rfl (lv_at hl 3 rfl) ?_
      refine x_callv (va_runV (As := [.ref (ad x4), .int x2, .int x3]) (rest := []) ⟨hx, hb, hml, hown, hts⟩ (J_X6_putDrum l hI ok_x4 h) (cwV 3 hts gX11_change_X6_putDrum rfl rfl rfl hdV_X6_putDrum ⟨Nat.le_of_ble_eq_true rfl, Nat.le_of_ble_eq_true rfl⟩) (x_preV (ci := 6) hK hZ hA hW (hI 1 (by decide)) lX_1 rfl) rfl rfl hl.1 rfl (lv_room (Nat.le_of_ble_eq_true rfl)) dX11_change_94 ⟨Nat.zero_le _, Nat.zero_le _⟩) hW hA (fun σ2 H locs h hW => ?_)
      try dsimp only at h
      refine lv_iload hx hb dX11_change_97 (lv_at hl 5 rfl) ?_
      exact kr _ _ _ _ _ _ hW h dX11_change_99
    · have h := h.2 c1
      refine lv_bipush (v := (-2)) hx hb dX11_change_83 (by decide) ?_
      exact kr _ _ _ _ _ _ hW h dX11_change_85
  have blk56 : ∀ (x2 : Int32) (x3 : Int32) (x4 : Nat) (ok_x4 : okB ids x4) (s0 : Int32) (σ : St) (H : Heap) (locs : List Loc) (ls : Array Slot), xW D KA layX stX ad ids (xA ad ids s.heap.size) s.heap σ H locs → lv_has ls 7 [(0, .ref (ad 0)), (2, .int x2), (3, .int x3), (4, .ref (ad x4))] → wX11_change_56 ids post x2 x3 x4 s0 σ → W p l e rmX11_change s m args below meth c H locs 0 0 Q (F0 m 56 ls [.int s0]) := by
    intro   x2 x3 x4 ok_x4 s0 σ H locs ls hW hl h
    unfold wX11_change_56 at h
    refine lv_istore (lv' := [(5, .int s0), (0, .ref (ad 0)), (2, .int x2), (3, .int x3), (4, .ref (ad x4))]) hx hb dX11_change_56 hl (by decide) rfl (fun ls hl => ?_)
    refine lv_iload_n hx hb dX11_change_58 rfl (lv_at hl 2 rfl) ?_
    refine lv_if_ne (tgt := 70) hx hb dX11_change_59 (by decide) (fun c3 => ?_) (fun c3 => ?_)
    · have h := h.1 c3
      refine lv_aload hx hb dX11_change_70 (lv_at hl 4 rfl) ?_
      refine xgB_4 hx hb hts hown hK hW x4 hBX11_change ok_x4 (hts _ hwX11_change_1) (fun _ h => h) dX11_change_72 ?_
      exact blk75   x2 x3 x4 ok_x4 s0 (gI σ x4 4) _ _ _ _ hW (lv_sub hl [1, 2, 3, 4, 0] rfl) h
    · have h := h.2 c3
      refine lv_aload hx hb dX11_change_62 (lv_at hl 4 rfl) ?_
      refine xgB_5 hx hb hts hown hK hW x4 hBX11_change ok_x4 (hts _ hwX11_change_2) (fun _ h => h) dX11_change_64 ?_
      refine lv_goto (tgt := 75) hx hb dX11_change_67 (by decide) ?_
      exact blk75   x2 x3 x4 ok_x4 s0 (gI σ x4 5) _ _ _ _ hW (lv_sub hl [1, 2, 3, 4, 0] rfl) h
  have blk25 : ∀ (σ : St) (H : Heap) (locs : List Loc) (ls : Array Slot), xW D KA layX stX ad ids (xA ad ids s.heap.size) s.heap σ H locs → lv_has ls 7 [] → wX11_change_25 ids post  σ → W p l e rmX11_change s m args below meth c H locs 0 0 Q (F0 m 25 ls []) := by
    intro    σ H locs ls hW hl h
    unfold wX11_change_25 at h
    refine lv_bipush (v := (-2)) hx hb dX11_change_25 (by decide) ?_
    exact kr _ _ _ _ _ _ hW h dX11_change_27
  have main : ∀ (H : Heap) (locs : List Loc) (ls : Array Slot), xW D KA layX stX ad ids (xA ad ids s.heap.size) s.heap σ H locs → lv_has ls 7 [(0, .ref (ad 0)), (1, .int a1), (2, .int a2), (3, .int a3)] → W p l e rmX11_change s m args below meth c H locs 0 0 Q (F0 m 0 ls []) := by
    intro H locs ls hW hl
    unfold wX11_change at h
    refine lv_aload_n hx hb dX11_change_0 rfl (lv_at hl 0 rfl) ?_
    refine lv_iload_n hx hb dX11_change_1 rfl (lv_at hl 1 rfl) ?_
    refine x_calli (va_runV (As := [.int a1]) (rest := []) ⟨hx, hb, hml, hown, hts⟩ (J_X11_isBelt l hI h) (cwV 1 hts gX11_change_X11_isBelt rfl rfl rfl hdV_X11_isBelt ⟨Nat.le_of_ble_eq_true rfl, Nat.le_of_ble_eq_true rfl⟩) (x_preV (ci := 11) hK hZ hA hW (hI 0 (by decide)) lX_0 rfl) rfl rfl hl.1 rfl (lv_room (Nat.le_of_ble_eq_true rfl)) dX11_change_2 ⟨Nat.zero_le _, Nat.zero_le _⟩) hW hA (fun r1002 σ1001 H locs h hW => ?_)
    try dsimp only at h
    refine lv_if_eq (tgt := 25) hx hb dX11_change_5 (by decide) (fun c1003 => ?_) (fun c1003 => ?_)
    · have h := h.1 c1003
      exact blk25    _ _ _ _ hW (lv_sub hl [] rfl) h
    · have h := h.2 c1003
      refine lv_iload_n hx hb dX11_change_8 rfl (lv_at hl 2 rfl) ?_
      refine lv_iconst (v := 0) hx hb dX11_change_9 (by decide) ?_
      refine lv_iconst (v := 1) hx hb dX11_change_10 (by decide) ?_
      refine x_calli (va_runS (As := [.int a2, .int (0 : Int32), .int (1 : Int32)]) (rest := []) ⟨hx, hb, hml, hown, hts⟩ (J_X11_within l hI h) (va_cwS 3 hts gX11_change_X11_within rfl rfl rfl hdS_X11_within ⟨Nat.le_of_ble_eq_true rfl, Nat.le_of_ble_eq_true rfl⟩) (x_preS hK hZ hA hW) rfl rfl hl.1 rfl (lv_room (Nat.le_of_ble_eq_true rfl)) dX11_change_11 ⟨Nat.zero_le _, Nat.zero_le _⟩) hW hA (fun r1005 σ1004 H locs h hW => ?_)
      try dsimp only at h
      refine lv_if_eq (tgt := 25) hx hb dX11_change_14 (by decide) (fun c1006 => ?_) (fun c1006 => ?_)
      · have h := h.1 c1006
        exact blk25    _ _ _ _ hW (lv_sub hl [] rfl) h
      · have h := h.2 c1006
        refine lv_aload_n hx hb dX11_change_17 rfl (lv_at hl 0 rfl) ?_
        refine lv_iload_n hx hb dX11_change_18 rfl (lv_at hl 3 rfl) ?_
        refine x_calli (va_runV (As := [.int a3]) (rest := []) ⟨hx, hb, hml, hown, hts⟩ (J_X11_isDrum l hI h) (cwV 1 hts gX11_change_X11_isDrum rfl rfl rfl hdV_X11_isDrum ⟨Nat.le_of_ble_eq_true rfl, Nat.le_of_ble_eq_true rfl⟩) (x_preV (ci := 11) hK hZ hA hW (hI 0 (by decide)) lX_0 rfl) rfl rfl hl.1 rfl (lv_room (Nat.le_of_ble_eq_true rfl)) dX11_change_19 ⟨Nat.zero_le _, Nat.zero_le _⟩) hW hA (fun r1008 σ1007 H locs h hW => ?_)
        try dsimp only at h
        refine lv_if_ne (tgt := 28) hx hb dX11_change_22 (by decide) (fun c1009 => ?_) (fun c1009 => ?_)
        · have h := h.1 c1009
          refine lv_aload_n hx hb dX11_change_28 rfl (lv_at hl 0 rfl) ?_
          refine xgX11_0r hx hb hts hown hK hW 0 hcX11_change_X11 (hI 0 (by decide)) lX_0 (hts _ hwX11_change_0) (sX_0_0 _) dX11_change_29 ?_
          refine xgX6_12r hx hb hts hown hK hW 1 hcX11_change_X6 (hI 1 (by decide)) lX_1 (hts _ hwX11_change_3) (sX_1_12 _) dX11_change_32 ?_
          refine lv_iload_n hx hb dX11_change_35 rfl (lv_at hl 1 rfl) ?_
          obtain ⟨hi1010, h⟩ := h
          obtain ⟨o1011, hr1012, ok_o1011, h⟩ := h
          refine x_ald hx hb hK hW 11 0 (hI 11 (by decide)) lX_11 rfl hi1010 ((sX_11 _ _).trans hr1012) dX11_change_36 ?_
          refine lv_astore (lv' := [(4, .ref (ad o1011)), (0, .ref (ad 0)), (1, .int a1), (2, .int a2), (3, .int a3)]) hx hb dX11_change_37 hl (by decide) rfl (fun ls hl => ?_)
          refine lv_iload_n hx hb dX11_change_39 rfl (lv_at hl 3 rfl) ?_
          refine lv_if_ne (tgt := 51) hx hb dX11_change_40 (by decide) (fun c1013 => ?_) (fun c1013 => ?_)
          · have h := h.1 c1013
            refine lv_aload hx hb dX11_change_51 (lv_at hl 0 rfl) ?_
            refine xgB_5 hx hb hts hown hK hW o1011 hBX11_change ok_o1011 (hts _ hwX11_change_2) (fun _ h => h) dX11_change_53 ?_
            exact blk56   a2 a3 o1011 ok_o1011 (gI σ1007 o1011 5) _ _ _ _ hW (lv_sub hl [1, 3, 4, 0] rfl) h
          · have h := h.2 c1013
            refine lv_aload hx hb dX11_change_43 (lv_at hl 0 rfl) ?_
            refine xgB_4 hx hb hts hown hK hW o1011 hBX11_change ok_o1011 (hts _ hwX11_change_1) (fun _ h => h) dX11_change_45 ?_
            refine lv_goto (tgt := 56) hx hb dX11_change_48 (by decide) ?_
            exact blk56   a2 a3 o1011 ok_o1011 (gI σ1007 o1011 4) _ _ _ _ hW (lv_sub hl [1, 3, 4, 0] rfl) h
        · have h := h.2 c1009
          exact blk25    _ _ _ _ hW (lv_sub hl [] rfl) h
  exact main _ _ _ hW hl
theorem hwX11_freeBelts_0 : (.fieldLink RX11 10 "FortyBelts" "mill" "LFortyBelts$Mill;" : Cond) ∈ wsX11_freeBelts := (List.mem_cons_of_mem _ (List.mem_append_left _ (List.mem_append_left _ (List.mem_of_getElem? (i := 0) rfl))))
theorem hwX11_freeBelts_1 : (.fieldLink RX11 145 "FortyBelts$Mill" "beltCount" "I" : Cond) ∈ wsX11_freeBelts := (List.mem_cons_of_mem _ (List.mem_append_left _ (List.mem_append_left _ (List.mem_of_getElem? (i := 1) rfl))))
theorem hwX11_freeBelts_2 : (.methodLink RX11 395 Lib.Math.min.name : Cond) ∈ wsX11_freeBelts := (List.mem_cons_of_mem _ (List.mem_append_left _ (List.mem_append_left _ (List.mem_of_getElem? (i := 2) rfl))))
theorem hwX11_freeBelts_3 : (.static Lib.Math.min.name : Cond) ∈ wsX11_freeBelts := (List.mem_cons_of_mem _ (List.mem_append_left _ (List.mem_append_left _ (List.mem_of_getElem? (i := 3) rfl))))
theorem hwX11_freeBelts_4 : (.initialized "java/lang/Math" : Cond) ∈ wsX11_freeBelts := (List.mem_cons_of_mem _ (List.mem_append_left _ (List.mem_append_left _ (List.mem_of_getElem? (i := 4) rfl))))
theorem hwX11_freeBelts_5 : (.code Lib.Math.min.name Lib.Math.min.code 2 (some .int) : Cond) ∈ wsX11_freeBelts := (List.mem_cons_of_mem _ (List.mem_append_left _ (List.mem_append_left _ (List.mem_of_getElem? (i := 5) rfl))))
theorem hcX11_freeBelts_X11 : ∀ w ∈ wsX110, w ∈ wsX11_freeBelts := fun _ h => (List.mem_cons_of_mem _ (List.mem_append_left _ (List.mem_append_right _ h)))
theorem hcX11_freeBelts_X6 : ∀ w ∈ wsX60, w ∈ wsX11_freeBelts := fun _ h => (List.mem_cons_of_mem _ (List.mem_append_right _ h))
set_option maxHeartbeats 4000000 in
set_option maxRecDepth 100000 in
theorem J_X11_freeBelts {D : va_G} {KA : Nat → ClassId} {zs : ZS} {ad : Nat → Nat} {ids : List Nat} {sz : Nat} (l : Launch) (hI : ∀ c, c < 52 ∧ ¬ c = 19 → c ∈ ids)   {σ : St} {post : Int32 → St → Prop} (h : wX11_freeBelts ids  σ post) : Met l yX11_freeBelts wsX11_freeBelts rmX11_freeBelts (va_Pc [.ref (ad 0)] (xIn D KA zs layX stX ad ids sz σ)) (va_Qi post (xOut D KA layX stX ad ids) (xA ad ids sz)) 0 0 (xA ad ids sz) := by
  refine Met.ofW (cc := cX11_freeBelts) (maxL := 1) (ret := (some .int)) (by decide) rfl ?_
  intro p e s m args below meth c s₁ B hml hv
  obtain ⟨hav, hsz, hK, hZ, hP, hD⟩ := hv
  have hx := B.exec
  have hb := B.bytes
  have hr := B.returns
  have hts := atoms_spec (ws := wsX11_freeBelts) B.pre
  have hown : s.vm.findClass RX11 = some m.cls := findClass_of_methodNamed B.named
  have hlocks := B.notSynchronized
  subst hsz
  have hA : ∀ q : Nat, s.heap.size ≤ q → xA ad ids s.heap.size q := fun q h => Or.inr h
  have hW : xW D KA layX stX ad ids (xA ad ids s.heap.size) s.heap σ s.heap [] := ⟨hP, xA_D (D := D) hD, va_S.rf⟩
  have kr : ∀ (v : Int32) (σ : St) (H : Heap) (locs : List Loc) (ls : Array Slot) (pc : Nat), xW D KA layX stX ad ids (xA ad ids s.heap.size) s.heap σ H locs → post v σ → decode cX11_freeBelts pc = .ok (.ireturn, 1) → W p l e rmX11_freeBelts s m args below meth c H locs 0 0 (MQ below (va_Qi post (xOut D KA layX stX ad ids) (xA ad ids s.heap.size)) args s 0 0 (xA ad ids s.heap.size)) (F0 m pc ls [.int v]) := fun v σ H locs ls pc hW h hd => x_iret hx hb hr hlocks hW h hd
  have hl := lv_entry ([.ref (ad 0)]) (n := 1) (Nat.le_of_ble_eq_true rfl)
  rw [show entryFrame m args 1 = entryFrame m ([.ref (ad 0)] : List Value).toArray 1 from by rw [hav]]
  rw [lg_entry_eq]
  generalize (lg_sl ([.ref (ad 0)]) ++ List.replicate (1 - (lg_sl ([.ref (ad 0)])).length) Slot.unset).toArray = ls at hl ⊢
  have hl : lv_has ls 1 [(0, .ref (ad 0))] := hl
  show W p l e rmX11_freeBelts s m args below meth c s.heap [] 0 0 _ _
  generalize MQ below (va_Qi post (xOut D KA layX stX ad ids) (xA ad ids s.heap.size)) args s 0 0 (xA ad ids s.heap.size) = Q at kr ⊢
  have main : ∀ (H : Heap) (locs : List Loc) (ls : Array Slot), xW D KA layX stX ad ids (xA ad ids s.heap.size) s.heap σ H locs → lv_has ls 1 [(0, .ref (ad 0))] → W p l e rmX11_freeBelts s m args below meth c H locs 0 0 Q (F0 m 0 ls []) := by
    intro H locs ls hW hl
    unfold wX11_freeBelts at h
    refine lv_iconst (v := 4) hx hb dX11_freeBelts_0 (by decide) ?_
    refine lv_aload_n hx hb dX11_freeBelts_1 rfl (lv_at hl 0 rfl) ?_
    refine xgX11_0r hx hb hts hown hK hW 0 hcX11_freeBelts_X11 (hI 0 (by decide)) lX_0 (hts _ hwX11_freeBelts_0) (sX_0_0 _) dX11_freeBelts_2 ?_
    refine xgX6_3 hx hb hts hown hK hW 1 hcX11_freeBelts_X6 (hI 1 (by decide)) lX_1 (hts _ hwX11_freeBelts_1) dX11_freeBelts_5 ?_
    refine va_mmin hx hb (hml.trans hl.1.symm) hown (hts _ hwX11_freeBelts_2) (hts _ hwX11_freeBelts_3) (hts _ hwX11_freeBelts_4) (hts _ hwX11_freeBelts_5) (Nat.le_of_ble_eq_true rfl) (Nat.le_of_ble_eq_true rfl) (Nat.le_of_ble_eq_true rfl) (Nat.le_of_ble_eq_true rfl) dX11_freeBelts_8 ?_
    exact kr _ _ _ _ _ _ hW h dX11_freeBelts_11
  exact main _ _ _ hW hl
theorem hwX11_stayingDrums_0 : (.fieldLink RX11 10 "FortyBelts" "mill" "LFortyBelts$Mill;" : Cond) ∈ wsX11_stayingDrums := (List.mem_cons_of_mem _ (List.mem_append_left _ (List.mem_append_left _ (List.mem_append_left _ (List.mem_append_left _ (List.mem_append_left _ (List.mem_append_left _ (List.mem_append_left _ (List.mem_append_left _ (List.mem_of_getElem? (i := 0) rfl))))))))))
theorem hwX11_stayingDrums_1 : (.fieldLink RX11 145 "FortyBelts$Mill" "beltCount" "I" : Cond) ∈ wsX11_stayingDrums := (List.mem_cons_of_mem _ (List.mem_append_left _ (List.mem_append_left _ (List.mem_append_left _ (List.mem_append_left _ (List.mem_append_left _ (List.mem_append_left _ (List.mem_append_left _ (List.mem_append_left _ (List.mem_of_getElem? (i := 1) rfl))))))))))
theorem hwX11_stayingDrums_2 : (.fieldLink RX11 163 "FortyBelts$Mill" "belts" "[LFortyBelts$Belt;" : Cond) ∈ wsX11_stayingDrums := (List.mem_cons_of_mem _ (List.mem_append_left _ (List.mem_append_left _ (List.mem_append_left _ (List.mem_append_left _ (List.mem_append_left _ (List.mem_append_left _ (List.mem_append_left _ (List.mem_append_left _ (List.mem_of_getElem? (i := 2) rfl))))))))))
theorem hwX11_stayingDrums_3 : (.fieldLink RX11 170 "FortyBelts$Belt" "driverDrum" "I" : Cond) ∈ wsX11_stayingDrums := (List.mem_cons_of_mem _ (List.mem_append_left _ (List.mem_append_left _ (List.mem_append_left _ (List.mem_append_left _ (List.mem_append_left _ (List.mem_append_left _ (List.mem_append_left _ (List.mem_append_left _ (List.mem_of_getElem? (i := 3) rfl))))))))))
theorem hwX11_stayingDrums_4 : (.fieldLink RX11 173 "FortyBelts$Belt" "drivenDrum" "I" : Cond) ∈ wsX11_stayingDrums := (List.mem_cons_of_mem _ (List.mem_append_left _ (List.mem_append_left _ (List.mem_append_left _ (List.mem_append_left _ (List.mem_append_left _ (List.mem_append_left _ (List.mem_append_left _ (List.mem_append_left _ (List.mem_of_getElem? (i := 4) rfl))))))))))
theorem hcX11_stayingDrums_X11 : ∀ w ∈ wsX110, w ∈ wsX11_stayingDrums := fun _ h => (List.mem_cons_of_mem _ (List.mem_append_left _ (List.mem_append_left _ (List.mem_append_left _ (List.mem_append_left _ (List.mem_append_left _ (List.mem_append_left _ (List.mem_append_left _ (List.mem_append_right _ h)))))))))
theorem hcX11_stayingDrums_X6 : ∀ w ∈ wsX60, w ∈ wsX11_stayingDrums := fun _ h => (List.mem_cons_of_mem _ (List.mem_append_left _ (List.mem_append_left _ (List.mem_append_left _ (List.mem_append_left _ (List.mem_append_left _ (List.mem_append_left _ (List.mem_append_right _ h))))))))
theorem hcX11_stayingDrums_X0 : ∀ w ∈ wsX00, w ∈ wsX11_stayingDrums := fun _ h => (List.mem_cons_of_mem _ (List.mem_append_left _ (List.mem_append_left _ (List.mem_append_left _ (List.mem_append_left _ (List.mem_append_left _ (List.mem_append_right _ h)))))))
theorem hcX11_stayingDrums_X1 : ∀ w ∈ wsX10, w ∈ wsX11_stayingDrums := fun _ h => (List.mem_cons_of_mem _ (List.mem_append_left _ (List.mem_append_left _ (List.mem_append_left _ (List.mem_append_left _ (List.mem_append_right _ h))))))
theorem hcX11_stayingDrums_X2 : ∀ w ∈ wsX20, w ∈ wsX11_stayingDrums := fun _ h => (List.mem_cons_of_mem _ (List.mem_append_left _ (List.mem_append_left _ (List.mem_append_left _ (List.mem_append_right _ h)))))
theorem hcX11_stayingDrums_X3 : ∀ w ∈ wsX30, w ∈ wsX11_stayingDrums := fun _ h => (List.mem_cons_of_mem _ (List.mem_append_left _ (List.mem_append_left _ (List.mem_append_right _ h))))
theorem hcX11_stayingDrums_X4 : ∀ w ∈ wsX40, w ∈ wsX11_stayingDrums := fun _ h => (List.mem_cons_of_mem _ (List.mem_append_left _ (List.mem_append_right _ h)))
theorem hcX11_stayingDrums_X10 : ∀ w ∈ wsX100, w ∈ wsX11_stayingDrums := fun _ h => (List.mem_cons_of_mem _ (List.mem_append_right _ h))
theorem hBX11_stayingDrums : xHB wsX11_stayingDrums := ⟨hcX11_stayingDrums_X0, hcX11_stayingDrums_X1, hcX11_stayingDrums_X2, hcX11_stayingDrums_X3, hcX11_stayingDrums_X4, hcX11_stayingDrums_X10⟩
set_option maxHeartbeats 4000000 in
set_option maxRecDepth 100000 in
theorem J_X11_stayingDrums {D : va_G} {KA : Nat → ClassId} {zs : ZS} {ad : Nat → Nat} {ids : List Nat} {sz : Nat} (l : Launch) (hI : ∀ c, c < 52 ∧ ¬ c = 19 → c ∈ ids)   {σ : St} {post : Int32 → St → Prop} (h : wX11_stayingDrums ids  σ post) : Met l yX11_stayingDrums wsX11_stayingDrums rmX11_stayingDrums (va_Pc [.ref (ad 0)] (xIn D KA zs layX stX ad ids sz σ)) (va_Qi post (xOut D KA layX stX ad ids) (xA ad ids sz)) 0 0 (xA ad ids sz) := by
  refine Met.ofW (cc := cX11_stayingDrums) (maxL := 5) (ret := (some .int)) (by decide) rfl ?_
  intro p e s m args below meth c s₁ B hml hv
  obtain ⟨hav, hsz, hK, hZ, hP, hD⟩ := hv
  have hx := B.exec
  have hb := B.bytes
  have hr := B.returns
  have hts := atoms_spec (ws := wsX11_stayingDrums) B.pre
  have hown : s.vm.findClass RX11 = some m.cls := findClass_of_methodNamed B.named
  have hlocks := B.notSynchronized
  subst hsz
  have hA : ∀ q : Nat, s.heap.size ≤ q → xA ad ids s.heap.size q := fun q h => Or.inr h
  have hW : xW D KA layX stX ad ids (xA ad ids s.heap.size) s.heap σ s.heap [] := ⟨hP, xA_D (D := D) hD, va_S.rf⟩
  have kr : ∀ (v : Int32) (σ : St) (H : Heap) (locs : List Loc) (ls : Array Slot) (pc : Nat), xW D KA layX stX ad ids (xA ad ids s.heap.size) s.heap σ H locs → post v σ → decode cX11_stayingDrums pc = .ok (.ireturn, 1) → W p l e rmX11_stayingDrums s m args below meth c H locs 0 0 (MQ below (va_Qi post (xOut D KA layX stX ad ids) (xA ad ids s.heap.size)) args s 0 0 (xA ad ids s.heap.size)) (F0 m pc ls [.int v]) := fun v σ H locs ls pc hW h hd => x_iret hx hb hr hlocks hW h hd
  have hl := lv_entry ([.ref (ad 0)]) (n := 5) (Nat.le_of_ble_eq_true rfl)
  rw [show entryFrame m args 5 = entryFrame m ([.ref (ad 0)] : List Value).toArray 5 from by rw [hav]]
  rw [lg_entry_eq]
  generalize (lg_sl ([.ref (ad 0)]) ++ List.replicate (5 - (lg_sl ([.ref (ad 0)])).length) Slot.unset).toArray = ls at hl ⊢
  have hl : lv_has ls 5 [(0, .ref (ad 0))] := hl
  show W p l e rmX11_stayingDrums s m args below meth c s.heap [] 0 0 _ _
  generalize MQ below (va_Qi post (xOut D KA layX stX ad ids) (xA ad ids s.heap.size)) args s 0 0 (xA ad ids s.heap.size) = Q at kr ⊢
  have blk49 : ∀ (k4 : Int32 → Int32 → St → Prop) (hk4 : ∀ (x1 : Int32) (x2 : Int32) (σ : St) (H : Heap) (locs : List Loc) (ls : Array Slot), xW D KA layX stX ad ids (xA ad ids s.heap.size) s.heap σ H locs → lv_has ls 5 [(0, .ref (ad 0)), (1, .int x1), (2, .int x2)] → k4 x1 x2 σ → W p l e rmX11_stayingDrums s m args below meth c H locs 0 0 Q (F0 m 4 ls [])) (x1 : Int32) (x2 : Int32) (x4 : Int32) (σ : St) (H : Heap) (locs : List Loc) (ls : Array Slot), xW D KA layX stX ad ids (xA ad ids s.heap.size) s.heap σ H locs → lv_has ls 5 [(0, .ref (ad 0)), (1, .int x1), (2, .int x2), (4, .int x4)] → wX11_stayingDrums_49 ids k4 post x1 x2 x4 σ → W p l e rmX11_stayingDrums s m args below meth c H locs 0 0 Q (F0 m 49 ls []) := by
    intro  k4 hk4 x1 x2 x4 σ H locs ls hW hl h
    unfold wX11_stayingDrums_49 at h
    refine lv_iload_n hx hb dX11_stayingDrums_49 rfl (lv_at hl 1 rfl) ?_
    refine lv_iload hx hb dX11_stayingDrums_50 (lv_at hl 3 rfl) ?_
    refine lv_iand hx hb dX11_stayingDrums_52 ?_
    refine lv_if_eq (tgt := 58) hx hb dX11_stayingDrums_53 (by decide) (fun c1 => ?_) (fun c1 => ?_)
    · have h := h.1 c1
      refine lv_iload_n hx hb dX11_stayingDrums_58 rfl (lv_at hl 1 rfl) ?_
      refine lv_iload hx hb dX11_stayingDrums_59 (lv_at hl 3 rfl) ?_
      refine lv_ior hx hb dX11_stayingDrums_61 ?_
      refine lv_topi (fun v2 hv2 => ?_)
      have h := h v2 hv2
      refine lv_istore_n (lv' := [(1, .int v2), (0, .ref (ad 0)), (2, .int x2), (4, .int x4)]) hx hb dX11_stayingDrums_62 rfl hl (by decide) rfl (fun ls hl => ?_)
      obtain ⟨v3, hv3⟩ : ∃ y : Int32, y = x2 + (1 : Int32) := ⟨_, rfl⟩
      have h := h v3 hv3
      refine lv_iinc (v := v3) (lv' := [(2, .int v3), (1, .int v2), (0, .ref (ad 0)), (4, .int x4)]) hx hb dX11_stayingDrums_63 hl (k := 2) rfl (by rw [hv3]; rfl) (by decide) rfl (fun ls hl => ?_)
      refine lv_goto (tgt := 4) hx hb dX11_stayingDrums_66 (by decide) ?_
      exact hk4 v2 v3 _ _ _ _ hW (lv_sub hl [2, 1, 0] rfl) h
    · have h := h.2 c1
      refine lv_iconst (v := (-1)) hx hb dX11_stayingDrums_56 (by decide) ?_
      exact kr _ _ _ _ _ _ hW h dX11_stayingDrums_57
  have blk4 : ∀ (n : Nat) (x1 : Int32) (x2 : Int32) (σ : St) (H : Heap) (locs : List Loc) (ls : Array Slot), xW D KA layX stX ad ids (xA ad ids s.heap.size) s.heap σ H locs → lv_has ls 5 [(0, .ref (ad 0)), (1, .int x1), (2, .int x2)] → wX11_stayingDrums_4 ids post  n x1 x2 σ → W p l e rmX11_stayingDrums s m args below meth c H locs 0 0 Q (F0 m 4 ls []) := by
    intro    n
    induction n with
    | zero => intro x1 x2 σ H locs ls hW hl h; exact (h : False).elim
    | succ n ih =>
      intro x1 x2 σ H locs ls hW hl h
      have hk4 : ∀ (x1 : Int32) (x2 : Int32) (σ : St) (H : Heap) (locs : List Loc) (ls : Array Slot), xW D KA layX stX ad ids (xA ad ids s.heap.size) s.heap σ H locs → lv_has ls 5 [(0, .ref (ad 0)), (1, .int x1), (2, .int x2)] → (wX11_stayingDrums_4 ids post  n) x1 x2 σ → W p l e rmX11_stayingDrums s m args below meth c H locs 0 0 Q (F0 m 4 ls []) := fun x1 x2 σ H locs ls hW hl h => ih x1 x2 σ H locs ls hW hl h
      rw [wX11_stayingDrums_4_s] at h
      try dsimp only at h
      generalize wX11_stayingDrums_4 ids post  n = k4 at h hk4
      refine lv_iload_n hx hb dX11_stayingDrums_4 rfl (lv_at hl 2 rfl) ?_
      refine lv_aload_n hx hb dX11_stayingDrums_5 rfl (lv_at hl 0 rfl) ?_
      refine xgX11_0r hx hb hts hown hK hW 0 hcX11_stayingDrums_X11 (hI 0 (by decide)) lX_0 (hts _ hwX11_stayingDrums_0) (sX_0_0 _) dX11_stayingDrums_6 ?_
      refine xgX6_3 hx hb hts hown hK hW 1 hcX11_stayingDrums_X6 (hI 1 (by decide)) lX_1 (hts _ hwX11_stayingDrums_1) dX11_stayingDrums_9 ?_
      refine lv_icmp_ge (tgt := 69) hx hb dX11_stayingDrums_12 (by decide) (fun c4 => ?_) (fun c4 => ?_)
      · have h := h.1 c4
        refine lv_iload_n hx hb dX11_stayingDrums_69 rfl (lv_at hl 1 rfl) ?_
        exact kr _ _ _ _ _ _ hW h dX11_stayingDrums_70
      · have h := h.2 c4
        refine lv_aload_n hx hb dX11_stayingDrums_15 rfl (lv_at hl 0 rfl) ?_
        refine xgX11_0r hx hb hts hown hK hW 0 hcX11_stayingDrums_X11 (hI 0 (by decide)) lX_0 (hts _ hwX11_stayingDrums_0) (sX_0_0 _) dX11_stayingDrums_16 ?_
        refine xgX6_12r hx hb hts hown hK hW 1 hcX11_stayingDrums_X6 (hI 1 (by decide)) lX_1 (hts _ hwX11_stayingDrums_2) (sX_1_12 _) dX11_stayingDrums_19 ?_
        refine lv_iload_n hx hb dX11_stayingDrums_22 rfl (lv_at hl 2 rfl) ?_
        obtain ⟨hi5, h⟩ := h
        obtain ⟨o6, hr7, ok_o6, h⟩ := h
        refine x_ald hx hb hK hW 11 0 (hI 11 (by decide)) lX_11 rfl hi5 ((sX_11 _ _).trans hr7) dX11_stayingDrums_23 ?_
        refine lv_astore_n (lv' := [(3, .ref (ad o6)), (0, .ref (ad 0)), (1, .int x1), (2, .int x2)]) hx hb dX11_stayingDrums_24 rfl hl (by decide) rfl (fun ls hl => ?_)
        refine lv_iconst (v := 1) hx hb dX11_stayingDrums_25 (by decide) ?_
        refine lv_aload_n hx hb dX11_stayingDrums_26 rfl (lv_at hl 0 rfl) ?_
        refine xgB_4 hx hb hts hown hK hW o6 hBX11_stayingDrums ok_o6 (hts _ hwX11_stayingDrums_3) (fun _ h => h) dX11_stayingDrums_27 ?_
        refine lv_ishl hx hb dX11_stayingDrums_30 ?_
        refine lv_topi (fun v8 hv8 => ?_)
        have h := h v8 hv8
        refine lv_istore (lv' := [(4, .int v8), (3, .ref (ad o6)), (0, .ref (ad 0)), (1, .int x1), (2, .int x2)]) hx hb dX11_stayingDrums_31 hl (by decide) rfl (fun ls hl => ?_)
        refine lv_iload_n hx hb dX11_stayingDrums_33 rfl (lv_at hl 4 rfl) ?_
        refine lv_iconst (v := 4) hx hb dX11_stayingDrums_34 (by decide) ?_
        refine lv_icmp_lt (tgt := 49) hx hb dX11_stayingDrums_35 (by decide) (fun c9 => ?_) (fun c9 => ?_)
        · have h := h.1 c9
          exact blk49  k4 hk4 x1 x2 v8 _ _ _ _ hW (lv_sub hl [2, 3, 4, 0] rfl) h
        · have h := h.2 c9
          refine lv_iload hx hb dX11_stayingDrums_38 (lv_at hl 0 rfl) ?_
          refine lv_iconst (v := 1) hx hb dX11_stayingDrums_40 (by decide) ?_
          refine lv_aload_n hx hb dX11_stayingDrums_41 rfl (lv_at hl 1 rfl) ?_
          refine xgB_5 hx hb hts hown hK hW o6 hBX11_stayingDrums ok_o6 (hts _ hwX11_stayingDrums_4) (fun _ h => h) dX11_stayingDrums_42 ?_
          refine lv_ishl hx hb dX11_stayingDrums_45 ?_
          refine lv_ior hx hb dX11_stayingDrums_46 ?_
          refine lv_topi (fun v10 hv10 => ?_)
          have h := h v10 hv10
          refine lv_istore (lv' := [(4, .int v10), (3, .ref (ad o6)), (0, .ref (ad 0)), (1, .int x1), (2, .int x2)]) hx hb dX11_stayingDrums_47 hl (by decide) rfl (fun ls hl => ?_)
          exact blk49  k4 hk4 x1 x2 v10 _ _ _ _ hW (lv_sub hl [2, 3, 4, 0] rfl) h
  have main : ∀ (H : Heap) (locs : List Loc) (ls : Array Slot), xW D KA layX stX ad ids (xA ad ids s.heap.size) s.heap σ H locs → lv_has ls 5 [(0, .ref (ad 0))] → W p l e rmX11_stayingDrums s m args below meth c H locs 0 0 Q (F0 m 0 ls []) := by
    intro H locs ls hW hl
    unfold wX11_stayingDrums at h
    refine lv_iconst (v := 0) hx hb dX11_stayingDrums_0 (by decide) ?_
    refine lv_istore_n (lv' := [(1, .int (0 : Int32)), (0, .ref (ad 0))]) hx hb dX11_stayingDrums_1 rfl hl (by decide) rfl (fun ls hl => ?_)
    refine lv_iconst (v := 0) hx hb dX11_stayingDrums_2 (by decide) ?_
    refine lv_istore_n (lv' := [(2, .int (0 : Int32)), (1, .int (0 : Int32)), (0, .ref (ad 0))]) hx hb dX11_stayingDrums_3 rfl hl (by decide) rfl (fun ls hl => ?_)
    obtain ⟨n, h⟩ := h
    exact blk4    n (0 : Int32) (0 : Int32) _ _ _ _ hW (lv_sub hl [2, 1, 0] rfl) h
  exact main _ _ _ hW hl
