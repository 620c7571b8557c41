theorem hwX11_firstWorn_0 : (.fieldLink RX11 10 "FortyBelts" "mill" "LFortyBelts$Mill;" : Cond) ∈ wsX11_firstWorn := (List.mem_cons_of_mem _ (List.mem_append_left _ (List.mem_append_left _ (List.mem_append_left _ (List.mem_append_left _ (List.mem_append_left _ (List.mem_append_left _ (List.mem_append_left _ (List.mem_append_left _ (List.mem_append_left _ (List.mem_append_left _ (List.mem_append_left _ (List.mem_of_getElem? (i := 0) rfl)))))))))))))
theorem hwX11_firstWorn_1 : (.fieldLink RX11 145 "FortyBelts$Mill" "beltCount" "I" : Cond) ∈ wsX11_firstWorn := (List.mem_cons_of_mem _ (List.mem_append_left _ (List.mem_append_left _ (List.mem_append_left _ (List.mem_append_left _ (List.mem_append_left _ (List.mem_append_left _ (List.mem_append_left _ (List.mem_append_left _ (List.mem_append_left _ (List.mem_append_left _ (List.mem_append_left _ (List.mem_of_getElem? (i := 1) rfl)))))))))))))
theorem hwX11_firstWorn_2 : (.fieldLink RX11 163 "FortyBelts$Mill" "belts" "[LFortyBelts$Belt;" : Cond) ∈ wsX11_firstWorn := (List.mem_cons_of_mem _ (List.mem_append_left _ (List.mem_append_left _ (List.mem_append_left _ (List.mem_append_left _ (List.mem_append_left _ (List.mem_append_left _ (List.mem_append_left _ (List.mem_append_left _ (List.mem_append_left _ (List.mem_append_left _ (List.mem_append_left _ (List.mem_of_getElem? (i := 2) rfl)))))))))))))
theorem hcX11_firstWorn_X11 : ∀ w ∈ wsX110, w ∈ wsX11_firstWorn := fun _ h => (List.mem_cons_of_mem _ (List.mem_append_left _ (List.mem_append_left _ (List.mem_append_left _ (List.mem_append_left _ (List.mem_append_left _ (List.mem_append_left _ (List.mem_append_left _ (List.mem_append_left _ (List.mem_append_left _ (List.mem_append_right _ h)))))))))))
theorem hcX11_firstWorn_X6 : ∀ w ∈ wsX60, w ∈ wsX11_firstWorn := fun _ h => (List.mem_cons_of_mem _ (List.mem_append_left _ (List.mem_append_left _ (List.mem_append_left _ (List.mem_append_left _ (List.mem_append_left _ (List.mem_append_left _ (List.mem_append_left _ (List.mem_append_left _ (List.mem_append_right _ h))))))))))
set_option maxHeartbeats 4000000 in
set_option maxRecDepth 100000 in
theorem J_X11_firstWorn {D : va_G} {KA : Nat → ClassId} {zs : ZS} {ad : Nat → Nat} {ids : List Nat} {sz : Nat} (l : Launch) (hI : ∀ c, c < 52 → c ∈ ids) {a1 : Int32}  {σ : St} {post : Int32 → St → Prop} (h : wX11_firstWorn ids a1 σ post) : Met l yX11_firstWorn wsX11_firstWorn rmX11_firstWorn (va_Pc [.ref (ad 0), .int a1] (xIn D KA zs layX stX ad ids sz σ)) (va_Qi post (xOut D KA layX stX ad ids) (xA ad ids sz)) 0 0 (xA ad ids sz) := by
  refine Met.ofW (cc := cX11_firstWorn) (maxL := 6) (ret := (some .int)) (by decide) rfl ?_
  intro p e s m args below meth c s₁ B hml hv
  obtain ⟨hav, hsz, hK, hZ, hP, hD⟩ := hv
  have hx := B.exec
  have hb := B.bytes
  have hr := B.returns
  have hts := atoms_spec (ws := wsX11_firstWorn) B.pre
  have hown : s.vm.findClass RX11 = some m.cls := findClass_of_methodNamed B.named
  have hlocks := B.notSynchronized
  subst hsz
  have hA : ∀ q : Nat, s.heap.size ≤ q → xA ad ids s.heap.size q := fun q h => Or.inr h
  have hW : xW D KA layX stX ad ids (xA ad ids s.heap.size) s.heap σ s.heap [] := ⟨hP, xA_D (D := D) hD, va_S.rf⟩
  have kr : ∀ (v : Int32) (σ : St) (H : Heap) (locs : List Loc) (ls : Array Slot) (pc : Nat), xW D KA layX stX ad ids (xA ad ids s.heap.size) s.heap σ H locs → post v σ → decode cX11_firstWorn pc = .ok (.ireturn, 1) → W p l e rmX11_firstWorn s m args below meth c H locs 0 0 (MQ below (va_Qi post (xOut D KA layX stX ad ids) (xA ad ids s.heap.size)) args s 0 0 (xA ad ids s.heap.size)) (F0 m pc ls [.int v]) := fun v σ H locs ls pc hW h hd => x_iret hx hb hr hlocks hW h hd
  have hl := lv_entry ([.ref (ad 0), .int a1]) (n := 6) (Nat.le_of_ble_eq_true rfl)
  rw [show entryFrame m args 6 = entryFrame m ([.ref (ad 0), .int a1] : List Value).toArray 6 from by rw [hav]]
  rw [lg_entry_eq]
  generalize (lg_sl ([.ref (ad 0), .int a1]) ++ List.replicate (6 - (lg_sl ([.ref (ad 0), .int a1])).length) Slot.unset).toArray = ls at hl ⊢
  have hl : lv_has ls 6 [(0, .ref (ad 0)), (1, .int a1)] := hl
  show W p l e rmX11_firstWorn s m args below meth c s.heap [] 0 0 _ _
  generalize MQ below (va_Qi post (xOut D KA layX stX ad ids) (xA ad ids s.heap.size)) args s 0 0 (xA ad ids s.heap.size) = Q at kr ⊢
  have blk59 : ∀ (x1 : Int32) (k7 : Int32 → Int32 → Int32 → St → Prop) (hk7 : ∀ (x2 : Int32) (x3 : Int32) (x4 : Int32) (σ : St) (H : Heap) (locs : List Loc) (ls : Array Slot), xW D KA layX stX ad ids (xA ad ids s.heap.size) s.heap σ H locs → lv_has ls 6 [(0, .ref (ad 0)), (1, .int x1), (2, .int x2), (3, .int x3), (4, .int x4)] → k7 x2 x3 x4 σ → W p l e rmX11_firstWorn s m args below meth c H locs 0 0 Q (F0 m 7 ls [])) (x2 : Int32) (x3 : Int32) (x4 : Int32) (σ : St) (H : Heap) (locs : List Loc) (ls : Array Slot), xW D KA layX stX ad ids (xA ad ids s.heap.size) s.heap σ H locs → lv_has ls 6 [(0, .ref (ad 0)), (1, .int x1), (2, .int x2), (3, .int x3), (4, .int x4)] → wX11_firstWorn_59 ids k7 post x1 x2 x3 x4 σ → W p l e rmX11_firstWorn s m args below meth c H locs 0 0 Q (F0 m 59 ls []) := by
    intro x1 k7 hk7 x2 x3 x4 σ H locs ls hW hl h
    unfold wX11_firstWorn_59 at h
    obtain ⟨v1, hv1⟩ : ∃ y : Int32, y = x4 + (1 : Int32) := ⟨_, rfl⟩
    have h := h v1 hv1
    refine lv_iinc (v := v1) (lv' := [(4, .int v1), (0, .ref (ad 0)), (1, .int x1), (2, .int x2), (3, .int x3)]) hx hb dX11_firstWorn_59 hl (k := 4) rfl (by rw [hv1]; rfl) (by decide) rfl (fun ls hl => ?_)
    refine lv_goto (tgt := 7) hx hb dX11_firstWorn_62 (by decide) ?_
    exact hk7 x2 x3 v1 _ _ _ _ hW (lv_sub hl [1, 2, 3, 4, 0] rfl) h
  have blk53 : ∀ (x1 : Int32) (k7 : Int32 → Int32 → Int32 → St → Prop) (hk7 : ∀ (x2 : Int32) (x3 : Int32) (x4 : Int32) (σ : St) (H : Heap) (locs : List Loc) (ls : Array Slot), xW D KA layX stX ad ids (xA ad ids s.heap.size) s.heap σ H locs → lv_has ls 6 [(0, .ref (ad 0)), (1, .int x1), (2, .int x2), (3, .int x3), (4, .int x4)] → k7 x2 x3 x4 σ → W p l e rmX11_firstWorn s m args below meth c H locs 0 0 Q (F0 m 7 ls [])) (x4 : Int32) (x5 : Int32) (σ : St) (H : Heap) (locs : List Loc) (ls : Array Slot), xW D KA layX stX ad ids (xA ad ids s.heap.size) s.heap σ H locs → lv_has ls 6 [(0, .ref (ad 0)), (1, .int x1), (4, .int x4), (5, .int x5)] → wX11_firstWorn_53 ids k7 post x1 x4 x5 σ → W p l e rmX11_firstWorn s m args below meth c H locs 0 0 Q (F0 m 53 ls []) := by
    intro x1 k7 hk7 x4 x5 σ H locs ls hW hl h
    unfold wX11_firstWorn_53 at h
    refine lv_iload hx hb dX11_firstWorn_53 (lv_at hl 2 rfl) ?_
    refine lv_istore_n (lv' := [(2, .int x4), (0, .ref (ad 0)), (1, .int x1), (4, .int x4), (5, .int x5)]) hx hb dX11_firstWorn_55 rfl hl (by decide) rfl (fun ls hl => ?_)
    refine lv_iload hx hb dX11_firstWorn_56 (lv_at hl 4 rfl) ?_
    refine lv_istore_n (lv' := [(3, .int x5), (2, .int x4), (0, .ref (ad 0)), (1, .int x1), (4, .int x4), (5, .int x5)]) hx hb dX11_firstWorn_58 rfl hl (by decide) rfl (fun ls hl => ?_)
    exact blk59 x1 k7 hk7 x4 x5 x4 _ _ _ _ hW (lv_sub hl [2, 3, 1, 0, 4] rfl) h
  have blk7 : ∀ (x1 : Int32) (n : Nat) (x2 : Int32) (x3 : Int32) (x4 : Int32) (σ : St) (H : Heap) (locs : List Loc) (ls : Array Slot), xW D KA layX stX ad ids (xA ad ids s.heap.size) s.heap σ H locs → lv_has ls 6 [(0, .ref (ad 0)), (1, .int x1), (2, .int x2), (3, .int x3), (4, .int x4)] → wX11_firstWorn_7 ids post x1 n x2 x3 x4 σ → W p l e rmX11_firstWorn s m args below meth c H locs 0 0 Q (F0 m 7 ls []) := by
    intro   x1 n
    induction n with
    | zero => intro x2 x3 x4 σ H locs ls hW hl h; exact (h : False).elim
    | succ n ih =>
      intro x2 x3 x4 σ H locs ls hW hl h
      have hk7 : ∀ (x2 : Int32) (x3 : Int32) (x4 : Int32) (σ : St) (H : Heap) (locs : List Loc) (ls : Array Slot), xW D KA layX stX ad ids (xA ad ids s.heap.size) s.heap σ H locs → lv_has ls 6 [(0, .ref (ad 0)), (1, .int x1), (2, .int x2), (3, .int x3), (4, .int x4)] → (wX11_firstWorn_7 ids post x1 n) x2 x3 x4 σ → W p l e rmX11_firstWorn s m args below meth c H locs 0 0 Q (F0 m 7 ls []) := fun x2 x3 x4 σ H locs ls hW hl h => ih x2 x3 x4 σ H locs ls hW hl h
      rw [wX11_firstWorn_7_s] at h
      try dsimp only at h
      generalize wX11_firstWorn_7 ids post x1 n = k7 at h hk7
      refine lv_iload hx hb dX11_firstWorn_7 (lv_at hl 4 rfl) ?_
      refine lv_aload_n hx hb dX11_firstWorn_9 rfl (lv_at hl 0 rfl) ?_
      refine xgX11_0r hx hb hts hown hK hW 0 hcX11_firstWorn_X11 (hI 0 (by decide)) lX_0 (hts _ hwX11_firstWorn_0) (sX_0_0 _) dX11_firstWorn_10 ?_
      refine xgX6_3 hx hb hts hown hK hW 1 hcX11_firstWorn_X6 (hI 1 (by decide)) lX_1 (hts _ hwX11_firstWorn_1) dX11_firstWorn_13 ?_
      refine lv_icmp_ge (tgt := 65) hx hb dX11_firstWorn_16 (by decide) (fun c2 => ?_) (fun c2 => ?_)
      · have h := h.1 c2
        refine lv_iload_n hx hb dX11_firstWorn_65 rfl (lv_at hl 2 rfl) ?_
        exact kr _ _ _ _ _ _ hW h dX11_firstWorn_66
      · have h := h.2 c2
        refine lv_aload_n hx hb dX11_firstWorn_19 rfl (lv_at hl 0 rfl) ?_
        refine lv_aload_n hx hb dX11_firstWorn_20 rfl (lv_at hl 0 rfl) ?_
        refine xgX11_0r hx hb hts hown hK hW 0 hcX11_firstWorn_X11 (hI 0 (by decide)) lX_0 (hts _ hwX11_firstWorn_0) (sX_0_0 _) dX11_firstWorn_21 ?_
        refine xgX6_12r hx hb hts hown hK hW 1 hcX11_firstWorn_X6 (hI 1 (by decide)) lX_1 (hts _ hwX11_firstWorn_2) (sX_1_12 _) dX11_firstWorn_24 ?_
        refine lv_iload hx hb dX11_firstWorn_27 (lv_at hl 4 rfl) ?_
        obtain ⟨hi3, h⟩ := h
        obtain ⟨o4, hr5, ok_o4, h⟩ := h
        refine x_ald hx hb hK hW 11 0 (hI 11 (by decide)) lX_11 rfl hi3 ((sX_11 _ _).trans hr5) dX11_firstWorn_29 ?_
        refine lv_iload_n hx hb dX11_firstWorn_30 rfl (lv_at hl 1 rfl) ?_
        refine x_calli (va_runV (As := [.ref (ad o4), .int x1]) (rest := []) ⟨hx, hb, hml, hown, hts⟩ (J_X11_days l hI ok_o4 h) (cwV 2 hts gX11_firstWorn_X11_days rfl rfl rfl hdV_X11_days ⟨Nat.le_of_ble_eq_true rfl, Nat.le_of_ble_eq_true rfl⟩) (x_preV (ci := 11) hK hZ hA hW (hI 0 (by decide)) lX_0 rfl) rfl rfl hl.1 rfl (lv_room (Nat.le_of_ble_eq_true rfl)) dX11_firstWorn_31 ⟨Nat.zero_le _, Nat.zero_le _⟩) hW hA (fun r7 σ6 H locs h hW => ?_)
        try dsimp only at h
        refine lv_istore (lv' := [(5, .int r7), (0, .ref (ad 0)), (1, .int x1), (2, .int x2), (3, .int x3), (4, .int x4)]) hx hb dX11_firstWorn_34 hl (by decide) rfl (fun ls hl => ?_)
        refine lv_iload hx hb dX11_firstWorn_36 (lv_at hl 0 rfl) ?_
        refine lv_iconst (v := (-1)) hx hb dX11_firstWorn_38 (by decide) ?_
        refine lv_icmp_eq (tgt := 59) hx hb dX11_firstWorn_39 (by decide) (fun c8 => ?_) (fun c8 => ?_)
        · have h := h.1 c8
          exact blk59 x1 k7 hk7 x2 x3 x4 _ _ _ _ hW (lv_sub hl [1, 2, 3, 4, 5] rfl) h
        · have h := h.2 c8
          refine lv_iload_n hx hb dX11_firstWorn_42 rfl (lv_at hl 3 rfl) ?_
          refine lv_iconst (v := (-1)) hx hb dX11_firstWorn_43 (by decide) ?_
          refine lv_icmp_eq (tgt := 53) hx hb dX11_firstWorn_44 (by decide) (fun c9 => ?_) (fun c9 => ?_)
          · have h := h.1 c9
            exact blk53 x1 k7 hk7 x4 r7 _ _ _ _ hW (lv_sub hl [1, 2, 5, 0] rfl) h
          · have h := h.2 c9
            refine lv_iload hx hb dX11_firstWorn_47 (lv_at hl 0 rfl) ?_
            refine lv_iload_n hx hb dX11_firstWorn_49 rfl (lv_at hl 4 rfl) ?_
            refine lv_icmp_ge (tgt := 59) hx hb dX11_firstWorn_50 (by decide) (fun c10 => ?_) (fun c10 => ?_)
            · have h := h.1 c10
              exact blk59 x1 k7 hk7 x2 x3 x4 _ _ _ _ hW (lv_sub hl [1, 2, 3, 4, 5] rfl) h
            · have h := h.2 c10
              exact blk53 x1 k7 hk7 x4 r7 _ _ _ _ hW (lv_sub hl [1, 2, 5, 0] rfl) h
  have main : ∀ (H : Heap) (locs : List Loc) (ls : Array Slot), xW D KA layX stX ad ids (xA ad ids s.heap.size) s.heap σ H locs → lv_has ls 6 [(0, .ref (ad 0)), (1, .int a1)] → W p l e rmX11_firstWorn s m args below meth c H locs 0 0 Q (F0 m 0 ls []) := by
    intro H locs ls hW hl
    unfold wX11_firstWorn at h
    refine lv_iconst (v := (-1)) hx hb dX11_firstWorn_0 (by decide) ?_
    refine lv_istore_n (lv' := [(2, .int (-1 : Int32)), (0, .ref (ad 0)), (1, .int a1)]) hx hb dX11_firstWorn_1 rfl hl (by decide) rfl (fun ls hl => ?_)
    refine lv_iconst (v := 0) hx hb dX11_firstWorn_2 (by decide) ?_
    refine lv_istore_n (lv' := [(3, .int (0 : Int32)), (2, .int (-1 : Int32)), (0, .ref (ad 0)), (1, .int a1)]) hx hb dX11_firstWorn_3 rfl hl (by decide) rfl (fun ls hl => ?_)
    refine lv_iconst (v := 0) hx hb dX11_firstWorn_4 (by decide) ?_
    refine lv_istore (lv' := [(4, .int (0 : Int32)), (3, .int (0 : Int32)), (2, .int (-1 : Int32)), (0, .ref (ad 0)), (1, .int a1)]) hx hb dX11_firstWorn_5 hl (by decide) rfl (fun ls hl => ?_)
    obtain ⟨n, h⟩ := h
    exact blk7   a1 n (-1 : Int32) (0 : Int32) (0 : Int32) _ _ _ _ hW (lv_sub hl [3, 4, 2, 1, 0] rfl) h
  exact main _ _ _ hW hl
theorem hwX11_force_0 : (.fieldLink RX11 50 "FortyBelts" "textCount" "I" : Cond) ∈ wsX11_force := (List.mem_cons_of_mem _ (List.mem_append_left _ (List.mem_of_getElem? (i := 0) rfl)))
theorem hwX11_force_1 : (.fieldLink RX11 243 "FortyBelts" "rule" "I" : Cond) ∈ wsX11_force := (List.mem_cons_of_mem _ (List.mem_append_left _ (List.mem_of_getElem? (i := 1) rfl)))
theorem hcX11_force_X11 : ∀ w ∈ wsX110, w ∈ wsX11_force := fun _ h => (List.mem_cons_of_mem _ (List.mem_append_right _ h))
set_option maxHeartbeats 4000000 in
set_option maxRecDepth 100000 in
theorem J_X11_force {D : va_G} {KA : Nat → ClassId} {zs : ZS} {ad : Nat → Nat} {ids : List Nat} {sz : Nat} (l : Launch) (hI : ∀ c, c < 52 → c ∈ ids) {a1 : Int32}  {σ : St} {post : Int32 → St → Prop} (h : wX11_force ids a1 σ post) : Met l yX11_force wsX11_force rmX11_force (va_Pc [.ref (ad 0), .int a1] (xIn D KA zs layX stX ad ids sz σ)) (va_Qi post (xOut D KA layX stX ad ids) (xA ad ids sz)) 0 0 (xA ad ids sz) := by
  refine Met.ofW (cc := cX11_force) (maxL := 3) (ret := (some .int)) (by decide) rfl ?_
  intro p e s m args below meth c s₁ B hml hv
  obtain ⟨hav, hsz, hK, hZ, hP, hD⟩ := hv
  have hx := B.exec
  have hb := B.bytes
  have hr := B.returns
  have hts := atoms_spec (ws := wsX11_force) B.pre
  have hown : s.vm.findClass RX11 = some m.cls := findClass_of_methodNamed B.named
  have hlocks := B.notSynchronized
  subst hsz
  have hA : ∀ q : Nat, s.heap.size ≤ q → xA ad ids s.heap.size q := fun q h => Or.inr h
  have hW : xW D KA layX stX ad ids (xA ad ids s.heap.size) s.heap σ s.heap [] := ⟨hP, xA_D (D := D) hD, va_S.rf⟩
  have kr : ∀ (v : Int32) (σ : St) (H : Heap) (locs : List Loc) (ls : Array Slot) (pc : Nat), xW D KA layX stX ad ids (xA ad ids s.heap.size) s.heap σ H locs → post v σ → decode cX11_force pc = .ok (.ireturn, 1) → W p l e rmX11_force s m args below meth c H locs 0 0 (MQ below (va_Qi post (xOut D KA layX stX ad ids) (xA ad ids s.heap.size)) args s 0 0 (xA ad ids s.heap.size)) (F0 m pc ls [.int v]) := fun v σ H locs ls pc hW h hd => x_iret hx hb hr hlocks hW h hd
  have hl := lv_entry ([.ref (ad 0), .int a1]) (n := 3) (Nat.le_of_ble_eq_true rfl)
  rw [show entryFrame m args 3 = entryFrame m ([.ref (ad 0), .int a1] : List Value).toArray 3 from by rw [hav]]
  rw [lg_entry_eq]
  generalize (lg_sl ([.ref (ad 0), .int a1]) ++ List.replicate (3 - (lg_sl ([.ref (ad 0), .int a1])).length) Slot.unset).toArray = ls at hl ⊢
  have hl : lv_has ls 3 [(0, .ref (ad 0)), (1, .int a1)] := hl
  show W p l e rmX11_force s m args below meth c s.heap [] 0 0 _ _
  generalize MQ below (va_Qi post (xOut D KA layX stX ad ids) (xA ad ids s.heap.size)) args s 0 0 (xA ad ids s.heap.size) = Q at kr ⊢
  have main : ∀ (H : Heap) (locs : List Loc) (ls : Array Slot), xW D KA layX stX ad ids (xA ad ids s.heap.size) s.heap σ H locs → lv_has ls 3 [(0, .ref (ad 0)), (1, .int a1)] → W p l e rmX11_force s m args below meth c H locs 0 0 Q (F0 m 0 ls []) := by
    intro H locs ls hW hl
    unfold wX11_force at h
    refine lv_iload_n hx hb dX11_force_0 rfl (lv_at hl 1 rfl) ?_
    refine lv_iconst (v := 0) hx hb dX11_force_1 (by decide) ?_
    refine lv_aload_n hx hb dX11_force_2 rfl (lv_at hl 0 rfl) ?_
    refine xgX11_3 hx hb hts hown hK hW 0 hcX11_force_X11 (hI 0 (by decide)) lX_0 (hts _ hwX11_force_0) dX11_force_3 ?_
    refine lv_iconst (v := 1) hx hb dX11_force_6 (by decide) ?_
    refine lv_isub hx hb dX11_force_7 ?_
    refine x_calli (va_runS (As := [.int a1, .int (0 : Int32), .int ((gI σ 0 3) - (1 : Int32))]) (rest := []) ⟨hx, hb, hml, hown, hts⟩ (J_X11_within l hI h) (va_cwS 3 hts gX11_force_X11_within rfl rfl rfl hdS_X11_within ⟨Nat.le_of_ble_eq_true rfl, Nat.le_of_ble_eq_true rfl⟩) (x_preS hK hZ hA hW) rfl rfl hl.1 rfl (lv_room (Nat.le_of_ble_eq_true rfl)) dX11_force_8 ⟨Nat.zero_le _, Nat.zero_le _⟩) hW hA (fun r1002 σ1001 H locs h hW => ?_)
    try dsimp only at h
    refine lv_if_ne (tgt := 17) hx hb dX11_force_11 (by decide) (fun c1003 => ?_) (fun c1003 => ?_)
    · have h := h.1 c1003
      refine lv_aload_n hx hb dX11_force_17 rfl (lv_at hl 0 rfl) ?_
      refine xgX11_4 hx hb hts hown hK hW 0 hcX11_force_X11 (hI 0 (by decide)) lX_0 (hts _ hwX11_force_1) dX11_force_18 ?_
      refine lv_topi (fun v1004 hv1004 => ?_)
      have h := h v1004 hv1004
      refine lv_istore_n (lv' := [(2, .int v1004), (0, .ref (ad 0)), (1, .int a1)]) hx hb dX11_force_21 rfl hl (by decide) rfl (fun ls hl => ?_)
      refine lv_aload_n hx hb dX11_force_22 rfl (lv_at hl 1 rfl) ?_
      refine lv_iload_n hx hb dX11_force_23 rfl (lv_at hl 2 rfl) ?_
      refine xpX11_4 hx hb hts hown hK hW 0 hcX11_force_X11 (hI 0 (by decide)) lX_0 (hts _ hwX11_force_1) dX11_force_24 (fun σ1005 H locs hσ1005 hW => ?_)
      have h := h σ1005 hσ1005
      refine lv_iload_n hx hb dX11_force_27 rfl (lv_at hl 0 rfl) ?_
      exact kr _ _ _ _ _ _ hW h dX11_force_28
    · have h := h.2 c1003
      refine lv_bipush (v := (-2)) hx hb dX11_force_14 (by decide) ?_
      exact kr _ _ _ _ _ _ hW h dX11_force_16
  exact main _ _ _ hW hl
theorem hwX11_stoppedBy_0 : (.fieldLink RX11 10 "FortyBelts" "mill" "LFortyBelts$Mill;" : Cond) ∈ wsX11_stoppedBy := (List.mem_cons_of_mem _ (List.mem_append_left _ (List.mem_append_left _ (List.mem_append_left _ (List.mem_append_left _ (List.mem_append_left _ (List.mem_append_left _ (List.mem_append_left _ (List.mem_append_left _ (List.mem_append_left _ (List.mem_append_left _ (List.mem_of_getElem? (i := 0) rfl))))))))))))
theorem hwX11_stoppedBy_1 : (.fieldLink RX11 167 "FortyBelts$Belt" "on" "Z" : Cond) ∈ wsX11_stoppedBy := (List.mem_cons_of_mem _ (List.mem_append_left _ (List.mem_append_left _ (List.mem_append_left _ (List.mem_append_left _ (List.mem_append_left _ (List.mem_append_left _ (List.mem_append_left _ (List.mem_append_left _ (List.mem_append_left _ (List.mem_append_left _ (List.mem_of_getElem? (i := 1) rfl))))))))))))
theorem hcX11_stoppedBy_X11 : ∀ w ∈ wsX110, w ∈ wsX11_stoppedBy := fun _ h => (List.mem_cons_of_mem _ (List.mem_append_left _ (List.mem_append_left _ (List.mem_append_left _ (List.mem_append_left _ (List.mem_append_left _ (List.mem_append_left _ (List.mem_append_left _ (List.mem_append_left _ (List.mem_append_right _ h))))))))))
theorem hcX11_stoppedBy_X0 : ∀ w ∈ wsX00, w ∈ wsX11_stoppedBy := fun _ h => (List.mem_cons_of_mem _ (List.mem_append_left _ (List.mem_append_left _ (List.mem_append_left _ (List.mem_append_left _ (List.mem_append_left _ (List.mem_append_left _ (List.mem_append_left _ (List.mem_append_right _ h)))))))))
theorem hcX11_stoppedBy_X1 : ∀ w ∈ wsX10, w ∈ wsX11_stoppedBy := fun _ h => (List.mem_cons_of_mem _ (List.mem_append_left _ (List.mem_append_left _ (List.mem_append_left _ (List.mem_append_left _ (List.mem_append_left _ (List.mem_append_left _ (List.mem_append_right _ h))))))))
theorem hcX11_stoppedBy_X2 : ∀ w ∈ wsX20, w ∈ wsX11_stoppedBy := fun _ h => (List.mem_cons_of_mem _ (List.mem_append_left _ (List.mem_append_left _ (List.mem_append_left _ (List.mem_append_left _ (List.mem_append_left _ (List.mem_append_right _ h)))))))
theorem hcX11_stoppedBy_X3 : ∀ w ∈ wsX30, w ∈ wsX11_stoppedBy := fun _ h => (List.mem_cons_of_mem _ (List.mem_append_left _ (List.mem_append_left _ (List.mem_append_left _ (List.mem_append_left _ (List.mem_append_right _ h))))))
theorem hcX11_stoppedBy_X4 : ∀ w ∈ wsX40, w ∈ wsX11_stoppedBy := fun _ h => (List.mem_cons_of_mem _ (List.mem_append_left _ (List.mem_append_left _ (List.mem_append_left _ (List.mem_append_right _ h)))))
theorem hcX11_stoppedBy_X10 : ∀ w ∈ wsX100, w ∈ wsX11_stoppedBy := fun _ h => (List.mem_cons_of_mem _ (List.mem_append_left _ (List.mem_append_left _ (List.mem_append_right _ h))))
theorem hBX11_stoppedBy : xHB wsX11_stoppedBy := ⟨hcX11_stoppedBy_X0, hcX11_stoppedBy_X1, hcX11_stoppedBy_X2, hcX11_stoppedBy_X3, hcX11_stoppedBy_X4, hcX11_stoppedBy_X10⟩
set_option maxHeartbeats 4000000 in
set_option maxRecDepth 100000 in
theorem J_X11_stoppedBy {D : va_G} {KA : Nat → ClassId} {zs : ZS} {ad : Nat → Nat} {ids : List Nat} {sz : Nat} (l : Launch) (hI : ∀ c, c < 52 → c ∈ ids) {a1 : Nat} (ok_a1 : okB ids a1) {σ : St} {post : Int32 → St → Prop} (h : wX11_stoppedBy ids a1 σ post) : Met l yX11_stoppedBy wsX11_stoppedBy rmX11_stoppedBy (va_Pc [.ref (ad 0), .ref (ad a1)] (xIn D KA zs layX stX ad ids sz σ)) (va_Qi post (xOut D KA layX stX ad ids) (xA ad ids sz)) 0 0 (xA ad ids sz) := by
  refine Met.ofW (cc := cX11_stoppedBy) (maxL := 5) (ret := (some .int)) (by decide) rfl ?_
  intro p e s m args below meth c s₁ B hml hv
  obtain ⟨hav, hsz, hK, hZ, hP, hD⟩ := hv
  have hx := B.exec
  have hb := B.bytes
  have hr := B.returns
  have hts := atoms_spec (ws := wsX11_stoppedBy) B.pre
  have hown : s.vm.findClass RX11 = some m.cls := findClass_of_methodNamed B.named
  have hlocks := B.notSynchronized
  subst hsz
  have hA : ∀ q : Nat, s.heap.size ≤ q → xA ad ids s.heap.size q := fun q h => Or.inr h
  have hW : xW D KA layX stX ad ids (xA ad ids s.heap.size) s.heap σ s.heap [] := ⟨hP, xA_D (D := D) hD, va_S.rf⟩
  have kr : ∀ (v : Int32) (σ : St) (H : Heap) (locs : List Loc) (ls : Array Slot) (pc : Nat), xW D KA layX stX ad ids (xA ad ids s.heap.size) s.heap σ H locs → post v σ → decode cX11_stoppedBy pc = .ok (.ireturn, 1) → W p l e rmX11_stoppedBy s m args below meth c H locs 0 0 (MQ below (va_Qi post (xOut D KA layX stX ad ids) (xA ad ids s.heap.size)) args s 0 0 (xA ad ids s.heap.size)) (F0 m pc ls [.int v]) := fun v σ H locs ls pc hW h hd => x_iret hx hb hr hlocks hW h hd
  have hl := lv_entry ([.ref (ad 0), .ref (ad a1)]) (n := 5) (Nat.le_of_ble_eq_true rfl)
  rw [show entryFrame m args 5 = entryFrame m ([.ref (ad 0), .ref (ad a1)] : List Value).toArray 5 from by rw [hav]]
  rw [lg_entry_eq]
  generalize (lg_sl ([.ref (ad 0), .ref (ad a1)]) ++ List.replicate (5 - (lg_sl ([.ref (ad 0), .ref (ad a1)])).length) Slot.unset).toArray = ls at hl ⊢
  have hl : lv_has ls 5 [(0, .ref (ad 0)), (1, .ref (ad a1))] := hl
  show W p l e rmX11_stoppedBy s m args below meth c s.heap [] 0 0 _ _
  generalize MQ below (va_Qi post (xOut D KA layX stX ad ids) (xA ad ids s.heap.size)) args s 0 0 (xA ad ids s.heap.size) = Q at kr ⊢
  have main : ∀ (H : Heap) (locs : List Loc) (ls : Array Slot), xW D KA layX stX ad ids (xA ad ids s.heap.size) s.heap σ H locs → lv_has ls 5 [(0, .ref (ad 0)), (1, .ref (ad a1))] → W p l e rmX11_stoppedBy s m args below meth c H locs 0 0 Q (F0 m 0 ls []) := by
    intro H locs ls hW hl
    unfold wX11_stoppedBy at h
    refine lv_aload_n hx hb dX11_stoppedBy_0 rfl (lv_at hl 0 rfl) ?_
    refine xgX11_0r hx hb hts hown hK hW 0 hcX11_stoppedBy_X11 (hI 0 (by decide)) lX_0 (hts _ hwX11_stoppedBy_0) (sX_0_0 _) dX11_stoppedBy_1 ?_
    refine x_callv (va_runV (As := []) (rest := []) ⟨hx, hb, hml, hown, hts⟩ (J_X6_spin l hI h) (cwV 0 hts gX11_stoppedBy_X6_spin rfl rfl rfl hdV_X6_spin ⟨Nat.le_of_ble_eq_true rfl, Nat.le_of_ble_eq_true rfl⟩) (x_preV (ci := 6) hK hZ hA hW (hI 1 (by decide)) lX_1 rfl) rfl rfl hl.1 rfl (lv_room (Nat.le_of_ble_eq_true rfl)) dX11_stoppedBy_4 ⟨Nat.zero_le _, Nat.zero_le _⟩) hW hA (fun σ1001 H locs h hW => ?_)
    try dsimp only at h
    refine lv_aload_n hx hb dX11_stoppedBy_7 rfl (lv_at hl 0 rfl) ?_
    refine xgX11_0r hx hb hts hown hK hW 0 hcX11_stoppedBy_X11 (hI 0 (by decide)) lX_0 (hts _ hwX11_stoppedBy_0) (sX_0_0 _) dX11_stoppedBy_8 ?_
    refine x_calli (va_runV (As := []) (rest := []) ⟨hx, hb, hml, hown, hts⟩ (J_X6_turning l hI h) (cwV 0 hts gX11_stoppedBy_X6_turning rfl rfl rfl hdV_X6_turning ⟨Nat.le_of_ble_eq_true rfl, Nat.le_of_ble_eq_true rfl⟩) (x_preV (ci := 6) hK hZ hA hW (hI 1 (by decide)) lX_1 rfl) rfl rfl hl.1 rfl (lv_room (Nat.le_of_ble_eq_true rfl)) dX11_stoppedBy_11 ⟨Nat.zero_le _, Nat.zero_le _⟩) hW hA (fun r1003 σ1002 H locs h hW => ?_)
    try dsimp only at h
    refine lv_istore_n (lv' := [(2, .int r1003), (0, .ref (ad 0)), (1, .ref (ad a1))]) hx hb dX11_stoppedBy_14 rfl hl (by decide) rfl (fun ls hl => ?_)
    refine lv_aload_n hx hb dX11_stoppedBy_15 rfl (lv_at hl 2 rfl) ?_
    refine xgB_8 hx hb hts hown hK hW a1 hBX11_stoppedBy ok_a1 (hts _ hwX11_stoppedBy_1) (fun _ h => h) dX11_stoppedBy_16 ?_
    refine lv_topi (fun v1004 hv1004 => ?_)
    have h := h v1004 hv1004
    refine lv_istore_n (lv' := [(3, .int v1004), (2, .int r1003), (0, .ref (ad 0)), (1, .ref (ad a1))]) hx hb dX11_stoppedBy_19 rfl hl (by decide) rfl (fun ls hl => ?_)
    refine lv_aload_n hx hb dX11_stoppedBy_20 rfl (lv_at hl 3 rfl) ?_
    refine lv_iconst (v := 0) hx hb dX11_stoppedBy_21 (by decide) ?_
    refine xpB_8 hx hb hts hown hK hW a1 hBX11_stoppedBy ok_a1 (hts _ hwX11_stoppedBy_1) isB_0 dX11_stoppedBy_22 (fun σ1005 H locs hσ1005 hW => ?_)
    have h := h σ1005 hσ1005
    refine lv_aload_n hx hb dX11_stoppedBy_25 rfl (lv_at hl 2 rfl) ?_
    refine xgX11_0r hx hb hts hown hK hW 0 hcX11_stoppedBy_X11 (hI 0 (by decide)) lX_0 (hts _ hwX11_stoppedBy_0) (sX_0_0 _) dX11_stoppedBy_26 ?_
    refine x_callv (va_runV (As := []) (rest := []) ⟨hx, hb, hml, hown, hts⟩ (J_X6_spin l hI h) (cwV 0 hts gX11_stoppedBy_X6_spin rfl rfl rfl hdV_X6_spin ⟨Nat.le_of_ble_eq_true rfl, Nat.le_of_ble_eq_true rfl⟩) (x_preV (ci := 6) hK hZ hA hW (hI 1 (by decide)) lX_1 rfl) rfl rfl hl.1 rfl (lv_room (Nat.le_of_ble_eq_true rfl)) dX11_stoppedBy_29 ⟨Nat.zero_le _, Nat.zero_le _⟩) hW hA (fun σ1006 H locs h hW => ?_)
    try dsimp only at h
    refine lv_aload_n hx hb dX11_stoppedBy_32 rfl (lv_at hl 2 rfl) ?_
    refine xgX11_0r hx hb hts hown hK hW 0 hcX11_stoppedBy_X11 (hI 0 (by decide)) lX_0 (hts _ hwX11_stoppedBy_0) (sX_0_0 _) dX11_stoppedBy_33 ?_
    refine x_calli (va_runV (As := []) (rest := []) ⟨hx, hb, hml, hown, hts⟩ (J_X6_turning l hI h) (cwV 0 hts gX11_stoppedBy_X6_turning rfl rfl rfl hdV_X6_turning ⟨Nat.le_of_ble_eq_true rfl, Nat.le_of_ble_eq_true rfl⟩) (x_preV (ci := 6) hK hZ hA hW (hI 1 (by decide)) lX_1 rfl) rfl rfl hl.1 rfl (lv_room (Nat.le_of_ble_eq_true rfl)) dX11_stoppedBy_36 ⟨Nat.zero_le _, Nat.zero_le _⟩) hW hA (fun r1008 σ1007 H locs h hW => ?_)
    try dsimp only at h
    refine lv_istore (lv' := [(4, .int r1008), (3, .int v1004), (2, .int r1003), (0, .ref (ad 0)), (1, .ref (ad a1))]) hx hb dX11_stoppedBy_39 hl (by decide) rfl (fun ls hl => ?_)
    refine lv_aload_n hx hb dX11_stoppedBy_41 rfl (lv_at hl 4 rfl) ?_
    refine lv_iload_n hx hb dX11_stoppedBy_42 rfl (lv_at hl 1 rfl) ?_
    obtain ⟨hz1009, h⟩ := h
    refine xpB_8 hx hb hts hown hK hW a1 hBX11_stoppedBy ok_a1 (hts _ hwX11_stoppedBy_1) hz1009 dX11_stoppedBy_43 (fun σ1010 H locs hσ1010 hW => ?_)
    have h := h σ1010 hσ1010
    refine lv_iload_n hx hb dX11_stoppedBy_46 rfl (lv_at hl 2 rfl) ?_
    refine lv_iload hx hb dX11_stoppedBy_47 (lv_at hl 0 rfl) ?_
    refine lv_iconst (v := (-1)) hx hb dX11_stoppedBy_49 (by decide) ?_
    refine lv_ixor hx hb dX11_stoppedBy_50 ?_
    refine lv_iand hx hb dX11_stoppedBy_51 ?_
    exact kr _ _ _ _ _ _ hW h dX11_stoppedBy_52
  exact main _ _ _ hW hl
theorem hwX11_hangs_0 : (.fieldLink RX11 10 "FortyBelts" "mill" "LFortyBelts$Mill;" : Cond) ∈ wsX11_hangs := (List.mem_cons_of_mem _ (List.mem_append_left _ (List.mem_append_left _ (List.mem_append_left _ (List.mem_append_left _ (List.mem_append_left _ (List.mem_append_left _ (List.mem_append_left _ (List.mem_append_left _ (List.mem_append_left _ (List.mem_append_left _ (List.mem_of_getElem? (i := 0) rfl))))))))))))
theorem hwX11_hangs_1 : (.fieldLink RX11 145 "FortyBelts$Mill" "beltCount" "I" : Cond) ∈ wsX11_hangs := (List.mem_cons_of_mem _ (List.mem_append_left _ (List.mem_append_left _ (List.mem_append_left _ (List.mem_append_left _ (List.mem_append_left _ (List.mem_append_left _ (List.mem_append_left _ (List.mem_append_left _ (List.mem_append_left _ (List.mem_append_left _ (List.mem_of_getElem? (i := 1) rfl))))))))))))
theorem hwX11_hangs_2 : (.fieldLink RX11 163 "FortyBelts$Mill" "belts" "[LFortyBelts$Belt;" : Cond) ∈ wsX11_hangs := (List.mem_cons_of_mem _ (List.mem_append_left _ (List.mem_append_left _ (List.mem_append_left _ (List.mem_append_left _ (List.mem_append_left _ (List.mem_append_left _ (List.mem_append_left _ (List.mem_append_left _ (List.mem_append_left _ (List.mem_append_left _ (List.mem_of_getElem? (i := 2) rfl))))))))))))
theorem hcX11_hangs_X11 : ∀ w ∈ wsX110, w ∈ wsX11_hangs := fun _ h => (List.mem_cons_of_mem _ (List.mem_append_left _ (List.mem_append_left _ (List.mem_append_left _ (List.mem_append_left _ (List.mem_append_left _ (List.mem_append_left _ (List.mem_append_left _ (List.mem_append_left _ (List.mem_append_right _ h))))))))))
theorem hcX11_hangs_X6 : ∀ w ∈ wsX60, w ∈ wsX11_hangs := fun _ h => (List.mem_cons_of_mem _ (List.mem_append_left _ (List.mem_append_left _ (List.mem_append_left _ (List.mem_append_left _ (List.mem_append_left _ (List.mem_append_left _ (List.mem_append_left _ (List.mem_append_right _ h)))))))))
set_option maxHeartbeats 4000000 in
set_option maxRecDepth 100000 in
theorem J_X11_hangs {D : va_G} {KA : Nat → ClassId} {zs : ZS} {ad : Nat → Nat} {ids : List Nat} {sz : Nat} (l : Launch) (hI : ∀ c, c < 52 → c ∈ ids)   {σ : St} {post : Int32 → St → Prop} (h : wX11_hangs ids  σ post) : Met l yX11_hangs wsX11_hangs rmX11_hangs (va_Pc [.ref (ad 0)] (xIn D KA zs layX stX ad ids sz σ)) (va_Qi post (xOut D KA layX stX ad ids) (xA ad ids sz)) 0 0 (xA ad ids sz) := by
  refine Met.ofW (cc := cX11_hangs) (maxL := 5) (ret := (some .int)) (by decide) rfl ?_
  intro p e s m args below meth c s₁ B hml hv
  obtain ⟨hav, hsz, hK, hZ, hP, hD⟩ := hv
  have hx := B.exec
  have hb := B.bytes
  have hr := B.returns
  have hts := atoms_spec (ws := wsX11_hangs) B.pre
  have hown : s.vm.findClass RX11 = some m.cls := findClass_of_methodNamed B.named
  have hlocks := B.notSynchronized
  subst hsz
  have hA : ∀ q : Nat, s.heap.size ≤ q → xA ad ids s.heap.size q := fun q h => Or.inr h
  have hW : xW D KA layX stX ad ids (xA ad ids s.heap.size) s.heap σ s.heap [] := ⟨hP, xA_D (D := D) hD, va_S.rf⟩
  have kr : ∀ (v : Int32) (σ : St) (H : Heap) (locs : List Loc) (ls : Array Slot) (pc : Nat), xW D KA layX stX ad ids (xA ad ids s.heap.size) s.heap σ H locs → post v σ → decode cX11_hangs pc = .ok (.ireturn, 1) → W p l e rmX11_hangs s m args below meth c H locs 0 0 (MQ below (va_Qi post (xOut D KA layX stX ad ids) (xA ad ids s.heap.size)) args s 0 0 (xA ad ids s.heap.size)) (F0 m pc ls [.int v]) := fun v σ H locs ls pc hW h hd => x_iret hx hb hr hlocks hW h hd
  have hl := lv_entry ([.ref (ad 0)]) (n := 5) (Nat.le_of_ble_eq_true rfl)
  rw [show entryFrame m args 5 = entryFrame m ([.ref (ad 0)] : List Value).toArray 5 from by rw [hav]]
  rw [lg_entry_eq]
  generalize (lg_sl ([.ref (ad 0)]) ++ List.replicate (5 - (lg_sl ([.ref (ad 0)])).length) Slot.unset).toArray = ls at hl ⊢
  have hl : lv_has ls 5 [(0, .ref (ad 0))] := hl
  show W p l e rmX11_hangs s m args below meth c s.heap [] 0 0 _ _
  generalize MQ below (va_Qi post (xOut D KA layX stX ad ids) (xA ad ids s.heap.size)) args s 0 0 (xA ad ids s.heap.size) = Q at kr ⊢
  have blk54 : ∀ (k6 : Int32 → Int32 → Int32 → St → Prop) (hk6 : ∀ (x1 : Int32) (x2 : Int32) (x3 : Int32) (σ : St) (H : Heap) (locs : List Loc) (ls : Array Slot), xW D KA layX stX ad ids (xA ad ids s.heap.size) s.heap σ H locs → lv_has ls 5 [(0, .ref (ad 0)), (1, .int x1), (2, .int x2), (3, .int x3)] → k6 x1 x2 x3 σ → W p l e rmX11_hangs s m args below meth c H locs 0 0 Q (F0 m 6 ls [])) (x1 : Int32) (x2 : Int32) (x3 : Int32) (σ : St) (H : Heap) (locs : List Loc) (ls : Array Slot), xW D KA layX stX ad ids (xA ad ids s.heap.size) s.heap σ H locs → lv_has ls 5 [(0, .ref (ad 0)), (1, .int x1), (2, .int x2), (3, .int x3)] → wX11_hangs_54 ids k6 post x1 x2 x3 σ → W p l e rmX11_hangs s m args below meth c H locs 0 0 Q (F0 m 54 ls []) := by
    intro  k6 hk6 x1 x2 x3 σ H locs ls hW hl h
    unfold wX11_hangs_54 at h
    obtain ⟨v1, hv1⟩ : ∃ y : Int32, y = x3 + (1 : Int32) := ⟨_, rfl⟩
    have h := h v1 hv1
    refine lv_iinc (v := v1) (lv' := [(3, .int v1), (0, .ref (ad 0)), (1, .int x1), (2, .int x2)]) hx hb dX11_hangs_54 hl (k := 3) rfl (by rw [hv1]; rfl) (by decide) rfl (fun ls hl => ?_)
    refine lv_goto (tgt := 6) hx hb dX11_hangs_57 (by decide) ?_
    exact hk6 x1 x2 v1 _ _ _ _ hW (lv_sub hl [1, 2, 3, 0] rfl) h
  have blk6 : ∀ (n : Nat) (x1 : Int32) (x2 : Int32) (x3 : Int32) (σ : St) (H : Heap) (locs : List Loc) (ls : Array Slot), xW D KA layX stX ad ids (xA ad ids s.heap.size) s.heap σ H locs → lv_has ls 5 [(0, .ref (ad 0)), (1, .int x1), (2, .int x2), (3, .int x3)] → wX11_hangs_6 ids post  n x1 x2 x3 σ → W p l e rmX11_hangs s m args below meth c H locs 0 0 Q (F0 m 6 ls []) := by
    intro    n
    induction n with
    | zero => intro x1 x2 x3 σ H locs ls hW hl h; exact (h : False).elim
    | succ n ih =>
      intro x1 x2 x3 σ H locs ls hW hl h
      have hk6 : ∀ (x1 : Int32) (x2 : Int32) (x3 : Int32) (σ : St) (H : Heap) (locs : List Loc) (ls : Array Slot), xW D KA layX stX ad ids (xA ad ids s.heap.size) s.heap σ H locs → lv_has ls 5 [(0, .ref (ad 0)), (1, .int x1), (2, .int x2), (3, .int x3)] → (wX11_hangs_6 ids post  n) x1 x2 x3 σ → W p l e rmX11_hangs s m args below meth c H locs 0 0 Q (F0 m 6 ls []) := fun x1 x2 x3 σ H locs ls hW hl h => ih x1 x2 x3 σ H locs ls hW hl h
      rw [wX11_hangs_6_s] at h
      try dsimp only at h
      generalize wX11_hangs_6 ids post  n = k6 at h hk6
      refine lv_iload_n hx hb dX11_hangs_6 rfl (lv_at hl 3 rfl) ?_
      refine lv_aload_n hx hb dX11_hangs_7 rfl (lv_at hl 0 rfl) ?_
      refine xgX11_0r hx hb hts hown hK hW 0 hcX11_hangs_X11 (hI 0 (by decide)) lX_0 (hts _ hwX11_hangs_0) (sX_0_0 _) dX11_hangs_8 ?_
      refine xgX6_3 hx hb hts hown hK hW 1 hcX11_hangs_X6 (hI 1 (by decide)) lX_1 (hts _ hwX11_hangs_1) dX11_hangs_11 ?_
      refine lv_icmp_ge (tgt := 60) hx hb dX11_hangs_14 (by decide) (fun c2 => ?_) (fun c2 => ?_)
      · have h := h.1 c2
        refine lv_iload_n hx hb dX11_hangs_60 rfl (lv_at hl 1 rfl) ?_
        exact kr _ _ _ _ _ _ hW h dX11_hangs_61
      · have h := h.2 c2
        refine lv_aload_n hx hb dX11_hangs_17 rfl (lv_at hl 0 rfl) ?_
        refine lv_aload_n hx hb dX11_hangs_18 rfl (lv_at hl 0 rfl) ?_
        refine xgX11_0r hx hb hts hown hK hW 0 hcX11_hangs_X11 (hI 0 (by decide)) lX_0 (hts _ hwX11_hangs_0) (sX_0_0 _) dX11_hangs_19 ?_
        refine xgX6_12r hx hb hts hown hK hW 1 hcX11_hangs_X6 (hI 1 (by decide)) lX_1 (hts _ hwX11_hangs_2) (sX_1_12 _) dX11_hangs_22 ?_
        refine lv_iload_n hx hb dX11_hangs_25 rfl (lv_at hl 3 rfl) ?_
        obtain ⟨hi3, h⟩ := h
        obtain ⟨o4, hr5, ok_o4, h⟩ := h
        refine x_ald hx hb hK hW 11 0 (hI 11 (by decide)) lX_11 rfl hi3 ((sX_11 _ _).trans hr5) dX11_hangs_26 ?_
        refine x_calli (va_runV (As := [.ref (ad o4)]) (rest := []) ⟨hx, hb, hml, hown, hts⟩ (J_X11_stoppedBy l hI ok_o4 h) (cwV 1 hts gX11_hangs_X11_stoppedBy rfl rfl rfl hdV_X11_stoppedBy ⟨Nat.le_of_ble_eq_true rfl, Nat.le_of_ble_eq_true rfl⟩) (x_preV (ci := 11) hK hZ hA hW (hI 0 (by decide)) lX_0 rfl) rfl rfl hl.1 rfl (lv_room (Nat.le_of_ble_eq_true rfl)) dX11_hangs_27 ⟨Nat.zero_le _, Nat.zero_le _⟩) hW hA (fun r7 σ6 H locs h hW => ?_)
        try dsimp only at h
        refine lv_aload_n hx hb dX11_hangs_30 rfl (lv_at hl 0 rfl) ?_
        refine xgX11_0r hx hb hts hown hK hW 0 hcX11_hangs_X11 (hI 0 (by decide)) lX_0 (hts _ hwX11_hangs_0) (sX_0_0 _) dX11_hangs_31 ?_
        refine x_calli (va_runV (As := []) (rest := [.int r7]) ⟨hx, hb, hml, hown, hts⟩ (J_X6_switchedOn l hI h) (cwV 0 hts gX11_hangs_X6_switchedOn rfl rfl rfl hdV_X6_switchedOn ⟨Nat.le_of_ble_eq_true rfl, Nat.le_of_ble_eq_true rfl⟩) (x_preV (ci := 6) hK hZ hA hW (hI 1 (by decide)) lX_1 rfl) rfl rfl hl.1 rfl (lv_room (Nat.le_of_ble_eq_true rfl)) dX11_hangs_34 ⟨Nat.zero_le _, Nat.zero_le _⟩) hW hA (fun r9 σ8 H locs h hW => ?_)
        try dsimp only at h
        refine lv_iand hx hb dX11_hangs_37 ?_
        refine x_calli (va_runS (As := [.int (r7 &&& r9)]) (rest := []) ⟨hx, hb, hml, hown, hts⟩ (J_J6_bitCount_0f7a4 l hI h) (va_cwS 1 hts gX11_hangs_J6_bitCount_0f7a4 rfl rfl rfl hdS_J6_bitCount_0f7a4 ⟨Nat.le_of_ble_eq_true rfl, Nat.le_of_ble_eq_true rfl⟩) (x_preS hK hZ hA hW) rfl rfl hl.1 rfl (lv_room (Nat.le_of_ble_eq_true rfl)) dX11_hangs_38 ⟨Nat.zero_le _, Nat.zero_le _⟩) hW hA (fun r11 σ10 H locs h hW => ?_)
        try dsimp only at h
        refine lv_istore (lv' := [(4, .int r11), (0, .ref (ad 0)), (1, .int x1), (2, .int x2), (3, .int x3)]) hx hb dX11_hangs_41 hl (by decide) rfl (fun ls hl => ?_)
        refine lv_iload hx hb dX11_hangs_43 (lv_at hl 0 rfl) ?_
        refine lv_iload_n hx hb dX11_hangs_45 rfl (lv_at hl 3 rfl) ?_
        refine lv_icmp_le (tgt := 54) hx hb dX11_hangs_46 (by decide) (fun c12 => ?_) (fun c12 => ?_)
        · have h := h.1 c12
          exact blk54  k6 hk6 x1 x2 x3 _ _ _ _ hW (lv_sub hl [1, 2, 3, 4] rfl) h
        · have h := h.2 c12
          refine lv_iload_n hx hb dX11_hangs_49 rfl (lv_at hl 4 rfl) ?_
          refine lv_istore_n (lv' := [(1, .int x3), (4, .int r11), (0, .ref (ad 0)), (2, .int x2), (3, .int x3)]) hx hb dX11_hangs_50 rfl hl (by decide) rfl (fun ls hl => ?_)
          refine lv_iload hx hb dX11_hangs_51 (lv_at hl 1 rfl) ?_
          refine lv_istore_n (lv' := [(2, .int r11), (1, .int x3), (4, .int r11), (0, .ref (ad 0)), (3, .int x3)]) hx hb dX11_hangs_53 rfl hl (by decide) rfl (fun ls hl => ?_)
          exact blk54  k6 hk6 x3 r11 x3 _ _ _ _ hW (lv_sub hl [3, 1, 0, 4] rfl) h
  have main : ∀ (H : Heap) (locs : List Loc) (ls : Array Slot), xW D KA layX stX ad ids (xA ad ids s.heap.size) s.heap σ H locs → lv_has ls 5 [(0, .ref (ad 0))] → W p l e rmX11_hangs s m args below meth c H locs 0 0 Q (F0 m 0 ls []) := by
    intro H locs ls hW hl
    unfold wX11_hangs at h
    refine lv_iconst (v := (-1)) hx hb dX11_hangs_0 (by decide) ?_
    refine lv_istore_n (lv' := [(1, .int (-1 : Int32)), (0, .ref (ad 0))]) hx hb dX11_hangs_1 rfl hl (by decide) rfl (fun ls hl => ?_)
    refine lv_iconst (v := 0) hx hb dX11_hangs_2 (by decide) ?_
    refine lv_istore_n (lv' := [(2, .int (0 : Int32)), (1, .int (-1 : Int32)), (0, .ref (ad 0))]) hx hb dX11_hangs_3 rfl hl (by decide) rfl (fun ls hl => ?_)
    refine lv_iconst (v := 0) hx hb dX11_hangs_4 (by decide) ?_
    refine lv_istore_n (lv' := [(3, .int (0 : Int32)), (2, .int (0 : Int32)), (1, .int (-1 : Int32)), (0, .ref (ad 0))]) hx hb dX11_hangs_5 rfl hl (by decide) rfl (fun ls hl => ?_)
    obtain ⟨n, h⟩ := h
    exact blk6    n (-1 : Int32) (0 : Int32) (0 : Int32) _ _ _ _ hW (lv_sub hl [3, 2, 1, 0] rfl) h
  exact main _ _ _ hW hl
theorem hwX5_keep_0 : (.fieldLink RX5 23 "FortyBelts$Machine" "isKept" "Z" : Cond) ∈ wsX5_keep := (List.mem_cons_of_mem _ (List.mem_append_left _ (List.mem_of_getElem? (i := 0) rfl)))
theorem hwX5_keep_1 : (.fieldLink RX5 7 "FortyBelts$Machine" "on" "Z" : Cond) ∈ wsX5_keep := (List.mem_cons_of_mem _ (List.mem_append_left _ (List.mem_of_getElem? (i := 1) rfl)))
theorem hwX5_keep_2 : (.fieldLink RX5 26 "FortyBelts$Machine" "keptOn" "Z" : Cond) ∈ wsX5_keep := (List.mem_cons_of_mem _ (List.mem_append_left _ (List.mem_of_getElem? (i := 2) rfl)))
theorem hwX5_keep_3 : (.fieldLink RX5 29 "FortyBelts$Machine" "load" "I" : Cond) ∈ wsX5_keep := (List.mem_cons_of_mem _ (List.mem_append_left _ (List.mem_of_getElem? (i := 3) rfl)))
theorem hwX5_keep_4 : (.fieldLink RX5 32 "FortyBelts$Machine" "keptLoad" "I" : Cond) ∈ wsX5_keep := (List.mem_cons_of_mem _ (List.mem_append_left _ (List.mem_of_getElem? (i := 4) rfl)))
theorem hcX5_keep_X5 : ∀ w ∈ wsX50, w ∈ wsX5_keep := fun _ h => (List.mem_cons_of_mem _ (List.mem_append_right _ h))
set_option maxHeartbeats 4000000 in
set_option maxRecDepth 100000 in
theorem J_X5_keep {D : va_G} {KA : Nat → ClassId} {zs : ZS} {ad : Nat → Nat} {ids : List Nat} {sz : Nat} (l : Launch) (hI : ∀ c, c < 52 → c ∈ ids) {a0 : Nat} (ok_a0 : okM ids a0) {σ : St} {post : St → Prop} (h : wX5_keep ids a0 σ post) : Met l yX5_keep wsX5_keep rmX5_keep (va_Pc [.ref (ad a0)] (xIn D KA zs layX stX ad ids sz σ)) (va_Qv post (xOut D KA layX stX ad ids) (xA ad ids sz)) 0 0 (xA ad ids sz) := by
  refine Met.ofW (cc := cX5_keep) (maxL := 1) (ret := none) (by decide) rfl ?_
  intro p e s m args below meth c s₁ B hml hv
  obtain ⟨hav, hsz, hK, hZ, hP, hD⟩ := hv
  have hx := B.exec
  have hb := B.bytes
  have hr := B.returns
  have hts := atoms_spec (ws := wsX5_keep) B.pre
  have hown : s.vm.findClass RX5 = some m.cls := findClass_of_methodNamed B.named
  have hlocks := B.notSynchronized
  subst hsz
  have hA : ∀ q : Nat, s.heap.size ≤ q → xA ad ids s.heap.size q := fun q h => Or.inr h
  have hW : xW D KA layX stX ad ids (xA ad ids s.heap.size) s.heap σ s.heap [] := ⟨hP, xA_D (D := D) hD, va_S.rf⟩
  have kr : ∀ (σ : St) (H : Heap) (locs : List Loc) (ls : Array Slot) (pc : Nat), xW D KA layX stX ad ids (xA ad ids s.heap.size) s.heap σ H locs → post σ → decode cX5_keep pc = .ok (.return_, 1) → W p l e rmX5_keep s m args below meth c H locs 0 0 (MQ below (va_Qv post (xOut D KA layX stX ad ids) (xA ad ids s.heap.size)) args s 0 0 (xA ad ids s.heap.size)) (F0 m pc ls []) := fun σ H locs ls pc hW h hd => x_vret hx hb hr hlocks hW h hd
  have hl := lv_entry ([.ref (ad a0)]) (n := 1) (Nat.le_of_ble_eq_true rfl)
  rw [show entryFrame m args 1 = entryFrame m ([.ref (ad a0)] : List Value).toArray 1 from by rw [hav]]
  rw [lg_entry_eq]
  generalize (lg_sl ([.ref (ad a0)]) ++ List.replicate (1 - (lg_sl ([.ref (ad a0)])).length) Slot.unset).toArray = ls at hl ⊢
  have hl : lv_has ls 1 [(0, .ref (ad a0))] := hl
  show W p l e rmX5_keep s m args below meth c s.heap [] 0 0 _ _
  generalize MQ below (va_Qv post (xOut D KA layX stX ad ids) (xA ad ids s.heap.size)) args s 0 0 (xA ad ids s.heap.size) = Q at kr ⊢
  have main : ∀ (H : Heap) (locs : List Loc) (ls : Array Slot), xW D KA layX stX ad ids (xA ad ids s.heap.size) s.heap σ H locs → lv_has ls 1 [(0, .ref (ad a0))] → W p l e rmX5_keep s m args below meth c H locs 0 0 Q (F0 m 0 ls []) := by
    intro H locs ls hW hl
    unfold wX5_keep at h
    refine lv_aload_n hx hb dX5_keep_0 rfl (lv_at hl 0 rfl) ?_
    refine lv_iconst (v := 1) hx hb dX5_keep_1 (by decide) ?_
    refine xpX5_6 hx hb hts hown hK hW a0 hcX5_keep_X5 ok_a0.1 (lay_okM ok_a0) (hts _ hwX5_keep_0) isB_1 dX5_keep_2 (fun σ1001 H locs hσ1001 hW => ?_)
    have h := h σ1001 hσ1001
    refine lv_aload_n hx hb dX5_keep_5 rfl (lv_at hl 0 rfl) ?_
    refine lv_aload_n hx hb dX5_keep_6 rfl (lv_at hl 0 rfl) ?_
    refine xgX5_5 hx hb hts hown hK hW a0 hcX5_keep_X5 ok_a0.1 (lay_okM ok_a0) (hts _ hwX5_keep_1) dX5_keep_7 ?_
    obtain ⟨hz1002, h⟩ := h
    refine xpX5_7 hx hb hts hown hK hW a0 hcX5_keep_X5 ok_a0.1 (lay_okM ok_a0) (hts _ hwX5_keep_2) hz1002 dX5_keep_10 (fun σ1003 H locs hσ1003 hW => ?_)
    have h := h σ1003 hσ1003
    refine lv_aload_n hx hb dX5_keep_13 rfl (lv_at hl 0 rfl) ?_
    refine lv_aload_n hx hb dX5_keep_14 rfl (lv_at hl 0 rfl) ?_
    refine xgX5_3 hx hb hts hown hK hW a0 hcX5_keep_X5 ok_a0.1 (lay_okM ok_a0) (hts _ hwX5_keep_3) dX5_keep_15 ?_
    refine xpX5_8 hx hb hts hown hK hW a0 hcX5_keep_X5 ok_a0.1 (lay_okM ok_a0) (hts _ hwX5_keep_4) dX5_keep_18 (fun σ1004 H locs hσ1004 hW => ?_)
    have h := h σ1004 hσ1004
    exact kr _ _ _ _ _ hW h dX5_keep_21
  exact main _ _ _ hW hl
theorem hwX6_keep_0 : (.fieldLink RX6 59 "FortyBelts$Mill" "machineCount" "I" : Cond) ∈ wsX6_keep := (List.mem_cons_of_mem _ (List.mem_append_left _ (List.mem_append_left _ (List.mem_append_left _ (List.mem_append_left _ (List.mem_append_left _ (List.mem_append_left _ (List.mem_append_left _ (List.mem_append_left _ (List.mem_append_left _ (List.mem_of_getElem? (i := 6) rfl)))))))))))
theorem hwX6_keep_1 : (.fieldLink RX6 33 "FortyBelts$Mill" "machines" "[LFortyBelts$Machine;" : Cond) ∈ wsX6_keep := (List.mem_cons_of_mem _ (List.mem_append_left _ (List.mem_append_left _ (List.mem_append_left _ (List.mem_append_left _ (List.mem_append_left _ (List.mem_append_left _ (List.mem_append_left _ (List.mem_append_left _ (List.mem_append_left _ (List.mem_of_getElem? (i := 7) rfl)))))))))))
theorem hwX6_keep_2 : (.fieldLink RX6 65 "FortyBelts$Mill" "beltCount" "I" : Cond) ∈ wsX6_keep := (List.mem_cons_of_mem _ (List.mem_append_left _ (List.mem_append_left _ (List.mem_append_left _ (List.mem_append_left _ (List.mem_append_left _ (List.mem_append_left _ (List.mem_append_left _ (List.mem_append_left _ (List.mem_append_left _ (List.mem_of_getElem? (i := 4) rfl)))))))))))
theorem hwX6_keep_3 : (.fieldLink RX6 42 "FortyBelts$Mill" "belts" "[LFortyBelts$Belt;" : Cond) ∈ wsX6_keep := (List.mem_cons_of_mem _ (List.mem_append_left _ (List.mem_append_left _ (List.mem_append_left _ (List.mem_append_left _ (List.mem_append_left _ (List.mem_append_left _ (List.mem_append_left _ (List.mem_append_left _ (List.mem_append_left _ (List.mem_of_getElem? (i := 5) rfl)))))))))))
theorem hwX6_keep_4 : (.fieldLink RX6 49 "FortyBelts$Mill" "engineTurns" "I" : Cond) ∈ wsX6_keep := (List.mem_cons_of_mem _ (List.mem_append_left _ (List.mem_append_left _ (List.mem_append_left _ (List.mem_append_left _ (List.mem_append_left _ (List.mem_append_left _ (List.mem_append_left _ (List.mem_append_left _ (List.mem_append_left _ (List.mem_of_getElem? (i := 0) rfl)))))))))))
theorem hwX6_keep_5 : (.fieldLink RX6 169 "FortyBelts$Mill" "keptTurns" "I" : Cond) ∈ wsX6_keep := (List.mem_cons_of_mem _ (List.mem_append_left _ (List.mem_append_left _ (List.mem_append_left _ (List.mem_append_left _ (List.mem_append_left _ (List.mem_append_left _ (List.mem_append_left _ (List.mem_append_left _ (List.mem_append_left _ (List.mem_of_getElem? (i := 1) rfl)))))))))))
theorem hwX6_keep_6 : (.fieldLink RX6 53 "FortyBelts$Mill" "power" "I" : Cond) ∈ wsX6_keep := (List.mem_cons_of_mem _ (List.mem_append_left _ (List.mem_append_left _ (List.mem_append_left _ (List.mem_append_left _ (List.mem_append_left _ (List.mem_append_left _ (List.mem_append_left _ (List.mem_append_left _ (List.mem_append_left _ (List.mem_of_getElem? (i := 2) rfl)))))))))))
theorem hwX6_keep_7 : (.fieldLink RX6 172 "FortyBelts$Mill" "keptPower" "I" : Cond) ∈ wsX6_keep := (List.mem_cons_of_mem _ (List.mem_append_left _ (List.mem_append_left _ (List.mem_append_left _ (List.mem_append_left _ (List.mem_append_left _ (List.mem_append_left _ (List.mem_append_left _ (List.mem_append_left _ (List.mem_append_left _ (List.mem_of_getElem? (i := 3) rfl)))))))))))
theorem hcX6_keep_X6 : ∀ w ∈ wsX60, w ∈ wsX6_keep := fun _ h => (List.mem_cons_of_mem _ (List.mem_append_left _ (List.mem_append_left _ (List.mem_append_left _ (List.mem_append_left _ (List.mem_append_left _ (List.mem_append_left _ (List.mem_append_left _ (List.mem_append_right _ h)))))))))
set_option maxHeartbeats 4000000 in
set_option maxRecDepth 100000 in
theorem J_X6_keep {D : va_G} {KA : Nat → ClassId} {zs : ZS} {ad : Nat → Nat} {ids : List Nat} {sz : Nat} (l : Launch) (hI : ∀ c, c < 52 → c ∈ ids)   {σ : St} {post : St → Prop} (h : wX6_keep ids  σ post) : Met l yX6_keep wsX6_keep rmX6_keep (va_Pc [.ref (ad 1)] (xIn D KA zs layX stX ad ids sz σ)) (va_Qv post (xOut D KA layX stX ad ids) (xA ad ids sz)) 0 0 (xA ad ids sz) := by
  refine Met.ofW (cc := cX6_keep) (maxL := 2) (ret := none) (by decide) rfl ?_
  intro p e s m args below meth c s₁ B hml hv
  obtain ⟨hav, hsz, hK, hZ, hP, hD⟩ := hv
  have hx := B.exec
  have hb := B.bytes
  have hr := B.returns
  have hts := atoms_spec (ws := wsX6_keep) B.pre
  have hown : s.vm.findClass RX6 = some m.cls := findClass_of_methodNamed B.named
  have hlocks := B.notSynchronized
  subst hsz
  have hA : ∀ q : Nat, s.heap.size ≤ q → xA ad ids s.heap.size q := fun q h => Or.inr h
  have hW : xW D KA layX stX ad ids (xA ad ids s.heap.size) s.heap σ s.heap [] := ⟨hP, xA_D (D := D) hD, va_S.rf⟩
  have kr : ∀ (σ : St) (H : Heap) (locs : List Loc) (ls : Array Slot) (pc : Nat), xW D KA layX stX ad ids (xA ad ids s.heap.size) s.heap σ H locs → post σ → decode cX6_keep pc = .ok (.return_, 1) → W p l e rmX6_keep s m args below meth c H locs 0 0 (MQ below (va_Qv post (xOut D KA layX stX ad ids) (xA ad ids s.heap.size)) args s 0 0 (xA ad ids s.heap.size)) (F0 m pc ls []) := fun σ H locs ls pc hW h hd => x_vret hx hb hr hlocks hW h hd
  have hl := lv_entry ([.ref (ad 1)]) (n := 2) (Nat.le_of_ble_eq_true rfl)
  rw [show entryFrame m args 2 = entryFrame m ([.ref (ad 1)] : List Value).toArray 2 from by rw [hav]]
  rw [lg_entry_eq]
  generalize (lg_sl ([.ref (ad 1)]) ++ List.replicate (2 - (lg_sl ([.ref (ad 1)])).length) Slot.unset).toArray = ls at hl ⊢
  have hl : lv_has ls 2 [(0, .ref (ad 1))] := hl
  show W p l e rmX6_keep s m args below meth c s.heap [] 0 0 _ _
  generalize MQ below (va_Qv post (xOut D KA layX stX ad ids) (xA ad ids s.heap.size)) args s 0 0 (xA ad ids s.heap.size) = Q at kr ⊢
  have blk43 : ∀ (n : Nat) (x1 : Int32) (σ : St) (H : Heap) (locs : List Loc) (ls : Array Slot), xW D KA layX stX ad ids (xA ad ids s.heap.size) s.heap σ H locs → lv_has ls 2 [(0, .ref (ad 1)), (1, .int x1)] → wX6_keep_43 ids post  n x1 σ → W p l e rmX6_keep s m args below meth c H locs 0 0 Q (F0 m 43 ls []) := by
    intro    n
    induction n with
    | zero => intro x1 σ H locs ls hW hl h; exact (h : False).elim
    | succ n ih =>
      intro x1 σ H locs ls hW hl h
      have hk43 : ∀ (x1 : Int32) (σ : St) (H : Heap) (locs : List Loc) (ls : Array Slot), xW D KA layX stX ad ids (xA ad ids s.heap.size) s.heap σ H locs → lv_has ls 2 [(0, .ref (ad 1)), (1, .int x1)] → (wX6_keep_43 ids post  n) x1 σ → W p l e rmX6_keep s m args below meth c H locs 0 0 Q (F0 m 43 ls []) := fun x1 σ H locs ls hW hl h => ih x1 σ H locs ls hW hl h
      rw [wX6_keep_43_s] at h
      try dsimp only at h
      generalize wX6_keep_43 ids post  n = k43 at h hk43
      refine lv_iload_n hx hb dX6_keep_43 rfl (lv_at hl 1 rfl) ?_
      refine lv_aload_n hx hb dX6_keep_44 rfl (lv_at hl 0 rfl) ?_
      refine xgX6_1 hx hb hts hown hK hW 1 hcX6_keep_X6 (hI 1 (by decide)) lX_1 (hts _ hwX6_keep_0) dX6_keep_45 ?_
      refine lv_icmp_ge (tgt := 66) hx hb dX6_keep_48 (by decide) (fun c1 => ?_) (fun c1 => ?_)
      · have h := h.1 c1
        exact kr _ _ _ _ _ hW h dX6_keep_66
      · have h := h.2 c1
        refine lv_aload_n hx hb dX6_keep_51 rfl (lv_at hl 0 rfl) ?_
        refine xgX6_10r hx hb hts hown hK hW 1 hcX6_keep_X6 (hI 1 (by decide)) lX_1 (hts _ hwX6_keep_1) (sX_1_10 _) dX6_keep_52 ?_
        refine lv_iload_n hx hb dX6_keep_55 rfl (lv_at hl 1 rfl) ?_
        obtain ⟨hi2, h⟩ := h
        obtain ⟨o3, hr4, ok_o3, h⟩ := h
        refine x_ald hx hb hK hW 9 1 (hI 9 (by decide)) lX_9 rfl hi2 ((sX_9 _ _).trans hr4) dX6_keep_56 ?_
        refine x_callv (va_runV (As := []) (rest := []) ⟨hx, hb, hml, hown, hts⟩ (J_X5_keep l hI ok_o3 h) (cwV 0 hts gX6_keep_X5_keep rfl rfl rfl hdV_X5_keep ⟨Nat.le_of_ble_eq_true rfl, Nat.le_of_ble_eq_true rfl⟩) (x_preV (ci := 5) hK hZ hA hW ok_o3.1 (lay_okM ok_o3) rfl) rfl rfl hl.1 rfl (lv_room (Nat.le_of_ble_eq_true rfl)) dX6_keep_57 ⟨Nat.zero_le _, Nat.zero_le _⟩) hW hA (fun σ5 H locs h hW => ?_)
        try dsimp only at h
        obtain ⟨v6, hv6⟩ : ∃ y : Int32, y = x1 + (1 : Int32) := ⟨_, rfl⟩
        have h := h v6 hv6
        refine lv_iinc (v := v6) (lv' := [(1, .int v6), (0, .ref (ad 1))]) hx hb dX6_keep_60 hl (k := 1) rfl (by rw [hv6]; rfl) (by decide) rfl (fun ls hl => ?_)
        refine lv_goto (tgt := 43) hx hb dX6_keep_63 (by decide) ?_
        exact hk43 v6 _ _ _ _ hW (lv_sub hl [1, 0] rfl) h
  have blk18 : ∀ (n : Nat) (x1 : Int32) (σ : St) (H : Heap) (locs : List Loc) (ls : Array Slot), xW D KA layX stX ad ids (xA ad ids s.heap.size) s.heap σ H locs → lv_has ls 2 [(0, .ref (ad 1)), (1, .int x1)] → wX6_keep_18 ids post  n x1 σ → W p l e rmX6_keep s m args below meth c H locs 0 0 Q (F0 m 18 ls []) := by
    intro    n
    induction n with
    | zero => intro x1 σ H locs ls hW hl h; exact (h : False).elim
    | succ n ih =>
      intro x1 σ H locs ls hW hl h
      have hk18 : ∀ (x1 : Int32) (σ : St) (H : Heap) (locs : List Loc) (ls : Array Slot), xW D KA layX stX ad ids (xA ad ids s.heap.size) s.heap σ H locs → lv_has ls 2 [(0, .ref (ad 1)), (1, .int x1)] → (wX6_keep_18 ids post  n) x1 σ → W p l e rmX6_keep s m args below meth c H locs 0 0 Q (F0 m 18 ls []) := fun x1 σ H locs ls hW hl h => ih x1 σ H locs ls hW hl h
      rw [wX6_keep_18_s] at h
      try dsimp only at h
      generalize wX6_keep_18 ids post  n = k18 at h hk18
      refine lv_iload_n hx hb dX6_keep_18 rfl (lv_at hl 1 rfl) ?_
      refine lv_aload_n hx hb dX6_keep_19 rfl (lv_at hl 0 rfl) ?_
      refine xgX6_3 hx hb hts hown hK hW 1 hcX6_keep_X6 (hI 1 (by decide)) lX_1 (hts _ hwX6_keep_2) dX6_keep_20 ?_
      refine lv_icmp_ge (tgt := 41) hx hb dX6_keep_23 (by decide) (fun c7 => ?_) (fun c7 => ?_)
      · have h := h.1 c7
        refine lv_iconst (v := 0) hx hb dX6_keep_41 (by decide) ?_
        refine lv_istore_n (lv' := [(1, .int (0 : Int32)), (0, .ref (ad 1))]) hx hb dX6_keep_42 rfl hl (by decide) rfl (fun ls hl => ?_)
        obtain ⟨n, h⟩ := h
        exact blk43    n (0 : Int32) _ _ _ _ hW (lv_sub hl [1, 0] rfl) h
      · have h := h.2 c7
        refine lv_aload_n hx hb dX6_keep_26 rfl (lv_at hl 0 rfl) ?_
        refine xgX6_12r hx hb hts hown hK hW 1 hcX6_keep_X6 (hI 1 (by decide)) lX_1 (hts _ hwX6_keep_3) (sX_1_12 _) dX6_keep_27 ?_
        refine lv_iload_n hx hb dX6_keep_30 rfl (lv_at hl 1 rfl) ?_
        obtain ⟨hi9, h⟩ := h
        obtain ⟨o10, hr11, ok_o10, h⟩ := h
        refine x_ald hx hb hK hW 11 0 (hI 11 (by decide)) lX_11 rfl hi9 ((sX_11 _ _).trans hr11) dX6_keep_31 ?_
        have hr12 : ∀ post : St → Prop, wX0_keep ids o10 σ post → va_Run p l e rmX6_keep s m args below meth c H locs 0 0 0 0 (F0 m 32 ls ([].reverse ++ .ref (ad o10) :: [])) [] (va_Qv post (xOut D KA layX stX ad ids) (xA ad ids H.size) (Value.ref (ad o10) :: []).toArray) (xA ad ids H.size) := by
          intro post h
          rcases (okB_cases ok_o10) with hq | hq | hq | hq | hq | hq
          · exact va_runV (As := []) (rest := []) ⟨hx, hb, hml, hown, hts⟩ (J_X0_keep l hI ok_o10 h) (cwV 0 hts gX6_keep_X0_keep rfl rfl rfl hdV_X0_keep ⟨Nat.le_of_ble_eq_true rfl, Nat.le_of_ble_eq_true rfl⟩) (x_preV (ci := 0) hK hZ hA hW ok_o10.1 (lay_okB0 ok_o10 hq) rfl) rfl rfl hl.1 rfl (lv_room (Nat.le_of_ble_eq_true rfl)) dX6_keep_32 ⟨Nat.zero_le _, Nat.zero_le _⟩
          · exact va_runU (As := []) (rest := []) ⟨hx, hb, hml, hown, hts⟩ (J_X0_keep l hI ok_o10 h) (va_cwU 0 hts gX6_keep_X0_keep_u175X2 rfl rfl rfl rfl (by decide +kernel) ⟨Nat.le_of_ble_eq_true rfl, Nat.le_of_ble_eq_true rfl⟩) (x_preV (ci := 2) hK hZ hA hW ok_o10.1 (lay_okB1 ok_o10 hq) rfl) rfl rfl hl.1 rfl (lv_room (Nat.le_of_ble_eq_true rfl)) dX6_keep_32 ⟨Nat.zero_le _, Nat.zero_le _⟩
          · exact va_runU (As := []) (rest := []) ⟨hx, hb, hml, hown, hts⟩ (J_X0_keep l hI ok_o10 h) (va_cwU 0 hts gX6_keep_X0_keep_u175X3 rfl rfl rfl rfl (by decide +kernel) ⟨Nat.le_of_ble_eq_true rfl, Nat.le_of_ble_eq_true rfl⟩) (x_preV (ci := 3) hK hZ hA hW ok_o10.1 (lay_okB2 ok_o10 hq) rfl) rfl rfl hl.1 rfl (lv_room (Nat.le_of_ble_eq_true rfl)) dX6_keep_32 ⟨Nat.zero_le _, Nat.zero_le _⟩
          · exact va_runU (As := []) (rest := []) ⟨hx, hb, hml, hown, hts⟩ (J_X0_keep l hI ok_o10 h) (va_cwU 0 hts gX6_keep_X0_keep_u175X1 rfl rfl rfl rfl (by decide +kernel) ⟨Nat.le_of_ble_eq_true rfl, Nat.le_of_ble_eq_true rfl⟩) (x_preV (ci := 1) hK hZ hA hW ok_o10.1 (lay_okB3 ok_o10 hq) rfl) rfl rfl hl.1 rfl (lv_room (Nat.le_of_ble_eq_true rfl)) dX6_keep_32 ⟨Nat.zero_le _, Nat.zero_le _⟩
          · exact va_runU (As := []) (rest := []) ⟨hx, hb, hml, hown, hts⟩ (J_X0_keep l hI ok_o10 h) (va_cwU 0 hts gX6_keep_X0_keep_u175X4 rfl rfl rfl rfl (by decide +kernel) ⟨Nat.le_of_ble_eq_true rfl, Nat.le_of_ble_eq_true rfl⟩) (x_preV (ci := 4) hK hZ hA hW ok_o10.1 (lay_okB4 ok_o10 hq) rfl) rfl rfl hl.1 rfl (lv_room (Nat.le_of_ble_eq_true rfl)) dX6_keep_32 ⟨Nat.zero_le _, Nat.zero_le _⟩
          · exact va_runU (As := []) (rest := []) ⟨hx, hb, hml, hown, hts⟩ (J_X0_keep l hI ok_o10 h) (va_cwU 0 hts gX6_keep_X0_keep_u175X10 rfl rfl rfl rfl (by decide +kernel) ⟨Nat.le_of_ble_eq_true rfl, Nat.le_of_ble_eq_true rfl⟩) (x_preV (ci := 10) hK hZ hA hW ok_o10.1 (lay_okB5 ok_o10 hq) rfl) rfl rfl hl.1 rfl (lv_room (Nat.le_of_ble_eq_true rfl)) dX6_keep_32 ⟨Nat.zero_le _, Nat.zero_le _⟩
        refine x_callv (hr12 _ h) hW hA (fun σ13 H locs h hW => ?_)
        try dsimp only at h
        obtain ⟨v14, hv14⟩ : ∃ y : Int32, y = x1 + (1 : Int32) := ⟨_, rfl⟩
        have h := h v14 hv14
        refine lv_iinc (v := v14) (lv' := [(1, .int v14), (0, .ref (ad 1))]) hx hb dX6_keep_35 hl (k := 1) rfl (by rw [hv14]; rfl) (by decide) rfl (fun ls hl => ?_)
        refine lv_goto (tgt := 18) hx hb dX6_keep_38 (by decide) ?_
        exact hk18 v14 _ _ _ _ hW (lv_sub hl [1, 0] rfl) h
  have main : ∀ (H : Heap) (locs : List Loc) (ls : Array Slot), xW D KA layX stX ad ids (xA ad ids s.heap.size) s.heap σ H locs → lv_has ls 2 [(0, .ref (ad 1))] → W p l e rmX6_keep s m args below meth c H locs 0 0 Q (F0 m 0 ls []) := by
    intro H locs ls hW hl
    unfold wX6_keep at h
    refine lv_aload_n hx hb dX6_keep_0 rfl (lv_at hl 0 rfl) ?_
    refine lv_aload_n hx hb dX6_keep_1 rfl (lv_at hl 0 rfl) ?_
    refine xgX6_14 hx hb hts hown hK hW 1 hcX6_keep_X6 (hI 1 (by decide)) lX_1 (hts _ hwX6_keep_4) dX6_keep_2 ?_
    refine xpX6_16 hx hb hts hown hK hW 1 hcX6_keep_X6 (hI 1 (by decide)) lX_1 (hts _ hwX6_keep_5) dX6_keep_5 (fun σ1001 H locs hσ1001 hW => ?_)
    have h := h σ1001 hσ1001
    refine lv_aload_n hx hb dX6_keep_8 rfl (lv_at hl 0 rfl) ?_
    refine lv_aload_n hx hb dX6_keep_9 rfl (lv_at hl 0 rfl) ?_
    refine xgX6_15 hx hb hts hown hK hW 1 hcX6_keep_X6 (hI 1 (by decide)) lX_1 (hts _ hwX6_keep_6) dX6_keep_10 ?_
    refine xpX6_17 hx hb hts hown hK hW 1 hcX6_keep_X6 (hI 1 (by decide)) lX_1 (hts _ hwX6_keep_7) dX6_keep_13 (fun σ1002 H locs hσ1002 hW => ?_)
    have h := h σ1002 hσ1002
    refine lv_iconst (v := 0) hx hb dX6_keep_16 (by decide) ?_
    refine lv_istore_n (lv' := [(1, .int (0 : Int32)), (0, .ref (ad 1))]) hx hb dX6_keep_17 rfl hl (by decide) rfl (fun ls hl => ?_)
    obtain ⟨n, h⟩ := h
    exact blk18    n (0 : Int32) _ _ _ _ hW (lv_sub hl [1, 0] rfl) h
  exact main _ _ _ hW hl
theorem hwX11_image_0 : (.fieldLink RX11 10 "FortyBelts" "mill" "LFortyBelts$Mill;" : Cond) ∈ wsX11_image := (List.mem_cons_of_mem _ (List.mem_append_left _ (List.mem_append_left _ (List.mem_append_left _ (List.mem_append_left _ (List.mem_append_left _ (List.mem_append_left _ (List.mem_append_left _ (List.mem_append_left _ (List.mem_append_left _ (List.mem_append_left _ (List.mem_of_getElem? (i := 0) rfl))))))))))))
theorem hwX11_image_1 : (.fieldLink RX11 243 "FortyBelts" "rule" "I" : Cond) ∈ wsX11_image := (List.mem_cons_of_mem _ (List.mem_append_left _ (List.mem_append_left _ (List.mem_append_left _ (List.mem_append_left _ (List.mem_append_left _ (List.mem_append_left _ (List.mem_append_left _ (List.mem_append_left _ (List.mem_append_left _ (List.mem_append_left _ (List.mem_of_getElem? (i := 1) rfl))))))))))))
theorem hwX11_image_2 : (.fieldLink RX11 314 "FortyBelts" "imageRule" "I" : Cond) ∈ wsX11_image := (List.mem_cons_of_mem _ (List.mem_append_left _ (List.mem_append_left _ (List.mem_append_left _ (List.mem_append_left _ (List.mem_append_left _ (List.mem_append_left _ (List.mem_append_left _ (List.mem_append_left _ (List.mem_append_left _ (List.mem_append_left _ (List.mem_of_getElem? (i := 2) rfl))))))))))))
theorem hwX11_image_3 : (.fieldLink RX11 317 "FortyBelts" "hasImage" "Z" : Cond) ∈ wsX11_image := (List.mem_cons_of_mem _ (List.mem_append_left _ (List.mem_append_left _ (List.mem_append_left _ (List.mem_append_left _ (List.mem_append_left _ (List.mem_append_left _ (List.mem_append_left _ (List.mem_append_left _ (List.mem_append_left _ (List.mem_append_left _ (List.mem_of_getElem? (i := 3) rfl))))))))))))
theorem hwX11_image_4 : (.fieldLink RX11 145 "FortyBelts$Mill" "beltCount" "I" : Cond) ∈ wsX11_image := (List.mem_cons_of_mem _ (List.mem_append_left _ (List.mem_append_left _ (List.mem_append_left _ (List.mem_append_left _ (List.mem_append_left _ (List.mem_append_left _ (List.mem_append_left _ (List.mem_append_left _ (List.mem_append_left _ (List.mem_append_left _ (List.mem_of_getElem? (i := 4) rfl))))))))))))
theorem hcX11_image_X11 : ∀ w ∈ wsX110, w ∈ wsX11_image := fun _ h => (List.mem_cons_of_mem _ (List.mem_append_left _ (List.mem_append_left _ (List.mem_append_left _ (List.mem_append_left _ (List.mem_append_left _ (List.mem_append_left _ (List.mem_append_left _ (List.mem_append_left _ (List.mem_append_right _ h))))))))))
theorem hcX11_image_X6 : ∀ w ∈ wsX60, w ∈ wsX11_image := fun _ h => (List.mem_cons_of_mem _ (List.mem_append_left _ (List.mem_append_left _ (List.mem_append_left _ (List.mem_append_left _ (List.mem_append_left _ (List.mem_append_left _ (List.mem_append_left _ (List.mem_append_right _ h)))))))))
set_option maxHeartbeats 4000000 in
set_option maxRecDepth 100000 in
theorem J_X11_image {D : va_G} {KA : Nat → ClassId} {zs : ZS} {ad : Nat → Nat} {ids : List Nat} {sz : Nat} (l : Launch) (hI : ∀ c, c < 52 → c ∈ ids)   {σ : St} {post : Int32 → St → Prop} (h : wX11_image ids  σ post) : Met l yX11_image wsX11_image rmX11_image (va_Pc [.ref (ad 0)] (xIn D KA zs layX stX ad ids sz σ)) (va_Qi post (xOut D KA layX stX ad ids) (xA ad ids sz)) 0 0 (xA ad ids sz) := by
  refine Met.ofW (cc := cX11_image) (maxL := 1) (ret := (some .int)) (by decide) rfl ?_
  intro p e s m args below meth c s₁ B hml hv
  obtain ⟨hav, hsz, hK, hZ, hP, hD⟩ := hv
  have hx := B.exec
  have hb := B.bytes
  have hr := B.returns
  have hts := atoms_spec (ws := wsX11_image) B.pre
  have hown : s.vm.findClass RX11 = some m.cls := findClass_of_methodNamed B.named
  have hlocks := B.notSynchronized
  subst hsz
  have hA : ∀ q : Nat, s.heap.size ≤ q → xA ad ids s.heap.size q := fun q h => Or.inr h
  have hW : xW D KA layX stX ad ids (xA ad ids s.heap.size) s.heap σ s.heap [] := ⟨hP, xA_D (D := D) hD, va_S.rf⟩
  have kr : ∀ (v : Int32) (σ : St) (H : Heap) (locs : List Loc) (ls : Array Slot) (pc : Nat), xW D KA layX stX ad ids (xA ad ids s.heap.size) s.heap σ H locs → post v σ → decode cX11_image pc = .ok (.ireturn, 1) → W p l e rmX11_image s m args below meth c H locs 0 0 (MQ below (va_Qi post (xOut D KA layX stX ad ids) (xA ad ids s.heap.size)) args s 0 0 (xA ad ids s.heap.size)) (F0 m pc ls [.int v]) := fun v σ H locs ls pc hW h hd => x_iret hx hb hr hlocks hW h hd
  have hl := lv_entry ([.ref (ad 0)]) (n := 1) (Nat.le_of_ble_eq_true rfl)
  rw [show entryFrame m args 1 = entryFrame m ([.ref (ad 0)] : List Value).toArray 1 from by rw [hav]]
  rw [lg_entry_eq]
  generalize (lg_sl ([.ref (ad 0)]) ++ List.replicate (1 - (lg_sl ([.ref (ad 0)])).length) Slot.unset).toArray = ls at hl ⊢
  have hl : lv_has ls 1 [(0, .ref (ad 0))] := hl
  show W p l e rmX11_image s m args below meth c s.heap [] 0 0 _ _
  generalize MQ below (va_Qi post (xOut D KA layX stX ad ids) (xA ad ids s.heap.size)) args s 0 0 (xA ad ids s.heap.size) = Q at kr ⊢
  have main : ∀ (H : Heap) (locs : List Loc) (ls : Array Slot), xW D KA layX stX ad ids (xA ad ids s.heap.size) s.heap σ H locs → lv_has ls 1 [(0, .ref (ad 0))] → W p l e rmX11_image s m args below meth c H locs 0 0 Q (F0 m 0 ls []) := by
    intro H locs ls hW hl
    unfold wX11_image at h
    refine lv_aload_n hx hb dX11_image_0 rfl (lv_at hl 0 rfl) ?_
    refine xgX11_0r hx hb hts hown hK hW 0 hcX11_image_X11 (hI 0 (by decide)) lX_0 (hts _ hwX11_image_0) (sX_0_0 _) dX11_image_1 ?_
    refine x_callv (va_runV (As := []) (rest := []) ⟨hx, hb, hml, hown, hts⟩ (J_X6_keep l hI h) (cwV 0 hts gX11_image_X6_keep rfl rfl rfl hdV_X6_keep ⟨Nat.le_of_ble_eq_true rfl, Nat.le_of_ble_eq_true rfl⟩) (x_preV (ci := 6) hK hZ hA hW (hI 1 (by decide)) lX_1 rfl) rfl rfl hl.1 rfl (lv_room (Nat.le_of_ble_eq_true rfl)) dX11_image_4 ⟨Nat.zero_le _, Nat.zero_le _⟩) hW hA (fun σ1001 H locs h hW => ?_)
    try dsimp only at h
    refine lv_aload_n hx hb dX11_image_7 rfl (lv_at hl 0 rfl) ?_
    refine lv_aload_n hx hb dX11_image_8 rfl (lv_at hl 0 rfl) ?_
    refine xgX11_4 hx hb hts hown hK hW 0 hcX11_image_X11 (hI 0 (by decide)) lX_0 (hts _ hwX11_image_1) dX11_image_9 ?_
    refine xpX11_12 hx hb hts hown hK hW 0 hcX11_image_X11 (hI 0 (by decide)) lX_0 (hts _ hwX11_image_2) dX11_image_12 (fun σ1002 H locs hσ1002 hW => ?_)
    have h := h σ1002 hσ1002
    refine lv_aload_n hx hb dX11_image_15 rfl (lv_at hl 0 rfl) ?_
    refine lv_iconst (v := 1) hx hb dX11_image_16 (by decide) ?_
    refine xpX11_11 hx hb hts hown hK hW 0 hcX11_image_X11 (hI 0 (by decide)) lX_0 (hts _ hwX11_image_3) isB_1 dX11_image_17 (fun σ1003 H locs hσ1003 hW => ?_)
    have h := h σ1003 hσ1003
    refine lv_aload_n hx hb dX11_image_20 rfl (lv_at hl 0 rfl) ?_
    refine xgX11_0r hx hb hts hown hK hW 0 hcX11_image_X11 (hI 0 (by decide)) lX_0 (hts _ hwX11_image_0) (sX_0_0 _) dX11_image_21 ?_
    refine xgX6_3 hx hb hts hown hK hW 1 hcX11_image_X6 (hI 1 (by decide)) lX_1 (hts _ hwX11_image_4) dX11_image_24 ?_
    exact kr _ _ _ _ _ _ hW h dX11_image_27
  exact main _ _ _ hW hl
set_option maxHeartbeats 4000000 in
set_option maxRecDepth 100000 in
theorem J_X11_isKind {D : va_G} {KA : Nat → ClassId} {zs : ZS} {ad : Nat → Nat} {ids : List Nat} {sz : Nat} (l : Launch) (hI : ∀ c, c < 52 → c ∈ ids) {a0 : Int32}  {σ : St} {post : Int32 → St → Prop} (h : wX11_isKind ids a0 σ post) : Met l yX11_isKind wsX11_isKind rmX11_isKind (va_Pc [.int a0] (xIn D KA zs layX stX ad ids sz σ)) (va_Qi post (xOut D KA layX stX ad ids) (xA ad ids sz)) 0 0 (xA ad ids sz) := by
  refine Met.ofW (cc := cX11_isKind) (maxL := 1) (ret := (some .boolean)) (by decide) rfl ?_
  intro p e s m args below meth c s₁ B hml hv
  obtain ⟨hav, hsz, hK, hZ, hP, hD⟩ := hv
  have hx := B.exec
  have hb := B.bytes
  have hr := B.returns
  have hts := atoms_spec (ws := wsX11_isKind) B.pre
  have hown : s.vm.findClass RX11 = some m.cls := findClass_of_methodNamed B.named
  have hlocks := B.notSynchronized
  subst hsz
  have hA : ∀ q : Nat, s.heap.size ≤ q → xA ad ids s.heap.size q := fun q h => Or.inr h
  have hW : xW D KA layX stX ad ids (xA ad ids s.heap.size) s.heap σ s.heap [] := ⟨hP, xA_D (D := D) hD, va_S.rf⟩
  have kr : ∀ (v : Int32) (σ : St) (H : Heap) (locs : List Loc) (ls : Array Slot) (pc : Nat), xW D KA layX stX ad ids (xA ad ids s.heap.size) s.heap σ H locs → isB v → post v σ → decode cX11_isKind pc = .ok (.ireturn, 1) → W p l e rmX11_isKind s m args below meth c H locs 0 0 (MQ below (va_Qi post (xOut D KA layX stX ad ids) (xA ad ids s.heap.size)) args s 0 0 (xA ad ids s.heap.size)) (F0 m pc ls [.int v]) := fun v σ H locs ls pc hW hz h hd => x_zret hx hb hr hlocks hW hz h hd
  have hl := lv_entry ([.int a0]) (n := 1) (Nat.le_of_ble_eq_true rfl)
  rw [show entryFrame m args 1 = entryFrame m ([.int a0] : List Value).toArray 1 from by rw [hav]]
  rw [lg_entry_eq]
  generalize (lg_sl ([.int a0]) ++ List.replicate (1 - (lg_sl ([.int a0])).length) Slot.unset).toArray = ls at hl ⊢
  have hl : lv_has ls 1 [(0, .int a0)] := hl
  show W p l e rmX11_isKind s m args below meth c s.heap [] 0 0 _ _
  generalize MQ below (va_Qi post (xOut D KA layX stX ad ids) (xA ad ids s.heap.size)) args s 0 0 (xA ad ids s.heap.size) = Q at kr ⊢
  have main : ∀ (H : Heap) (locs : List Loc) (ls : Array Slot), xW D KA layX stX ad ids (xA ad ids s.heap.size) s.heap σ H locs → lv_has ls 1 [(0, .int a0)] → W p l e rmX11_isKind s m args below meth c H locs 0 0 Q (F0 m 0 ls []) := by
    intro H locs ls hW hl
    unfold wX11_isKind at h
    refine lv_iload_n hx hb dX11_isKind_0 rfl (lv_at hl 0 rfl) ?_
    refine lv_iconst (v := 0) hx hb dX11_isKind_1 (by decide) ?_
    refine lv_iconst (v := 5) hx hb dX11_isKind_2 (by decide) ?_
    refine x_calli (va_runS (As := [.int a0, .int (0 : Int32), .int (5 : Int32)]) (rest := []) ⟨hx, hb, hml, hown, hts⟩ (J_X11_within l hI h) (va_cwS 3 hts gX11_isKind_X11_within rfl rfl rfl hdS_X11_within ⟨Nat.le_of_ble_eq_true rfl, Nat.le_of_ble_eq_true rfl⟩) (x_preS hK hZ hA hW) rfl rfl hl.1 rfl (lv_room (Nat.le_of_ble_eq_true rfl)) dX11_isKind_3 ⟨Nat.zero_le _, Nat.zero_le _⟩) hW hA (fun r1002 σ1001 H locs h hW => ?_)
    try dsimp only at h
    obtain ⟨hz1003, h⟩ := h
    exact kr _ _ _ _ _ _ hW hz1003 h dX11_isKind_6
  exact main _ _ _ hW hl
theorem hwX11_isOfKind_0 : (.classLink RX11 364 "FortyBelts$Crossed" : Cond) ∈ wsX11_isOfKind := (List.mem_cons_of_mem _ (List.mem_of_getElem? (i := 0) rfl))
theorem hwX11_isOfKind_1 : (.classLink RX11 369 "FortyBelts$Idler" : Cond) ∈ wsX11_isOfKind := (List.mem_cons_of_mem _ (List.mem_of_getElem? (i := 1) rfl))
theorem hwX11_isOfKind_2 : (.classLink RX11 372 "FortyBelts$Cone" : Cond) ∈ wsX11_isOfKind := (List.mem_cons_of_mem _ (List.mem_of_getElem? (i := 2) rfl))
theorem hwX11_isOfKind_3 : (.classLink RX11 375 "FortyBelts$Loose" : Cond) ∈ wsX11_isOfKind := (List.mem_cons_of_mem _ (List.mem_of_getElem? (i := 3) rfl))
theorem hwX11_isOfKind_4 : (.classLink RX11 378 "FortyBelts$Twist" : Cond) ∈ wsX11_isOfKind := (List.mem_cons_of_mem _ (List.mem_of_getElem? (i := 4) rfl))
set_option maxHeartbeats 4000000 in
set_option maxRecDepth 100000 in
theorem J_X11_isOfKind {D : va_G} {KA : Nat → ClassId} {zs : ZS} {ad : Nat → Nat} {ids : List Nat} {sz : Nat} (l : Launch) (hI : ∀ c, c < 52 → c ∈ ids) {a0 : Nat} {a1 : Int32} (ok_a0 : okB ids a0) {σ : St} {post : Int32 → St → Prop} (h : wX11_isOfKind ids a0 a1 σ post) : Met l yX11_isOfKind wsX11_isOfKind rmX11_isOfKind (va_Pc [.ref (ad a0), .int a1] (xIn D KA zs layX stX ad ids sz σ)) (va_Qi post (xOut D KA layX stX ad ids) (xA ad ids sz)) 0 0 (xA ad ids sz) := by
  refine Met.ofW (cc := cX11_isOfKind) (maxL := 2) (ret := (some .boolean)) (by decide) rfl ?_
  intro p e s m args below meth c s₁ B hml hv
  obtain ⟨hav, hsz, hK, hZ, hP, hD⟩ := hv
  have hx := B.exec
  have hb := B.bytes
  have hr := B.returns
  have hts := atoms_spec (ws := wsX11_isOfKind) B.pre
  have hown : s.vm.findClass RX11 = some m.cls := findClass_of_methodNamed B.named
  have hlocks := B.notSynchronized
  subst hsz
  have hA : ∀ q : Nat, s.heap.size ≤ q → xA ad ids s.heap.size q := fun q h => Or.inr h
  have hW : xW D KA layX stX ad ids (xA ad ids s.heap.size) s.heap σ s.heap [] := ⟨hP, xA_D (D := D) hD, va_S.rf⟩
  have kr : ∀ (v : Int32) (σ : St) (H : Heap) (locs : List Loc) (ls : Array Slot) (pc : Nat), xW D KA layX stX ad ids (xA ad ids s.heap.size) s.heap σ H locs → isB v → post v σ → decode cX11_isOfKind pc = .ok (.ireturn, 1) → W p l e rmX11_isOfKind s m args below meth c H locs 0 0 (MQ below (va_Qi post (xOut D KA layX stX ad ids) (xA ad ids s.heap.size)) args s 0 0 (xA ad ids s.heap.size)) (F0 m pc ls [.int v]) := fun v σ H locs ls pc hW hz h hd => x_zret hx hb hr hlocks hW hz h hd
  have hl := lv_entry ([.ref (ad a0), .int a1]) (n := 2) (Nat.le_of_ble_eq_true rfl)
  rw [show entryFrame m args 2 = entryFrame m ([.ref (ad a0), .int a1] : List Value).toArray 2 from by rw [hav]]
  rw [lg_entry_eq]
  generalize (lg_sl ([.ref (ad a0), .int a1]) ++ List.replicate (2 - (lg_sl ([.ref (ad a0), .int a1])).length) Slot.unset).toArray = ls at hl ⊢
  have hl : lv_has ls 2 [(0, .ref (ad a0)), (1, .int a1)] := hl
  show W p l e rmX11_isOfKind s m args below meth c s.heap [] 0 0 _ _
  generalize MQ below (va_Qi post (xOut D KA layX stX ad ids) (xA ad ids s.heap.size)) args s 0 0 (xA ad ids s.heap.size) = Q at kr ⊢
  have main : ∀ (H : Heap) (locs : List Loc) (ls : Array Slot), xW D KA layX stX ad ids (xA ad ids s.heap.size) s.heap σ H locs → lv_has ls 2 [(0, .ref (ad a0)), (1, .int a1)] → W p l e rmX11_isOfKind s m args below meth c H locs 0 0 Q (F0 m 0 ls []) := by
    intro H locs ls hW hl
    unfold wX11_isOfKind at h
    refine lv_iload_n hx hb dX11_isOfKind_0 rfl (lv_at hl 1 rfl) ?_
    refine lv_topi (fun v1001 hv1001 => ?_)
    have h := h v1001 hv1001
    obtain ⟨hcase, h⟩ := h
    by_cases hc1_0 : v1001 = (1 : Int32)
    · have h := hcase hc1_0
      clear hcase
      refine lv_tableIn (tgt := 36) hx hb dX11_isOfKind_1 (by rw [hc1_0] <;> decide) (by rw [hc1_0] <;> decide) (by rw [hc1_0]; rfl) (by decide) ?_
      refine lv_aload_n hx hb dX11_isOfKind_36 rfl (lv_at hl 0 rfl) ?_
      refine x_instX2 hx hb hown hK hW a0 ok_a0 (hts _ hwX11_isOfKind_0) dX11_isOfKind_37 ?_
      obtain ⟨hz1002, h⟩ := h
      exact kr _ _ _ _ _ _ hW hz1002 h dX11_isOfKind_40
    clear hcase
    obtain ⟨hcase, h⟩ := h
    by_cases hc1_1 : v1001 = (2 : Int32)
    · have h := hcase hc1_1
      clear hcase
      refine lv_tableIn (tgt := 41) hx hb dX11_isOfKind_1 (by rw [hc1_1] <;> decide) (by rw [hc1_1] <;> decide) (by rw [hc1_1]; rfl) (by decide) ?_
      refine lv_aload_n hx hb dX11_isOfKind_41 rfl (lv_at hl 0 rfl) ?_
      refine x_instX3 hx hb hown hK hW a0 ok_a0 (hts _ hwX11_isOfKind_1) dX11_isOfKind_42 ?_
      obtain ⟨hz1003, h⟩ := h
      exact kr _ _ _ _ _ _ hW hz1003 h dX11_isOfKind_45
    clear hcase
    obtain ⟨hcase, h⟩ := h
    by_cases hc1_2 : v1001 = (3 : Int32)
    · have h := hcase hc1_2
      clear hcase
      refine lv_tableIn (tgt := 46) hx hb dX11_isOfKind_1 (by rw [hc1_2] <;> decide) (by rw [hc1_2] <;> decide) (by rw [hc1_2]; rfl) (by decide) ?_
      refine lv_aload_n hx hb dX11_isOfKind_46 rfl (lv_at hl 0 rfl) ?_
      refine x_instX1 hx hb hown hK hW a0 ok_a0 (hts _ hwX11_isOfKind_2) dX11_isOfKind_47 ?_
      obtain ⟨hz1004, h⟩ := h
      exact kr _ _ _ _ _ _ hW hz1004 h dX11_isOfKind_50
    clear hcase
    obtain ⟨hcase, h⟩ := h
    by_cases hc1_3 : v1001 = (4 : Int32)
    · have h := hcase hc1_3
      clear hcase
      refine lv_tableIn (tgt := 51) hx hb dX11_isOfKind_1 (by rw [hc1_3] <;> decide) (by rw [hc1_3] <;> decide) (by rw [hc1_3]; rfl) (by decide) ?_
      refine lv_aload_n hx hb dX11_isOfKind_51 rfl (lv_at hl 0 rfl) ?_
      refine x_instX4 hx hb hown hK hW a0 ok_a0 (hts _ hwX11_isOfKind_3) dX11_isOfKind_52 ?_
      obtain ⟨hz1005, h⟩ := h
      exact kr _ _ _ _ _ _ hW hz1005 h dX11_isOfKind_55
    clear hcase
    obtain ⟨hcase, h⟩ := h
    by_cases hc1_4 : v1001 = (5 : Int32)
    · have h := hcase hc1_4
      clear hcase
      refine lv_tableIn (tgt := 56) hx hb dX11_isOfKind_1 (by rw [hc1_4] <;> decide) (by rw [hc1_4] <;> decide) (by rw [hc1_4]; rfl) (by decide) ?_
      refine lv_aload_n hx hb dX11_isOfKind_56 rfl (lv_at hl 0 rfl) ?_
      refine x_instX10 hx hb hown hK hW a0 ok_a0 (hts _ hwX11_isOfKind_4) dX11_isOfKind_57 ?_
      obtain ⟨hz1006, h⟩ := h
      exact kr _ _ _ _ _ _ hW hz1006 h dX11_isOfKind_60
    clear hcase
    have h := h ⟨hc1_0, hc1_1, hc1_2, hc1_3, hc1_4⟩
    refine lv_tableOut (tgt := 61) hx hb dX11_isOfKind_1 (tsw_out v1001 (1) (5) (fun k h1 h2 => ?_)) (by decide) ?_
    · rcases (show k = 1 ∨ k = 2 ∨ k = 3 ∨ k = 4 ∨ k = 5 by omega) with rfl | rfl | rfl | rfl | rfl
      · exact hc1_0
      · exact hc1_1
      · exact hc1_2
      · exact hc1_3
      · exact hc1_4
    refine lv_iconst (v := 1) hx hb dX11_isOfKind_61 (by decide) ?_
    exact kr _ _ _ _ _ _ hW isB_1 h dX11_isOfKind_62
  exact main _ _ _ hW hl
theorem hwX11_isShaft_0 : (.fieldLink RX11 10 "FortyBelts" "mill" "LFortyBelts$Mill;" : Cond) ∈ wsX11_isShaft := (List.mem_cons_of_mem _ (List.mem_append_left _ (List.mem_append_left _ (List.mem_of_getElem? (i := 0) rfl))))
theorem hwX11_isShaft_1 : (.fieldLink RX11 75 "FortyBelts$Mill" "shaftCount" "I" : Cond) ∈ wsX11_isShaft := (List.mem_cons_of_mem _ (List.mem_append_left _ (List.mem_append_left _ (List.mem_of_getElem? (i := 1) rfl))))
theorem hcX11_isShaft_X11 : ∀ w ∈ wsX110, w ∈ wsX11_isShaft := fun _ h => (List.mem_cons_of_mem _ (List.mem_append_left _ (List.mem_append_right _ h)))
theorem hcX11_isShaft_X6 : ∀ w ∈ wsX60, w ∈ wsX11_isShaft := fun _ h => (List.mem_cons_of_mem _ (List.mem_append_right _ h))
set_option maxHeartbeats 4000000 in
set_option maxRecDepth 100000 in
theorem J_X11_isShaft {D : va_G} {KA : Nat → ClassId} {zs : ZS} {ad : Nat → Nat} {ids : List Nat} {sz : Nat} (l : Launch) (hI : ∀ c, c < 52 → c ∈ ids) {a1 : Int32}  {σ : St} {post : Int32 → St → Prop} (h : wX11_isShaft ids a1 σ post) : Met l yX11_isShaft wsX11_isShaft rmX11_isShaft (va_Pc [.ref (ad 0), .int a1] (xIn D KA zs layX stX ad ids sz σ)) (va_Qi post (xOut D KA layX stX ad ids) (xA ad ids sz)) 0 0 (xA ad ids sz) := by
  refine Met.ofW (cc := cX11_isShaft) (maxL := 2) (ret := (some .boolean)) (by decide) rfl ?_
  intro p e s m args below meth c s₁ B hml hv
  obtain ⟨hav, hsz, hK, hZ, hP, hD⟩ := hv
  have hx := B.exec
  have hb := B.bytes
  have hr := B.returns
  have hts := atoms_spec (ws := wsX11_isShaft) B.pre
  have hown : s.vm.findClass RX11 = some m.cls := findClass_of_methodNamed B.named
  have hlocks := B.notSynchronized
  subst hsz
  have hA : ∀ q : Nat, s.heap.size ≤ q → xA ad ids s.heap.size q := fun q h => Or.inr h
  have hW : xW D KA layX stX ad ids (xA ad ids s.heap.size) s.heap σ s.heap [] := ⟨hP, xA_D (D := D) hD, va_S.rf⟩
  have kr : ∀ (v : Int32) (σ : St) (H : Heap) (locs : List Loc) (ls : Array Slot) (pc : Nat), xW D KA layX stX ad ids (xA ad ids s.heap.size) s.heap σ H locs → isB v → post v σ → decode cX11_isShaft pc = .ok (.ireturn, 1) → W p l e rmX11_isShaft s m args below meth c H locs 0 0 (MQ below (va_Qi post (xOut D KA layX stX ad ids) (xA ad ids s.heap.size)) args s 0 0 (xA ad ids s.heap.size)) (F0 m pc ls [.int v]) := fun v σ H locs ls pc hW hz h hd => x_zret hx hb hr hlocks hW hz h hd
  have hl := lv_entry ([.ref (ad 0), .int a1]) (n := 2) (Nat.le_of_ble_eq_true rfl)
  rw [show entryFrame m args 2 = entryFrame m ([.ref (ad 0), .int a1] : List Value).toArray 2 from by rw [hav]]
  rw [lg_entry_eq]
  generalize (lg_sl ([.ref (ad 0), .int a1]) ++ List.replicate (2 - (lg_sl ([.ref (ad 0), .int a1])).length) Slot.unset).toArray = ls at hl ⊢
  have hl : lv_has ls 2 [(0, .ref (ad 0)), (1, .int a1)] := hl
  show W p l e rmX11_isShaft s m args below meth c s.heap [] 0 0 _ _
  generalize MQ below (va_Qi post (xOut D KA layX stX ad ids) (xA ad ids s.heap.size)) args s 0 0 (xA ad ids s.heap.size) = Q at kr ⊢
  have main : ∀ (H : Heap) (locs : List Loc) (ls : Array Slot), xW D KA layX stX ad ids (xA ad ids s.heap.size) s.heap σ H locs → lv_has ls 2 [(0, .ref (ad 0)), (1, .int a1)] → W p l e rmX11_isShaft s m args below meth c H locs 0 0 Q (F0 m 0 ls []) := by
    intro H locs ls hW hl
    unfold wX11_isShaft at h
    refine lv_iload_n hx hb dX11_isShaft_0 rfl (lv_at hl 1 rfl) ?_
    refine lv_iconst (v := 0) hx hb dX11_isShaft_1 (by decide) ?_
    refine lv_aload_n hx hb dX11_isShaft_2 rfl (lv_at hl 0 rfl) ?_
    refine xgX11_0r hx hb hts hown hK hW 0 hcX11_isShaft_X11 (hI 0 (by decide)) lX_0 (hts _ hwX11_isShaft_0) (sX_0_0 _) dX11_isShaft_3 ?_
    refine xgX6_0 hx hb hts hown hK hW 1 hcX11_isShaft_X6 (hI 1 (by decide)) lX_1 (hts _ hwX11_isShaft_1) dX11_isShaft_6 ?_
    refine lv_iconst (v := 1) hx hb dX11_isShaft_9 (by decide) ?_
    refine lv_isub hx hb dX11_isShaft_10 ?_
    refine x_calli (va_runS (As := [.int a1, .int (0 : Int32), .int ((gI σ 1 0) - (1 : Int32))]) (rest := []) ⟨hx, hb, hml, hown, hts⟩ (J_X11_within l hI h) (va_cwS 3 hts gX11_isShaft_X11_within rfl rfl rfl hdS_X11_within ⟨Nat.le_of_ble_eq_true rfl, Nat.le_of_ble_eq_true rfl⟩) (x_preS hK hZ hA hW) rfl rfl hl.1 rfl (lv_room (Nat.le_of_ble_eq_true rfl)) dX11_isShaft_11 ⟨Nat.zero_le _, Nat.zero_le _⟩) hW hA (fun r1002 σ1001 H locs h hW => ?_)
    try dsimp only at h
    obtain ⟨hz1003, h⟩ := h
    exact kr _ _ _ _ _ _ hW hz1003 h dX11_isShaft_14
  exact main _ _ _ hW hl
set_option maxHeartbeats 4000000 in
set_option maxRecDepth 100000 in
theorem J_X11_lowestBit {D : va_G} {KA : Nat → ClassId} {zs : ZS} {ad : Nat → Nat} {ids : List Nat} {sz : Nat} (l : Launch) (hI : ∀ c, c < 52 → c ∈ ids) {a0 : Int32}  {σ : St} {post : Int32 → St → Prop} (h : wX11_lowestBit ids a0 σ post) : Met l yX11_lowestBit wsX11_lowestBit rmX11_lowestBit (va_Pc [.int a0] (xIn D KA zs layX stX ad ids sz σ)) (va_Qi post (xOut D KA layX stX ad ids) (xA ad ids sz)) 0 0 (xA ad ids sz) := by
  refine Met.ofW (cc := cX11_lowestBit) (maxL := 2) (ret := (some .int)) (by decide) rfl ?_
  intro p e s m args below meth c s₁ B hml hv
  obtain ⟨hav, hsz, hK, hZ, hP, hD⟩ := hv
  have hx := B.exec
  have hb := B.bytes
  have hr := B.returns
  have hts := atoms_spec (ws := wsX11_lowestBit) B.pre
  have hown : s.vm.findClass RX11 = some m.cls := findClass_of_methodNamed B.named
  have hlocks := B.notSynchronized
  subst hsz
  have hA : ∀ q : Nat, s.heap.size ≤ q → xA ad ids s.heap.size q := fun q h => Or.inr h
  have hW : xW D KA layX stX ad ids (xA ad ids s.heap.size) s.heap σ s.heap [] := ⟨hP, xA_D (D := D) hD, va_S.rf⟩
  have kr : ∀ (v : Int32) (σ : St) (H : Heap) (locs : List Loc) (ls : Array Slot) (pc : Nat), xW D KA layX stX ad ids (xA ad ids s.heap.size) s.heap σ H locs → post v σ → decode cX11_lowestBit pc = .ok (.ireturn, 1) → W p l e rmX11_lowestBit s m args below meth c H locs 0 0 (MQ below (va_Qi post (xOut D KA layX stX ad ids) (xA ad ids s.heap.size)) args s 0 0 (xA ad ids s.heap.size)) (F0 m pc ls [.int v]) := fun v σ H locs ls pc hW h hd => x_iret hx hb hr hlocks hW h hd
  have hl := lv_entry ([.int a0]) (n := 2) (Nat.le_of_ble_eq_true rfl)
  rw [show entryFrame m args 2 = entryFrame m ([.int a0] : List Value).toArray 2 from by rw [hav]]
  rw [lg_entry_eq]
  generalize (lg_sl ([.int a0]) ++ List.replicate (2 - (lg_sl ([.int a0])).length) Slot.unset).toArray = ls at hl ⊢
  have hl : lv_has ls 2 [(0, .int a0)] := hl
  show W p l e rmX11_lowestBit s m args below meth c s.heap [] 0 0 _ _
  generalize MQ below (va_Qi post (xOut D KA layX stX ad ids) (xA ad ids s.heap.size)) args s 0 0 (xA ad ids s.heap.size) = Q at kr ⊢
  have blk2 : ∀ (x0 : Int32) (n : Nat) (x1 : Int32) (σ : St) (H : Heap) (locs : List Loc) (ls : Array Slot), xW D KA layX stX ad ids (xA ad ids s.heap.size) s.heap σ H locs → lv_has ls 2 [(0, .int x0), (1, .int x1)] → wX11_lowestBit_2 ids post x0 n x1 σ → W p l e rmX11_lowestBit s m args below meth c H locs 0 0 Q (F0 m 2 ls []) := by
    intro   x0 n
    induction n with
    | zero => intro x1 σ H locs ls hW hl h; exact (h : False).elim
    | succ n ih =>
      intro x1 σ H locs ls hW hl h
      have hk2 : ∀ (x1 : Int32) (σ : St) (H : Heap) (locs : List Loc) (ls : Array Slot), xW D KA layX stX ad ids (xA ad ids s.heap.size) s.heap σ H locs → lv_has ls 2 [(0, .int x0), (1, .int x1)] → (wX11_lowestBit_2 ids post x0 n) x1 σ → W p l e rmX11_lowestBit s m args below meth c H locs 0 0 Q (F0 m 2 ls []) := fun x1 σ H locs ls hW hl h => ih x1 σ H locs ls hW hl h
      rw [wX11_lowestBit_2_s] at h
      try dsimp only at h
      generalize wX11_lowestBit_2 ids post x0 n = k2 at h hk2
      refine lv_iload_n hx hb dX11_lowestBit_2 rfl (lv_at hl 1 rfl) ?_
      refine lv_bipush (v := 32) hx hb dX11_lowestBit_3 (by decide) ?_
      refine lv_icmp_ge (tgt := 25) hx hb dX11_lowestBit_5 (by decide) (fun c1 => ?_) (fun c1 => ?_)
      · have h := h.1 c1
        refine lv_iconst (v := (-1)) hx hb dX11_lowestBit_25 (by decide) ?_
        exact kr _ _ _ _ _ _ hW h dX11_lowestBit_26
      · have h := h.2 c1
        refine lv_iload_n hx hb dX11_lowestBit_8 rfl (lv_at hl 0 rfl) ?_
        refine lv_iload_n hx hb dX11_lowestBit_9 rfl (lv_at hl 1 rfl) ?_
        refine lv_ishr hx hb dX11_lowestBit_10 ?_
        refine lv_iconst (v := 1) hx hb dX11_lowestBit_11 (by decide) ?_
        refine lv_iand hx hb dX11_lowestBit_12 ?_
        refine lv_iconst (v := 1) hx hb dX11_lowestBit_13 (by decide) ?_
        refine lv_icmp_ne (tgt := 19) hx hb dX11_lowestBit_14 (by decide) (fun c2 => ?_) (fun c2 => ?_)
        · have h := h.1 c2
          obtain ⟨v3, hv3⟩ : ∃ y : Int32, y = x1 + (1 : Int32) := ⟨_, rfl⟩
          have h := h v3 hv3
          refine lv_iinc (v := v3) (lv' := [(1, .int v3), (0, .int x0)]) hx hb dX11_lowestBit_19 hl (k := 1) rfl (by rw [hv3]; rfl) (by decide) rfl (fun ls hl => ?_)
          refine lv_goto (tgt := 2) hx hb dX11_lowestBit_22 (by decide) ?_
          exact hk2 v3 _ _ _ _ hW (lv_sub hl [1, 0] rfl) h
        · have h := h.2 c2
          refine lv_iload_n hx hb dX11_lowestBit_17 rfl (lv_at hl 1 rfl) ?_
          exact kr _ _ _ _ _ _ hW h dX11_lowestBit_18
  have main : ∀ (H : Heap) (locs : List Loc) (ls : Array Slot), xW D KA layX stX ad ids (xA ad ids s.heap.size) s.heap σ H locs → lv_has ls 2 [(0, .int a0)] → W p l e rmX11_lowestBit s m args below meth c H locs 0 0 Q (F0 m 0 ls []) := by
    intro H locs ls hW hl
    unfold wX11_lowestBit at h
    refine lv_iconst (v := 0) hx hb dX11_lowestBit_0 (by decide) ?_
    refine lv_istore_n (lv' := [(1, .int (0 : Int32)), (0, .int a0)]) hx hb dX11_lowestBit_1 rfl hl (by decide) rfl (fun ls hl => ?_)
    obtain ⟨n, h⟩ := h
    exact blk2   a0 n (0 : Int32) _ _ _ _ hW (lv_sub hl [1, 0] rfl) h
  exact main _ _ _ hW hl
theorem hwX6_pulls_0 : (.fieldLink RX6 42 "FortyBelts$Mill" "belts" "[LFortyBelts$Belt;" : Cond) ∈ wsX6_pulls := (List.mem_cons_of_mem _ (List.mem_append_left _ (List.mem_append_left _ (List.mem_append_left _ (List.mem_append_left _ (List.mem_append_left _ (List.mem_append_left _ (List.mem_append_left _ (List.mem_append_left _ (List.mem_append_left _ (List.mem_of_getElem? (i := 1) rfl)))))))))))
theorem hwX6_pulls_1 : (.fieldLink RX6 65 "FortyBelts$Mill" "beltCount" "I" : Cond) ∈ wsX6_pulls := (List.mem_cons_of_mem _ (List.mem_append_left _ (List.mem_append_left _ (List.mem_append_left _ (List.mem_append_left _ (List.mem_append_left _ (List.mem_append_left _ (List.mem_append_left _ (List.mem_append_left _ (List.mem_append_left _ (List.mem_of_getElem? (i := 0) rfl)))))))))))
theorem hwX6_pulls_2 : (.fieldLink RX6 86 "FortyBelts$Belt" "driver" "I" : Cond) ∈ wsX6_pulls := (List.mem_cons_of_mem _ (List.mem_append_left _ (List.mem_append_left _ (List.mem_append_left _ (List.mem_append_left _ (List.mem_append_left _ (List.mem_append_left _ (List.mem_append_left _ (List.mem_append_left _ (List.mem_append_left _ (List.mem_of_getElem? (i := 2) rfl)))))))))))
theorem hwX6_pulls_3 : (.fieldLink RX6 68 "FortyBelts$Belt" "driven" "I" : Cond) ∈ wsX6_pulls := (List.mem_cons_of_mem _ (List.mem_append_left _ (List.mem_append_left _ (List.mem_append_left _ (List.mem_append_left _ (List.mem_append_left _ (List.mem_append_left _ (List.mem_append_left _ (List.mem_append_left _ (List.mem_append_left _ (List.mem_of_getElem? (i := 3) rfl)))))))))))
theorem hcX6_pulls_X6 : ∀ w ∈ wsX60, w ∈ wsX6_pulls := fun _ h => (List.mem_cons_of_mem _ (List.mem_append_left _ (List.mem_append_left _ (List.mem_append_left _ (List.mem_append_left _ (List.mem_append_left _ (List.mem_append_left _ (List.mem_append_left _ (List.mem_append_right _ h)))))))))
theorem hcX6_pulls_X0 : ∀ w ∈ wsX00, w ∈ wsX6_pulls := fun _ h => (List.mem_cons_of_mem _ (List.mem_append_left _ (List.mem_append_left _ (List.mem_append_left _ (List.mem_append_left _ (List.mem_append_left _ (List.mem_append_left _ (List.mem_append_right _ h))))))))
theorem hcX6_pulls_X1 : ∀ w ∈ wsX10, w ∈ wsX6_pulls := fun _ h => (List.mem_cons_of_mem _ (List.mem_append_left _ (List.mem_append_left _ (List.mem_append_left _ (List.mem_append_left _ (List.mem_append_left _ (List.mem_append_right _ h)))))))
theorem hcX6_pulls_X2 : ∀ w ∈ wsX20, w ∈ wsX6_pulls := fun _ h => (List.mem_cons_of_mem _ (List.mem_append_left _ (List.mem_append_left _ (List.mem_append_left _ (List.mem_append_left _ (List.mem_append_right _ h))))))
theorem hcX6_pulls_X3 : ∀ w ∈ wsX30, w ∈ wsX6_pulls := fun _ h => (List.mem_cons_of_mem _ (List.mem_append_left _ (List.mem_append_left _ (List.mem_append_left _ (List.mem_append_right _ h)))))
theorem hcX6_pulls_X4 : ∀ w ∈ wsX40, w ∈ wsX6_pulls := fun _ h => (List.mem_cons_of_mem _ (List.mem_append_left _ (List.mem_append_left _ (List.mem_append_right _ h))))
theorem hcX6_pulls_X10 : ∀ w ∈ wsX100, w ∈ wsX6_pulls := fun _ h => (List.mem_cons_of_mem _ (List.mem_append_left _ (List.mem_append_right _ h)))
theorem hBX6_pulls : xHB wsX6_pulls := ⟨hcX6_pulls_X0, hcX6_pulls_X1, hcX6_pulls_X2, hcX6_pulls_X3, hcX6_pulls_X4, hcX6_pulls_X10⟩
set_option maxHeartbeats 4000000 in
set_option maxRecDepth 100000 in
theorem J_X6_pulls {D : va_G} {KA : Nat → ClassId} {zs : ZS} {ad : Nat → Nat} {ids : List Nat} {sz : Nat} (l : Launch) (hI : ∀ c, c < 52 → c ∈ ids) {a1 : Int32}  {σ : St} {post : Int32 → St → Prop} (h : wX6_pulls ids a1 σ post) : Met l yX6_pulls wsX6_pulls rmX6_pulls (va_Pc [.ref (ad 1), .int a1] (xIn D KA zs layX stX ad ids sz σ)) (va_Qi post (xOut D KA layX stX ad ids) (xA ad ids sz)) 0 0 (xA ad ids sz) := by
  refine Met.ofW (cc := cX6_pulls) (maxL := 4) (ret := (some .int)) (by decide) rfl ?_
  intro p e s m args below meth c s₁ B hml hv
  obtain ⟨hav, hsz, hK, hZ, hP, hD⟩ := hv
  have hx := B.exec
  have hb := B.bytes
  have hr := B.returns
  have hts := atoms_spec (ws := wsX6_pulls) B.pre
  have hown : s.vm.findClass RX6 = some m.cls := findClass_of_methodNamed B.named
  have hlocks := B.notSynchronized
  subst hsz
  have hA : ∀ q : Nat, s.heap.size ≤ q → xA ad ids s.heap.size q := fun q h => Or.inr h
  have hW : xW D KA layX stX ad ids (xA ad ids s.heap.size) s.heap σ s.heap [] := ⟨hP, xA_D (D := D) hD, va_S.rf⟩
  have kr : ∀ (v : Int32) (σ : St) (H : Heap) (locs : List Loc) (ls : Array Slot) (pc : Nat), xW D KA layX stX ad ids (xA ad ids s.heap.size) s.heap σ H locs → post v σ → decode cX6_pulls pc = .ok (.ireturn, 1) → W p l e rmX6_pulls s m args below meth c H locs 0 0 (MQ below (va_Qi post (xOut D KA layX stX ad ids) (xA ad ids s.heap.size)) args s 0 0 (xA ad ids s.heap.size)) (F0 m pc ls [.int v]) := fun v σ H locs ls pc hW h hd => x_iret hx hb hr hlocks hW h hd
  have hl := lv_entry ([.ref (ad 1), .int a1]) (n := 4) (Nat.le_of_ble_eq_true rfl)
  rw [show entryFrame m args 4 = entryFrame m ([.ref (ad 1), .int a1] : List Value).toArray 4 from by rw [hav]]
  rw [lg_entry_eq]
  generalize (lg_sl ([.ref (ad 1), .int a1]) ++ List.replicate (4 - (lg_sl ([.ref (ad 1), .int a1])).length) Slot.unset).toArray = ls at hl ⊢
  have hl : lv_has ls 4 [(0, .ref (ad 1)), (1, .int a1)] := hl
  show W p l e rmX6_pulls s m args below meth c s.heap [] 0 0 _ _
  generalize MQ below (va_Qi post (xOut D KA layX stX ad ids) (xA ad ids s.heap.size)) args s 0 0 (xA ad ids s.heap.size) = Q at kr ⊢
  have blk51 : ∀ (x1 : Int32) (k4 : Int32 → Int32 → St → Prop) (hk4 : ∀ (x2 : Int32) (x3 : Int32) (σ : St) (H : Heap) (locs : List Loc) (ls : Array Slot), xW D KA layX stX ad ids (xA ad ids s.heap.size) s.heap σ H locs → lv_has ls 4 [(0, .ref (ad 1)), (1, .int x1), (2, .int x2), (3, .int x3)] → k4 x2 x3 σ → W p l e rmX6_pulls s m args below meth c H locs 0 0 Q (F0 m 4 ls [])) (x2 : Int32) (x3 : Int32) (σ : St) (H : Heap) (locs : List Loc) (ls : Array Slot), xW D KA layX stX ad ids (xA ad ids s.heap.size) s.heap σ H locs → lv_has ls 4 [(0, .ref (ad 1)), (1, .int x1), (2, .int x2), (3, .int x3)] → wX6_pulls_51 ids k4 post x1 x2 x3 σ → W p l e rmX6_pulls s m args below meth c H locs 0 0 Q (F0 m 51 ls []) := by
    intro x1 k4 hk4 x2 x3 σ H locs ls hW hl h
    unfold wX6_pulls_51 at h
    obtain ⟨v1, hv1⟩ : ∃ y : Int32, y = x3 + (1 : Int32) := ⟨_, rfl⟩
    have h := h v1 hv1
    refine lv_iinc (v := v1) (lv' := [(3, .int v1), (0, .ref (ad 1)), (1, .int x1), (2, .int x2)]) hx hb dX6_pulls_51 hl (k := 3) rfl (by rw [hv1]; rfl) (by decide) rfl (fun ls hl => ?_)
    refine lv_goto (tgt := 4) hx hb dX6_pulls_54 (by decide) ?_
    exact hk4 x2 v1 _ _ _ _ hW (lv_sub hl [1, 2, 3, 0] rfl) h
  have blk38 : ∀ (x1 : Int32) (k4 : Int32 → Int32 → St → Prop) (hk4 : ∀ (x2 : Int32) (x3 : Int32) (σ : St) (H : Heap) (locs : List Loc) (ls : Array Slot), xW D KA layX stX ad ids (xA ad ids s.heap.size) s.heap σ H locs → lv_has ls 4 [(0, .ref (ad 1)), (1, .int x1), (2, .int x2), (3, .int x3)] → k4 x2 x3 σ → W p l e rmX6_pulls s m args below meth c H locs 0 0 Q (F0 m 4 ls [])) (x2 : Int32) (x3 : Int32) (σ : St) (H : Heap) (locs : List Loc) (ls : Array Slot), xW D KA layX stX ad ids (xA ad ids s.heap.size) s.heap σ H locs → lv_has ls 4 [(0, .ref (ad 1)), (1, .int x1), (2, .int x2), (3, .int x3)] → wX6_pulls_38 ids k4 post x1 x2 x3 σ → W p l e rmX6_pulls s m args below meth c H locs 0 0 Q (F0 m 38 ls []) := by
    intro x1 k4 hk4 x2 x3 σ H locs ls hW hl h
    unfold wX6_pulls_38 at h
    refine lv_iload_n hx hb dX6_pulls_38 rfl (lv_at hl 2 rfl) ?_
    refine lv_aload_n hx hb dX6_pulls_39 rfl (lv_at hl 0 rfl) ?_
    refine lv_aload_n hx hb dX6_pulls_40 rfl (lv_at hl 0 rfl) ?_
    refine xgX6_12r hx hb hts hown hK hW 1 hcX6_pulls_X6 (hI 1 (by decide)) lX_1 (hts _ hwX6_pulls_0) (sX_1_12 _) dX6_pulls_41 ?_
    refine lv_iload_n hx hb dX6_pulls_44 rfl (lv_at hl 3 rfl) ?_
    obtain ⟨hi2, h⟩ := h
    obtain ⟨o3, hr4, ok_o3, h⟩ := h
    refine x_ald hx hb hK hW 11 0 (hI 11 (by decide)) lX_11 rfl hi2 ((sX_11 _ _).trans hr4) dX6_pulls_45 ?_
    refine x_calli (va_runV (As := [.ref (ad o3)]) (rest := [.int x2]) ⟨hx, hb, hml, hown, hts⟩ (J_X6_pull l hI ok_o3 h) (cwV 1 hts gX6_pulls_X6_pull rfl rfl rfl hdV_X6_pull ⟨Nat.le_of_ble_eq_true rfl, Nat.le_of_ble_eq_true rfl⟩) (x_preV (ci := 6) hK hZ hA hW (hI 1 (by decide)) lX_1 rfl) rfl rfl hl.1 rfl (lv_room (Nat.le_of_ble_eq_true rfl)) dX6_pulls_46 ⟨Nat.zero_le _, Nat.zero_le _⟩) hW hA (fun r6 σ5 H locs h hW => ?_)
    try dsimp only at h
    refine lv_iadd hx hb dX6_pulls_49 ?_
    refine lv_topi (fun v7 hv7 => ?_)
    have h := h v7 hv7
    refine lv_istore_n (lv' := [(2, .int v7), (0, .ref (ad 1)), (1, .int x1), (3, .int x3)]) hx hb dX6_pulls_50 rfl hl (by decide) rfl (fun ls hl => ?_)
    exact blk51 x1 k4 hk4 v7 x3 _ _ _ _ hW (lv_sub hl [1, 2, 0, 3] rfl) h
  have blk4 : ∀ (x1 : Int32) (n : Nat) (x2 : Int32) (x3 : Int32) (σ : St) (H : Heap) (locs : List Loc) (ls : Array Slot), xW D KA layX stX ad ids (xA ad ids s.heap.size) s.heap σ H locs → lv_has ls 4 [(0, .ref (ad 1)), (1, .int x1), (2, .int x2), (3, .int x3)] → wX6_pulls_4 ids post x1 n x2 x3 σ → W p l e rmX6_pulls s m args below meth c H locs 0 0 Q (F0 m 4 ls []) := by
    intro   x1 n
    induction n with
    | zero => intro x2 x3 σ H locs ls hW hl h; exact (h : False).elim
    | succ n ih =>
      intro x2 x3 σ H locs ls hW hl h
      have hk4 : ∀ (x2 : Int32) (x3 : Int32) (σ : St) (H : Heap) (locs : List Loc) (ls : Array Slot), xW D KA layX stX ad ids (xA ad ids s.heap.size) s.heap σ H locs → lv_has ls 4 [(0, .ref (ad 1)), (1, .int x1), (2, .int x2), (3, .int x3)] → (wX6_pulls_4 ids post x1 n) x2 x3 σ → W p l e rmX6_pulls s m args below meth c H locs 0 0 Q (F0 m 4 ls []) := fun x2 x3 σ H locs ls hW hl h => ih x2 x3 σ H locs ls hW hl h
      rw [wX6_pulls_4_s] at h
      try dsimp only at h
      generalize wX6_pulls_4 ids post x1 n = k4 at h hk4
      refine lv_iload_n hx hb dX6_pulls_4 rfl (lv_at hl 3 rfl) ?_
      refine lv_aload_n hx hb dX6_pulls_5 rfl (lv_at hl 0 rfl) ?_
      refine xgX6_3 hx hb hts hown hK hW 1 hcX6_pulls_X6 (hI 1 (by decide)) lX_1 (hts _ hwX6_pulls_1) dX6_pulls_6 ?_
      refine lv_icmp_ge (tgt := 57) hx hb dX6_pulls_9 (by decide) (fun c8 => ?_) (fun c8 => ?_)
      · have h := h.1 c8
        refine lv_iload_n hx hb dX6_pulls_57 rfl (lv_at hl 2 rfl) ?_
        exact kr _ _ _ _ _ _ hW h dX6_pulls_58
      · have h := h.2 c8
        refine lv_aload_n hx hb dX6_pulls_12 rfl (lv_at hl 0 rfl) ?_
        refine xgX6_12r hx hb hts hown hK hW 1 hcX6_pulls_X6 (hI 1 (by decide)) lX_1 (hts _ hwX6_pulls_0) (sX_1_12 _) dX6_pulls_13 ?_
        refine lv_iload_n hx hb dX6_pulls_16 rfl (lv_at hl 3 rfl) ?_
        obtain ⟨hi9, h⟩ := h
        obtain ⟨o10, hr11, ok_o10, h⟩ := h
        refine x_ald hx hb hK hW 11 0 (hI 11 (by decide)) lX_11 rfl hi9 ((sX_11 _ _).trans hr11) dX6_pulls_17 ?_
        refine xgB_1 hx hb hts hown hK hW o10 hBX6_pulls ok_o10 (hts _ hwX6_pulls_2) (fun _ h => h) dX6_pulls_18 ?_
        refine lv_iload_n hx hb dX6_pulls_21 rfl (lv_at hl 1 rfl) ?_
        refine lv_icmp_eq (tgt := 38) hx hb dX6_pulls_22 (by decide) (fun c12 => ?_) (fun c12 => ?_)
        · have h := h.1 c12
          exact blk38 x1 k4 hk4 x2 x3 _ _ _ _ hW (lv_sub hl [0, 1, 2, 3] rfl) h
        · have h := h.2 c12
          refine lv_aload_n hx hb dX6_pulls_25 rfl (lv_at hl 0 rfl) ?_
          refine xgX6_12r hx hb hts hown hK hW 1 hcX6_pulls_X6 (hI 1 (by decide)) lX_1 (hts _ hwX6_pulls_0) (sX_1_12 _) dX6_pulls_26 ?_
          refine lv_iload_n hx hb dX6_pulls_29 rfl (lv_at hl 3 rfl) ?_
          obtain ⟨o14, hr15, ok_o14, h⟩ := h
          refine x_ald hx hb hK hW 11 0 (hI 11 (by decide)) lX_11 rfl hi9 ((sX_11 _ _).trans hr15) dX6_pulls_30 ?_
          refine xgB_2 hx hb hts hown hK hW o14 hBX6_pulls ok_o14 (hts _ hwX6_pulls_3) (fun _ h => h) dX6_pulls_31 ?_
          refine lv_iload_n hx hb dX6_pulls_34 rfl (lv_at hl 1 rfl) ?_
          refine lv_icmp_ne (tgt := 51) hx hb dX6_pulls_35 (by decide) (fun c16 => ?_) (fun c16 => ?_)
          · have h := h.1 c16
            exact blk51 x1 k4 hk4 x2 x3 _ _ _ _ hW (lv_sub hl [0, 1, 2, 3] rfl) h
          · have h := h.2 c16
            exact blk38 x1 k4 hk4 x2 x3 _ _ _ _ hW (lv_sub hl [0, 1, 2, 3] rfl) h
  have main : ∀ (H : Heap) (locs : List Loc) (ls : Array Slot), xW D KA layX stX ad ids (xA ad ids s.heap.size) s.heap σ H locs → lv_has ls 4 [(0, .ref (ad 1)), (1, .int a1)] → W p l e rmX6_pulls s m args below meth c H locs 0 0 Q (F0 m 0 ls []) := by
    intro H locs ls hW hl
    unfold wX6_pulls at h
    refine lv_iconst (v := 0) hx hb dX6_pulls_0 (by decide) ?_
    refine lv_istore_n (lv' := [(2, .int (0 : Int32)), (0, .ref (ad 1)), (1, .int a1)]) hx hb dX6_pulls_1 rfl hl (by decide) rfl (fun ls hl => ?_)
    refine lv_iconst (v := 0) hx hb dX6_pulls_2 (by decide) ?_
    refine lv_istore_n (lv' := [(3, .int (0 : Int32)), (2, .int (0 : Int32)), (0, .ref (ad 1)), (1, .int a1)]) hx hb dX6_pulls_3 rfl hl (by decide) rfl (fun ls hl => ?_)
    obtain ⟨n, h⟩ := h
    exact blk4   a1 n (0 : Int32) (0 : Int32) _ _ _ _ hW (lv_sub hl [2, 3, 1, 0] rfl) h
  exact main _ _ _ hW hl
theorem hwX6_isBent_0 : (.fieldLink RX6 15 "FortyBelts$Mill" "bends" "[I" : Cond) ∈ wsX6_isBent := (List.mem_cons_of_mem _ (List.mem_append_left _ (List.mem_append_left _ (List.mem_append_left _ (List.mem_append_left _ (List.mem_append_left _ (List.mem_append_left _ (List.mem_append_left _ (List.mem_append_left _ (List.mem_append_left _ (List.mem_of_getElem? (i := 0) rfl)))))))))))
theorem hcX6_isBent_X6 : ∀ w ∈ wsX60, w ∈ wsX6_isBent := fun _ h => (List.mem_cons_of_mem _ (List.mem_append_left _ (List.mem_append_left _ (List.mem_append_left _ (List.mem_append_left _ (List.mem_append_left _ (List.mem_append_left _ (List.mem_append_left _ (List.mem_append_right _ h)))))))))
set_option maxHeartbeats 4000000 in
set_option maxRecDepth 100000 in
theorem J_X6_isBent {D : va_G} {KA : Nat → ClassId} {zs : ZS} {ad : Nat → Nat} {ids : List Nat} {sz : Nat} (l : Launch) (hI : ∀ c, c < 52 → c ∈ ids) {a1 : Int32}  {σ : St} {post : Int32 → St → Prop} (h : wX6_isBent ids a1 σ post) : Met l yX6_isBent wsX6_isBent rmX6_isBent (va_Pc [.ref (ad 1), .int a1] (xIn D KA zs layX stX ad ids sz σ)) (va_Qi post (xOut D KA layX stX ad ids) (xA ad ids sz)) 0 0 (xA ad ids sz) := by
  refine Met.ofW (cc := cX6_isBent) (maxL := 2) (ret := (some .boolean)) (by decide) rfl ?_
  intro p e s m args below meth c s₁ B hml hv
  obtain ⟨hav, hsz, hK, hZ, hP, hD⟩ := hv
  have hx := B.exec
  have hb := B.bytes
  have hr := B.returns
  have hts := atoms_spec (ws := wsX6_isBent) B.pre
  have hown : s.vm.findClass RX6 = some m.cls := findClass_of_methodNamed B.named
  have hlocks := B.notSynchronized
  subst hsz
  have hA : ∀ q : Nat, s.heap.size ≤ q → xA ad ids s.heap.size q := fun q h => Or.inr h
  have hW : xW D KA layX stX ad ids (xA ad ids s.heap.size) s.heap σ s.heap [] := ⟨hP, xA_D (D := D) hD, va_S.rf⟩
  have kr : ∀ (v : Int32) (σ : St) (H : Heap) (locs : List Loc) (ls : Array Slot) (pc : Nat), xW D KA layX stX ad ids (xA ad ids s.heap.size) s.heap σ H locs → isB v → post v σ → decode cX6_isBent pc = .ok (.ireturn, 1) → W p l e rmX6_isBent s m args below meth c H locs 0 0 (MQ below (va_Qi post (xOut D KA layX stX ad ids) (xA ad ids s.heap.size)) args s 0 0 (xA ad ids s.heap.size)) (F0 m pc ls [.int v]) := fun v σ H locs ls pc hW hz h hd => x_zret hx hb hr hlocks hW hz h hd
  have hl := lv_entry ([.ref (ad 1), .int a1]) (n := 2) (Nat.le_of_ble_eq_true rfl)
  rw [show entryFrame m args 2 = entryFrame m ([.ref (ad 1), .int a1] : List Value).toArray 2 from by rw [hav]]
  rw [lg_entry_eq]
  generalize (lg_sl ([.ref (ad 1), .int a1]) ++ List.replicate (2 - (lg_sl ([.ref (ad 1), .int a1])).length) Slot.unset).toArray = ls at hl ⊢
  have hl : lv_has ls 2 [(0, .ref (ad 1)), (1, .int a1)] := hl
  show W p l e rmX6_isBent s m args below meth c s.heap [] 0 0 _ _
  generalize MQ below (va_Qi post (xOut D KA layX stX ad ids) (xA ad ids s.heap.size)) args s 0 0 (xA ad ids s.heap.size) = Q at kr ⊢
  have blk19 : ∀ (s0 : Int32) (σ : St) (H : Heap) (locs : List Loc) (ls : Array Slot), xW D KA layX stX ad ids (xA ad ids s.heap.size) s.heap σ H locs → lv_has ls 2 [] → wX6_isBent_19 ids post s0 σ → W p l e rmX6_isBent s m args below meth c H locs 0 0 Q (F0 m 19 ls [.int s0]) := by
    intro   s0 σ H locs ls hW hl h
    unfold wX6_isBent_19 at h
    obtain ⟨hz1, h⟩ := h
    exact kr _ _ _ _ _ _ hW hz1 h dX6_isBent_19
  have main : ∀ (H : Heap) (locs : List Loc) (ls : Array Slot), xW D KA layX stX ad ids (xA ad ids s.heap.size) s.heap σ H locs → lv_has ls 2 [(0, .ref (ad 1)), (1, .int a1)] → W p l e rmX6_isBent s m args below meth c H locs 0 0 Q (F0 m 0 ls []) := by
    intro H locs ls hW hl
    unfold wX6_isBent at h
    refine lv_aload_n hx hb dX6_isBent_0 rfl (lv_at hl 0 rfl) ?_
    refine lv_iload_n hx hb dX6_isBent_1 rfl (lv_at hl 1 rfl) ?_
    refine x_calli (va_runV (As := [.int a1]) (rest := []) ⟨hx, hb, hml, hown, hts⟩ (J_X6_pulls l hI h) (cwV 1 hts gX6_isBent_X6_pulls rfl rfl rfl hdV_X6_pulls ⟨Nat.le_of_ble_eq_true rfl, Nat.le_of_ble_eq_true rfl⟩) (x_preV (ci := 6) hK hZ hA hW (hI 1 (by decide)) lX_1 rfl) rfl rfl hl.1 rfl (lv_room (Nat.le_of_ble_eq_true rfl)) dX6_isBent_2 ⟨Nat.zero_le _, Nat.zero_le _⟩) hW hA (fun r1002 σ1001 H locs h hW => ?_)
    try dsimp only at h
    refine lv_aload_n hx hb dX6_isBent_5 rfl (lv_at hl 0 rfl) ?_
    refine xgX6_5r hx hb hts hown hK hW 1 hcX6_isBent_X6 (hI 1 (by decide)) lX_1 (hts _ hwX6_isBent_0) (sX_1_5 _) dX6_isBent_6 ?_
    refine lv_iload_n hx hb dX6_isBent_9 rfl (lv_at hl 1 rfl) ?_
    obtain ⟨hi1003, h⟩ := h
    refine x_iald hx hb hK hW 4 (hI 4 (by decide)) lX_4 hi1003 dX6_isBent_10 ?_
    refine lv_icmp_le (tgt := 18) hx hb dX6_isBent_11 (by decide) (fun c1004 => ?_) (fun c1004 => ?_)
    · have h := h.1 c1004
      refine lv_iconst (v := 0) hx hb dX6_isBent_18 (by decide) ?_
      exact blk19   (0 : Int32) _ _ _ _ hW (lv_sub hl [] rfl) h
    · have h := h.2 c1004
      refine lv_iconst (v := 1) hx hb dX6_isBent_14 (by decide) ?_
      refine lv_goto (tgt := 19) hx hb dX6_isBent_15 (by decide) ?_
      exact blk19   (1 : Int32) _ _ _ _ hW (lv_sub hl [] rfl) h
  exact main _ _ _ hW hl
theorem hwX6_firstBent_0 : (.fieldLink RX6 56 "FortyBelts$Mill" "shaftCount" "I" : Cond) ∈ wsX6_firstBent := (List.mem_cons_of_mem _ (List.mem_append_left _ (List.mem_append_left _ (List.mem_append_left _ (List.mem_append_left _ (List.mem_append_left _ (List.mem_append_left _ (List.mem_append_left _ (List.mem_append_left _ (List.mem_append_left _ (List.mem_of_getElem? (i := 0) rfl)))))))))))
theorem hcX6_firstBent_X6 : ∀ w ∈ wsX60, w ∈ wsX6_firstBent := fun _ h => (List.mem_cons_of_mem _ (List.mem_append_left _ (List.mem_append_left _ (List.mem_append_left _ (List.mem_append_left _ (List.mem_append_left _ (List.mem_append_left _ (List.mem_append_left _ (List.mem_append_right _ h)))))))))
set_option maxHeartbeats 4000000 in
set_option maxRecDepth 100000 in
theorem J_X6_firstBent {D : va_G} {KA : Nat → ClassId} {zs : ZS} {ad : Nat → Nat} {ids : List Nat} {sz : Nat} (l : Launch) (hI : ∀ c, c < 52 → c ∈ ids)   {σ : St} {post : Int32 → St → Prop} (h : wX6_firstBent ids  σ post) : Met l yX6_firstBent wsX6_firstBent rmX6_firstBent (va_Pc [.ref (ad 1)] (xIn D KA zs layX stX ad ids sz σ)) (va_Qi post (xOut D KA layX stX ad ids) (xA ad ids sz)) 0 0 (xA ad ids sz) := by
  refine Met.ofW (cc := cX6_firstBent) (maxL := 2) (ret := (some .int)) (by decide) rfl ?_
  intro p e s m args below meth c s₁ B hml hv
  obtain ⟨hav, hsz, hK, hZ, hP, hD⟩ := hv
  have hx := B.exec
  have hb := B.bytes
  have hr := B.returns
  have hts := atoms_spec (ws := wsX6_firstBent) B.pre
  have hown : s.vm.findClass RX6 = some m.cls := findClass_of_methodNamed B.named
  have hlocks := B.notSynchronized
  subst hsz
  have hA : ∀ q : Nat, s.heap.size ≤ q → xA ad ids s.heap.size q := fun q h => Or.inr h
  have hW : xW D KA layX stX ad ids (xA ad ids s.heap.size) s.heap σ s.heap [] := ⟨hP, xA_D (D := D) hD, va_S.rf⟩
  have kr : ∀ (v : Int32) (σ : St) (H : Heap) (locs : List Loc) (ls : Array Slot) (pc : Nat), xW D KA layX stX ad ids (xA ad ids s.heap.size) s.heap σ H locs → post v σ → decode cX6_firstBent pc = .ok (.ireturn, 1) → W p l e rmX6_firstBent s m args below meth c H locs 0 0 (MQ below (va_Qi post (xOut D KA layX stX ad ids) (xA ad ids s.heap.size)) args s 0 0 (xA ad ids s.heap.size)) (F0 m pc ls [.int v]) := fun v σ H locs ls pc hW h hd => x_iret hx hb hr hlocks hW h hd
  have hl := lv_entry ([.ref (ad 1)]) (n := 2) (Nat.le_of_ble_eq_true rfl)
  rw [show entryFrame m args 2 = entryFrame m ([.ref (ad 1)] : List Value).toArray 2 from by rw [hav]]
  rw [lg_entry_eq]
  generalize (lg_sl ([.ref (ad 1)]) ++ List.replicate (2 - (lg_sl ([.ref (ad 1)])).length) Slot.unset).toArray = ls at hl ⊢
  have hl : lv_has ls 2 [(0, .ref (ad 1))] := hl
  show W p l e rmX6_firstBent s m args below meth c s.heap [] 0 0 _ _
  generalize MQ below (va_Qi post (xOut D KA layX stX ad ids) (xA ad ids s.heap.size)) args s 0 0 (xA ad ids s.heap.size) = Q at kr ⊢
  have blk2 : ∀ (n : Nat) (x1 : Int32) (σ : St) (H : Heap) (locs : List Loc) (ls : Array Slot), xW D KA layX stX ad ids (xA ad ids s.heap.size) s.heap σ H locs → lv_has ls 2 [(0, .ref (ad 1)), (1, .int x1)] → wX6_firstBent_2 ids post  n x1 σ → W p l e rmX6_firstBent s m args below meth c H locs 0 0 Q (F0 m 2 ls []) := by
    intro    n
    induction n with
    | zero => intro x1 σ H locs ls hW hl h; exact (h : False).elim
    | succ n ih =>
      intro x1 σ H locs ls hW hl h
      have hk2 : ∀ (x1 : Int32) (σ : St) (H : Heap) (locs : List Loc) (ls : Array Slot), xW D KA layX stX ad ids (xA ad ids s.heap.size) s.heap σ H locs → lv_has ls 2 [(0, .ref (ad 1)), (1, .int x1)] → (wX6_firstBent_2 ids post  n) x1 σ → W p l e rmX6_firstBent s m args below meth c H locs 0 0 Q (F0 m 2 ls []) := fun x1 σ H locs ls hW hl h => ih x1 σ H locs ls hW hl h
      rw [wX6_firstBent_2_s] at h
      try dsimp only at h
      generalize wX6_firstBent_2 ids post  n = k2 at h hk2
      refine lv_iload_n hx hb dX6_firstBent_2 rfl (lv_at hl 1 rfl) ?_
      refine lv_aload_n hx hb dX6_firstBent_3 rfl (lv_at hl 0 rfl) ?_
      refine xgX6_0 hx hb hts hown hK hW 1 hcX6_firstBent_X6 (hI 1 (by decide)) lX_1 (hts _ hwX6_firstBent_0) dX6_firstBent_4 ?_
      refine lv_icmp_ge (tgt := 26) hx hb dX6_firstBent_7 (by decide) (fun c1 => ?_) (fun c1 => ?_)
      · have h := h.1 c1
        refine lv_iconst (v := (-1)) hx hb dX6_firstBent_26 (by decide) ?_
        exact kr _ _ _ _ _ _ hW h dX6_firstBent_27
      · have h := h.2 c1
        refine lv_aload_n hx hb dX6_firstBent_10 rfl (lv_at hl 0 rfl) ?_
        refine lv_iload_n hx hb dX6_firstBent_11 rfl (lv_at hl 1 rfl) ?_
        refine x_calli (va_runV (As := [.int x1]) (rest := []) ⟨hx, hb, hml, hown, hts⟩ (J_X6_isBent l hI h) (cwV 1 hts gX6_firstBent_X6_isBent rfl rfl rfl hdV_X6_isBent ⟨Nat.le_of_ble_eq_true rfl, Nat.le_of_ble_eq_true rfl⟩) (x_preV (ci := 6) hK hZ hA hW (hI 1 (by decide)) lX_1 rfl) rfl rfl hl.1 rfl (lv_room (Nat.le_of_ble_eq_true rfl)) dX6_firstBent_12 ⟨Nat.zero_le _, Nat.zero_le _⟩) hW hA (fun r3 σ2 H locs h hW => ?_)
        try dsimp only at h
        refine lv_if_eq (tgt := 20) hx hb dX6_firstBent_15 (by decide) (fun c4 => ?_) (fun c4 => ?_)
        · have h := h.1 c4
          obtain ⟨v5, hv5⟩ : ∃ y : Int32, y = x1 + (1 : Int32) := ⟨_, rfl⟩
          have h := h v5 hv5
          refine lv_iinc (v := v5) (lv' := [(1, .int v5), (0, .ref (ad 1))]) hx hb dX6_firstBent_20 hl (k := 1) rfl (by rw [hv5]; rfl) (by decide) rfl (fun ls hl => ?_)
          refine lv_goto (tgt := 2) hx hb dX6_firstBent_23 (by decide) ?_
          exact hk2 v5 _ _ _ _ hW (lv_sub hl [1, 0] rfl) h
        · have h := h.2 c4
          refine lv_iload_n hx hb dX6_firstBent_18 rfl (lv_at hl 1 rfl) ?_
          exact kr _ _ _ _ _ _ hW h dX6_firstBent_19
  have main : ∀ (H : Heap) (locs : List Loc) (ls : Array Slot), xW D KA layX stX ad ids (xA ad ids s.heap.size) s.heap σ H locs → lv_has ls 2 [(0, .ref (ad 1))] → W p l e rmX6_firstBent s m args below meth c H locs 0 0 Q (F0 m 0 ls []) := by
    intro H locs ls hW hl
    unfold wX6_firstBent at h
    refine lv_iconst (v := 0) hx hb dX6_firstBent_0 (by decide) ?_
    refine lv_istore_n (lv' := [(1, .int (0 : Int32)), (0, .ref (ad 1))]) hx hb dX6_firstBent_1 rfl hl (by decide) rfl (fun ls hl => ?_)
    obtain ⟨n, h⟩ := h
    exact blk2    n (0 : Int32) _ _ _ _ hW (lv_sub hl [1, 0] rfl) h
  exact main _ _ _ hW hl
theorem hwX6_firstSharedDrum_0 : (.fieldLink RX6 65 "FortyBelts$Mill" "beltCount" "I" : Cond) ∈ wsX6_firstSharedDrum := (List.mem_cons_of_mem _ (List.mem_append_left _ (List.mem_append_left _ (List.mem_append_left _ (List.mem_append_left _ (List.mem_append_left _ (List.mem_append_left _ (List.mem_append_left _ (List.mem_of_getElem? (i := 0) rfl)))))))))
theorem hwX6_firstSharedDrum_1 : (.initialized RX11 : Cond) ∈ wsX6_firstSharedDrum := (List.mem_cons_of_mem _ (List.mem_append_left _ (List.mem_append_left _ (List.mem_append_left _ (List.mem_append_left _ (List.mem_append_left _ (List.mem_append_left _ (List.mem_append_left _ (List.mem_of_getElem? (i := 5) rfl)))))))))
theorem hwX6_firstSharedDrum_2 : (.static yX11_lowestBit : Cond) ∈ wsX6_firstSharedDrum := (List.mem_cons_of_mem _ (List.mem_append_left _ (List.mem_append_left _ (List.mem_append_left _ (List.mem_append_left _ (List.mem_append_left _ (List.mem_append_left _ (List.mem_append_left _ (List.mem_of_getElem? (i := 4) rfl)))))))))
theorem hwX6_firstSharedDrum_3 : (.fieldLink RX6 42 "FortyBelts$Mill" "belts" "[LFortyBelts$Belt;" : Cond) ∈ wsX6_firstSharedDrum := (List.mem_cons_of_mem _ (List.mem_append_left _ (List.mem_append_left _ (List.mem_append_left _ (List.mem_append_left _ (List.mem_append_left _ (List.mem_append_left _ (List.mem_append_left _ (List.mem_of_getElem? (i := 1) rfl)))))))))
theorem hwX6_firstSharedDrum_4 : (.fieldLink RX6 74 "FortyBelts$Belt" "driverDrum" "I" : Cond) ∈ wsX6_firstSharedDrum := (List.mem_cons_of_mem _ (List.mem_append_left _ (List.mem_append_left _ (List.mem_append_left _ (List.mem_append_left _ (List.mem_append_left _ (List.mem_append_left _ (List.mem_append_left _ (List.mem_of_getElem? (i := 2) rfl)))))))))
theorem hwX6_firstSharedDrum_5 : (.fieldLink RX6 80 "FortyBelts$Belt" "drivenDrum" "I" : Cond) ∈ wsX6_firstSharedDrum := (List.mem_cons_of_mem _ (List.mem_append_left _ (List.mem_append_left _ (List.mem_append_left _ (List.mem_append_left _ (List.mem_append_left _ (List.mem_append_left _ (List.mem_append_left _ (List.mem_of_getElem? (i := 3) rfl)))))))))
theorem hcX6_firstSharedDrum_X6 : ∀ w ∈ wsX60, w ∈ wsX6_firstSharedDrum := fun _ h => (List.mem_cons_of_mem _ (List.mem_append_left _ (List.mem_append_left _ (List.mem_append_left _ (List.mem_append_left _ (List.mem_append_left _ (List.mem_append_left _ (List.mem_append_right _ h))))))))
theorem hcX6_firstSharedDrum_X0 : ∀ w ∈ wsX00, w ∈ wsX6_firstSharedDrum := fun _ h => (List.mem_cons_of_mem _ (List.mem_append_left _ (List.mem_append_left _ (List.mem_append_left _ (List.mem_append_left _ (List.mem_append_left _ (List.mem_append_right _ h)))))))
theorem hcX6_firstSharedDrum_X1 : ∀ w ∈ wsX10, w ∈ wsX6_firstSharedDrum := fun _ h => (List.mem_cons_of_mem _ (List.mem_append_left _ (List.mem_append_left _ (List.mem_append_left _ (List.mem_append_left _ (List.mem_append_right _ h))))))
theorem hcX6_firstSharedDrum_X2 : ∀ w ∈ wsX20, w ∈ wsX6_firstSharedDrum := fun _ h => (List.mem_cons_of_mem _ (List.mem_append_left _ (List.mem_append_left _ (List.mem_append_left _ (List.mem_append_right _ h)))))
theorem hcX6_firstSharedDrum_X3 : ∀ w ∈ wsX30, w ∈ wsX6_firstSharedDrum := fun _ h => (List.mem_cons_of_mem _ (List.mem_append_left _ (List.mem_append_left _ (List.mem_append_right _ h))))
theorem hcX6_firstSharedDrum_X4 : ∀ w ∈ wsX40, w ∈ wsX6_firstSharedDrum := fun _ h => (List.mem_cons_of_mem _ (List.mem_append_left _ (List.mem_append_right _ h)))
theorem hcX6_firstSharedDrum_X10 : ∀ w ∈ wsX100, w ∈ wsX6_firstSharedDrum := fun _ h => (List.mem_cons_of_mem _ (List.mem_append_right _ h))
theorem hBX6_firstSharedDrum : xHB wsX6_firstSharedDrum := ⟨hcX6_firstSharedDrum_X0, hcX6_firstSharedDrum_X1, hcX6_firstSharedDrum_X2, hcX6_firstSharedDrum_X3, hcX6_firstSharedDrum_X4, hcX6_firstSharedDrum_X10⟩
set_option maxHeartbeats 4000000 in
set_option maxRecDepth 100000 in
theorem J_X6_firstSharedDrum {D : va_G} {KA : Nat → ClassId} {zs : ZS} {ad : Nat → Nat} {ids : List Nat} {sz : Nat} (l : Launch) (hI : ∀ c, c < 52 → c ∈ ids)   {σ : St} {post : Int32 → St → Prop} (h : wX6_firstSharedDrum ids  σ post) : Met l yX6_firstSharedDrum wsX6_firstSharedDrum rmX6_firstSharedDrum (va_Pc [.ref (ad 1)] (xIn D KA zs layX stX ad ids sz σ)) (va_Qi post (xOut D KA layX stX ad ids) (xA ad ids sz)) 0 0 (xA ad ids sz) := by
  refine Met.ofW (cc := cX6_firstSharedDrum) (maxL := 5) (ret := (some .int)) (by decide) rfl ?_
  intro p e s m args below meth c s₁ B hml hv
  obtain ⟨hav, hsz, hK, hZ, hP, hD⟩ := hv
  have hx := B.exec
  have hb := B.bytes
  have hr := B.returns
  have hts := atoms_spec (ws := wsX6_firstSharedDrum) B.pre
  have hown : s.vm.findClass RX6 = some m.cls := findClass_of_methodNamed B.named
  have hlocks := B.notSynchronized
  subst hsz
  have hA : ∀ q : Nat, s.heap.size ≤ q → xA ad ids s.heap.size q := fun q h => Or.inr h
  have hW : xW D KA layX stX ad ids (xA ad ids s.heap.size) s.heap σ s.heap [] := ⟨hP, xA_D (D := D) hD, va_S.rf⟩
  have kr : ∀ (v : Int32) (σ : St) (H : Heap) (locs : List Loc) (ls : Array Slot) (pc : Nat), xW D KA layX stX ad ids (xA ad ids s.heap.size) s.heap σ H locs → post v σ → decode cX6_firstSharedDrum pc = .ok (.ireturn, 1) → W p l e rmX6_firstSharedDrum s m args below meth c H locs 0 0 (MQ below (va_Qi post (xOut D KA layX stX ad ids) (xA ad ids s.heap.size)) args s 0 0 (xA ad ids s.heap.size)) (F0 m pc ls [.int v]) := fun v σ H locs ls pc hW h hd => x_iret hx hb hr hlocks hW h hd
  have hl := lv_entry ([.ref (ad 1)]) (n := 5) (Nat.le_of_ble_eq_true rfl)
  rw [show entryFrame m args 5 = entryFrame m ([.ref (ad 1)] : List Value).toArray 5 from by rw [hav]]
  rw [lg_entry_eq]
  generalize (lg_sl ([.ref (ad 1)]) ++ List.replicate (5 - (lg_sl ([.ref (ad 1)])).length) Slot.unset).toArray = ls at hl ⊢
  have hl : lv_has ls 5 [(0, .ref (ad 1))] := hl
  show W p l e rmX6_firstSharedDrum s m args below meth c s.heap [] 0 0 _ _
  generalize MQ below (va_Qi post (xOut D KA layX stX ad ids) (xA ad ids s.heap.size)) args s 0 0 (xA ad ids s.heap.size) = Q at kr ⊢
  have blk6 : ∀ (n : Nat) (x1 : Int32) (x2 : Int32) (x3 : Int32) (σ : St) (H : Heap) (locs : List Loc) (ls : Array Slot), xW D KA layX stX ad ids (xA ad ids s.heap.size) s.heap σ H locs → lv_has ls 5 [(0, .ref (ad 1)), (1, .int x1), (2, .int x2), (3, .int x3)] → wX6_firstSharedDrum_6 ids post  n x1 x2 x3 σ → W p l e rmX6_firstSharedDrum s m args below meth c H locs 0 0 Q (F0 m 6 ls []) := by
    intro    n
    induction n with
    | zero => intro x1 x2 x3 σ H locs ls hW hl h; exact (h : False).elim
    | succ n ih =>
      intro x1 x2 x3 σ H locs ls hW hl h
      have hk6 : ∀ (x1 : Int32) (x2 : Int32) (x3 : Int32) (σ : St) (H : Heap) (locs : List Loc) (ls : Array Slot), xW D KA layX stX ad ids (xA ad ids s.heap.size) s.heap σ H locs → lv_has ls 5 [(0, .ref (ad 1)), (1, .int x1), (2, .int x2), (3, .int x3)] → (wX6_firstSharedDrum_6 ids post  n) x1 x2 x3 σ → W p l e rmX6_firstSharedDrum s m args below meth c H locs 0 0 Q (F0 m 6 ls []) := fun x1 x2 x3 σ H locs ls hW hl h => ih x1 x2 x3 σ H locs ls hW hl h
      rw [wX6_firstSharedDrum_6_s] at h
      try dsimp only at h
      generalize wX6_firstSharedDrum_6 ids post  n = k6 at h hk6
      refine lv_iload_n hx hb dX6_firstSharedDrum_6 rfl (lv_at hl 3 rfl) ?_
      refine lv_aload_n hx hb dX6_firstSharedDrum_7 rfl (lv_at hl 0 rfl) ?_
      refine xgX6_3 hx hb hts hown hK hW 1 hcX6_firstSharedDrum_X6 (hI 1 (by decide)) lX_1 (hts _ hwX6_firstSharedDrum_0) dX6_firstSharedDrum_8 ?_
      refine lv_icmp_ge (tgt := 57) hx hb dX6_firstSharedDrum_11 (by decide) (fun c1 => ?_) (fun c1 => ?_)
      · have h := h.1 c1
        refine lv_iload_n hx hb dX6_firstSharedDrum_57 rfl (lv_at hl 2 rfl) ?_
        refine x_calli (va_runSN (As := [.int x2]) (rest := []) ⟨hx, hb, hml, hown, hts⟩ (J_X11_lowestBit l hI h) ⟨va_cnB 1 hts gX6_firstSharedDrum_X11_lowestBit_n166 rfl rfl rfl (hK.2.2.1 (RX6, 166, yX11_lowestBit, RX11) List.mem_cons_self) (hts _ hwX6_firstSharedDrum_1) hdS_X11_lowestBit ⟨Nat.le_of_ble_eq_true rfl, Nat.le_of_ble_eq_true rfl⟩, (hts _ hwX6_firstSharedDrum_2), trivial⟩ (x_preS hK hZ hA hW) rfl rfl hl.1 rfl (lv_room (Nat.le_of_ble_eq_true rfl)) dX6_firstSharedDrum_58 ⟨Nat.zero_le _, Nat.zero_le _⟩) hW hA (fun r3 σ2 H locs h hW => ?_)
        try dsimp only at h
        exact kr _ _ _ _ _ _ hW h dX6_firstSharedDrum_61
      · have h := h.2 c1
        refine lv_iconst (v := 1) hx hb dX6_firstSharedDrum_14 (by decide) ?_
        refine lv_aload_n hx hb dX6_firstSharedDrum_15 rfl (lv_at hl 0 rfl) ?_
        refine xgX6_12r hx hb hts hown hK hW 1 hcX6_firstSharedDrum_X6 (hI 1 (by decide)) lX_1 (hts _ hwX6_firstSharedDrum_3) (sX_1_12 _) dX6_firstSharedDrum_16 ?_
        refine lv_iload_n hx hb dX6_firstSharedDrum_19 rfl (lv_at hl 3 rfl) ?_
        obtain ⟨hi4, h⟩ := h
        obtain ⟨o5, hr6, ok_o5, h⟩ := h
        refine x_ald hx hb hK hW 11 0 (hI 11 (by decide)) lX_11 rfl hi4 ((sX_11 _ _).trans hr6) dX6_firstSharedDrum_20 ?_
        refine xgB_4 hx hb hts hown hK hW o5 hBX6_firstSharedDrum ok_o5 (hts _ hwX6_firstSharedDrum_4) (fun _ h => h) dX6_firstSharedDrum_21 ?_
        refine lv_ishl hx hb dX6_firstSharedDrum_24 ?_
        refine lv_iconst (v := 1) hx hb dX6_firstSharedDrum_25 (by decide) ?_
        refine lv_aload_n hx hb dX6_firstSharedDrum_26 rfl (lv_at hl 0 rfl) ?_
        refine xgX6_12r hx hb hts hown hK hW 1 hcX6_firstSharedDrum_X6 (hI 1 (by decide)) lX_1 (hts _ hwX6_firstSharedDrum_3) (sX_1_12 _) dX6_firstSharedDrum_27 ?_
        refine lv_iload_n hx hb dX6_firstSharedDrum_30 rfl (lv_at hl 3 rfl) ?_
        obtain ⟨o8, hr9, ok_o8, h⟩ := h
        refine x_ald hx hb hK hW 11 0 (hI 11 (by decide)) lX_11 rfl hi4 ((sX_11 _ _).trans hr9) dX6_firstSharedDrum_31 ?_
        refine xgB_5 hx hb hts hown hK hW o8 hBX6_firstSharedDrum ok_o8 (hts _ hwX6_firstSharedDrum_5) (fun _ h => h) dX6_firstSharedDrum_32 ?_
        refine lv_ishl hx hb dX6_firstSharedDrum_35 ?_
        refine lv_ior hx hb dX6_firstSharedDrum_36 ?_
        refine lv_topi (fun v10 hv10 => ?_)
        have h := h v10 hv10
        refine lv_istore (lv' := [(4, .int v10), (0, .ref (ad 1)), (1, .int x1), (2, .int x2), (3, .int x3)]) hx hb dX6_firstSharedDrum_37 hl (by decide) rfl (fun ls hl => ?_)
        refine lv_iload_n hx hb dX6_firstSharedDrum_39 rfl (lv_at hl 3 rfl) ?_
        refine lv_iload_n hx hb dX6_firstSharedDrum_40 rfl (lv_at hl 2 rfl) ?_
        refine lv_iload hx hb dX6_firstSharedDrum_41 (lv_at hl 0 rfl) ?_
        refine lv_iand hx hb dX6_firstSharedDrum_43 ?_
        refine lv_ior hx hb dX6_firstSharedDrum_44 ?_
        refine lv_topi (fun v11 hv11 => ?_)
        have h := h v11 hv11
        refine lv_istore_n (lv' := [(2, .int v11), (4, .int v10), (0, .ref (ad 1)), (1, .int x1), (3, .int x3)]) hx hb dX6_firstSharedDrum_45 rfl hl (by decide) rfl (fun ls hl => ?_)
        refine lv_iload_n hx hb dX6_firstSharedDrum_46 rfl (lv_at hl 3 rfl) ?_
        refine lv_iload hx hb dX6_firstSharedDrum_47 (lv_at hl 1 rfl) ?_
        refine lv_ior hx hb dX6_firstSharedDrum_49 ?_
        refine lv_topi (fun v12 hv12 => ?_)
        have h := h v12 hv12
        refine lv_istore_n (lv' := [(1, .int v12), (2, .int v11), (4, .int v10), (0, .ref (ad 1)), (3, .int x3)]) hx hb dX6_firstSharedDrum_50 rfl hl (by decide) rfl (fun ls hl => ?_)
        obtain ⟨v13, hv13⟩ : ∃ y : Int32, y = x3 + (1 : Int32) := ⟨_, rfl⟩
        have h := h v13 hv13
        refine lv_iinc (v := v13) (lv' := [(3, .int v13), (1, .int v12), (2, .int v11), (4, .int v10), (0, .ref (ad 1))]) hx hb dX6_firstSharedDrum_51 hl (k := 4) rfl (by rw [hv13]; rfl) (by decide) rfl (fun ls hl => ?_)
        refine lv_goto (tgt := 6) hx hb dX6_firstSharedDrum_54 (by decide) ?_
        exact hk6 v12 v11 v13 _ _ _ _ hW (lv_sub hl [4, 1, 2, 0] rfl) h
  have main : ∀ (H : Heap) (locs : List Loc) (ls : Array Slot), xW D KA layX stX ad ids (xA ad ids s.heap.size) s.heap σ H locs → lv_has ls 5 [(0, .ref (ad 1))] → W p l e rmX6_firstSharedDrum s m args below meth c H locs 0 0 Q (F0 m 0 ls []) := by
    intro H locs ls hW hl
    unfold wX6_firstSharedDrum at h
    refine lv_iconst (v := 0) hx hb dX6_firstSharedDrum_0 (by decide) ?_
    refine lv_istore_n (lv' := [(1, .int (0 : Int32)), (0, .ref (ad 1))]) hx hb dX6_firstSharedDrum_1 rfl hl (by decide) rfl (fun ls hl => ?_)
    refine lv_iconst (v := 0) hx hb dX6_firstSharedDrum_2 (by decide) ?_
    refine lv_istore_n (lv' := [(2, .int (0 : Int32)), (1, .int (0 : Int32)), (0, .ref (ad 1))]) hx hb dX6_firstSharedDrum_3 rfl hl (by decide) rfl (fun ls hl => ?_)
    refine lv_iconst (v := 0) hx hb dX6_firstSharedDrum_4 (by decide) ?_
    refine lv_istore_n (lv' := [(3, .int (0 : Int32)), (2, .int (0 : Int32)), (1, .int (0 : Int32)), (0, .ref (ad 1))]) hx hb dX6_firstSharedDrum_5 rfl hl (by decide) rfl (fun ls hl => ?_)
    obtain ⟨n, h⟩ := h
    exact blk6    n (0 : Int32) (0 : Int32) (0 : Int32) _ _ _ _ hW (lv_sub hl [3, 2, 1, 0] rfl) h
  exact main _ _ _ hW hl
theorem hwX6_slips_0 : (.fieldLink RX6 149 "FortyBelts$Belt" "grip" "I" : Cond) ∈ wsX6_slips := (List.mem_cons_of_mem _ (List.mem_append_left _ (List.mem_append_left _ (List.mem_append_left _ (List.mem_append_left _ (List.mem_append_left _ (List.mem_append_left _ (List.mem_append_left _ (List.mem_append_left _ (List.mem_append_left _ (List.mem_of_getElem? (i := 0) rfl)))))))))))
theorem hwX6_slips_1 : (.code yX0_wrap cX0_wrap 1 (some .int) : Cond) ∈ wsX6_slips := (List.mem_cons_of_mem _ (List.mem_append_left _ (List.mem_append_left _ (List.mem_append_left _ (List.mem_append_left _ (List.mem_append_left _ (List.mem_append_left _ (List.mem_append_left _ (List.mem_append_left _ (List.mem_append_right _ (List.mem_append_left _ (List.mem_of_getElem? (i := 21) rfl))))))))))))
theorem hcX6_slips_X0 : ∀ w ∈ wsX00, w ∈ wsX6_slips := fun _ h => (List.mem_cons_of_mem _ (List.mem_append_left _ (List.mem_append_left _ (List.mem_append_left _ (List.mem_append_left _ (List.mem_append_left _ (List.mem_append_left _ (List.mem_append_left _ (List.mem_append_right _ h)))))))))
theorem hcX6_slips_X1 : ∀ w ∈ wsX10, w ∈ wsX6_slips := fun _ h => (List.mem_cons_of_mem _ (List.mem_append_left _ (List.mem_append_left _ (List.mem_append_left _ (List.mem_append_left _ (List.mem_append_left _ (List.mem_append_left _ (List.mem_append_right _ h))))))))
theorem hcX6_slips_X2 : ∀ w ∈ wsX20, w ∈ wsX6_slips := fun _ h => (List.mem_cons_of_mem _ (List.mem_append_left _ (List.mem_append_left _ (List.mem_append_left _ (List.mem_append_left _ (List.mem_append_left _ (List.mem_append_right _ h)))))))
theorem hcX6_slips_X3 : ∀ w ∈ wsX30, w ∈ wsX6_slips := fun _ h => (List.mem_cons_of_mem _ (List.mem_append_left _ (List.mem_append_left _ (List.mem_append_left _ (List.mem_append_left _ (List.mem_append_right _ h))))))
theorem hcX6_slips_X4 : ∀ w ∈ wsX40, w ∈ wsX6_slips := fun _ h => (List.mem_cons_of_mem _ (List.mem_append_left _ (List.mem_append_left _ (List.mem_append_left _ (List.mem_append_right _ h)))))
theorem hcX6_slips_X10 : ∀ w ∈ wsX100, w ∈ wsX6_slips := fun _ h => (List.mem_cons_of_mem _ (List.mem_append_left _ (List.mem_append_left _ (List.mem_append_right _ h))))
theorem hBX6_slips : xHB wsX6_slips := ⟨hcX6_slips_X0, hcX6_slips_X1, hcX6_slips_X2, hcX6_slips_X3, hcX6_slips_X4, hcX6_slips_X10⟩
set_option maxHeartbeats 4000000 in
set_option maxRecDepth 100000 in
theorem J_X6_slips {D : va_G} {KA : Nat → ClassId} {zs : ZS} {ad : Nat → Nat} {ids : List Nat} {sz : Nat} (l : Launch) (hI : ∀ c, c < 52 → c ∈ ids) {a1 : Nat} (ok_a1 : okB ids a1) {σ : St} {post : Int32 → St → Prop} (h : wX6_slips ids a1 σ post) : Met l yX6_slips wsX6_slips rmX6_slips (va_Pc [.ref (ad 1), .ref (ad a1)] (xIn D KA zs layX stX ad ids sz σ)) (va_Qi post (xOut D KA layX stX ad ids) (xA ad ids sz)) 0 0 (xA ad ids sz) := by
  refine Met.ofW (cc := cX6_slips) (maxL := 2) (ret := (some .boolean)) (by decide) rfl ?_
  intro p e s m args below meth c s₁ B hml hv
  obtain ⟨hav, hsz, hK, hZ, hP, hD⟩ := hv
  have hx := B.exec
  have hb := B.bytes
  have hr := B.returns
  have hts := atoms_spec (ws := wsX6_slips) B.pre
  have hown : s.vm.findClass RX6 = some m.cls := findClass_of_methodNamed B.named
  have hlocks := B.notSynchronized
  subst hsz
  have hA : ∀ q : Nat, s.heap.size ≤ q → xA ad ids s.heap.size q := fun q h => Or.inr h
  have hW : xW D KA layX stX ad ids (xA ad ids s.heap.size) s.heap σ s.heap [] := ⟨hP, xA_D (D := D) hD, va_S.rf⟩
  have kr : ∀ (v : Int32) (σ : St) (H : Heap) (locs : List Loc) (ls : Array Slot) (pc : Nat), xW D KA layX stX ad ids (xA ad ids s.heap.size) s.heap σ H locs → isB v → post v σ → decode cX6_slips pc = .ok (.ireturn, 1) → W p l e rmX6_slips s m args below meth c H locs 0 0 (MQ below (va_Qi post (xOut D KA layX stX ad ids) (xA ad ids s.heap.size)) args s 0 0 (xA ad ids s.heap.size)) (F0 m pc ls [.int v]) := fun v σ H locs ls pc hW hz h hd => x_zret hx hb hr hlocks hW hz h hd
  have hl := lv_entry ([.ref (ad 1), .ref (ad a1)]) (n := 2) (Nat.le_of_ble_eq_true rfl)
  rw [show entryFrame m args 2 = entryFrame m ([.ref (ad 1), .ref (ad a1)] : List Value).toArray 2 from by rw [hav]]
  rw [lg_entry_eq]
  generalize (lg_sl ([.ref (ad 1), .ref (ad a1)]) ++ List.replicate (2 - (lg_sl ([.ref (ad 1), .ref (ad a1)])).length) Slot.unset).toArray = ls at hl ⊢
  have hl : lv_has ls 2 [(0, .ref (ad 1)), (1, .ref (ad a1))] := hl
  show W p l e rmX6_slips s m args below meth c s.heap [] 0 0 _ _
  generalize MQ below (va_Qi post (xOut D KA layX stX ad ids) (xA ad ids s.heap.size)) args s 0 0 (xA ad ids s.heap.size) = Q at kr ⊢
  have blk25 : ∀ (s0 : Int32) (σ : St) (H : Heap) (locs : List Loc) (ls : Array Slot), xW D KA layX stX ad ids (xA ad ids s.heap.size) s.heap σ H locs → lv_has ls 2 [] → wX6_slips_25 ids post s0 σ → W p l e rmX6_slips s m args below meth c H locs 0 0 Q (F0 m 25 ls [.int s0]) := by
    intro   s0 σ H locs ls hW hl h
    unfold wX6_slips_25 at h
    obtain ⟨hz1, h⟩ := h
    exact kr _ _ _ _ _ _ hW hz1 h dX6_slips_25
  have main : ∀ (H : Heap) (locs : List Loc) (ls : Array Slot), xW D KA layX stX ad ids (xA ad ids s.heap.size) s.heap σ H locs → lv_has ls 2 [(0, .ref (ad 1)), (1, .ref (ad a1))] → W p l e rmX6_slips s m args below meth c H locs 0 0 Q (F0 m 0 ls []) := by
    intro H locs ls hW hl
    unfold wX6_slips at h
    refine lv_aload_n hx hb dX6_slips_0 rfl (lv_at hl 0 rfl) ?_
    refine lv_aload_n hx hb dX6_slips_1 rfl (lv_at hl 1 rfl) ?_
    refine x_calli (va_runV (As := [.ref (ad a1)]) (rest := []) ⟨hx, hb, hml, hown, hts⟩ (J_X6_pull l hI ok_a1 h) (cwV 1 hts gX6_slips_X6_pull rfl rfl rfl hdV_X6_pull ⟨Nat.le_of_ble_eq_true rfl, Nat.le_of_ble_eq_true rfl⟩) (x_preV (ci := 6) hK hZ hA hW (hI 1 (by decide)) lX_1 rfl) rfl rfl hl.1 rfl (lv_room (Nat.le_of_ble_eq_true rfl)) dX6_slips_2 ⟨Nat.zero_le _, Nat.zero_le _⟩) hW hA (fun r1002 σ1001 H locs h hW => ?_)
    try dsimp only at h
    refine lv_aload_n hx hb dX6_slips_5 rfl (lv_at hl 1 rfl) ?_
    refine xgB_3 hx hb hts hown hK hW a1 hBX6_slips ok_a1 (hts _ hwX6_slips_0) (fun _ h => h) dX6_slips_6 ?_
    refine lv_aload_n hx hb dX6_slips_9 rfl (lv_at hl 1 rfl) ?_
    have hr1003 : ∀ post : Int32 → St → Prop, wB_wrap ids a1 σ1001 post → va_Run p l e rmX6_slips s m args below meth c H locs 0 0 0 0 (F0 m 10 ls ([].reverse ++ .ref (ad a1) :: [.int (gI σ1001 a1 3), .int r1002])) [.int (gI σ1001 a1 3), .int r1002] (va_Qi post (xOut D KA layX stX ad ids) (xA ad ids H.size) (Value.ref (ad a1) :: []).toArray) (xA ad ids H.size) := by
      intro post h
      unfold wB_wrap at h
      rcases (okB_cases ok_a1) with hq | hq | hq | hq | hq | hq
      · exact va_runV (As := []) (rest := [.int (gI σ1001 a1 3), .int r1002]) ⟨hx, hb, hml, hown, hts⟩ (J_X0_wrap l hI ok_a1 (h.1 (Or.inl hq))) (cwV 0 hts gX6_slips_X0_wrap rfl rfl rfl hdV_X0_wrap ⟨Nat.le_of_ble_eq_true rfl, Nat.le_of_ble_eq_true rfl⟩) (x_preV (ci := 0) hK hZ hA hW ok_a1.1 (lay_okB0 ok_a1 hq) rfl) rfl rfl hl.1 rfl (lv_room (Nat.le_of_ble_eq_true rfl)) dX6_slips_10 ⟨Nat.zero_le _, Nat.zero_le _⟩
      · exact va_runU (As := []) (rest := [.int (gI σ1001 a1 3), .int r1002]) ⟨hx, hb, hml, hown, hts⟩ (J_X2_wrap l hI ok_a1 (h.2.1 hq)) (va_cwO 0 hts gX6_slips_X2_wrap_u152X2 rfl rfl rfl hwX6_slips_1 (by decide +kernel) ⟨Nat.le_of_ble_eq_true rfl, Nat.le_of_ble_eq_true rfl⟩) (x_preV (ci := 2) hK hZ hA hW ok_a1.1 (lay_okB1 ok_a1 hq) rfl) rfl rfl hl.1 rfl (lv_room (Nat.le_of_ble_eq_true rfl)) dX6_slips_10 ⟨Nat.zero_le _, Nat.zero_le _⟩
      · exact va_runU (As := []) (rest := [.int (gI σ1001 a1 3), .int r1002]) ⟨hx, hb, hml, hown, hts⟩ (J_X3_wrap l hI ok_a1 (h.2.2.1 hq)) (va_cwO 0 hts gX6_slips_X3_wrap_u152X3 rfl rfl rfl hwX6_slips_1 (by decide +kernel) ⟨Nat.le_of_ble_eq_true rfl, Nat.le_of_ble_eq_true rfl⟩) (x_preV (ci := 3) hK hZ hA hW ok_a1.1 (lay_okB2 ok_a1 hq) rfl) rfl rfl hl.1 rfl (lv_room (Nat.le_of_ble_eq_true rfl)) dX6_slips_10 ⟨Nat.zero_le _, Nat.zero_le _⟩
      · exact va_runU (As := []) (rest := [.int (gI σ1001 a1 3), .int r1002]) ⟨hx, hb, hml, hown, hts⟩ (J_X0_wrap l hI ok_a1 (h.1 (Or.inr hq))) (va_cwU 0 hts gX6_slips_X0_wrap_u152X1 rfl rfl rfl rfl (by decide +kernel) ⟨Nat.le_of_ble_eq_true rfl, Nat.le_of_ble_eq_true rfl⟩) (x_preV (ci := 1) hK hZ hA hW ok_a1.1 (lay_okB3 ok_a1 hq) rfl) rfl rfl hl.1 rfl (lv_room (Nat.le_of_ble_eq_true rfl)) dX6_slips_10 ⟨Nat.zero_le _, Nat.zero_le _⟩
      · exact va_runU (As := []) (rest := [.int (gI σ1001 a1 3), .int r1002]) ⟨hx, hb, hml, hown, hts⟩ (J_X4_wrap l hI ok_a1 (h.2.2.2.1 hq)) (va_cwO 0 hts gX6_slips_X4_wrap_u152X4 rfl rfl rfl hwX6_slips_1 (by decide +kernel) ⟨Nat.le_of_ble_eq_true rfl, Nat.le_of_ble_eq_true rfl⟩) (x_preV (ci := 4) hK hZ hA hW ok_a1.1 (lay_okB4 ok_a1 hq) rfl) rfl rfl hl.1 rfl (lv_room (Nat.le_of_ble_eq_true rfl)) dX6_slips_10 ⟨Nat.zero_le _, Nat.zero_le _⟩
      · exact va_runU (As := []) (rest := [.int (gI σ1001 a1 3), .int r1002]) ⟨hx, hb, hml, hown, hts⟩ (J_X10_wrap l hI ok_a1 (h.2.2.2.2 hq)) (va_cwO 0 hts gX6_slips_X10_wrap_u152X10 rfl rfl rfl hwX6_slips_1 (by decide +kernel) ⟨Nat.le_of_ble_eq_true rfl, Nat.le_of_ble_eq_true rfl⟩) (x_preV (ci := 10) hK hZ hA hW ok_a1.1 (lay_okB5 ok_a1 hq) rfl) rfl rfl hl.1 rfl (lv_room (Nat.le_of_ble_eq_true rfl)) dX6_slips_10 ⟨Nat.zero_le _, Nat.zero_le _⟩
    refine x_calli (hr1003 _ h) hW hA (fun r1005 σ1004 H locs h hW => ?_)
    try dsimp only at h
    refine lv_imul hx hb dX6_slips_13 ?_
    refine lv_bipush (v := 50) hx hb dX6_slips_14 (by decide) ?_
    refine lv_idiv hx hb dX6_slips_16 (by decide) ?_
    refine lv_icmp_le (tgt := 24) hx hb dX6_slips_17 (by decide) (fun c1006 => ?_) (fun c1006 => ?_)
    · have h := h.1 c1006
      refine lv_iconst (v := 0) hx hb dX6_slips_24 (by decide) ?_
      exact blk25   (0 : Int32) _ _ _ _ hW (lv_sub hl [] rfl) h
    · have h := h.2 c1006
      refine lv_iconst (v := 1) hx hb dX6_slips_20 (by decide) ?_
      refine lv_goto (tgt := 25) hx hb dX6_slips_21 (by decide) ?_
      exact blk25   (1 : Int32) _ _ _ _ hW (lv_sub hl [] rfl) h
  exact main _ _ _ hW hl
theorem hwX6_firstSlipping_0 : (.fieldLink RX6 65 "FortyBelts$Mill" "beltCount" "I" : Cond) ∈ wsX6_firstSlipping := (List.mem_cons_of_mem _ (List.mem_append_left _ (List.mem_append_left _ (List.mem_append_left _ (List.mem_append_left _ (List.mem_append_left _ (List.mem_append_left _ (List.mem_append_left _ (List.mem_append_left _ (List.mem_append_left _ (List.mem_of_getElem? (i := 0) rfl)))))))))))
theorem hwX6_firstSlipping_1 : (.fieldLink RX6 42 "FortyBelts$Mill" "belts" "[LFortyBelts$Belt;" : Cond) ∈ wsX6_firstSlipping := (List.mem_cons_of_mem _ (List.mem_append_left _ (List.mem_append_left _ (List.mem_append_left _ (List.mem_append_left _ (List.mem_append_left _ (List.mem_append_left _ (List.mem_append_left _ (List.mem_append_left _ (List.mem_append_left _ (List.mem_of_getElem? (i := 1) rfl)))))))))))
theorem hcX6_firstSlipping_X6 : ∀ w ∈ wsX60, w ∈ wsX6_firstSlipping := fun _ h => (List.mem_cons_of_mem _ (List.mem_append_left _ (List.mem_append_left _ (List.mem_append_left _ (List.mem_append_left _ (List.mem_append_left _ (List.mem_append_left _ (List.mem_append_left _ (List.mem_append_right _ h)))))))))
set_option maxHeartbeats 4000000 in
set_option maxRecDepth 100000 in
theorem J_X6_firstSlipping {D : va_G} {KA : Nat → ClassId} {zs : ZS} {ad : Nat → Nat} {ids : List Nat} {sz : Nat} (l : Launch) (hI : ∀ c, c < 52 → c ∈ ids)   {σ : St} {post : Int32 → St → Prop} (h : wX6_firstSlipping ids  σ post) : Met l yX6_firstSlipping wsX6_firstSlipping rmX6_firstSlipping (va_Pc [.ref (ad 1)] (xIn D KA zs layX stX ad ids sz σ)) (va_Qi post (xOut D KA layX stX ad ids) (xA ad ids sz)) 0 0 (xA ad ids sz) := by
  refine Met.ofW (cc := cX6_firstSlipping) (maxL := 2) (ret := (some .int)) (by decide) rfl ?_
  intro p e s m args below meth c s₁ B hml hv
  obtain ⟨hav, hsz, hK, hZ, hP, hD⟩ := hv
  have hx := B.exec
  have hb := B.bytes
  have hr := B.returns
  have hts := atoms_spec (ws := wsX6_firstSlipping) B.pre
  have hown : s.vm.findClass RX6 = some m.cls := findClass_of_methodNamed B.named
  have hlocks := B.notSynchronized
  subst hsz
  have hA : ∀ q : Nat, s.heap.size ≤ q → xA ad ids s.heap.size q := fun q h => Or.inr h
  have hW : xW D KA layX stX ad ids (xA ad ids s.heap.size) s.heap σ s.heap [] := ⟨hP, xA_D (D := D) hD, va_S.rf⟩
  have kr : ∀ (v : Int32) (σ : St) (H : Heap) (locs : List Loc) (ls : Array Slot) (pc : Nat), xW D KA layX stX ad ids (xA ad ids s.heap.size) s.heap σ H locs → post v σ → decode cX6_firstSlipping pc = .ok (.ireturn, 1) → W p l e rmX6_firstSlipping s m args below meth c H locs 0 0 (MQ below (va_Qi post (xOut D KA layX stX ad ids) (xA ad ids s.heap.size)) args s 0 0 (xA ad ids s.heap.size)) (F0 m pc ls [.int v]) := fun v σ H locs ls pc hW h hd => x_iret hx hb hr hlocks hW h hd
  have hl := lv_entry ([.ref (ad 1)]) (n := 2) (Nat.le_of_ble_eq_true rfl)
  rw [show entryFrame m args 2 = entryFrame m ([.ref (ad 1)] : List Value).toArray 2 from by rw [hav]]
  rw [lg_entry_eq]
  generalize (lg_sl ([.ref (ad 1)]) ++ List.replicate (2 - (lg_sl ([.ref (ad 1)])).length) Slot.unset).toArray = ls at hl ⊢
  have hl : lv_has ls 2 [(0, .ref (ad 1))] := hl
  show W p l e rmX6_firstSlipping s m args below meth c s.heap [] 0 0 _ _
  generalize MQ below (va_Qi post (xOut D KA layX stX ad ids) (xA ad ids s.heap.size)) args s 0 0 (xA ad ids s.heap.size) = Q at kr ⊢
  have blk2 : ∀ (n : Nat) (x1 : Int32) (σ : St) (H : Heap) (locs : List Loc) (ls : Array Slot), xW D KA layX stX ad ids (xA ad ids s.heap.size) s.heap σ H locs → lv_has ls 2 [(0, .ref (ad 1)), (1, .int x1)] → wX6_firstSlipping_2 ids post  n x1 σ → W p l e rmX6_firstSlipping s m args below meth c H locs 0 0 Q (F0 m 2 ls []) := by
    intro    n
    induction n with
    | zero => intro x1 σ H locs ls hW hl h; exact (h : False).elim
    | succ n ih =>
      intro x1 σ H locs ls hW hl h
      have hk2 : ∀ (x1 : Int32) (σ : St) (H : Heap) (locs : List Loc) (ls : Array Slot), xW D KA layX stX ad ids (xA ad ids s.heap.size) s.heap σ H locs → lv_has ls 2 [(0, .ref (ad 1)), (1, .int x1)] → (wX6_firstSlipping_2 ids post  n) x1 σ → W p l e rmX6_firstSlipping s m args below meth c H locs 0 0 Q (F0 m 2 ls []) := fun x1 σ H locs ls hW hl h => ih x1 σ H locs ls hW hl h
      rw [wX6_firstSlipping_2_s] at h
      try dsimp only at h
      generalize wX6_firstSlipping_2 ids post  n = k2 at h hk2
      refine lv_iload_n hx hb dX6_firstSlipping_2 rfl (lv_at hl 1 rfl) ?_
      refine lv_aload_n hx hb dX6_firstSlipping_3 rfl (lv_at hl 0 rfl) ?_
      refine xgX6_3 hx hb hts hown hK hW 1 hcX6_firstSlipping_X6 (hI 1 (by decide)) lX_1 (hts _ hwX6_firstSlipping_0) dX6_firstSlipping_4 ?_
      refine lv_icmp_ge (tgt := 31) hx hb dX6_firstSlipping_7 (by decide) (fun c1 => ?_) (fun c1 => ?_)
      · have h := h.1 c1
        refine lv_iconst (v := (-1)) hx hb dX6_firstSlipping_31 (by decide) ?_
        exact kr _ _ _ _ _ _ hW h dX6_firstSlipping_32
      · have h := h.2 c1
        refine lv_aload_n hx hb dX6_firstSlipping_10 rfl (lv_at hl 0 rfl) ?_
        refine lv_aload_n hx hb dX6_firstSlipping_11 rfl (lv_at hl 0 rfl) ?_
        refine xgX6_12r hx hb hts hown hK hW 1 hcX6_firstSlipping_X6 (hI 1 (by decide)) lX_1 (hts _ hwX6_firstSlipping_1) (sX_1_12 _) dX6_firstSlipping_12 ?_
        refine lv_iload_n hx hb dX6_firstSlipping_15 rfl (lv_at hl 1 rfl) ?_
        obtain ⟨hi2, h⟩ := h
        obtain ⟨o3, hr4, ok_o3, h⟩ := h
        refine x_ald hx hb hK hW 11 0 (hI 11 (by decide)) lX_11 rfl hi2 ((sX_11 _ _).trans hr4) dX6_firstSlipping_16 ?_
        refine x_calli (va_runV (As := [.ref (ad o3)]) (rest := []) ⟨hx, hb, hml, hown, hts⟩ (J_X6_slips l hI ok_o3 h) (cwV 1 hts gX6_firstSlipping_X6_slips rfl rfl rfl hdV_X6_slips ⟨Nat.le_of_ble_eq_true rfl, Nat.le_of_ble_eq_true rfl⟩) (x_preV (ci := 6) hK hZ hA hW (hI 1 (by decide)) lX_1 rfl) rfl rfl hl.1 rfl (lv_room (Nat.le_of_ble_eq_true rfl)) dX6_firstSlipping_17 ⟨Nat.zero_le _, Nat.zero_le _⟩) hW hA (fun r6 σ5 H locs h hW => ?_)
        try dsimp only at h
        refine lv_if_eq (tgt := 25) hx hb dX6_firstSlipping_20 (by decide) (fun c7 => ?_) (fun c7 => ?_)
        · have h := h.1 c7
          obtain ⟨v8, hv8⟩ : ∃ y : Int32, y = x1 + (1 : Int32) := ⟨_, rfl⟩
          have h := h v8 hv8
          refine lv_iinc (v := v8) (lv' := [(1, .int v8), (0, .ref (ad 1))]) hx hb dX6_firstSlipping_25 hl (k := 1) rfl (by rw [hv8]; rfl) (by decide) rfl (fun ls hl => ?_)
          refine lv_goto (tgt := 2) hx hb dX6_firstSlipping_28 (by decide) ?_
          exact hk2 v8 _ _ _ _ hW (lv_sub hl [1, 0] rfl) h
        · have h := h.2 c7
          refine lv_iload_n hx hb dX6_firstSlipping_23 rfl (lv_at hl 1 rfl) ?_
          exact kr _ _ _ _ _ _ hW h dX6_firstSlipping_24
  have main : ∀ (H : Heap) (locs : List Loc) (ls : Array Slot), xW D KA layX stX ad ids (xA ad ids s.heap.size) s.heap σ H locs → lv_has ls 2 [(0, .ref (ad 1))] → W p l e rmX6_firstSlipping s m args below meth c H locs 0 0 Q (F0 m 0 ls []) := by
    intro H locs ls hW hl
    unfold wX6_firstSlipping at h
    refine lv_iconst (v := 0) hx hb dX6_firstSlipping_0 (by decide) ?_
    refine lv_istore_n (lv' := [(1, .int (0 : Int32)), (0, .ref (ad 1))]) hx hb dX6_firstSlipping_1 rfl hl (by decide) rfl (fun ls hl => ?_)
    obtain ⟨n, h⟩ := h
    exact blk2    n (0 : Int32) _ _ _ _ hW (lv_sub hl [1, 0] rfl) h
  exact main _ _ _ hW hl
theorem hwX11_judge_0 : (.fieldLink RX11 10 "FortyBelts" "mill" "LFortyBelts$Mill;" : Cond) ∈ wsX11_judge := (List.mem_cons_of_mem _ (List.mem_append_left _ (List.mem_append_left _ (List.mem_append_left _ (List.mem_append_left _ (List.mem_append_left _ (List.mem_append_left _ (List.mem_append_left _ (List.mem_append_left _ (List.mem_append_left _ (List.mem_append_left _ (List.mem_of_getElem? (i := 0) rfl))))))))))))
theorem hwX11_judge_1 : (.fieldLink RX11 92 "FortyBelts$Mill" "machineCount" "I" : Cond) ∈ wsX11_judge := (List.mem_cons_of_mem _ (List.mem_append_left _ (List.mem_append_left _ (List.mem_append_left _ (List.mem_append_left _ (List.mem_append_left _ (List.mem_append_left _ (List.mem_append_left _ (List.mem_append_left _ (List.mem_append_left _ (List.mem_append_left _ (List.mem_of_getElem? (i := 1) rfl))))))))))))
theorem hwX11_judge_2 : (.fieldLink RX11 85 "FortyBelts$Mill" "power" "I" : Cond) ∈ wsX11_judge := (List.mem_cons_of_mem _ (List.mem_append_left _ (List.mem_append_left _ (List.mem_append_left _ (List.mem_append_left _ (List.mem_append_left _ (List.mem_append_left _ (List.mem_append_left _ (List.mem_append_left _ (List.mem_append_left _ (List.mem_append_left _ (List.mem_of_getElem? (i := 2) rfl))))))))))))
theorem hcX11_judge_X11 : ∀ w ∈ wsX110, w ∈ wsX11_judge := fun _ h => (List.mem_cons_of_mem _ (List.mem_append_left _ (List.mem_append_left _ (List.mem_append_left _ (List.mem_append_left _ (List.mem_append_left _ (List.mem_append_left _ (List.mem_append_left _ (List.mem_append_left _ (List.mem_append_right _ h))))))))))
theorem hcX11_judge_X6 : ∀ w ∈ wsX60, w ∈ wsX11_judge := fun _ h => (List.mem_cons_of_mem _ (List.mem_append_left _ (List.mem_append_left _ (List.mem_append_left _ (List.mem_append_left _ (List.mem_append_left _ (List.mem_append_left _ (List.mem_append_left _ (List.mem_append_right _ h)))))))))
set_option maxHeartbeats 4000000 in
set_option maxRecDepth 100000 in
theorem J_X11_judge {D : va_G} {KA : Nat → ClassId} {zs : ZS} {ad : Nat → Nat} {ids : List Nat} {sz : Nat} (l : Launch) (hI : ∀ c, c < 52 → c ∈ ids)   {σ : St} {post : Int32 → St → Prop} (h : wX11_judge ids  σ post) : Met l yX11_judge wsX11_judge rmX11_judge (va_Pc [.ref (ad 0)] (xIn D KA zs layX stX ad ids sz σ)) (va_Qi post (xOut D KA layX stX ad ids) (xA ad ids sz)) 0 0 (xA ad ids sz) := by
  refine Met.ofW (cc := cX11_judge) (maxL := 5) (ret := (some .int)) (by decide) rfl ?_
  intro p e s m args below meth c s₁ B hml hv
  obtain ⟨hav, hsz, hK, hZ, hP, hD⟩ := hv
  have hx := B.exec
  have hb := B.bytes
  have hr := B.returns
  have hts := atoms_spec (ws := wsX11_judge) B.pre
  have hown : s.vm.findClass RX11 = some m.cls := findClass_of_methodNamed B.named
  have hlocks := B.notSynchronized
  subst hsz
  have hA : ∀ q : Nat, s.heap.size ≤ q → xA ad ids s.heap.size q := fun q h => Or.inr h
  have hW : xW D KA layX stX ad ids (xA ad ids s.heap.size) s.heap σ s.heap [] := ⟨hP, xA_D (D := D) hD, va_S.rf⟩
  have kr : ∀ (v : Int32) (σ : St) (H : Heap) (locs : List Loc) (ls : Array Slot) (pc : Nat), xW D KA layX stX ad ids (xA ad ids s.heap.size) s.heap σ H locs → post v σ → decode cX11_judge pc = .ok (.ireturn, 1) → W p l e rmX11_judge s m args below meth c H locs 0 0 (MQ below (va_Qi post (xOut D KA layX stX ad ids) (xA ad ids s.heap.size)) args s 0 0 (xA ad ids s.heap.size)) (F0 m pc ls [.int v]) := fun v σ H locs ls pc hW h hd => x_iret hx hb hr hlocks hW h hd
  have hl := lv_entry ([.ref (ad 0)]) (n := 5) (Nat.le_of_ble_eq_true rfl)
  rw [show entryFrame m args 5 = entryFrame m ([.ref (ad 0)] : List Value).toArray 5 from by rw [hav]]
  rw [lg_entry_eq]
  generalize (lg_sl ([.ref (ad 0)]) ++ List.replicate (5 - (lg_sl ([.ref (ad 0)])).length) Slot.unset).toArray = ls at hl ⊢
  have hl : lv_has ls 5 [(0, .ref (ad 0))] := hl
  show W p l e rmX11_judge s m args below meth c s.heap [] 0 0 _ _
  generalize MQ below (va_Qi post (xOut D KA layX stX ad ids) (xA ad ids s.heap.size)) args s 0 0 (xA ad ids s.heap.size) = Q at kr ⊢
  have blk121 : ∀ (s0 : Int32) (σ : St) (H : Heap) (locs : List Loc) (ls : Array Slot), xW D KA layX stX ad ids (xA ad ids s.heap.size) s.heap σ H locs → lv_has ls 5 [] → wX11_judge_121 ids post s0 σ → W p l e rmX11_judge s m args below meth c H locs 0 0 Q (F0 m 121 ls [.int s0]) := by
    intro   s0 σ H locs ls hW hl h
    unfold wX11_judge_121 at h
    exact kr _ _ _ _ _ _ hW h dX11_judge_121
  have main : ∀ (H : Heap) (locs : List Loc) (ls : Array Slot), xW D KA layX stX ad ids (xA ad ids s.heap.size) s.heap σ H locs → lv_has ls 5 [(0, .ref (ad 0))] → W p l e rmX11_judge s m args below meth c H locs 0 0 Q (F0 m 0 ls []) := by
    intro H locs ls hW hl
    unfold wX11_judge at h
    refine lv_aload_n hx hb dX11_judge_0 rfl (lv_at hl 0 rfl) ?_
    refine xgX11_0r hx hb hts hown hK hW 0 hcX11_judge_X11 (hI 0 (by decide)) lX_0 (hts _ hwX11_judge_0) (sX_0_0 _) dX11_judge_1 ?_
    refine x_callv (va_runV (As := []) (rest := []) ⟨hx, hb, hml, hown, hts⟩ (J_X6_spin l hI h) (cwV 0 hts gX11_judge_X6_spin rfl rfl rfl hdV_X6_spin ⟨Nat.le_of_ble_eq_true rfl, Nat.le_of_ble_eq_true rfl⟩) (x_preV (ci := 6) hK hZ hA hW (hI 1 (by decide)) lX_1 rfl) rfl rfl hl.1 rfl (lv_room (Nat.le_of_ble_eq_true rfl)) dX11_judge_4 ⟨Nat.zero_le _, Nat.zero_le _⟩) hW hA (fun σ1001 H locs h hW => ?_)
    try dsimp only at h
    refine lv_aload_n hx hb dX11_judge_7 rfl (lv_at hl 0 rfl) ?_
    refine xgX11_0r hx hb hts hown hK hW 0 hcX11_judge_X11 (hI 0 (by decide)) lX_0 (hts _ hwX11_judge_0) (sX_0_0 _) dX11_judge_8 ?_
    refine x_calli (va_runV (As := []) (rest := []) ⟨hx, hb, hml, hown, hts⟩ (J_X6_wellRunning l hI h) (cwV 0 hts gX11_judge_X6_wellRunning rfl rfl rfl hdV_X6_wellRunning ⟨Nat.le_of_ble_eq_true rfl, Nat.le_of_ble_eq_true rfl⟩) (x_preV (ci := 6) hK hZ hA hW (hI 1 (by decide)) lX_1 rfl) rfl rfl hl.1 rfl (lv_room (Nat.le_of_ble_eq_true rfl)) dX11_judge_11 ⟨Nat.zero_le _, Nat.zero_le _⟩) hW hA (fun r1003 σ1002 H locs h hW => ?_)
    try dsimp only at h
    refine lv_iconst (v := (-1)) hx hb dX11_judge_14 (by decide) ?_
    refine lv_ixor hx hb dX11_judge_15 ?_
    refine x_calli (va_runS (As := [.int (r1003 ^^^ (-1 : Int32))]) (rest := []) ⟨hx, hb, hml, hown, hts⟩ (J_X11_lowestBit l hI h) (va_cwS 1 hts gX11_judge_X11_lowestBit rfl rfl rfl hdS_X11_lowestBit ⟨Nat.le_of_ble_eq_true rfl, Nat.le_of_ble_eq_true rfl⟩) (x_preS hK hZ hA hW) rfl rfl hl.1 rfl (lv_room (Nat.le_of_ble_eq_true rfl)) dX11_judge_16 ⟨Nat.zero_le _, Nat.zero_le _⟩) hW hA (fun r1005 σ1004 H locs h hW => ?_)
    try dsimp only at h
    refine lv_istore_n (lv' := [(1, .int r1005), (0, .ref (ad 0))]) hx hb dX11_judge_19 rfl hl (by decide) rfl (fun ls hl => ?_)
    refine lv_iload_n hx hb dX11_judge_20 rfl (lv_at hl 0 rfl) ?_
    refine lv_aload_n hx hb dX11_judge_21 rfl (lv_at hl 1 rfl) ?_
    refine xgX11_0r hx hb hts hown hK hW 0 hcX11_judge_X11 (hI 0 (by decide)) lX_0 (hts _ hwX11_judge_0) (sX_0_0 _) dX11_judge_22 ?_
    refine xgX6_1 hx hb hts hown hK hW 1 hcX11_judge_X6 (hI 1 (by decide)) lX_1 (hts _ hwX11_judge_1) dX11_judge_25 ?_
    refine lv_icmp_ge (tgt := 37) hx hb dX11_judge_28 (by decide) (fun c1006 => ?_) (fun c1006 => ?_)
    · have h := h.1 c1006
      refine lv_aload_n hx hb dX11_judge_37 rfl (lv_at hl 1 rfl) ?_
      refine xgX11_0r hx hb hts hown hK hW 0 hcX11_judge_X11 (hI 0 (by decide)) lX_0 (hts _ hwX11_judge_0) (sX_0_0 _) dX11_judge_38 ?_
      refine x_calli (va_runV (As := []) (rest := []) ⟨hx, hb, hml, hown, hts⟩ (J_X6_firstSlipping l hI h) (cwV 0 hts gX11_judge_X6_firstSlipping rfl rfl rfl hdV_X6_firstSlipping ⟨Nat.le_of_ble_eq_true rfl, Nat.le_of_ble_eq_true rfl⟩) (x_preV (ci := 6) hK hZ hA hW (hI 1 (by decide)) lX_1 rfl) rfl rfl hl.1 rfl (lv_room (Nat.le_of_ble_eq_true rfl)) dX11_judge_41 ⟨Nat.zero_le _, Nat.zero_le _⟩) hW hA (fun r1008 σ1007 H locs h hW => ?_)
      try dsimp only at h
      refine lv_istore_n (lv' := [(2, .int r1008), (1, .int r1005), (0, .ref (ad 0))]) hx hb dX11_judge_44 rfl hl (by decide) rfl (fun ls hl => ?_)
      refine lv_iload_n hx hb dX11_judge_45 rfl (lv_at hl 0 rfl) ?_
      refine lv_iconst (v := (-1)) hx hb dX11_judge_46 (by decide) ?_
      refine lv_icmp_eq (tgt := 56) hx hb dX11_judge_47 (by decide) (fun c1009 => ?_) (fun c1009 => ?_)
      · have h := h.1 c1009
        refine lv_aload_n hx hb dX11_judge_56 rfl (lv_at hl 2 rfl) ?_
        refine xgX11_0r hx hb hts hown hK hW 0 hcX11_judge_X11 (hI 0 (by decide)) lX_0 (hts _ hwX11_judge_0) (sX_0_0 _) dX11_judge_57 ?_
        refine x_calli (va_runV (As := []) (rest := []) ⟨hx, hb, hml, hown, hts⟩ (J_X6_firstBent l hI h) (cwV 0 hts gX11_judge_X6_firstBent rfl rfl rfl hdV_X6_firstBent ⟨Nat.le_of_ble_eq_true rfl, Nat.le_of_ble_eq_true rfl⟩) (x_preV (ci := 6) hK hZ hA hW (hI 1 (by decide)) lX_1 rfl) rfl rfl hl.1 rfl (lv_room (Nat.le_of_ble_eq_true rfl)) dX11_judge_60 ⟨Nat.zero_le _, Nat.zero_le _⟩) hW hA (fun r1011 σ1010 H locs h hW => ?_)
        try dsimp only at h
        refine lv_istore_n (lv' := [(3, .int r1011), (2, .int r1008), (1, .int r1005), (0, .ref (ad 0))]) hx hb dX11_judge_63 rfl hl (by decide) rfl (fun ls hl => ?_)
        refine lv_iload_n hx hb dX11_judge_64 rfl (lv_at hl 0 rfl) ?_
        refine lv_iconst (v := (-1)) hx hb dX11_judge_65 (by decide) ?_
        refine lv_icmp_eq (tgt := 75) hx hb dX11_judge_66 (by decide) (fun c1012 => ?_) (fun c1012 => ?_)
        · have h := h.1 c1012
          refine lv_aload_n hx hb dX11_judge_75 rfl (lv_at hl 3 rfl) ?_
          refine xgX11_0r hx hb hts hown hK hW 0 hcX11_judge_X11 (hI 0 (by decide)) lX_0 (hts _ hwX11_judge_0) (sX_0_0 _) dX11_judge_76 ?_
          refine x_calli (va_runV (As := []) (rest := []) ⟨hx, hb, hml, hown, hts⟩ (J_X6_firstSharedDrum l hI h) (cwV 0 hts gX11_judge_X6_firstSharedDrum rfl rfl rfl hdV_X6_firstSharedDrum ⟨Nat.le_of_ble_eq_true rfl, Nat.le_of_ble_eq_true rfl⟩) (x_preV (ci := 6) hK hZ hA hW (hI 1 (by decide)) lX_1 rfl) rfl rfl hl.1 rfl (lv_room (Nat.le_of_ble_eq_true rfl)) dX11_judge_79 ⟨Nat.zero_le _, Nat.zero_le _⟩) hW hA (fun r1014 σ1013 H locs h hW => ?_)
          try dsimp only at h
          refine lv_istore (lv' := [(4, .int r1014), (3, .int r1011), (2, .int r1008), (1, .int r1005), (0, .ref (ad 0))]) hx hb dX11_judge_82 hl (by decide) rfl (fun ls hl => ?_)
          refine lv_iload hx hb dX11_judge_84 (lv_at hl 0 rfl) ?_
          refine lv_iconst (v := (-1)) hx hb dX11_judge_86 (by decide) ?_
          refine lv_icmp_eq (tgt := 97) hx hb dX11_judge_87 (by decide) (fun c1015 => ?_) (fun c1015 => ?_)
          · have h := h.1 c1015
            refine lv_aload_n hx hb dX11_judge_97 rfl (lv_at hl 4 rfl) ?_
            refine xgX11_0r hx hb hts hown hK hW 0 hcX11_judge_X11 (hI 0 (by decide)) lX_0 (hts _ hwX11_judge_0) (sX_0_0 _) dX11_judge_98 ?_
            refine x_calli (va_runV (As := []) (rest := []) ⟨hx, hb, hml, hown, hts⟩ (J_X6_loadedInAll l hI h) (cwV 0 hts gX11_judge_X6_loadedInAll rfl rfl rfl hdV_X6_loadedInAll ⟨Nat.le_of_ble_eq_true rfl, Nat.le_of_ble_eq_true rfl⟩) (x_preV (ci := 6) hK hZ hA hW (hI 1 (by decide)) lX_1 rfl) rfl rfl hl.1 rfl (lv_room (Nat.le_of_ble_eq_true rfl)) dX11_judge_101 ⟨Nat.zero_le _, Nat.zero_le _⟩) hW hA (fun r1017 σ1016 H locs h hW => ?_)
            try dsimp only at h
            refine lv_aload_n hx hb dX11_judge_104 rfl (lv_at hl 4 rfl) ?_
            refine xgX11_0r hx hb hts hown hK hW 0 hcX11_judge_X11 (hI 0 (by decide)) lX_0 (hts _ hwX11_judge_0) (sX_0_0 _) dX11_judge_105 ?_
            refine xgX6_15 hx hb hts hown hK hW 1 hcX11_judge_X6 (hI 1 (by decide)) lX_1 (hts _ hwX11_judge_2) dX11_judge_108 ?_
            refine lv_icmp_le (tgt := 120) hx hb dX11_judge_111 (by decide) (fun c1018 => ?_) (fun c1018 => ?_)
            · have h := h.1 c1018
              refine lv_iconst (v := (-1)) hx hb dX11_judge_120 (by decide) ?_
              exact blk121   (-1 : Int32) _ _ _ _ hW (lv_sub hl [] rfl) h
            · have h := h.2 c1018
              refine lv_sipush (v := 5000) hx hb dX11_judge_114 (by decide) ?_
              refine lv_goto (tgt := 121) hx hb dX11_judge_117 (by decide) ?_
              exact blk121   (5000 : Int32) _ _ _ _ hW (lv_sub hl [] rfl) h
          · have h := h.2 c1015
            refine lv_sipush (v := 4000) hx hb dX11_judge_90 (by decide) ?_
            refine lv_iload hx hb dX11_judge_93 (lv_at hl 0 rfl) ?_
            refine lv_iadd hx hb dX11_judge_95 ?_
            exact kr _ _ _ _ _ _ hW h dX11_judge_96
        · have h := h.2 c1012
          refine lv_sipush (v := 3000) hx hb dX11_judge_69 (by decide) ?_
          refine lv_iload_n hx hb dX11_judge_72 rfl (lv_at hl 0 rfl) ?_
          refine lv_iadd hx hb dX11_judge_73 ?_
          exact kr _ _ _ _ _ _ hW h dX11_judge_74
      · have h := h.2 c1009
        refine lv_sipush (v := 2000) hx hb dX11_judge_50 (by decide) ?_
        refine lv_iload_n hx hb dX11_judge_53 rfl (lv_at hl 0 rfl) ?_
        refine lv_iadd hx hb dX11_judge_54 ?_
        exact kr _ _ _ _ _ _ hW h dX11_judge_55
    · have h := h.2 c1006
      refine lv_sipush (v := 1000) hx hb dX11_judge_31 (by decide) ?_
      refine lv_iload_n hx hb dX11_judge_34 rfl (lv_at hl 0 rfl) ?_
      refine lv_iadd hx hb dX11_judge_35 ?_
      exact kr _ _ _ _ _ _ hW h dX11_judge_36
  exact main _ _ _ hW hl
