set_option maxHeartbeats 4000000 in
set_option maxRecDepth 100000 in
theorem J_X7_isLetter {D : va_G} {KA : Nat → ClassId} {zs : ZS} {ad : Nat → Nat} {ids : List Nat} {sz : Nat} (l : Launch) (hI : ∀ c, n7 c → c ∈ ids) {st : Nat → Nat → Option Nat} (hst : ∀ c, c ≠ 0 → st c = stX c) {a0 : Int32}  {σ : St} {post : Int32 → St → Prop} (h : wX7_isLetter ids a0 σ post) : Met l yX7_isLetter wsX7_isLetter rmX7_isLetter (va_Pc [.int a0] (xIn D KA zs layX st ad ids sz σ)) (va_Qi post (xOut D KA layX st ad ids) (xA ad ids sz)) 0 0 (xA ad ids sz) := by
  refine Met.ofW (cc := cX7_isLetter) (maxL := 1) (ret := (some .boolean)) (by decide) rfl ?_
  intro p e s m args below meth c s₁ B hml hv
  obtain ⟨hav, hsz, hK, hZ, hP, hD⟩ := hv
  have hx := B.exec
  have hb := B.bytes
  have hr := B.returns
  have hts := atoms_spec (ws := wsX7_isLetter) B.pre
  have hown : s.vm.findClass RX7 = some m.cls := findClass_of_methodNamed B.named
  have hlocks := B.notSynchronized
  subst hsz
  have hA : ∀ q : Nat, s.heap.size ≤ q → xA ad ids s.heap.size q := fun q h => Or.inr h
  have hW : xW D KA layX st ad ids (xA ad ids s.heap.size) s.heap σ s.heap [] := ⟨hP, xA_D (D := D) hD, va_S.rf⟩
  have kr : ∀ (v : Int32) (σ : St) (H : Heap) (locs : List Loc) (ls : Array Slot) (pc : Nat), xW D KA layX st ad ids (xA ad ids s.heap.size) s.heap σ H locs → isB v → post v σ → decode cX7_isLetter pc = .ok (.ireturn, 1) → W p l e rmX7_isLetter s m args below meth c H locs 0 0 (MQ below (va_Qi post (xOut D KA layX st ad ids) (xA ad ids s.heap.size)) args s 0 0 (xA ad ids s.heap.size)) (F0 m pc ls [.int v]) := fun v σ H locs ls pc hW hz h hd => x_zret hx hb hr hlocks hW hz h hd
  have hl := lv_entry ([.int a0]) (n := 1) (Nat.le_of_ble_eq_true rfl)
  rw [show entryFrame m args 1 = entryFrame m ([.int a0] : List Value).toArray 1 from by rw [hav]]
  rw [lg_entry_eq]
  generalize (lg_sl ([.int a0]) ++ List.replicate (1 - (lg_sl ([.int a0])).length) Slot.unset).toArray = ls at hl ⊢
  have hl : lv_has ls 1 [(0, .int a0)] := hl
  show W p l e rmX7_isLetter s m args below meth c s.heap [] 0 0 _ _
  generalize MQ below (va_Qi post (xOut D KA layX st ad ids) (xA ad ids s.heap.size)) args s 0 0 (xA ad ids s.heap.size) = Q at kr ⊢
  have blk17 : ∀ (s0 : Int32) (σ : St) (H : Heap) (locs : List Loc) (ls : Array Slot), xW D KA layX st ad ids (xA ad ids s.heap.size) s.heap σ H locs → lv_has ls 1 [] → wX7_isLetter_17 ids post s0 σ → W p l e rmX7_isLetter s m args below meth c H locs 0 0 Q (F0 m 17 ls [.int s0]) := by
    intro   s0 σ H locs ls hW hl h
    unfold wX7_isLetter_17 at h
    obtain ⟨hz1, h⟩ := h
    exact kr _ _ _ _ _ _ hW hz1 h dX7_isLetter_17
  have blk16 : ∀ (σ : St) (H : Heap) (locs : List Loc) (ls : Array Slot), xW D KA layX st ad ids (xA ad ids s.heap.size) s.heap σ H locs → lv_has ls 1 [] → wX7_isLetter_16 ids post  σ → W p l e rmX7_isLetter s m args below meth c H locs 0 0 Q (F0 m 16 ls []) := by
    intro    σ H locs ls hW hl h
    unfold wX7_isLetter_16 at h
    refine lv_iconst (v := 0) hx hb dX7_isLetter_16 (by decide) ?_
    exact blk17   (0 : Int32) _ _ _ _ hW (lv_sub hl [] rfl) h
  have main : ∀ (H : Heap) (locs : List Loc) (ls : Array Slot), xW D KA layX st ad ids (xA ad ids s.heap.size) s.heap σ H locs → lv_has ls 1 [(0, .int a0)] → W p l e rmX7_isLetter s m args below meth c H locs 0 0 Q (F0 m 0 ls []) := by
    intro H locs ls hW hl
    unfold wX7_isLetter at h
    refine lv_bipush (v := 97) hx hb dX7_isLetter_0 (by decide) ?_
    refine lv_iload_n hx hb dX7_isLetter_2 rfl (lv_at hl 0 rfl) ?_
    refine lv_icmp_gt (tgt := 16) hx hb dX7_isLetter_3 (by decide) (fun c1001 => ?_) (fun c1001 => ?_)
    · have h := h.1 c1001
      exact blk16    _ _ _ _ hW (lv_sub hl [] rfl) h
    · have h := h.2 c1001
      refine lv_iload_n hx hb dX7_isLetter_6 rfl (lv_at hl 0 rfl) ?_
      refine lv_bipush (v := 122) hx hb dX7_isLetter_7 (by decide) ?_
      refine lv_icmp_gt (tgt := 16) hx hb dX7_isLetter_9 (by decide) (fun c1002 => ?_) (fun c1002 => ?_)
      · have h := h.1 c1002
        exact blk16    _ _ _ _ hW (lv_sub hl [] rfl) h
      · have h := h.2 c1002
        refine lv_iconst (v := 1) hx hb dX7_isLetter_12 (by decide) ?_
        refine lv_goto (tgt := 17) hx hb dX7_isLetter_13 (by decide) ?_
        exact blk17   (1 : Int32) _ _ _ _ hW (lv_sub hl [] rfl) h
  exact main _ _ _ hW hl
theorem hwX7_nextNumber_0 : (.fieldLink RX7 38 "FortyBelts$Reader" "token" "I" : Cond) ∈ wsX7_nextNumber := (List.mem_cons_of_mem _ (List.mem_append_left _ (List.mem_of_getElem? (i := 5) rfl)))
theorem hwX7_nextNumber_1 : (.fieldLink RX7 28 "FortyBelts$Reader" "at" "I" : Cond) ∈ wsX7_nextNumber := (List.mem_cons_of_mem _ (List.mem_append_left _ (List.mem_of_getElem? (i := 1) rfl)))
theorem hwX7_nextNumber_2 : (.fieldLink RX7 41 "FortyBelts$Reader" "tokenPlace" "I" : Cond) ∈ wsX7_nextNumber := (List.mem_cons_of_mem _ (List.mem_append_left _ (List.mem_of_getElem? (i := 4) rfl)))
theorem hwX7_nextNumber_3 : (.fieldLink RX7 15 "FortyBelts$Reader" "fed" "I" : Cond) ∈ wsX7_nextNumber := (List.mem_cons_of_mem _ (List.mem_append_left _ (List.mem_of_getElem? (i := 2) rfl)))
theorem hwX7_nextNumber_4 : (.fieldLink RX7 11 "FortyBelts$Reader" "tape" "[I" : Cond) ∈ wsX7_nextNumber := (List.mem_cons_of_mem _ (List.mem_append_left _ (List.mem_of_getElem? (i := 3) rfl)))
theorem hwX7_nextNumber_5 : (.fieldLink RX7 72 "FortyBelts$Reader" "tokenValue" "I" : Cond) ∈ wsX7_nextNumber := (List.mem_cons_of_mem _ (List.mem_append_left _ (List.mem_of_getElem? (i := 0) rfl)))
theorem hcX7_nextNumber_X7 : ∀ w ∈ wsX70, w ∈ wsX7_nextNumber := fun _ h => (List.mem_cons_of_mem _ (List.mem_append_right _ h))
set_option maxHeartbeats 4000000 in
set_option maxRecDepth 100000 in
theorem J_X7_nextNumber {D : va_G} {KA : Nat → ClassId} {zs : ZS} {ad : Nat → Nat} {ids : List Nat} {sz : Nat} (l : Launch) (hI : ∀ c, n7 c → c ∈ ids) {st : Nat → Nat → Option Nat} (hst : ∀ c, c ≠ 0 → st c = stX c)   {σ : St} {post : St → Prop} (h : wX7_nextNumber ids  σ post) : Met l yX7_nextNumber wsX7_nextNumber rmX7_nextNumber (va_Pc [.ref (ad 2)] (xIn D KA zs layX st ad ids sz σ)) (va_Qv post (xOut D KA layX st ad ids) (xA ad ids sz)) 0 0 (xA ad ids sz) := by
  refine Met.ofW (cc := cX7_nextNumber) (maxL := 1) (ret := none) (by decide) rfl ?_
  intro p e s m args below meth c s₁ B hml hv
  obtain ⟨hav, hsz, hK, hZ, hP, hD⟩ := hv
  have hx := B.exec
  have hb := B.bytes
  have hr := B.returns
  have hts := atoms_spec (ws := wsX7_nextNumber) B.pre
  have hown : s.vm.findClass RX7 = some m.cls := findClass_of_methodNamed B.named
  have hlocks := B.notSynchronized
  subst hsz
  have hA : ∀ q : Nat, s.heap.size ≤ q → xA ad ids s.heap.size q := fun q h => Or.inr h
  have hW : xW D KA layX st ad ids (xA ad ids s.heap.size) s.heap σ s.heap [] := ⟨hP, xA_D (D := D) hD, va_S.rf⟩
  have kr : ∀ (σ : St) (H : Heap) (locs : List Loc) (ls : Array Slot) (pc : Nat), xW D KA layX st ad ids (xA ad ids s.heap.size) s.heap σ H locs → post σ → decode cX7_nextNumber pc = .ok (.return_, 1) → W p l e rmX7_nextNumber s m args below meth c H locs 0 0 (MQ below (va_Qv post (xOut D KA layX st ad ids) (xA ad ids s.heap.size)) args s 0 0 (xA ad ids s.heap.size)) (F0 m pc ls []) := fun σ H locs ls pc hW h hd => x_vret hx hb hr hlocks hW h hd
  have hl := lv_entry ([.ref (ad 2)]) (n := 1) (Nat.le_of_ble_eq_true rfl)
  rw [show entryFrame m args 1 = entryFrame m ([.ref (ad 2)] : List Value).toArray 1 from by rw [hav]]
  rw [lg_entry_eq]
  generalize (lg_sl ([.ref (ad 2)]) ++ List.replicate (1 - (lg_sl ([.ref (ad 2)])).length) Slot.unset).toArray = ls at hl ⊢
  have hl : lv_has ls 1 [(0, .ref (ad 2))] := hl
  show W p l e rmX7_nextNumber s m args below meth c s.heap [] 0 0 _ _
  generalize MQ below (va_Qv post (xOut D KA layX st ad ids) (xA ad ids s.heap.size)) args s 0 0 (xA ad ids s.heap.size) = Q at kr ⊢
  have blk87 : ∀ (s1 : Int32) (σ : St) (H : Heap) (locs : List Loc) (ls : Array Slot), xW D KA layX st ad ids (xA ad ids s.heap.size) s.heap σ H locs → lv_has ls 1 [] → wX7_nextNumber_87 ids post s1 σ → W p l e rmX7_nextNumber s m args below meth c H locs 0 0 Q (F0 m 87 ls [.int s1, .ref (ad 2)]) := by
    intro   s1 σ H locs ls hW hl h
    unfold wX7_nextNumber_87 at h
    refine xpX7_3 hx hb hts hown hK hW 2 hcX7_nextNumber_X7 (hI 2 (by decide)) lX_2 (hts _ hwX7_nextNumber_0) dX7_nextNumber_87 (fun σ1 H locs hσ1 hW => ?_)
    have h := h σ1 hσ1
    exact kr _ _ _ _ _ hW h dX7_nextNumber_90
  have blk68 : ∀ (σ : St) (H : Heap) (locs : List Loc) (ls : Array Slot), xW D KA layX st ad ids (xA ad ids s.heap.size) s.heap σ H locs → lv_has ls 1 [(0, .ref (ad 2))] → wX7_nextNumber_68 ids post  σ → W p l e rmX7_nextNumber s m args below meth c H locs 0 0 Q (F0 m 68 ls []) := by
    intro    σ H locs ls hW hl h
    unfold wX7_nextNumber_68 at h
    refine lv_aload_n hx hb dX7_nextNumber_68 rfl (lv_at hl 0 rfl) ?_
    refine lv_aload_n hx hb dX7_nextNumber_69 rfl (lv_at hl 0 rfl) ?_
    refine xgX7_2 hx hb hts hown hK hW 2 hcX7_nextNumber_X7 (hI 2 (by decide)) lX_2 (hts _ hwX7_nextNumber_1) dX7_nextNumber_70 ?_
    refine lv_aload_n hx hb dX7_nextNumber_73 rfl (lv_at hl 0 rfl) ?_
    refine xgX7_4 hx hb hts hown hK hW 2 hcX7_nextNumber_X7 (hI 2 (by decide)) lX_2 (hts _ hwX7_nextNumber_2) dX7_nextNumber_74 ?_
    refine lv_isub hx hb dX7_nextNumber_77 ?_
    refine lv_iconst (v := 4) hx hb dX7_nextNumber_78 (by decide) ?_
    refine lv_icmp_gt (tgt := 86) hx hb dX7_nextNumber_79 (by decide) (fun c2 => ?_) (fun c2 => ?_)
    · have h := h.1 c2
      refine lv_iconst (v := 1) hx hb dX7_nextNumber_86 (by decide) ?_
      exact blk87   (1 : Int32) _ _ _ _ hW (lv_sub hl [] rfl) h
    · have h := h.2 c2
      refine lv_iconst (v := 2) hx hb dX7_nextNumber_82 (by decide) ?_
      refine lv_goto (tgt := 87) hx hb dX7_nextNumber_83 (by decide) ?_
      exact blk87   (2 : Int32) _ _ _ _ hW (lv_sub hl [] rfl) h
  have blk5 : ∀ (n : Nat)  (σ : St) (H : Heap) (locs : List Loc) (ls : Array Slot), xW D KA layX st ad ids (xA ad ids s.heap.size) s.heap σ H locs → lv_has ls 1 [(0, .ref (ad 2))] → wX7_nextNumber_5 ids post  n  σ → W p l e rmX7_nextNumber s m args below meth c H locs 0 0 Q (F0 m 5 ls []) := by
    intro    n
    induction n with
    | zero => intro  σ H locs ls hW hl h; exact (h : False).elim
    | succ n ih =>
      intro  σ H locs ls hW hl h
      have hk5 : ∀  (σ : St) (H : Heap) (locs : List Loc) (ls : Array Slot), xW D KA layX st ad ids (xA ad ids s.heap.size) s.heap σ H locs → lv_has ls 1 [(0, .ref (ad 2))] → (wX7_nextNumber_5 ids post  n)  σ → W p l e rmX7_nextNumber s m args below meth c H locs 0 0 Q (F0 m 5 ls []) := fun  σ H locs ls hW hl h => ih  σ H locs ls hW hl h
      rw [wX7_nextNumber_5_s] at h
      try dsimp only at h
      generalize wX7_nextNumber_5 ids post  n = k5 at h hk5
      refine lv_aload_n hx hb dX7_nextNumber_5 rfl (lv_at hl 0 rfl) ?_
      refine xgX7_2 hx hb hts hown hK hW 2 hcX7_nextNumber_X7 (hI 2 (by decide)) lX_2 (hts _ hwX7_nextNumber_1) dX7_nextNumber_6 ?_
      refine lv_aload_n hx hb dX7_nextNumber_9 rfl (lv_at hl 0 rfl) ?_
      refine xgX7_1 hx hb hts hown hK hW 2 hcX7_nextNumber_X7 (hI 2 (by decide)) lX_2 (hts _ hwX7_nextNumber_3) dX7_nextNumber_10 ?_
      refine lv_icmp_ge (tgt := 68) hx hb dX7_nextNumber_13 (by decide) (fun c3 => ?_) (fun c3 => ?_)
      · have h := h.1 c3
        exact blk68    _ _ _ _ hW (lv_sub hl [0] rfl) h
      · have h := h.2 c3
        refine lv_aload_n hx hb dX7_nextNumber_16 rfl (lv_at hl 0 rfl) ?_
        refine xgX7_0r hx hb hts hown hK hW 2 hcX7_nextNumber_X7 (hI 2 (by decide)) lX_2 (hts _ hwX7_nextNumber_4) (s7_2_0 hst _) dX7_nextNumber_17 ?_
        refine lv_aload_n hx hb dX7_nextNumber_20 rfl (lv_at hl 0 rfl) ?_
        refine xgX7_2 hx hb hts hown hK hW 2 hcX7_nextNumber_X7 (hI 2 (by decide)) lX_2 (hts _ hwX7_nextNumber_1) dX7_nextNumber_21 ?_
        obtain ⟨hi4, h⟩ := h
        refine x_iald hx hb hK hW 13 (hI 13 (by decide)) lX_13 hi4 dX7_nextNumber_24 ?_
        refine x_calli (va_runS (As := [.int (gI σ 13 (gI σ 2 2).toNatClampNeg)]) (rest := []) ⟨hx, hb, hml, hown, hts⟩ (J_X7_isDigit l hI hst h) (va_cwS 1 hts gX7_nextNumber_X7_isDigit rfl rfl rfl hdS_X7_isDigit ⟨Nat.le_of_ble_eq_true rfl, Nat.le_of_ble_eq_true rfl⟩) (x_preS hK hZ hA hW) rfl rfl hl.1 rfl (lv_room (Nat.le_of_ble_eq_true rfl)) dX7_nextNumber_25 ⟨Nat.zero_le _, Nat.zero_le _⟩) hW hA (fun r6 σ5 H locs h hW => ?_)
        try dsimp only at h
        refine lv_if_eq (tgt := 68) hx hb dX7_nextNumber_28 (by decide) (fun c7 => ?_) (fun c7 => ?_)
        · have h := h.1 c7
          exact blk68    _ _ _ _ hW (lv_sub hl [0] rfl) h
        · have h := h.2 c7
          refine lv_aload_n hx hb dX7_nextNumber_31 rfl (lv_at hl 0 rfl) ?_
          refine lv_aload_n hx hb dX7_nextNumber_32 rfl (lv_at hl 0 rfl) ?_
          refine xgX7_5 hx hb hts hown hK hW 2 hcX7_nextNumber_X7 (hI 2 (by decide)) lX_2 (hts _ hwX7_nextNumber_5) dX7_nextNumber_33 ?_
          refine lv_bipush (v := 10) hx hb dX7_nextNumber_36 (by decide) ?_
          refine lv_imul hx hb dX7_nextNumber_38 ?_
          refine lv_aload_n hx hb dX7_nextNumber_39 rfl (lv_at hl 0 rfl) ?_
          refine xgX7_0r hx hb hts hown hK hW 2 hcX7_nextNumber_X7 (hI 2 (by decide)) lX_2 (hts _ hwX7_nextNumber_4) (s7_2_0 hst _) dX7_nextNumber_40 ?_
          refine lv_aload_n hx hb dX7_nextNumber_43 rfl (lv_at hl 0 rfl) ?_
          refine xgX7_2 hx hb hts hown hK hW 2 hcX7_nextNumber_X7 (hI 2 (by decide)) lX_2 (hts _ hwX7_nextNumber_1) dX7_nextNumber_44 ?_
          obtain ⟨hi8, h⟩ := h
          refine x_iald hx hb hK hW 13 (hI 13 (by decide)) lX_13 hi8 dX7_nextNumber_47 ?_
          refine lv_iadd hx hb dX7_nextNumber_48 ?_
          refine lv_bipush (v := 48) hx hb dX7_nextNumber_49 (by decide) ?_
          refine lv_isub hx hb dX7_nextNumber_51 ?_
          refine xpX7_5 hx hb hts hown hK hW 2 hcX7_nextNumber_X7 (hI 2 (by decide)) lX_2 (hts _ hwX7_nextNumber_5) dX7_nextNumber_52 (fun σ9 H locs hσ9 hW => ?_)
          have h := h σ9 hσ9
          refine lv_aload_n hx hb dX7_nextNumber_55 rfl (lv_at hl 0 rfl) ?_
          refine lv_dup hx hb dX7_nextNumber_56 rfl ?_
          refine xgX7_2 hx hb hts hown hK hW 2 hcX7_nextNumber_X7 (hI 2 (by decide)) lX_2 (hts _ hwX7_nextNumber_1) dX7_nextNumber_57 ?_
          refine lv_iconst (v := 1) hx hb dX7_nextNumber_60 (by decide) ?_
          refine lv_iadd hx hb dX7_nextNumber_61 ?_
          refine xpX7_2 hx hb hts hown hK hW 2 hcX7_nextNumber_X7 (hI 2 (by decide)) lX_2 (hts _ hwX7_nextNumber_1) dX7_nextNumber_62 (fun σ10 H locs hσ10 hW => ?_)
          have h := h σ10 hσ10
          refine lv_goto (tgt := 5) hx hb dX7_nextNumber_65 (by decide) ?_
          exact hk5  _ _ _ _ hW (lv_sub hl [0] rfl) h
  have main : ∀ (H : Heap) (locs : List Loc) (ls : Array Slot), xW D KA layX st ad ids (xA ad ids s.heap.size) s.heap σ H locs → lv_has ls 1 [(0, .ref (ad 2))] → W p l e rmX7_nextNumber s m args below meth c H locs 0 0 Q (F0 m 0 ls []) := by
    intro H locs ls hW hl
    unfold wX7_nextNumber at h
    refine lv_aload_n hx hb dX7_nextNumber_0 rfl (lv_at hl 0 rfl) ?_
    refine lv_iconst (v := 0) hx hb dX7_nextNumber_1 (by decide) ?_
    refine xpX7_5 hx hb hts hown hK hW 2 hcX7_nextNumber_X7 (hI 2 (by decide)) lX_2 (hts _ hwX7_nextNumber_5) dX7_nextNumber_2 (fun σ1001 H locs hσ1001 hW => ?_)
    have h := h σ1001 hσ1001
    obtain ⟨n, h⟩ := h
    exact blk5    n  _ _ _ _ hW (lv_sub hl [0] rfl) h
  exact main _ _ _ hW hl
