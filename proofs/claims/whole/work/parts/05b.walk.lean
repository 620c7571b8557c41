theorem hwX11_newBelt_0 : (.classLink RX11 364 RX2 : Cond) ∈ wsX11_newBelt := (List.mem_cons_of_mem _ (List.mem_append_left _ (List.mem_append_left _ (List.mem_append_left _ (List.mem_append_left _ (List.mem_append_left _ (List.mem_append_left _ (List.mem_append_left _ (List.mem_of_getElem? (i := 0) rfl)))))))))
theorem hwX11_newBelt_1 : (.instantiable RX2 13 : Cond) ∈ wsX11_newBelt := (List.mem_cons_of_mem _ (List.mem_append_left _ (List.mem_append_left _ (List.mem_append_left _ (List.mem_append_left _ (List.mem_append_left _ (List.mem_append_left _ (List.mem_append_left _ (List.mem_of_getElem? (i := 1) rfl)))))))))
theorem hwX11_newBelt_2 : (.initialized RX2 : Cond) ∈ wsX11_newBelt := (List.mem_cons_of_mem _ (List.mem_append_left _ (List.mem_append_left _ (List.mem_append_left _ (List.mem_append_left _ (List.mem_append_left _ (List.mem_append_left _ (List.mem_append_left _ (List.mem_of_getElem? (i := 2) rfl)))))))))
theorem hwX11_newBelt_3 : (.methodLink RX11 366 yX2_init : Cond) ∈ wsX11_newBelt := (List.mem_cons_of_mem _ (List.mem_append_left _ (List.mem_append_left _ (List.mem_append_left _ (List.mem_append_left _ (List.mem_append_left _ (List.mem_append_left _ (List.mem_append_left _ (List.mem_of_getElem? (i := 18) rfl)))))))))
theorem hwX11_newBelt_4 : (.instanceMethod yX2_init : Cond) ∈ wsX11_newBelt := (List.mem_cons_of_mem _ (List.mem_append_left _ (List.mem_append_left _ (List.mem_append_left _ (List.mem_append_left _ (List.mem_append_left _ (List.mem_append_left _ (List.mem_append_left _ (List.mem_of_getElem? (i := 19) rfl)))))))))
theorem hwX11_newBelt_5 : (.classLink RX11 369 RX3 : Cond) ∈ wsX11_newBelt := (List.mem_cons_of_mem _ (List.mem_append_left _ (List.mem_append_left _ (List.mem_append_left _ (List.mem_append_left _ (List.mem_append_left _ (List.mem_append_left _ (List.mem_append_left _ (List.mem_of_getElem? (i := 3) rfl)))))))))
theorem hwX11_newBelt_6 : (.instantiable RX3 13 : Cond) ∈ wsX11_newBelt := (List.mem_cons_of_mem _ (List.mem_append_left _ (List.mem_append_left _ (List.mem_append_left _ (List.mem_append_left _ (List.mem_append_left _ (List.mem_append_left _ (List.mem_append_left _ (List.mem_of_getElem? (i := 4) rfl)))))))))
theorem hwX11_newBelt_7 : (.initialized RX3 : Cond) ∈ wsX11_newBelt := (List.mem_cons_of_mem _ (List.mem_append_left _ (List.mem_append_left _ (List.mem_append_left _ (List.mem_append_left _ (List.mem_append_left _ (List.mem_append_left _ (List.mem_append_left _ (List.mem_of_getElem? (i := 5) rfl)))))))))
theorem hwX11_newBelt_8 : (.methodLink RX11 371 yX3_init : Cond) ∈ wsX11_newBelt := (List.mem_cons_of_mem _ (List.mem_append_left _ (List.mem_append_left _ (List.mem_append_left _ (List.mem_append_left _ (List.mem_append_left _ (List.mem_append_left _ (List.mem_append_right _ (List.mem_append_left _ (List.mem_of_getElem? (i := 8) rfl))))))))))
theorem hwX11_newBelt_9 : (.instanceMethod yX3_init : Cond) ∈ wsX11_newBelt := (List.mem_cons_of_mem _ (List.mem_append_left _ (List.mem_append_left _ (List.mem_append_left _ (List.mem_append_left _ (List.mem_append_left _ (List.mem_append_left _ (List.mem_append_right _ (List.mem_append_left _ (List.mem_of_getElem? (i := 9) rfl))))))))))
theorem hwX11_newBelt_10 : (.classLink RX11 372 RX1 : Cond) ∈ wsX11_newBelt := (List.mem_cons_of_mem _ (List.mem_append_left _ (List.mem_append_left _ (List.mem_append_left _ (List.mem_append_left _ (List.mem_append_left _ (List.mem_append_left _ (List.mem_append_left _ (List.mem_of_getElem? (i := 6) rfl)))))))))
theorem hwX11_newBelt_11 : (.instantiable RX1 13 : Cond) ∈ wsX11_newBelt := (List.mem_cons_of_mem _ (List.mem_append_left _ (List.mem_append_left _ (List.mem_append_left _ (List.mem_append_left _ (List.mem_append_left _ (List.mem_append_left _ (List.mem_append_left _ (List.mem_of_getElem? (i := 7) rfl)))))))))
theorem hwX11_newBelt_12 : (.initialized RX1 : Cond) ∈ wsX11_newBelt := (List.mem_cons_of_mem _ (List.mem_append_left _ (List.mem_append_left _ (List.mem_append_left _ (List.mem_append_left _ (List.mem_append_left _ (List.mem_append_left _ (List.mem_append_left _ (List.mem_of_getElem? (i := 8) rfl)))))))))
theorem hwX11_newBelt_13 : (.methodLink RX11 374 yX1_init : Cond) ∈ wsX11_newBelt := (List.mem_cons_of_mem _ (List.mem_append_left _ (List.mem_append_left _ (List.mem_append_left _ (List.mem_append_left _ (List.mem_append_left _ (List.mem_append_left _ (List.mem_append_right _ (List.mem_append_left _ (List.mem_of_getElem? (i := 12) rfl))))))))))
theorem hwX11_newBelt_14 : (.instanceMethod yX1_init : Cond) ∈ wsX11_newBelt := (List.mem_cons_of_mem _ (List.mem_append_left _ (List.mem_append_left _ (List.mem_append_left _ (List.mem_append_left _ (List.mem_append_left _ (List.mem_append_left _ (List.mem_append_right _ (List.mem_append_left _ (List.mem_of_getElem? (i := 13) rfl))))))))))
theorem hwX11_newBelt_15 : (.classLink RX11 375 RX4 : Cond) ∈ wsX11_newBelt := (List.mem_cons_of_mem _ (List.mem_append_left _ (List.mem_append_left _ (List.mem_append_left _ (List.mem_append_left _ (List.mem_append_left _ (List.mem_append_left _ (List.mem_append_left _ (List.mem_of_getElem? (i := 9) rfl)))))))))
theorem hwX11_newBelt_16 : (.instantiable RX4 13 : Cond) ∈ wsX11_newBelt := (List.mem_cons_of_mem _ (List.mem_append_left _ (List.mem_append_left _ (List.mem_append_left _ (List.mem_append_left _ (List.mem_append_left _ (List.mem_append_left _ (List.mem_append_left _ (List.mem_of_getElem? (i := 10) rfl)))))))))
theorem hwX11_newBelt_17 : (.initialized RX4 : Cond) ∈ wsX11_newBelt := (List.mem_cons_of_mem _ (List.mem_append_left _ (List.mem_append_left _ (List.mem_append_left _ (List.mem_append_left _ (List.mem_append_left _ (List.mem_append_left _ (List.mem_append_left _ (List.mem_of_getElem? (i := 11) rfl)))))))))
theorem hwX11_newBelt_18 : (.methodLink RX11 377 yX4_init : Cond) ∈ wsX11_newBelt := (List.mem_cons_of_mem _ (List.mem_append_left _ (List.mem_append_left _ (List.mem_append_left _ (List.mem_append_left _ (List.mem_append_left _ (List.mem_append_left _ (List.mem_append_right _ (List.mem_append_left _ (List.mem_of_getElem? (i := 16) rfl))))))))))
theorem hwX11_newBelt_19 : (.instanceMethod yX4_init : Cond) ∈ wsX11_newBelt := (List.mem_cons_of_mem _ (List.mem_append_left _ (List.mem_append_left _ (List.mem_append_left _ (List.mem_append_left _ (List.mem_append_left _ (List.mem_append_left _ (List.mem_append_right _ (List.mem_append_left _ (List.mem_of_getElem? (i := 17) rfl))))))))))
theorem hwX11_newBelt_20 : (.classLink RX11 378 RX10 : Cond) ∈ wsX11_newBelt := (List.mem_cons_of_mem _ (List.mem_append_left _ (List.mem_append_left _ (List.mem_append_left _ (List.mem_append_left _ (List.mem_append_left _ (List.mem_append_left _ (List.mem_append_left _ (List.mem_of_getElem? (i := 12) rfl)))))))))
theorem hwX11_newBelt_21 : (.instantiable RX10 13 : Cond) ∈ wsX11_newBelt := (List.mem_cons_of_mem _ (List.mem_append_left _ (List.mem_append_left _ (List.mem_append_left _ (List.mem_append_left _ (List.mem_append_left _ (List.mem_append_left _ (List.mem_append_left _ (List.mem_of_getElem? (i := 13) rfl)))))))))
theorem hwX11_newBelt_22 : (.initialized RX10 : Cond) ∈ wsX11_newBelt := (List.mem_cons_of_mem _ (List.mem_append_left _ (List.mem_append_left _ (List.mem_append_left _ (List.mem_append_left _ (List.mem_append_left _ (List.mem_append_left _ (List.mem_append_left _ (List.mem_of_getElem? (i := 14) rfl)))))))))
theorem hwX11_newBelt_23 : (.methodLink RX11 380 yX10_init : Cond) ∈ wsX11_newBelt := (List.mem_cons_of_mem _ (List.mem_append_left _ (List.mem_append_left _ (List.mem_append_left _ (List.mem_append_left _ (List.mem_append_left _ (List.mem_append_left _ (List.mem_append_right _ (List.mem_append_left _ (List.mem_of_getElem? (i := 20) rfl))))))))))
theorem hwX11_newBelt_24 : (.instanceMethod yX10_init : Cond) ∈ wsX11_newBelt := (List.mem_cons_of_mem _ (List.mem_append_left _ (List.mem_append_left _ (List.mem_append_left _ (List.mem_append_left _ (List.mem_append_left _ (List.mem_append_left _ (List.mem_append_right _ (List.mem_append_left _ (List.mem_of_getElem? (i := 21) rfl))))))))))
theorem hwX11_newBelt_25 : (.classLink RX11 168 RX0 : Cond) ∈ wsX11_newBelt := (List.mem_cons_of_mem _ (List.mem_append_left _ (List.mem_append_left _ (List.mem_append_left _ (List.mem_append_left _ (List.mem_append_left _ (List.mem_append_left _ (List.mem_append_left _ (List.mem_of_getElem? (i := 15) rfl)))))))))
theorem hwX11_newBelt_26 : (.instantiable RX0 13 : Cond) ∈ wsX11_newBelt := (List.mem_cons_of_mem _ (List.mem_append_left _ (List.mem_append_left _ (List.mem_append_left _ (List.mem_append_left _ (List.mem_append_left _ (List.mem_append_left _ (List.mem_append_left _ (List.mem_of_getElem? (i := 16) rfl)))))))))
theorem hwX11_newBelt_27 : (.initialized RX0 : Cond) ∈ wsX11_newBelt := (List.mem_cons_of_mem _ (List.mem_append_left _ (List.mem_append_left _ (List.mem_append_left _ (List.mem_append_left _ (List.mem_append_left _ (List.mem_append_left _ (List.mem_append_left _ (List.mem_of_getElem? (i := 17) rfl)))))))))
theorem hwX11_newBelt_28 : (.methodLink RX11 381 yX0_init : Cond) ∈ wsX11_newBelt := (List.mem_cons_of_mem _ (List.mem_append_left _ (List.mem_append_left _ (List.mem_append_left _ (List.mem_append_left _ (List.mem_append_left _ (List.mem_append_left _ (List.mem_append_right _ (List.mem_append_right _ (List.mem_of_getElem? (i := 0) rfl))))))))))
theorem hwX11_newBelt_29 : (.instanceMethod yX0_init : Cond) ∈ wsX11_newBelt := (List.mem_cons_of_mem _ (List.mem_append_left _ (List.mem_append_left _ (List.mem_append_left _ (List.mem_append_left _ (List.mem_append_left _ (List.mem_append_left _ (List.mem_append_left _ (List.mem_of_getElem? (i := 22) rfl)))))))))
theorem hcX11_newBelt_X2 : ∀ w ∈ wsX20, w ∈ wsX11_newBelt := fun _ h => (List.mem_cons_of_mem _ (List.mem_append_left _ (List.mem_append_left _ (List.mem_append_left _ (List.mem_append_left _ (List.mem_append_left _ (List.mem_append_right _ h)))))))
theorem hcX11_newBelt_X3 : ∀ w ∈ wsX30, w ∈ wsX11_newBelt := fun _ h => (List.mem_cons_of_mem _ (List.mem_append_left _ (List.mem_append_left _ (List.mem_append_left _ (List.mem_append_left _ (List.mem_append_right _ h))))))
theorem hcX11_newBelt_X1 : ∀ w ∈ wsX10, w ∈ wsX11_newBelt := fun _ h => (List.mem_cons_of_mem _ (List.mem_append_left _ (List.mem_append_left _ (List.mem_append_left _ (List.mem_append_right _ h)))))
theorem hcX11_newBelt_X4 : ∀ w ∈ wsX40, w ∈ wsX11_newBelt := fun _ h => (List.mem_cons_of_mem _ (List.mem_append_left _ (List.mem_append_left _ (List.mem_append_right _ h))))
theorem hcX11_newBelt_X10 : ∀ w ∈ wsX100, w ∈ wsX11_newBelt := fun _ h => (List.mem_cons_of_mem _ (List.mem_append_left _ (List.mem_append_right _ h)))
theorem hcX11_newBelt_X0 : ∀ w ∈ wsX00, w ∈ wsX11_newBelt := fun _ h => (List.mem_cons_of_mem _ (List.mem_append_right _ h))
set_option maxHeartbeats 16000000 in
set_option maxRecDepth 100000 in
theorem J_X11_newBelt {D : va_G} {KA : Nat → ClassId} {zs : ZS} {ad : Nat → Nat} {ids : List Nat} {sz : Nat} (l : Launch) {d0 : Nat} {a0 : Int32} {a1 : Int32} {a2 : Int32} {a3 : Int32} (hI : ∀ c, c < 52 ∧ ¬ c = 19 → c ∈ ids)  {σ : St} {post : Nat → St → List Nat → Prop} (h : wX11_newBelt ids d0 a0 a1 a2 a3 σ post) : Met l yX11_newBelt wsX11_newBelt rmX11_newBelt (va_Pc [.int a0, .int a1, .int a2, .int a3] (xIn D KA zs layX stX ad ids sz σ)) (va_Qr (S := Nat × St × (Nat → Nat) × List Nat) (fun u => post u.1 u.2.1 u.2.2.2) (fun u a t => a = u.2.2.1 u.1 ∧ xOutA D KA layX stX ad ids sz u.2 t) (xA ad ids sz)) 1 13 (xA ad ids sz) := by
  refine Met.ofW (cc := cX11_newBelt) (maxL := 4) (ret := (some (.object "FortyBelts$Belt"))) (by decide) rfl ?_
  intro p e s m args below meth c s₁ B hml hv
  obtain ⟨hav, hsz, hK, hZ, hP, hD⟩ := hv
  have hx := B.exec
  have hb := B.bytes
  have hr := B.returns
  have hts := atoms_spec (ws := wsX11_newBelt) B.pre
  have hown : s.vm.findClass RX11 = some m.cls := findClass_of_methodNamed B.named
  have hlocks := B.notSynchronized
  subst hsz
  have hA : ∀ q : Nat, s.heap.size ≤ q → xA ad ids s.heap.size q := fun q h => Or.inr h
  have hW : xW D KA layX stX ad ids (xA ad ids s.heap.size) s.heap σ s.heap [] := ⟨hP, xA_D (D := D) hD, va_S.rf⟩
  have kr : ∀ (v : Nat) (σ : St) (ad' : Nat → Nat) (ids' : List Nat) (H : Heap) (locs : List Loc) (ls : Array Slot) (pc : Nat), xW D KA layX stX ad' ids' (xA ad ids s.heap.size) s.heap σ H locs → (∀ c ∈ ids, ad' c = ad c) → (∀ c ∈ ids, c ∈ ids') → post v σ ids' → decode cX11_newBelt pc = .ok (.areturn, 1) → W p l e rmX11_newBelt s m args below meth c H locs 1 13 (MQ below (va_Qr (S := Nat × St × (Nat → Nat) × List Nat) (fun u => post u.1 u.2.1 u.2.2.2) (fun u a t => a = u.2.2.1 u.1 ∧ xOutA D KA layX stX ad ids s.heap.size u.2 t) (xA ad ids s.heap.size)) args s 1 13 (xA ad ids s.heap.size)) (F0 m pc ls [.ref (ad' v)]) := fun v σ ad' ids' H locs ls pc hW he hs h hd => x_aretA hx hb hr hlocks hW he hs h hd
  have hl := lv_entry ([.int a0, .int a1, .int a2, .int a3]) (n := 4) (Nat.le_of_ble_eq_true rfl)
  rw [show entryFrame m args 4 = entryFrame m ([.int a0, .int a1, .int a2, .int a3] : List Value).toArray 4 from by rw [hav]]
  rw [lg_entry_eq]
  generalize (lg_sl ([.int a0, .int a1, .int a2, .int a3]) ++ List.replicate (4 - (lg_sl ([.int a0, .int a1, .int a2, .int a3])).length) Slot.unset).toArray = ls at hl ⊢
  have hl : lv_has ls 4 [(0, .int a0), (1, .int a1), (2, .int a2), (3, .int a3)] := hl
  show W p l e rmX11_newBelt s m args below meth c s.heap [] 0 0 _ _
  generalize MQ below (va_Qr (S := Nat × St × (Nat → Nat) × List Nat) (fun u => post u.1 u.2.1 u.2.2.2) (fun u a t => a = u.2.2.1 u.1 ∧ xOutA D KA layX stX ad ids s.heap.size u.2 t) (xA ad ids s.heap.size)) args s 1 13 (xA ad ids s.heap.size) = Q at kr ⊢
  unfold wX11_newBelt at h
  refine lv_iload_n hx hb dX11_newBelt_0 rfl (lv_at hl 0 rfl) ?_
  refine lv_topi (fun v1001 hv1001 => ?_)
  have h := h v1001 hv1001
  obtain ⟨hcase, h⟩ := h
  by_cases hc1_0 : v1001 = (1 : Int32)
  · have h := hcase hc1_0
    clear hcase
    refine lv_tableIn (tgt := 36) hx hb dX11_newBelt_1 (by rw [hc1_0] <;> decide) (by rw [hc1_0] <;> decide) (by rw [hc1_0]; rfl) (by decide) ?_
    obtain ⟨⟨hq1002a, hq1002s, hq1002d, hq1002r, hq1002o⟩, h⟩ := h
    refine x_new hx hb hts hown hK hW hA (d0 + 1) 2 13 rfl hcX11_newBelt_X2 tyX2_ok dvX2 rfl (hts _ hwX11_newBelt_0) (hts _ hwX11_newBelt_1) (hts _ hwX11_newBelt_2) hq1002d hq1002a hq1002s hq1002r (Nat.le_of_ble_eq_true rfl) (Nat.le_of_ble_eq_true rfl) dX11_newBelt_36 (fun ad1004 H hAd1005 hW => ?_)
    obtain ⟨σ1003, hσ1003⟩ : ∃ τ, τ = nC σ (d0 + 1) := ⟨_, rfl⟩
    rw [← hσ1003] at hW
    obtain ⟨ids1006, hids1006⟩ : ∃ x, x = ids ++ [(d0 + 1)] := ⟨_, rfl⟩
    rw [← hids1006] at hW
    have h := h σ1003 hσ1003 ids1006 hids1006
    rw [← hids1006] at hq1002o
    refine lv_dup hx hb dX11_newBelt_39 rfl ?_
    refine lv_iload_n hx hb dX11_newBelt_40 rfl (lv_at hl 0 rfl) ?_
    refine lv_iload_n hx hb dX11_newBelt_41 rfl (lv_at hl 1 rfl) ?_
    refine lv_iload_n hx hb dX11_newBelt_42 rfl (lv_at hl 2 rfl) ?_
    refine lv_iload_n hx hb dX11_newBelt_43 rfl (lv_at hl 3 rfl) ?_
    refine x_callv (va_runI (As := [.int a0, .int a1, .int a2, .int a3]) (rest := [.ref (ad1004 (d0 + 1))]) ⟨hx, hb, hml, hown, hts⟩ (J_X2_init l (fun c h => (x_mL hids1006 (hI c h))) hq1002o h) (cwI 4 hts gX11_newBelt_X2_init rfl rfl rfl (hts _ hwX11_newBelt_2) (hts _ hwX11_newBelt_3) (hts _ hwX11_newBelt_4) rfl hdI_X2_init ⟨Nat.le_of_ble_eq_true rfl, Nat.le_of_ble_eq_true rfl⟩) (x_preS hK hZ hA hW) rfl rfl hl.1 rfl (lv_room (Nat.le_of_ble_eq_true rfl)) dX11_newBelt_44 ⟨Nat.le_of_ble_eq_true rfl, Nat.le_of_ble_eq_true rfl⟩) hW hA (fun σ1007 H locs h hW => ?_)
    try dsimp only at h
    refine W.widen (k := 1) (n := 13) (Nat.le_of_ble_eq_true rfl) (Nat.le_of_ble_eq_true rfl) ?_
    exact kr _ _ _ _ _ _ _ _ hW (fun c hc => (hAd1005 c (x_ne hc hq1002d)).trans ((fun _ _ => rfl) c hc)) (fun c hc => (x_mL hids1006 hc)) h dX11_newBelt_47
  clear hcase
  obtain ⟨hcase, h⟩ := h
  by_cases hc1_1 : v1001 = (2 : Int32)
  · have h := hcase hc1_1
    clear hcase
    refine lv_tableIn (tgt := 48) hx hb dX11_newBelt_1 (by rw [hc1_1] <;> decide) (by rw [hc1_1] <;> decide) (by rw [hc1_1]; rfl) (by decide) ?_
    obtain ⟨⟨hq1008a, hq1008s, hq1008d, hq1008r, hq1008o⟩, h⟩ := h
    refine x_new hx hb hts hown hK hW hA (d0 + 2) 3 13 rfl hcX11_newBelt_X3 tyX3_ok dvX3 rfl (hts _ hwX11_newBelt_5) (hts _ hwX11_newBelt_6) (hts _ hwX11_newBelt_7) hq1008d hq1008a hq1008s hq1008r (Nat.le_of_ble_eq_true rfl) (Nat.le_of_ble_eq_true rfl) dX11_newBelt_48 (fun ad1010 H hAd1011 hW => ?_)
    obtain ⟨σ1009, hσ1009⟩ : ∃ τ, τ = nC σ (d0 + 2) := ⟨_, rfl⟩
    rw [← hσ1009] at hW
    obtain ⟨ids1012, hids1012⟩ : ∃ x, x = ids ++ [(d0 + 2)] := ⟨_, rfl⟩
    rw [← hids1012] at hW
    have h := h σ1009 hσ1009 ids1012 hids1012
    rw [← hids1012] at hq1008o
    refine lv_dup hx hb dX11_newBelt_51 rfl ?_
    refine lv_iload_n hx hb dX11_newBelt_52 rfl (lv_at hl 0 rfl) ?_
    refine lv_iload_n hx hb dX11_newBelt_53 rfl (lv_at hl 1 rfl) ?_
    refine lv_iload_n hx hb dX11_newBelt_54 rfl (lv_at hl 2 rfl) ?_
    refine lv_iload_n hx hb dX11_newBelt_55 rfl (lv_at hl 3 rfl) ?_
    refine x_callv (va_runI (As := [.int a0, .int a1, .int a2, .int a3]) (rest := [.ref (ad1010 (d0 + 2))]) ⟨hx, hb, hml, hown, hts⟩ (J_X3_init l (fun c h => (x_mL hids1012 (hI c h))) hq1008o h) (cwI 4 hts gX11_newBelt_X3_init rfl rfl rfl (hts _ hwX11_newBelt_7) (hts _ hwX11_newBelt_8) (hts _ hwX11_newBelt_9) rfl hdI_X3_init ⟨Nat.le_of_ble_eq_true rfl, Nat.le_of_ble_eq_true rfl⟩) (x_preS hK hZ hA hW) rfl rfl hl.1 rfl (lv_room (Nat.le_of_ble_eq_true rfl)) dX11_newBelt_56 ⟨Nat.le_of_ble_eq_true rfl, Nat.le_of_ble_eq_true rfl⟩) hW hA (fun σ1013 H locs h hW => ?_)
    try dsimp only at h
    refine W.widen (k := 1) (n := 13) (Nat.le_of_ble_eq_true rfl) (Nat.le_of_ble_eq_true rfl) ?_
    exact kr _ _ _ _ _ _ _ _ hW (fun c hc => (hAd1011 c (x_ne hc hq1008d)).trans ((fun _ _ => rfl) c hc)) (fun c hc => (x_mL hids1012 hc)) h dX11_newBelt_59
  clear hcase
  obtain ⟨hcase, h⟩ := h
  by_cases hc1_2 : v1001 = (3 : Int32)
  · have h := hcase hc1_2
    clear hcase
    refine lv_tableIn (tgt := 60) hx hb dX11_newBelt_1 (by rw [hc1_2] <;> decide) (by rw [hc1_2] <;> decide) (by rw [hc1_2]; rfl) (by decide) ?_
    obtain ⟨⟨hq1014a, hq1014s, hq1014d, hq1014r, hq1014o⟩, h⟩ := h
    refine x_new hx hb hts hown hK hW hA (d0 + 3) 1 13 rfl hcX11_newBelt_X1 tyX1_ok dvX1 rfl (hts _ hwX11_newBelt_10) (hts _ hwX11_newBelt_11) (hts _ hwX11_newBelt_12) hq1014d hq1014a hq1014s hq1014r (Nat.le_of_ble_eq_true rfl) (Nat.le_of_ble_eq_true rfl) dX11_newBelt_60 (fun ad1016 H hAd1017 hW => ?_)
    obtain ⟨σ1015, hσ1015⟩ : ∃ τ, τ = nC σ (d0 + 3) := ⟨_, rfl⟩
    rw [← hσ1015] at hW
    obtain ⟨ids1018, hids1018⟩ : ∃ x, x = ids ++ [(d0 + 3)] := ⟨_, rfl⟩
    rw [← hids1018] at hW
    have h := h σ1015 hσ1015 ids1018 hids1018
    rw [← hids1018] at hq1014o
    refine lv_dup hx hb dX11_newBelt_63 rfl ?_
    refine lv_iload_n hx hb dX11_newBelt_64 rfl (lv_at hl 0 rfl) ?_
    refine lv_iload_n hx hb dX11_newBelt_65 rfl (lv_at hl 1 rfl) ?_
    refine lv_iload_n hx hb dX11_newBelt_66 rfl (lv_at hl 2 rfl) ?_
    refine lv_iload_n hx hb dX11_newBelt_67 rfl (lv_at hl 3 rfl) ?_
    refine x_callv (va_runI (As := [.int a0, .int a1, .int a2, .int a3]) (rest := [.ref (ad1016 (d0 + 3))]) ⟨hx, hb, hml, hown, hts⟩ (J_X1_init l (fun c h => (x_mL hids1018 (hI c h))) hq1014o h) (cwI 4 hts gX11_newBelt_X1_init rfl rfl rfl (hts _ hwX11_newBelt_12) (hts _ hwX11_newBelt_13) (hts _ hwX11_newBelt_14) rfl hdI_X1_init ⟨Nat.le_of_ble_eq_true rfl, Nat.le_of_ble_eq_true rfl⟩) (x_preS hK hZ hA hW) rfl rfl hl.1 rfl (lv_room (Nat.le_of_ble_eq_true rfl)) dX11_newBelt_68 ⟨Nat.le_of_ble_eq_true rfl, Nat.le_of_ble_eq_true rfl⟩) hW hA (fun σ1019 H locs h hW => ?_)
    try dsimp only at h
    refine W.widen (k := 1) (n := 13) (Nat.le_of_ble_eq_true rfl) (Nat.le_of_ble_eq_true rfl) ?_
    exact kr _ _ _ _ _ _ _ _ hW (fun c hc => (hAd1017 c (x_ne hc hq1014d)).trans ((fun _ _ => rfl) c hc)) (fun c hc => (x_mL hids1018 hc)) h dX11_newBelt_71
  clear hcase
  obtain ⟨hcase, h⟩ := h
  by_cases hc1_3 : v1001 = (4 : Int32)
  · have h := hcase hc1_3
    clear hcase
    refine lv_tableIn (tgt := 72) hx hb dX11_newBelt_1 (by rw [hc1_3] <;> decide) (by rw [hc1_3] <;> decide) (by rw [hc1_3]; rfl) (by decide) ?_
    obtain ⟨⟨hq1020a, hq1020s, hq1020d, hq1020r, hq1020o⟩, h⟩ := h
    refine x_new hx hb hts hown hK hW hA (d0 + 4) 4 13 rfl hcX11_newBelt_X4 tyX4_ok dvX4 rfl (hts _ hwX11_newBelt_15) (hts _ hwX11_newBelt_16) (hts _ hwX11_newBelt_17) hq1020d hq1020a hq1020s hq1020r (Nat.le_of_ble_eq_true rfl) (Nat.le_of_ble_eq_true rfl) dX11_newBelt_72 (fun ad1022 H hAd1023 hW => ?_)
    obtain ⟨σ1021, hσ1021⟩ : ∃ τ, τ = nC σ (d0 + 4) := ⟨_, rfl⟩
    rw [← hσ1021] at hW
    obtain ⟨ids1024, hids1024⟩ : ∃ x, x = ids ++ [(d0 + 4)] := ⟨_, rfl⟩
    rw [← hids1024] at hW
    have h := h σ1021 hσ1021 ids1024 hids1024
    rw [← hids1024] at hq1020o
    refine lv_dup hx hb dX11_newBelt_75 rfl ?_
    refine lv_iload_n hx hb dX11_newBelt_76 rfl (lv_at hl 0 rfl) ?_
    refine lv_iload_n hx hb dX11_newBelt_77 rfl (lv_at hl 1 rfl) ?_
    refine lv_iload_n hx hb dX11_newBelt_78 rfl (lv_at hl 2 rfl) ?_
    refine lv_iload_n hx hb dX11_newBelt_79 rfl (lv_at hl 3 rfl) ?_
    refine x_callv (va_runI (As := [.int a0, .int a1, .int a2, .int a3]) (rest := [.ref (ad1022 (d0 + 4))]) ⟨hx, hb, hml, hown, hts⟩ (J_X4_init l (fun c h => (x_mL hids1024 (hI c h))) hq1020o h) (cwI 4 hts gX11_newBelt_X4_init rfl rfl rfl (hts _ hwX11_newBelt_17) (hts _ hwX11_newBelt_18) (hts _ hwX11_newBelt_19) rfl hdI_X4_init ⟨Nat.le_of_ble_eq_true rfl, Nat.le_of_ble_eq_true rfl⟩) (x_preS hK hZ hA hW) rfl rfl hl.1 rfl (lv_room (Nat.le_of_ble_eq_true rfl)) dX11_newBelt_80 ⟨Nat.le_of_ble_eq_true rfl, Nat.le_of_ble_eq_true rfl⟩) hW hA (fun σ1025 H locs h hW => ?_)
    try dsimp only at h
    refine W.widen (k := 1) (n := 13) (Nat.le_of_ble_eq_true rfl) (Nat.le_of_ble_eq_true rfl) ?_
    exact kr _ _ _ _ _ _ _ _ hW (fun c hc => (hAd1023 c (x_ne hc hq1020d)).trans ((fun _ _ => rfl) c hc)) (fun c hc => (x_mL hids1024 hc)) h dX11_newBelt_83
  clear hcase
  obtain ⟨hcase, h⟩ := h
  by_cases hc1_4 : v1001 = (5 : Int32)
  · have h := hcase hc1_4
    clear hcase
    refine lv_tableIn (tgt := 84) hx hb dX11_newBelt_1 (by rw [hc1_4] <;> decide) (by rw [hc1_4] <;> decide) (by rw [hc1_4]; rfl) (by decide) ?_
    obtain ⟨⟨hq1026a, hq1026s, hq1026d, hq1026r, hq1026o⟩, h⟩ := h
    refine x_new hx hb hts hown hK hW hA (d0 + 5) 10 13 rfl hcX11_newBelt_X10 tyX10_ok dvX10 rfl (hts _ hwX11_newBelt_20) (hts _ hwX11_newBelt_21) (hts _ hwX11_newBelt_22) hq1026d hq1026a hq1026s hq1026r (Nat.le_of_ble_eq_true rfl) (Nat.le_of_ble_eq_true rfl) dX11_newBelt_84 (fun ad1028 H hAd1029 hW => ?_)
    obtain ⟨σ1027, hσ1027⟩ : ∃ τ, τ = nC σ (d0 + 5) := ⟨_, rfl⟩
    rw [← hσ1027] at hW
    obtain ⟨ids1030, hids1030⟩ : ∃ x, x = ids ++ [(d0 + 5)] := ⟨_, rfl⟩
    rw [← hids1030] at hW
    have h := h σ1027 hσ1027 ids1030 hids1030
    rw [← hids1030] at hq1026o
    refine lv_dup hx hb dX11_newBelt_87 rfl ?_
    refine lv_iload_n hx hb dX11_newBelt_88 rfl (lv_at hl 0 rfl) ?_
    refine lv_iload_n hx hb dX11_newBelt_89 rfl (lv_at hl 1 rfl) ?_
    refine lv_iload_n hx hb dX11_newBelt_90 rfl (lv_at hl 2 rfl) ?_
    refine lv_iload_n hx hb dX11_newBelt_91 rfl (lv_at hl 3 rfl) ?_
    refine x_callv (va_runI (As := [.int a0, .int a1, .int a2, .int a3]) (rest := [.ref (ad1028 (d0 + 5))]) ⟨hx, hb, hml, hown, hts⟩ (J_X10_init l (fun c h => (x_mL hids1030 (hI c h))) hq1026o h) (cwI 4 hts gX11_newBelt_X10_init rfl rfl rfl (hts _ hwX11_newBelt_22) (hts _ hwX11_newBelt_23) (hts _ hwX11_newBelt_24) rfl hdI_X10_init ⟨Nat.le_of_ble_eq_true rfl, Nat.le_of_ble_eq_true rfl⟩) (x_preS hK hZ hA hW) rfl rfl hl.1 rfl (lv_room (Nat.le_of_ble_eq_true rfl)) dX11_newBelt_92 ⟨Nat.le_of_ble_eq_true rfl, Nat.le_of_ble_eq_true rfl⟩) hW hA (fun σ1031 H locs h hW => ?_)
    try dsimp only at h
    refine W.widen (k := 1) (n := 13) (Nat.le_of_ble_eq_true rfl) (Nat.le_of_ble_eq_true rfl) ?_
    exact kr _ _ _ _ _ _ _ _ hW (fun c hc => (hAd1029 c (x_ne hc hq1026d)).trans ((fun _ _ => rfl) c hc)) (fun c hc => (x_mL hids1030 hc)) h dX11_newBelt_95
  clear hcase
  have h := h ⟨hc1_0, hc1_1, hc1_2, hc1_3, hc1_4⟩
  refine lv_tableOut (tgt := 96) hx hb dX11_newBelt_1 (tsw_out v1001 (1) (5) (fun k h1 h2 => ?_)) (by decide) ?_
  · rcases (show k = 1 ∨ k = 2 ∨ k = 3 ∨ k = 4 ∨ k = 5 by omega) with rfl | rfl | rfl | rfl | rfl
    · exact hc1_0
    · exact hc1_1
    · exact hc1_2
    · exact hc1_3
    · exact hc1_4
  obtain ⟨⟨hq1032a, hq1032s, hq1032d, hq1032r, hq1032o⟩, h⟩ := h
  refine x_new hx hb hts hown hK hW hA (d0 + 0) 0 13 rfl hcX11_newBelt_X0 tyX0_ok dvX0 rfl (hts _ hwX11_newBelt_25) (hts _ hwX11_newBelt_26) (hts _ hwX11_newBelt_27) hq1032d hq1032a hq1032s hq1032r (Nat.le_of_ble_eq_true rfl) (Nat.le_of_ble_eq_true rfl) dX11_newBelt_96 (fun ad1034 H hAd1035 hW => ?_)
  obtain ⟨σ1033, hσ1033⟩ : ∃ τ, τ = nC σ (d0 + 0) := ⟨_, rfl⟩
  rw [← hσ1033] at hW
  obtain ⟨ids1036, hids1036⟩ : ∃ x, x = ids ++ [(d0 + 0)] := ⟨_, rfl⟩
  rw [← hids1036] at hW
  have h := h σ1033 hσ1033 ids1036 hids1036
  rw [← hids1036] at hq1032o
  refine lv_dup hx hb dX11_newBelt_99 rfl ?_
  refine lv_iload_n hx hb dX11_newBelt_100 rfl (lv_at hl 0 rfl) ?_
  refine lv_iload_n hx hb dX11_newBelt_101 rfl (lv_at hl 1 rfl) ?_
  refine lv_iload_n hx hb dX11_newBelt_102 rfl (lv_at hl 2 rfl) ?_
  refine lv_iload_n hx hb dX11_newBelt_103 rfl (lv_at hl 3 rfl) ?_
  refine x_callv (va_runI (As := [.int a0, .int a1, .int a2, .int a3]) (rest := [.ref (ad1034 (d0 + 0))]) ⟨hx, hb, hml, hown, hts⟩ (J_X0_init l (fun c h => (x_mL hids1036 (hI c h))) hq1032o h) (cwI 4 hts gX11_newBelt_X0_init rfl rfl rfl (hts _ hwX11_newBelt_27) (hts _ hwX11_newBelt_28) (hts _ hwX11_newBelt_29) rfl hdI_X0_init ⟨Nat.le_of_ble_eq_true rfl, Nat.le_of_ble_eq_true rfl⟩) (x_preS hK hZ hA hW) rfl rfl hl.1 rfl (lv_room (Nat.le_of_ble_eq_true rfl)) dX11_newBelt_104 ⟨Nat.le_of_ble_eq_true rfl, Nat.le_of_ble_eq_true rfl⟩) hW hA (fun σ1037 H locs h hW => ?_)
  try dsimp only at h
  refine W.widen (k := 1) (n := 13) (Nat.le_of_ble_eq_true rfl) (Nat.le_of_ble_eq_true rfl) ?_
  exact kr _ _ _ _ _ _ _ _ hW (fun c hc => (hAd1035 c (x_ne hc hq1032d)).trans ((fun _ _ => rfl) c hc)) (fun c hc => (x_mL hids1036 hc)) h dX11_newBelt_107
theorem hwX6_orderBelts_0 : (.fieldLink RX6 46 "FortyBelts$Mill" "order" "[I" : Cond) ∈ wsX6_orderBelts := (List.mem_cons_of_mem _ (List.mem_append_left _ (List.mem_append_left _ (List.mem_append_left _ (List.mem_append_left _ (List.mem_append_left _ (List.mem_append_left _ (List.mem_append_left _ (List.mem_of_getElem? (i := 4) rfl)))))))))
theorem hwX6_orderBelts_1 : (.fieldLink RX6 65 "FortyBelts$Mill" "beltCount" "I" : Cond) ∈ wsX6_orderBelts := (List.mem_cons_of_mem _ (List.mem_append_left _ (List.mem_append_left _ (List.mem_append_left _ (List.mem_append_left _ (List.mem_append_left _ (List.mem_append_left _ (List.mem_append_left _ (List.mem_of_getElem? (i := 0) rfl)))))))))
theorem hwX6_orderBelts_2 : (.fieldLink RX6 18 "FortyBelts$Mill" "drivenBy" "[I" : Cond) ∈ wsX6_orderBelts := (List.mem_cons_of_mem _ (List.mem_append_left _ (List.mem_append_left _ (List.mem_append_left _ (List.mem_append_left _ (List.mem_append_left _ (List.mem_append_left _ (List.mem_append_left _ (List.mem_of_getElem? (i := 1) rfl)))))))))
theorem hwX6_orderBelts_3 : (.fieldLink RX6 42 "FortyBelts$Mill" "belts" "[LFortyBelts$Belt;" : Cond) ∈ wsX6_orderBelts := (List.mem_cons_of_mem _ (List.mem_append_left _ (List.mem_append_left _ (List.mem_append_left _ (List.mem_append_left _ (List.mem_append_left _ (List.mem_append_left _ (List.mem_append_left _ (List.mem_of_getElem? (i := 2) rfl)))))))))
theorem hwX6_orderBelts_4 : (.fieldLink RX6 86 "FortyBelts$Belt" "driver" "I" : Cond) ∈ wsX6_orderBelts := (List.mem_cons_of_mem _ (List.mem_append_left _ (List.mem_append_left _ (List.mem_append_left _ (List.mem_append_left _ (List.mem_append_left _ (List.mem_append_left _ (List.mem_append_left _ (List.mem_of_getElem? (i := 3) rfl)))))))))
theorem hcX6_orderBelts_X6 : ∀ w ∈ wsX60, w ∈ wsX6_orderBelts := fun _ h => (List.mem_cons_of_mem _ (List.mem_append_left _ (List.mem_append_left _ (List.mem_append_left _ (List.mem_append_left _ (List.mem_append_left _ (List.mem_append_left _ (List.mem_append_right _ h))))))))
theorem hcX6_orderBelts_X0 : ∀ w ∈ wsX00, w ∈ wsX6_orderBelts := fun _ h => (List.mem_cons_of_mem _ (List.mem_append_left _ (List.mem_append_left _ (List.mem_append_left _ (List.mem_append_left _ (List.mem_append_left _ (List.mem_append_right _ h)))))))
theorem hcX6_orderBelts_X1 : ∀ w ∈ wsX10, w ∈ wsX6_orderBelts := fun _ h => (List.mem_cons_of_mem _ (List.mem_append_left _ (List.mem_append_left _ (List.mem_append_left _ (List.mem_append_left _ (List.mem_append_right _ h))))))
theorem hcX6_orderBelts_X2 : ∀ w ∈ wsX20, w ∈ wsX6_orderBelts := fun _ h => (List.mem_cons_of_mem _ (List.mem_append_left _ (List.mem_append_left _ (List.mem_append_left _ (List.mem_append_right _ h)))))
theorem hcX6_orderBelts_X3 : ∀ w ∈ wsX30, w ∈ wsX6_orderBelts := fun _ h => (List.mem_cons_of_mem _ (List.mem_append_left _ (List.mem_append_left _ (List.mem_append_right _ h))))
theorem hcX6_orderBelts_X4 : ∀ w ∈ wsX40, w ∈ wsX6_orderBelts := fun _ h => (List.mem_cons_of_mem _ (List.mem_append_left _ (List.mem_append_right _ h)))
theorem hcX6_orderBelts_X10 : ∀ w ∈ wsX100, w ∈ wsX6_orderBelts := fun _ h => (List.mem_cons_of_mem _ (List.mem_append_right _ h))
theorem hBX6_orderBelts : xHB wsX6_orderBelts := ⟨hcX6_orderBelts_X0, hcX6_orderBelts_X1, hcX6_orderBelts_X2, hcX6_orderBelts_X3, hcX6_orderBelts_X4, hcX6_orderBelts_X10⟩
set_option maxHeartbeats 4000000 in
set_option maxRecDepth 100000 in
theorem J_X6_orderBelts {D : va_G} {KA : Nat → ClassId} {zs : ZS} {ad : Nat → Nat} {ids : List Nat} {sz : Nat} (l : Launch) (hI : ∀ c, c < 52 ∧ ¬ c = 19 → c ∈ ids)   {σ : St} {post : St → Prop} (h : wX6_orderBelts ids  σ post) : Met l yX6_orderBelts wsX6_orderBelts rmX6_orderBelts (va_Pc [.ref (ad 1)] (xIn D KA zs layX stX ad ids sz σ)) (va_Qv post (xOut D KA layX stX ad ids) (xA ad ids sz)) 0 0 (xA ad ids sz) := by
  refine Met.ofW (cc := cX6_orderBelts) (maxL := 7) (ret := none) (by decide) rfl ?_
  intro p e s m args below meth c s₁ B hml hv
  obtain ⟨hav, hsz, hK, hZ, hP, hD⟩ := hv
  have hx := B.exec
  have hb := B.bytes
  have hr := B.returns
  have hts := atoms_spec (ws := wsX6_orderBelts) B.pre
  have hown : s.vm.findClass RX6 = some m.cls := findClass_of_methodNamed B.named
  have hlocks := B.notSynchronized
  subst hsz
  have hA : ∀ q : Nat, s.heap.size ≤ q → xA ad ids s.heap.size q := fun q h => Or.inr h
  have hW : xW D KA layX stX ad ids (xA ad ids s.heap.size) s.heap σ s.heap [] := ⟨hP, xA_D (D := D) hD, va_S.rf⟩
  have kr : ∀ (σ : St) (H : Heap) (locs : List Loc) (ls : Array Slot) (pc : Nat), xW D KA layX stX ad ids (xA ad ids s.heap.size) s.heap σ H locs → post σ → decode cX6_orderBelts pc = .ok (.return_, 1) → W p l e rmX6_orderBelts s m args below meth c H locs 0 0 (MQ below (va_Qv post (xOut D KA layX stX ad ids) (xA ad ids s.heap.size)) args s 0 0 (xA ad ids s.heap.size)) (F0 m pc ls []) := fun σ H locs ls pc hW h hd => x_vret hx hb hr hlocks hW h hd
  have hl := lv_entry ([.ref (ad 1)]) (n := 7) (Nat.le_of_ble_eq_true rfl)
  rw [show entryFrame m args 7 = entryFrame m ([.ref (ad 1)] : List Value).toArray 7 from by rw [hav]]
  rw [lg_entry_eq]
  generalize (lg_sl ([.ref (ad 1)]) ++ List.replicate (7 - (lg_sl ([.ref (ad 1)])).length) Slot.unset).toArray = ls at hl ⊢
  have hl : lv_has ls 7 [(0, .ref (ad 1))] := hl
  show W p l e rmX6_orderBelts s m args below meth c s.heap [] 0 0 _ _
  generalize MQ below (va_Qv post (xOut D KA layX stX ad ids) (xA ad ids s.heap.size)) args s 0 0 (xA ad ids s.heap.size) = Q at kr ⊢
  have blk98 : ∀ (x3 : Int32) (k6 : Int32 → Int32 → Int32 → St → Prop) (hk6 : ∀ (x1 : Int32) (x2 : Int32) (x3 : Int32) (σ : St) (H : Heap) (locs : List Loc) (ls : Array Slot), xW D KA layX stX ad ids (xA ad ids s.heap.size) s.heap σ H locs → lv_has ls 7 [(0, .ref (ad 1)), (1, .int x1), (2, .int x2), (3, .int x3)] → k6 x1 x2 x3 σ → W p l e rmX6_orderBelts s m args below meth c H locs 0 0 Q (F0 m 6 ls [])) (k17 : Int32 → Int32 → Int32 → St → Prop) (hk17 : ∀ (x1 : Int32) (x2 : Int32) (x4 : Int32) (σ : St) (H : Heap) (locs : List Loc) (ls : Array Slot), xW D KA layX stX ad ids (xA ad ids s.heap.size) s.heap σ H locs → lv_has ls 7 [(0, .ref (ad 1)), (1, .int x1), (2, .int x2), (3, .int x3), (4, .int x4)] → k17 x1 x2 x4 σ → W p l e rmX6_orderBelts s m args below meth c H locs 0 0 Q (F0 m 17 ls [])) (x1 : Int32) (x2 : Int32) (x4 : Int32) (σ : St) (H : Heap) (locs : List Loc) (ls : Array Slot), xW D KA layX stX ad ids (xA ad ids s.heap.size) s.heap σ H locs → lv_has ls 7 [(0, .ref (ad 1)), (1, .int x1), (2, .int x2), (3, .int x3), (4, .int x4)] → wX6_orderBelts_98 ids k6 k17 post x1 x2 x3 x4 σ → W p l e rmX6_orderBelts s m args below meth c H locs 0 0 Q (F0 m 98 ls []) := by
    intro x3 k6 hk6 k17 hk17 x1 x2 x4 σ H locs ls hW hl h
    unfold wX6_orderBelts_98 at h
    obtain ⟨v1, hv1⟩ : ∃ y : Int32, y = x4 + (1 : Int32) := ⟨_, rfl⟩
    have h := h v1 hv1
    refine lv_iinc (v := v1) (lv' := [(4, .int v1), (0, .ref (ad 1)), (1, .int x1), (2, .int x2), (3, .int x3)]) hx hb dX6_orderBelts_98 hl (k := 4) rfl (by rw [hv1]; rfl) (by decide) rfl (fun ls hl => ?_)
    refine lv_goto (tgt := 17) hx hb dX6_orderBelts_101 (by decide) ?_
    exact hk17 x1 x2 v1 _ _ _ _ hW (lv_sub hl [1, 2, 3, 4, 0] rfl) h
  have blk64 : ∀ (x3 : Int32) (k6 : Int32 → Int32 → Int32 → St → Prop) (hk6 : ∀ (x1 : Int32) (x2 : Int32) (x3 : Int32) (σ : St) (H : Heap) (locs : List Loc) (ls : Array Slot), xW D KA layX stX ad ids (xA ad ids s.heap.size) s.heap σ H locs → lv_has ls 7 [(0, .ref (ad 1)), (1, .int x1), (2, .int x2), (3, .int x3)] → k6 x1 x2 x3 σ → W p l e rmX6_orderBelts s m args below meth c H locs 0 0 Q (F0 m 6 ls [])) (k17 : Int32 → Int32 → Int32 → St → Prop) (hk17 : ∀ (x1 : Int32) (x2 : Int32) (x4 : Int32) (σ : St) (H : Heap) (locs : List Loc) (ls : Array Slot), xW D KA layX stX ad ids (xA ad ids s.heap.size) s.heap σ H locs → lv_has ls 7 [(0, .ref (ad 1)), (1, .int x1), (2, .int x2), (3, .int x3), (4, .int x4)] → k17 x1 x2 x4 σ → W p l e rmX6_orderBelts s m args below meth c H locs 0 0 Q (F0 m 17 ls [])) (x1 : Int32) (x2 : Int32) (x4 : Int32) (s0 : Int32) (σ : St) (H : Heap) (locs : List Loc) (ls : Array Slot), xW D KA layX stX ad ids (xA ad ids s.heap.size) s.heap σ H locs → lv_has ls 7 [(0, .ref (ad 1)), (1, .int x1), (2, .int x2), (3, .int x3), (4, .int x4)] → wX6_orderBelts_64 ids k6 k17 post x1 x2 x3 x4 s0 σ → W p l e rmX6_orderBelts s m args below meth c H locs 0 0 Q (F0 m 64 ls [.int s0]) := by
    intro x3 k6 hk6 k17 hk17 x1 x2 x4 s0 σ H locs ls hW hl h
    unfold wX6_orderBelts_64 at h
    refine lv_istore (lv' := [(6, .int s0), (0, .ref (ad 1)), (1, .int x1), (2, .int x2), (3, .int x3), (4, .int x4)]) hx hb dX6_orderBelts_64 hl (by decide) rfl (fun ls hl => ?_)
    refine lv_iload hx hb dX6_orderBelts_66 (lv_at hl 0 rfl) ?_
    refine lv_if_eq (tgt := 98) hx hb dX6_orderBelts_68 (by decide) (fun c2 => ?_) (fun c2 => ?_)
    · have h := h.1 c2
      exact blk98 x3 k6 hk6 k17 hk17 x1 x2 x4 _ _ _ _ hW (lv_sub hl [1, 2, 3, 4, 5] rfl) h
    · have h := h.2 c2
      refine lv_iload_n hx hb dX6_orderBelts_71 rfl (lv_at hl 2 rfl) ?_
      refine lv_iload hx hb dX6_orderBelts_72 (lv_at hl 5 rfl) ?_
      refine lv_ishr hx hb dX6_orderBelts_74 ?_
      refine lv_iconst (v := 1) hx hb dX6_orderBelts_75 (by decide) ?_
      refine lv_iand hx hb dX6_orderBelts_76 ?_
      refine lv_if_ne (tgt := 98) hx hb dX6_orderBelts_77 (by decide) (fun c3 => ?_) (fun c3 => ?_)
      · have h := h.1 c3
        exact blk98 x3 k6 hk6 k17 hk17 x1 x2 x4 _ _ _ _ hW (lv_sub hl [1, 2, 3, 4, 5] rfl) h
      · have h := h.2 c3
        refine lv_iload_n hx hb dX6_orderBelts_80 rfl (lv_at hl 2 rfl) ?_
        refine lv_iconst (v := 1) hx hb dX6_orderBelts_81 (by decide) ?_
        refine lv_iload hx hb dX6_orderBelts_82 (lv_at hl 5 rfl) ?_
        refine lv_ishl hx hb dX6_orderBelts_84 ?_
        refine lv_ior hx hb dX6_orderBelts_85 ?_
        refine lv_topi (fun v4 hv4 => ?_)
        have h := h v4 hv4
        refine lv_istore_n (lv' := [(1, .int v4), (6, .int s0), (0, .ref (ad 1)), (2, .int x2), (3, .int x3), (4, .int x4)]) hx hb dX6_orderBelts_86 rfl hl (by decide) rfl (fun ls hl => ?_)
        refine lv_aload_n hx hb dX6_orderBelts_87 rfl (lv_at hl 2 rfl) ?_
        refine xgX6_13r hx hb hts hown hK hW 1 hcX6_orderBelts_X6 (hI 1 (by decide)) lX_1 (hts _ hwX6_orderBelts_0) (sX_1_13 _) dX6_orderBelts_88 ?_
        refine lv_iload_n hx hb dX6_orderBelts_91 rfl (lv_at hl 3 rfl) ?_
        refine lv_iload hx hb dX6_orderBelts_92 (lv_at hl 5 rfl) ?_
        obtain ⟨hi5, h⟩ := h
        refine x_iast hx hb hK hW 12 (hI 12 (by decide)) lX_12 hi5 dX6_orderBelts_94 (fun σ6 H locs hσ6 hW => ?_)
        have h := h σ6 hσ6
        obtain ⟨v7, hv7⟩ : ∃ y : Int32, y = x2 + (1 : Int32) := ⟨_, rfl⟩
        have h := h v7 hv7
        refine lv_iinc (v := v7) (lv' := [(2, .int v7), (1, .int v4), (6, .int s0), (0, .ref (ad 1)), (3, .int x3), (4, .int x4)]) hx hb dX6_orderBelts_95 hl (k := 3) rfl (by rw [hv7]; rfl) (by decide) rfl (fun ls hl => ?_)
        exact blk98 x3 k6 hk6 k17 hk17 v4 v7 x4 _ _ _ _ hW (lv_sub hl [3, 1, 0, 4, 5] rfl) h
  have blk59 : ∀ (x3 : Int32) (k6 : Int32 → Int32 → Int32 → St → Prop) (hk6 : ∀ (x1 : Int32) (x2 : Int32) (x3 : Int32) (σ : St) (H : Heap) (locs : List Loc) (ls : Array Slot), xW D KA layX stX ad ids (xA ad ids s.heap.size) s.heap σ H locs → lv_has ls 7 [(0, .ref (ad 1)), (1, .int x1), (2, .int x2), (3, .int x3)] → k6 x1 x2 x3 σ → W p l e rmX6_orderBelts s m args below meth c H locs 0 0 Q (F0 m 6 ls [])) (k17 : Int32 → Int32 → Int32 → St → Prop) (hk17 : ∀ (x1 : Int32) (x2 : Int32) (x4 : Int32) (σ : St) (H : Heap) (locs : List Loc) (ls : Array Slot), xW D KA layX stX ad ids (xA ad ids s.heap.size) s.heap σ H locs → lv_has ls 7 [(0, .ref (ad 1)), (1, .int x1), (2, .int x2), (3, .int x3), (4, .int x4)] → k17 x1 x2 x4 σ → W p l e rmX6_orderBelts s m args below meth c H locs 0 0 Q (F0 m 17 ls [])) (x1 : Int32) (x2 : Int32) (x4 : Int32) (σ : St) (H : Heap) (locs : List Loc) (ls : Array Slot), xW D KA layX stX ad ids (xA ad ids s.heap.size) s.heap σ H locs → lv_has ls 7 [(0, .ref (ad 1)), (1, .int x1), (2, .int x2), (3, .int x3), (4, .int x4)] → wX6_orderBelts_59 ids k6 k17 post x1 x2 x3 x4 σ → W p l e rmX6_orderBelts s m args below meth c H locs 0 0 Q (F0 m 59 ls []) := by
    intro x3 k6 hk6 k17 hk17 x1 x2 x4 σ H locs ls hW hl h
    unfold wX6_orderBelts_59 at h
    refine lv_iconst (v := 1) hx hb dX6_orderBelts_59 (by decide) ?_
    refine lv_goto (tgt := 64) hx hb dX6_orderBelts_60 (by decide) ?_
    exact blk64 x3 k6 hk6 k17 hk17 x1 x2 x4 (1 : Int32) _ _ _ _ hW (lv_sub hl [0, 1, 2, 3, 4] rfl) h
  have blk17 : ∀ (k6 : Int32 → Int32 → Int32 → St → Prop) (hk6 : ∀ (x1 : Int32) (x2 : Int32) (x3 : Int32) (σ : St) (H : Heap) (locs : List Loc) (ls : Array Slot), xW D KA layX stX ad ids (xA ad ids s.heap.size) s.heap σ H locs → lv_has ls 7 [(0, .ref (ad 1)), (1, .int x1), (2, .int x2), (3, .int x3)] → k6 x1 x2 x3 σ → W p l e rmX6_orderBelts s m args below meth c H locs 0 0 Q (F0 m 6 ls [])) (x3 : Int32) (n : Nat) (x1 : Int32) (x2 : Int32) (x4 : Int32) (σ : St) (H : Heap) (locs : List Loc) (ls : Array Slot), xW D KA layX stX ad ids (xA ad ids s.heap.size) s.heap σ H locs → lv_has ls 7 [(0, .ref (ad 1)), (1, .int x1), (2, .int x2), (3, .int x3), (4, .int x4)] → wX6_orderBelts_17 ids k6 post x3 n x1 x2 x4 σ → W p l e rmX6_orderBelts s m args below meth c H locs 0 0 Q (F0 m 17 ls []) := by
    intro  k6 hk6 x3 n
    induction n with
    | zero => intro x1 x2 x4 σ H locs ls hW hl h; exact (h : False).elim
    | succ n ih =>
      intro x1 x2 x4 σ H locs ls hW hl h
      have hk17 : ∀ (x1 : Int32) (x2 : Int32) (x4 : Int32) (σ : St) (H : Heap) (locs : List Loc) (ls : Array Slot), xW D KA layX stX ad ids (xA ad ids s.heap.size) s.heap σ H locs → lv_has ls 7 [(0, .ref (ad 1)), (1, .int x1), (2, .int x2), (3, .int x3), (4, .int x4)] → (wX6_orderBelts_17 ids k6 post x3 n) x1 x2 x4 σ → W p l e rmX6_orderBelts s m args below meth c H locs 0 0 Q (F0 m 17 ls []) := fun x1 x2 x4 σ H locs ls hW hl h => ih x1 x2 x4 σ H locs ls hW hl h
      rw [wX6_orderBelts_17_s] at h
      try dsimp only at h
      generalize wX6_orderBelts_17 ids k6 post x3 n = k17 at h hk17
      refine lv_iload hx hb dX6_orderBelts_17 (lv_at hl 4 rfl) ?_
      refine lv_aload_n hx hb dX6_orderBelts_19 rfl (lv_at hl 0 rfl) ?_
      refine xgX6_3 hx hb hts hown hK hW 1 hcX6_orderBelts_X6 (hI 1 (by decide)) lX_1 (hts _ hwX6_orderBelts_1) dX6_orderBelts_20 ?_
      refine lv_icmp_ge (tgt := 104) hx hb dX6_orderBelts_23 (by decide) (fun c8 => ?_) (fun c8 => ?_)
      · have h := h.1 c8
        obtain ⟨v9, hv9⟩ : ∃ y : Int32, y = x3 + (1 : Int32) := ⟨_, rfl⟩
        have h := h v9 hv9
        refine lv_iinc (v := v9) (lv' := [(3, .int v9), (0, .ref (ad 1)), (1, .int x1), (2, .int x2), (4, .int x4)]) hx hb dX6_orderBelts_104 hl (k := 3) rfl (by rw [hv9]; rfl) (by decide) rfl (fun ls hl => ?_)
        refine lv_goto (tgt := 6) hx hb dX6_orderBelts_107 (by decide) ?_
        exact hk6 x1 x2 v9 _ _ _ _ hW (lv_sub hl [1, 2, 3, 0] rfl) h
      · have h := h.2 c8
        refine lv_aload_n hx hb dX6_orderBelts_26 rfl (lv_at hl 0 rfl) ?_
        refine xgX6_6r hx hb hts hown hK hW 1 hcX6_orderBelts_X6 (hI 1 (by decide)) lX_1 (hts _ hwX6_orderBelts_2) (sX_1_6 _) dX6_orderBelts_27 ?_
        refine lv_aload_n hx hb dX6_orderBelts_30 rfl (lv_at hl 0 rfl) ?_
        refine xgX6_12r hx hb hts hown hK hW 1 hcX6_orderBelts_X6 (hI 1 (by decide)) lX_1 (hts _ hwX6_orderBelts_3) (sX_1_12 _) dX6_orderBelts_31 ?_
        refine lv_iload hx hb dX6_orderBelts_34 (lv_at hl 4 rfl) ?_
        obtain ⟨hi10, h⟩ := h
        obtain ⟨o11, hr12, ok_o11, h⟩ := h
        refine x_ald hx hb hK hW 11 0 (hI 11 (by decide)) lX_11 rfl hi10 ((sX_11 _ _).trans hr12) dX6_orderBelts_36 ?_
        refine xgB_1 hx hb hts hown hK hW o11 hBX6_orderBelts ok_o11 (hts _ hwX6_orderBelts_4) (fun _ h => h) dX6_orderBelts_37 ?_
        obtain ⟨hi13, h⟩ := h
        refine x_iald hx hb hK hW 5 (hI 5 (by decide)) lX_5 hi13 dX6_orderBelts_40 ?_
        refine lv_topi (fun v14 hv14 => ?_)
        have h := h v14 hv14
        refine lv_istore (lv' := [(5, .int v14), (0, .ref (ad 1)), (1, .int x1), (2, .int x2), (3, .int x3), (4, .int x4)]) hx hb dX6_orderBelts_41 hl (by decide) rfl (fun ls hl => ?_)
        refine lv_iload hx hb dX6_orderBelts_43 (lv_at hl 0 rfl) ?_
        refine lv_iconst (v := (-1)) hx hb dX6_orderBelts_45 (by decide) ?_
        refine lv_icmp_eq (tgt := 59) hx hb dX6_orderBelts_46 (by decide) (fun c15 => ?_) (fun c15 => ?_)
        · have h := h.1 c15
          exact blk59 x3 k6 hk6 k17 hk17 x1 x2 x4 _ _ _ _ hW (lv_sub hl [1, 2, 3, 4, 5] rfl) h
        · have h := h.2 c15
          refine lv_iload_n hx hb dX6_orderBelts_49 rfl (lv_at hl 2 rfl) ?_
          refine lv_iload hx hb dX6_orderBelts_50 (lv_at hl 0 rfl) ?_
          refine lv_ishr hx hb dX6_orderBelts_52 ?_
          refine lv_iconst (v := 1) hx hb dX6_orderBelts_53 (by decide) ?_
          refine lv_iand hx hb dX6_orderBelts_54 ?_
          refine lv_iconst (v := 1) hx hb dX6_orderBelts_55 (by decide) ?_
          refine lv_icmp_ne (tgt := 63) hx hb dX6_orderBelts_56 (by decide) (fun c16 => ?_) (fun c16 => ?_)
          · have h := h.1 c16
            refine lv_iconst (v := 0) hx hb dX6_orderBelts_63 (by decide) ?_
            exact blk64 x3 k6 hk6 k17 hk17 x1 x2 x4 (0 : Int32) _ _ _ _ hW (lv_sub hl [1, 2, 3, 4, 5] rfl) h
          · have h := h.2 c16
            exact blk59 x3 k6 hk6 k17 hk17 x1 x2 x4 _ _ _ _ hW (lv_sub hl [1, 2, 3, 4, 5] rfl) h
  have blk6 : ∀ (n : Nat) (x1 : Int32) (x2 : Int32) (x3 : Int32) (σ : St) (H : Heap) (locs : List Loc) (ls : Array Slot), xW D KA layX stX ad ids (xA ad ids s.heap.size) s.heap σ H locs → lv_has ls 7 [(0, .ref (ad 1)), (1, .int x1), (2, .int x2), (3, .int x3)] → wX6_orderBelts_6 ids post  n x1 x2 x3 σ → W p l e rmX6_orderBelts s m args below meth c H locs 0 0 Q (F0 m 6 ls []) := by
    intro    n
    induction n with
    | zero => intro x1 x2 x3 σ H locs ls hW hl h; exact (h : False).elim
    | succ n ih =>
      intro x1 x2 x3 σ H locs ls hW hl h
      have hk6 : ∀ (x1 : Int32) (x2 : Int32) (x3 : Int32) (σ : St) (H : Heap) (locs : List Loc) (ls : Array Slot), xW D KA layX stX ad ids (xA ad ids s.heap.size) s.heap σ H locs → lv_has ls 7 [(0, .ref (ad 1)), (1, .int x1), (2, .int x2), (3, .int x3)] → (wX6_orderBelts_6 ids post  n) x1 x2 x3 σ → W p l e rmX6_orderBelts s m args below meth c H locs 0 0 Q (F0 m 6 ls []) := fun x1 x2 x3 σ H locs ls hW hl h => ih x1 x2 x3 σ H locs ls hW hl h
      rw [wX6_orderBelts_6_s] at h
      try dsimp only at h
      generalize wX6_orderBelts_6 ids post  n = k6 at h hk6
      refine lv_iload_n hx hb dX6_orderBelts_6 rfl (lv_at hl 3 rfl) ?_
      refine lv_aload_n hx hb dX6_orderBelts_7 rfl (lv_at hl 0 rfl) ?_
      refine xgX6_3 hx hb hts hown hK hW 1 hcX6_orderBelts_X6 (hI 1 (by decide)) lX_1 (hts _ hwX6_orderBelts_1) dX6_orderBelts_8 ?_
      refine lv_icmp_ge (tgt := 110) hx hb dX6_orderBelts_11 (by decide) (fun c17 => ?_) (fun c17 => ?_)
      · have h := h.1 c17
        exact kr _ _ _ _ _ hW h dX6_orderBelts_110
      · have h := h.2 c17
        refine lv_iconst (v := 0) hx hb dX6_orderBelts_14 (by decide) ?_
        refine lv_istore (lv' := [(4, .int (0 : Int32)), (0, .ref (ad 1)), (1, .int x1), (2, .int x2), (3, .int x3)]) hx hb dX6_orderBelts_15 hl (by decide) rfl (fun ls hl => ?_)
        obtain ⟨n, h⟩ := h
        exact blk17  k6 hk6 x3 n x1 x2 (0 : Int32) _ _ _ _ hW (lv_sub hl [1, 2, 3, 4, 0] rfl) h
  have main : ∀ (H : Heap) (locs : List Loc) (ls : Array Slot), xW D KA layX stX ad ids (xA ad ids s.heap.size) s.heap σ H locs → lv_has ls 7 [(0, .ref (ad 1))] → W p l e rmX6_orderBelts s m args below meth c H locs 0 0 Q (F0 m 0 ls []) := by
    intro H locs ls hW hl
    unfold wX6_orderBelts at h
    refine lv_iconst (v := 0) hx hb dX6_orderBelts_0 (by decide) ?_
    refine lv_istore_n (lv' := [(1, .int (0 : Int32)), (0, .ref (ad 1))]) hx hb dX6_orderBelts_1 rfl hl (by decide) rfl (fun ls hl => ?_)
    refine lv_iconst (v := 0) hx hb dX6_orderBelts_2 (by decide) ?_
    refine lv_istore_n (lv' := [(2, .int (0 : Int32)), (1, .int (0 : Int32)), (0, .ref (ad 1))]) hx hb dX6_orderBelts_3 rfl hl (by decide) rfl (fun ls hl => ?_)
    refine lv_iconst (v := 0) hx hb dX6_orderBelts_4 (by decide) ?_
    refine lv_istore_n (lv' := [(3, .int (0 : Int32)), (2, .int (0 : Int32)), (1, .int (0 : Int32)), (0, .ref (ad 1))]) hx hb dX6_orderBelts_5 rfl hl (by decide) rfl (fun ls hl => ?_)
    obtain ⟨n, h⟩ := h
    exact blk6    n (0 : Int32) (0 : Int32) (0 : Int32) _ _ _ _ hW (lv_sub hl [3, 2, 1, 0] rfl) h
  exact main _ _ _ hW hl
theorem hwX6_addBelt_0 : (.fieldLink RX6 42 "FortyBelts$Mill" "belts" "[LFortyBelts$Belt;" : Cond) ∈ wsX6_addBelt := (List.mem_cons_of_mem _ (List.mem_append_left _ (List.mem_append_left _ (List.mem_append_left _ (List.mem_append_left _ (List.mem_append_left _ (List.mem_append_left _ (List.mem_append_left _ (List.mem_of_getElem? (i := 0) rfl)))))))))
theorem hwX6_addBelt_1 : (.fieldLink RX6 65 "FortyBelts$Mill" "beltCount" "I" : Cond) ∈ wsX6_addBelt := (List.mem_cons_of_mem _ (List.mem_append_left _ (List.mem_append_left _ (List.mem_append_left _ (List.mem_append_left _ (List.mem_append_left _ (List.mem_append_left _ (List.mem_append_left _ (List.mem_of_getElem? (i := 1) rfl)))))))))
theorem hwX6_addBelt_2 : (.fieldLink RX6 18 "FortyBelts$Mill" "drivenBy" "[I" : Cond) ∈ wsX6_addBelt := (List.mem_cons_of_mem _ (List.mem_append_left _ (List.mem_append_left _ (List.mem_append_left _ (List.mem_append_left _ (List.mem_append_left _ (List.mem_append_left _ (List.mem_append_left _ (List.mem_of_getElem? (i := 2) rfl)))))))))
theorem hwX6_addBelt_3 : (.fieldLink RX6 68 "FortyBelts$Belt" "driven" "I" : Cond) ∈ wsX6_addBelt := (List.mem_cons_of_mem _ (List.mem_append_left _ (List.mem_append_left _ (List.mem_append_left _ (List.mem_append_left _ (List.mem_append_left _ (List.mem_append_left _ (List.mem_append_left _ (List.mem_of_getElem? (i := 3) rfl)))))))))
theorem hcX6_addBelt_X6 : ∀ w ∈ wsX60, w ∈ wsX6_addBelt := fun _ h => (List.mem_cons_of_mem _ (List.mem_append_left _ (List.mem_append_left _ (List.mem_append_left _ (List.mem_append_left _ (List.mem_append_left _ (List.mem_append_left _ (List.mem_append_right _ h))))))))
theorem hcX6_addBelt_X0 : ∀ w ∈ wsX00, w ∈ wsX6_addBelt := fun _ h => (List.mem_cons_of_mem _ (List.mem_append_left _ (List.mem_append_left _ (List.mem_append_left _ (List.mem_append_left _ (List.mem_append_left _ (List.mem_append_right _ h)))))))
theorem hcX6_addBelt_X1 : ∀ w ∈ wsX10, w ∈ wsX6_addBelt := fun _ h => (List.mem_cons_of_mem _ (List.mem_append_left _ (List.mem_append_left _ (List.mem_append_left _ (List.mem_append_left _ (List.mem_append_right _ h))))))
theorem hcX6_addBelt_X2 : ∀ w ∈ wsX20, w ∈ wsX6_addBelt := fun _ h => (List.mem_cons_of_mem _ (List.mem_append_left _ (List.mem_append_left _ (List.mem_append_left _ (List.mem_append_right _ h)))))
theorem hcX6_addBelt_X3 : ∀ w ∈ wsX30, w ∈ wsX6_addBelt := fun _ h => (List.mem_cons_of_mem _ (List.mem_append_left _ (List.mem_append_left _ (List.mem_append_right _ h))))
theorem hcX6_addBelt_X4 : ∀ w ∈ wsX40, w ∈ wsX6_addBelt := fun _ h => (List.mem_cons_of_mem _ (List.mem_append_left _ (List.mem_append_right _ h)))
theorem hcX6_addBelt_X10 : ∀ w ∈ wsX100, w ∈ wsX6_addBelt := fun _ h => (List.mem_cons_of_mem _ (List.mem_append_right _ h))
theorem hBX6_addBelt : xHB wsX6_addBelt := ⟨hcX6_addBelt_X0, hcX6_addBelt_X1, hcX6_addBelt_X2, hcX6_addBelt_X3, hcX6_addBelt_X4, hcX6_addBelt_X10⟩
set_option maxHeartbeats 4000000 in
set_option maxRecDepth 100000 in
theorem J_X6_addBelt {D : va_G} {KA : Nat → ClassId} {zs : ZS} {ad : Nat → Nat} {ids : List Nat} {sz : Nat} (l : Launch) (hI : ∀ c, c < 52 ∧ ¬ c = 19 → c ∈ ids) {a1 : Nat} (ok_a1 : okB ids a1) {σ : St} {post : Int32 → St → Prop} (h : wX6_addBelt ids a1 σ post) : Met l yX6_addBelt wsX6_addBelt rmX6_addBelt (va_Pc [.ref (ad 1), .ref (ad a1)] (xIn D KA zs layX stX ad ids sz σ)) (va_Qi post (xOut D KA layX stX ad ids) (xA ad ids sz)) 0 0 (xA ad ids sz) := by
  refine Met.ofW (cc := cX6_addBelt) (maxL := 2) (ret := (some .int)) (by decide) rfl ?_
  intro p e s m args below meth c s₁ B hml hv
  obtain ⟨hav, hsz, hK, hZ, hP, hD⟩ := hv
  have hx := B.exec
  have hb := B.bytes
  have hr := B.returns
  have hts := atoms_spec (ws := wsX6_addBelt) B.pre
  have hown : s.vm.findClass RX6 = some m.cls := findClass_of_methodNamed B.named
  have hlocks := B.notSynchronized
  subst hsz
  have hA : ∀ q : Nat, s.heap.size ≤ q → xA ad ids s.heap.size q := fun q h => Or.inr h
  have hW : xW D KA layX stX ad ids (xA ad ids s.heap.size) s.heap σ s.heap [] := ⟨hP, xA_D (D := D) hD, va_S.rf⟩
  have kr : ∀ (v : Int32) (σ : St) (H : Heap) (locs : List Loc) (ls : Array Slot) (pc : Nat), xW D KA layX stX ad ids (xA ad ids s.heap.size) s.heap σ H locs → post v σ → decode cX6_addBelt pc = .ok (.ireturn, 1) → W p l e rmX6_addBelt s m args below meth c H locs 0 0 (MQ below (va_Qi post (xOut D KA layX stX ad ids) (xA ad ids s.heap.size)) args s 0 0 (xA ad ids s.heap.size)) (F0 m pc ls [.int v]) := fun v σ H locs ls pc hW h hd => x_iret hx hb hr hlocks hW h hd
  have hl := lv_entry ([.ref (ad 1), .ref (ad a1)]) (n := 2) (Nat.le_of_ble_eq_true rfl)
  rw [show entryFrame m args 2 = entryFrame m ([.ref (ad 1), .ref (ad a1)] : List Value).toArray 2 from by rw [hav]]
  rw [lg_entry_eq]
  generalize (lg_sl ([.ref (ad 1), .ref (ad a1)]) ++ List.replicate (2 - (lg_sl ([.ref (ad 1), .ref (ad a1)])).length) Slot.unset).toArray = ls at hl ⊢
  have hl : lv_has ls 2 [(0, .ref (ad 1)), (1, .ref (ad a1))] := hl
  show W p l e rmX6_addBelt s m args below meth c s.heap [] 0 0 _ _
  generalize MQ below (va_Qi post (xOut D KA layX stX ad ids) (xA ad ids s.heap.size)) args s 0 0 (xA ad ids s.heap.size) = Q at kr ⊢
  have main : ∀ (H : Heap) (locs : List Loc) (ls : Array Slot), xW D KA layX stX ad ids (xA ad ids s.heap.size) s.heap σ H locs → lv_has ls 2 [(0, .ref (ad 1)), (1, .ref (ad a1))] → W p l e rmX6_addBelt s m args below meth c H locs 0 0 Q (F0 m 0 ls []) := by
    intro H locs ls hW hl
    unfold wX6_addBelt at h
    refine lv_aload_n hx hb dX6_addBelt_0 rfl (lv_at hl 0 rfl) ?_
    refine xgX6_12r hx hb hts hown hK hW 1 hcX6_addBelt_X6 (hI 1 (by decide)) lX_1 (hts _ hwX6_addBelt_0) (sX_1_12 _) dX6_addBelt_1 ?_
    refine lv_aload_n hx hb dX6_addBelt_4 rfl (lv_at hl 0 rfl) ?_
    refine xgX6_3 hx hb hts hown hK hW 1 hcX6_addBelt_X6 (hI 1 (by decide)) lX_1 (hts _ hwX6_addBelt_1) dX6_addBelt_5 ?_
    refine lv_aload_n hx hb dX6_addBelt_8 rfl (lv_at hl 1 rfl) ?_
    obtain ⟨hi1001, h⟩ := h
    refine x_astB hx hb hK hW 11 (hI 11 (by decide)) lX_11 ok_a1 hi1001 (fun _ => rfl) dX6_addBelt_9 (fun σ1002 H locs hσ1002 hW => ?_)
    have h := h σ1002 hσ1002
    refine lv_aload_n hx hb dX6_addBelt_10 rfl (lv_at hl 0 rfl) ?_
    refine xgX6_6r hx hb hts hown hK hW 1 hcX6_addBelt_X6 (hI 1 (by decide)) lX_1 (hts _ hwX6_addBelt_2) (sX_1_6 _) dX6_addBelt_11 ?_
    refine lv_aload_n hx hb dX6_addBelt_14 rfl (lv_at hl 1 rfl) ?_
    refine xgB_2 hx hb hts hown hK hW a1 hBX6_addBelt ok_a1 (hts _ hwX6_addBelt_3) (fun _ h => h) dX6_addBelt_15 ?_
    refine lv_aload_n hx hb dX6_addBelt_18 rfl (lv_at hl 0 rfl) ?_
    refine xgX6_3 hx hb hts hown hK hW 1 hcX6_addBelt_X6 (hI 1 (by decide)) lX_1 (hts _ hwX6_addBelt_1) dX6_addBelt_19 ?_
    obtain ⟨hi1003, h⟩ := h
    refine x_iast hx hb hK hW 5 (hI 5 (by decide)) lX_5 hi1003 dX6_addBelt_22 (fun σ1004 H locs hσ1004 hW => ?_)
    have h := h σ1004 hσ1004
    refine lv_aload_n hx hb dX6_addBelt_23 rfl (lv_at hl 0 rfl) ?_
    refine lv_dup hx hb dX6_addBelt_24 rfl ?_
    refine xgX6_3 hx hb hts hown hK hW 1 hcX6_addBelt_X6 (hI 1 (by decide)) lX_1 (hts _ hwX6_addBelt_1) dX6_addBelt_25 ?_
    refine lv_iconst (v := 1) hx hb dX6_addBelt_28 (by decide) ?_
    refine lv_iadd hx hb dX6_addBelt_29 ?_
    refine xpX6_3 hx hb hts hown hK hW 1 hcX6_addBelt_X6 (hI 1 (by decide)) lX_1 (hts _ hwX6_addBelt_1) dX6_addBelt_30 (fun σ1005 H locs hσ1005 hW => ?_)
    have h := h σ1005 hσ1005
    refine lv_aload_n hx hb dX6_addBelt_33 rfl (lv_at hl 0 rfl) ?_
    refine x_callv (va_runV (As := []) (rest := []) ⟨hx, hb, hml, hown, hts⟩ (J_X6_orderBelts l hI h) (cwV 0 hts gX6_addBelt_X6_orderBelts rfl rfl rfl hdV_X6_orderBelts ⟨Nat.le_of_ble_eq_true rfl, Nat.le_of_ble_eq_true rfl⟩) (x_preV (ci := 6) hK hZ hA hW (hI 1 (by decide)) lX_1 rfl) rfl rfl hl.1 rfl (lv_room (Nat.le_of_ble_eq_true rfl)) dX6_addBelt_34 ⟨Nat.zero_le _, Nat.zero_le _⟩) hW hA (fun σ1006 H locs h hW => ?_)
    try dsimp only at h
    refine lv_aload_n hx hb dX6_addBelt_37 rfl (lv_at hl 0 rfl) ?_
    refine xgX6_3 hx hb hts hown hK hW 1 hcX6_addBelt_X6 (hI 1 (by decide)) lX_1 (hts _ hwX6_addBelt_1) dX6_addBelt_38 ?_
    refine lv_iconst (v := 1) hx hb dX6_addBelt_41 (by decide) ?_
    refine lv_isub hx hb dX6_addBelt_42 ?_
    exact kr _ _ _ _ _ _ hW h dX6_addBelt_43
  exact main _ _ _ hW hl
theorem hwX6_drives_0 : (.fieldLink RX6 18 "FortyBelts$Mill" "drivenBy" "[I" : Cond) ∈ wsX6_drives := (List.mem_cons_of_mem _ (List.mem_append_left _ (List.mem_append_left _ (List.mem_append_left _ (List.mem_append_left _ (List.mem_append_left _ (List.mem_append_left _ (List.mem_append_left _ (List.mem_of_getElem? (i := 0) rfl)))))))))
theorem hwX6_drives_1 : (.fieldLink RX6 42 "FortyBelts$Mill" "belts" "[LFortyBelts$Belt;" : Cond) ∈ wsX6_drives := (List.mem_cons_of_mem _ (List.mem_append_left _ (List.mem_append_left _ (List.mem_append_left _ (List.mem_append_left _ (List.mem_append_left _ (List.mem_append_left _ (List.mem_append_left _ (List.mem_of_getElem? (i := 1) rfl)))))))))
theorem hwX6_drives_2 : (.fieldLink RX6 86 "FortyBelts$Belt" "driver" "I" : Cond) ∈ wsX6_drives := (List.mem_cons_of_mem _ (List.mem_append_left _ (List.mem_append_left _ (List.mem_append_left _ (List.mem_append_left _ (List.mem_append_left _ (List.mem_append_left _ (List.mem_append_left _ (List.mem_of_getElem? (i := 2) rfl)))))))))
theorem hcX6_drives_X6 : ∀ w ∈ wsX60, w ∈ wsX6_drives := fun _ h => (List.mem_cons_of_mem _ (List.mem_append_left _ (List.mem_append_left _ (List.mem_append_left _ (List.mem_append_left _ (List.mem_append_left _ (List.mem_append_left _ (List.mem_append_right _ h))))))))
theorem hcX6_drives_X0 : ∀ w ∈ wsX00, w ∈ wsX6_drives := fun _ h => (List.mem_cons_of_mem _ (List.mem_append_left _ (List.mem_append_left _ (List.mem_append_left _ (List.mem_append_left _ (List.mem_append_left _ (List.mem_append_right _ h)))))))
theorem hcX6_drives_X1 : ∀ w ∈ wsX10, w ∈ wsX6_drives := fun _ h => (List.mem_cons_of_mem _ (List.mem_append_left _ (List.mem_append_left _ (List.mem_append_left _ (List.mem_append_left _ (List.mem_append_right _ h))))))
theorem hcX6_drives_X2 : ∀ w ∈ wsX20, w ∈ wsX6_drives := fun _ h => (List.mem_cons_of_mem _ (List.mem_append_left _ (List.mem_append_left _ (List.mem_append_left _ (List.mem_append_right _ h)))))
theorem hcX6_drives_X3 : ∀ w ∈ wsX30, w ∈ wsX6_drives := fun _ h => (List.mem_cons_of_mem _ (List.mem_append_left _ (List.mem_append_left _ (List.mem_append_right _ h))))
theorem hcX6_drives_X4 : ∀ w ∈ wsX40, w ∈ wsX6_drives := fun _ h => (List.mem_cons_of_mem _ (List.mem_append_left _ (List.mem_append_right _ h)))
theorem hcX6_drives_X10 : ∀ w ∈ wsX100, w ∈ wsX6_drives := fun _ h => (List.mem_cons_of_mem _ (List.mem_append_right _ h))
theorem hBX6_drives : xHB wsX6_drives := ⟨hcX6_drives_X0, hcX6_drives_X1, hcX6_drives_X2, hcX6_drives_X3, hcX6_drives_X4, hcX6_drives_X10⟩
set_option maxHeartbeats 4000000 in
set_option maxRecDepth 100000 in
theorem J_X6_drives {D : va_G} {KA : Nat → ClassId} {zs : ZS} {ad : Nat → Nat} {ids : List Nat} {sz : Nat} (l : Launch) (hI : ∀ c, c < 52 ∧ ¬ c = 19 → c ∈ ids) {a1 : Int32} {a2 : Int32}  {σ : St} {post : Int32 → St → Prop} (h : wX6_drives ids a1 a2 σ post) : Met l yX6_drives wsX6_drives rmX6_drives (va_Pc [.ref (ad 1), .int a1, .int a2] (xIn D KA zs layX stX ad ids sz σ)) (va_Qi post (xOut D KA layX stX ad ids) (xA ad ids sz)) 0 0 (xA ad ids sz) := by
  refine Met.ofW (cc := cX6_drives) (maxL := 5) (ret := (some .boolean)) (by decide) rfl ?_
  intro p e s m args below meth c s₁ B hml hv
  obtain ⟨hav, hsz, hK, hZ, hP, hD⟩ := hv
  have hx := B.exec
  have hb := B.bytes
  have hr := B.returns
  have hts := atoms_spec (ws := wsX6_drives) B.pre
  have hown : s.vm.findClass RX6 = some m.cls := findClass_of_methodNamed B.named
  have hlocks := B.notSynchronized
  subst hsz
  have hA : ∀ q : Nat, s.heap.size ≤ q → xA ad ids s.heap.size q := fun q h => Or.inr h
  have hW : xW D KA layX stX ad ids (xA ad ids s.heap.size) s.heap σ s.heap [] := ⟨hP, xA_D (D := D) hD, va_S.rf⟩
  have kr : ∀ (v : Int32) (σ : St) (H : Heap) (locs : List Loc) (ls : Array Slot) (pc : Nat), xW D KA layX stX ad ids (xA ad ids s.heap.size) s.heap σ H locs → isB v → post v σ → decode cX6_drives pc = .ok (.ireturn, 1) → W p l e rmX6_drives s m args below meth c H locs 0 0 (MQ below (va_Qi post (xOut D KA layX stX ad ids) (xA ad ids s.heap.size)) args s 0 0 (xA ad ids s.heap.size)) (F0 m pc ls [.int v]) := fun v σ H locs ls pc hW hz h hd => x_zret hx hb hr hlocks hW hz h hd
  have hl := lv_entry ([.ref (ad 1), .int a1, .int a2]) (n := 5) (Nat.le_of_ble_eq_true rfl)
  rw [show entryFrame m args 5 = entryFrame m ([.ref (ad 1), .int a1, .int a2] : List Value).toArray 5 from by rw [hav]]
  rw [lg_entry_eq]
  generalize (lg_sl ([.ref (ad 1), .int a1, .int a2]) ++ List.replicate (5 - (lg_sl ([.ref (ad 1), .int a1, .int a2])).length) Slot.unset).toArray = ls at hl ⊢
  have hl : lv_has ls 5 [(0, .ref (ad 1)), (1, .int a1), (2, .int a2)] := hl
  show W p l e rmX6_drives s m args below meth c s.heap [] 0 0 _ _
  generalize MQ below (va_Qi post (xOut D KA layX stX ad ids) (xA ad ids s.heap.size)) args s 0 0 (xA ad ids s.heap.size) = Q at kr ⊢
  have blk58 : ∀ (s0 : Int32) (σ : St) (H : Heap) (locs : List Loc) (ls : Array Slot), xW D KA layX stX ad ids (xA ad ids s.heap.size) s.heap σ H locs → lv_has ls 5 [] → wX6_drives_58 ids post s0 σ → W p l e rmX6_drives s m args below meth c H locs 0 0 Q (F0 m 58 ls [.int s0]) := by
    intro   s0 σ H locs ls hW hl h
    unfold wX6_drives_58 at h
    obtain ⟨hz1, h⟩ := h
    exact kr _ _ _ _ _ _ hW hz1 h dX6_drives_58
  have blk48 : ∀ (x1 : Int32) (x3 : Int32) (σ : St) (H : Heap) (locs : List Loc) (ls : Array Slot), xW D KA layX stX ad ids (xA ad ids s.heap.size) s.heap σ H locs → lv_has ls 5 [(1, .int x1), (3, .int x3)] → wX6_drives_48 ids post x1 x3 σ → W p l e rmX6_drives s m args below meth c H locs 0 0 Q (F0 m 48 ls []) := by
    intro   x1 x3 σ H locs ls hW hl h
    unfold wX6_drives_48 at h
    refine lv_iload_n hx hb dX6_drives_48 rfl (lv_at hl 1 rfl) ?_
    refine lv_iload_n hx hb dX6_drives_49 rfl (lv_at hl 0 rfl) ?_
    refine lv_icmp_ne (tgt := 57) hx hb dX6_drives_50 (by decide) (fun c2 => ?_) (fun c2 => ?_)
    · have h := h.1 c2
      refine lv_iconst (v := 0) hx hb dX6_drives_57 (by decide) ?_
      exact blk58   (0 : Int32) _ _ _ _ hW (lv_sub hl [] rfl) h
    · have h := h.2 c2
      refine lv_iconst (v := 1) hx hb dX6_drives_53 (by decide) ?_
      refine lv_goto (tgt := 58) hx hb dX6_drives_54 (by decide) ?_
      exact blk58   (1 : Int32) _ _ _ _ hW (lv_sub hl [] rfl) h
  have blk5 : ∀ (x1 : Int32) (n : Nat) (x3 : Int32) (x4 : Int32) (σ : St) (H : Heap) (locs : List Loc) (ls : Array Slot), xW D KA layX stX ad ids (xA ad ids s.heap.size) s.heap σ H locs → lv_has ls 5 [(0, .ref (ad 1)), (1, .int x1), (3, .int x3), (4, .int x4)] → wX6_drives_5 ids post x1 n x3 x4 σ → W p l e rmX6_drives s m args below meth c H locs 0 0 Q (F0 m 5 ls []) := by
    intro   x1 n
    induction n with
    | zero => intro x3 x4 σ H locs ls hW hl h; exact (h : False).elim
    | succ n ih =>
      intro x3 x4 σ H locs ls hW hl h
      have hk5 : ∀ (x3 : Int32) (x4 : Int32) (σ : St) (H : Heap) (locs : List Loc) (ls : Array Slot), xW D KA layX stX ad ids (xA ad ids s.heap.size) s.heap σ H locs → lv_has ls 5 [(0, .ref (ad 1)), (1, .int x1), (3, .int x3), (4, .int x4)] → (wX6_drives_5 ids post x1 n) x3 x4 σ → W p l e rmX6_drives s m args below meth c H locs 0 0 Q (F0 m 5 ls []) := fun x3 x4 σ H locs ls hW hl h => ih x3 x4 σ H locs ls hW hl h
      rw [wX6_drives_5_s] at h
      try dsimp only at h
      generalize wX6_drives_5 ids post x1 n = k5 at h hk5
      refine lv_iload hx hb dX6_drives_5 (lv_at hl 3 rfl) ?_
      refine lv_bipush (v := 8) hx hb dX6_drives_7 (by decide) ?_
      refine lv_icmp_ge (tgt := 48) hx hb dX6_drives_9 (by decide) (fun c3 => ?_) (fun c3 => ?_)
      · have h := h.1 c3
        exact blk48   x1 x3 _ _ _ _ hW (lv_sub hl [1, 2] rfl) h
      · have h := h.2 c3
        refine lv_iload_n hx hb dX6_drives_12 rfl (lv_at hl 2 rfl) ?_
        refine lv_iload_n hx hb dX6_drives_13 rfl (lv_at hl 1 rfl) ?_
        refine lv_icmp_eq (tgt := 48) hx hb dX6_drives_14 (by decide) (fun c4 => ?_) (fun c4 => ?_)
        · have h := h.1 c4
          exact blk48   x1 x3 _ _ _ _ hW (lv_sub hl [1, 2] rfl) h
        · have h := h.2 c4
          refine lv_aload_n hx hb dX6_drives_17 rfl (lv_at hl 0 rfl) ?_
          refine xgX6_6r hx hb hts hown hK hW 1 hcX6_drives_X6 (hI 1 (by decide)) lX_1 (hts _ hwX6_drives_0) (sX_1_6 _) dX6_drives_18 ?_
          refine lv_iload_n hx hb dX6_drives_21 rfl (lv_at hl 2 rfl) ?_
          obtain ⟨hi5, h⟩ := h
          refine x_iald hx hb hK hW 5 (hI 5 (by decide)) lX_5 hi5 dX6_drives_22 ?_
          refine lv_iconst (v := (-1)) hx hb dX6_drives_23 (by decide) ?_
          refine lv_icmp_eq (tgt := 48) hx hb dX6_drives_24 (by decide) (fun c6 => ?_) (fun c6 => ?_)
          · have h := h.1 c6
            exact blk48   x1 x3 _ _ _ _ hW (lv_sub hl [1, 2] rfl) h
          · have h := h.2 c6
            refine lv_aload_n hx hb dX6_drives_27 rfl (lv_at hl 0 rfl) ?_
            refine xgX6_12r hx hb hts hown hK hW 1 hcX6_drives_X6 (hI 1 (by decide)) lX_1 (hts _ hwX6_drives_1) (sX_1_12 _) dX6_drives_28 ?_
            refine lv_aload_n hx hb dX6_drives_31 rfl (lv_at hl 0 rfl) ?_
            refine xgX6_6r hx hb hts hown hK hW 1 hcX6_drives_X6 (hI 1 (by decide)) lX_1 (hts _ hwX6_drives_0) (sX_1_6 _) dX6_drives_32 ?_
            refine lv_iload_n hx hb dX6_drives_35 rfl (lv_at hl 2 rfl) ?_
            refine x_iald hx hb hK hW 5 (hI 5 (by decide)) lX_5 hi5 dX6_drives_36 ?_
            obtain ⟨hi8, h⟩ := h
            obtain ⟨o9, hr10, ok_o9, h⟩ := h
            refine x_ald hx hb hK hW 11 0 (hI 11 (by decide)) lX_11 rfl hi8 ((sX_11 _ _).trans hr10) dX6_drives_37 ?_
            refine xgB_1 hx hb hts hown hK hW o9 hBX6_drives ok_o9 (hts _ hwX6_drives_2) (fun _ h => h) dX6_drives_38 ?_
            refine lv_topi (fun v11 hv11 => ?_)
            have h := h v11 hv11
            refine lv_istore_n (lv' := [(3, .int v11), (0, .ref (ad 1)), (1, .int x1), (4, .int x4)]) hx hb dX6_drives_41 rfl hl (by decide) rfl (fun ls hl => ?_)
            obtain ⟨v12, hv12⟩ : ∃ y : Int32, y = x4 + (1 : Int32) := ⟨_, rfl⟩
            have h := h v12 hv12
            refine lv_iinc (v := v12) (lv' := [(4, .int v12), (3, .int v11), (0, .ref (ad 1)), (1, .int x1)]) hx hb dX6_drives_42 hl (k := 3) rfl (by rw [hv12]; rfl) (by decide) rfl (fun ls hl => ?_)
            refine lv_goto (tgt := 5) hx hb dX6_drives_45 (by decide) ?_
            exact hk5 v11 v12 _ _ _ _ hW (lv_sub hl [2, 3, 1, 0] rfl) h
  have main : ∀ (H : Heap) (locs : List Loc) (ls : Array Slot), xW D KA layX stX ad ids (xA ad ids s.heap.size) s.heap σ H locs → lv_has ls 5 [(0, .ref (ad 1)), (1, .int a1), (2, .int a2)] → W p l e rmX6_drives s m args below meth c H locs 0 0 Q (F0 m 0 ls []) := by
    intro H locs ls hW hl
    unfold wX6_drives at h
    refine lv_iload_n hx hb dX6_drives_0 rfl (lv_at hl 2 rfl) ?_
    refine lv_istore_n (lv' := [(3, .int a2), (0, .ref (ad 1)), (1, .int a1), (2, .int a2)]) hx hb dX6_drives_1 rfl hl (by decide) rfl (fun ls hl => ?_)
    refine lv_iconst (v := 0) hx hb dX6_drives_2 (by decide) ?_
    refine lv_istore (lv' := [(4, .int (0 : Int32)), (3, .int a2), (0, .ref (ad 1)), (1, .int a1), (2, .int a2)]) hx hb dX6_drives_3 hl (by decide) rfl (fun ls hl => ?_)
    obtain ⟨n, h⟩ := h
    exact blk5   a1 n a2 (0 : Int32) _ _ _ _ hW (lv_sub hl [2, 3, 1, 0] rfl) h
  exact main _ _ _ hW hl
theorem hwX11_belt_0 : (.fieldLink RX11 10 "FortyBelts" "mill" "LFortyBelts$Mill;" : Cond) ∈ wsX11_belt := (List.mem_cons_of_mem _ (List.mem_append_left _ (List.mem_append_left _ (List.mem_append_left _ (List.mem_append_left _ (List.mem_append_left _ (List.mem_append_left _ (List.mem_append_left _ (List.mem_append_left _ (List.mem_append_left _ (List.mem_of_getElem? (i := 0) rfl)))))))))))
theorem hwX11_belt_1 : (.fieldLink RX11 138 "FortyBelts$Mill" "drivenBy" "[I" : Cond) ∈ wsX11_belt := (List.mem_cons_of_mem _ (List.mem_append_left _ (List.mem_append_left _ (List.mem_append_left _ (List.mem_append_left _ (List.mem_append_left _ (List.mem_append_left _ (List.mem_append_left _ (List.mem_append_left _ (List.mem_append_left _ (List.mem_of_getElem? (i := 1) rfl)))))))))))
theorem hwX11_belt_2 : (.fieldLink RX11 145 "FortyBelts$Mill" "beltCount" "I" : Cond) ∈ wsX11_belt := (List.mem_cons_of_mem _ (List.mem_append_left _ (List.mem_append_left _ (List.mem_append_left _ (List.mem_append_left _ (List.mem_append_left _ (List.mem_append_left _ (List.mem_append_left _ (List.mem_append_left _ (List.mem_append_left _ (List.mem_of_getElem? (i := 2) rfl)))))))))))
theorem hcX11_belt_X11 : ∀ w ∈ wsX110, w ∈ wsX11_belt := fun _ h => (List.mem_cons_of_mem _ (List.mem_append_left _ (List.mem_append_left _ (List.mem_append_left _ (List.mem_append_left _ (List.mem_append_left _ (List.mem_append_left _ (List.mem_append_left _ (List.mem_append_right _ h)))))))))
theorem hcX11_belt_X6 : ∀ w ∈ wsX60, w ∈ wsX11_belt := fun _ h => (List.mem_cons_of_mem _ (List.mem_append_left _ (List.mem_append_left _ (List.mem_append_left _ (List.mem_append_left _ (List.mem_append_left _ (List.mem_append_left _ (List.mem_append_right _ h))))))))
set_option maxHeartbeats 16000000 in
set_option maxRecDepth 100000 in
theorem J_X11_belt {D : va_G} {KA : Nat → ClassId} {zs : ZS} {ad : Nat → Nat} {ids : List Nat} {sz : Nat} (l : Launch) {d0 : Nat} {a1 : Int32} {a2 : Int32} {a3 : Int32} {a4 : Int32} (hI : ∀ c, c < 52 ∧ ¬ c = 19 → c ∈ ids)  {σ : St} {post : Int32 → St → List Nat → Prop} (h : wX11_belt ids d0 a1 a2 a3 a4 σ post) : Met l yX11_belt wsX11_belt rmX11_belt (va_Pc [.ref (ad 0), .int a1, .int a2, .int a3, .int a4] (xIn D KA zs layX stX ad ids sz σ)) (va_Qi (S := St × (Nat → Nat) × List Nat) (fun r u => post r u.1 u.2.2) (xOutA D KA layX stX ad ids sz) (xA ad ids sz)) 1 13 (xA ad ids sz) := by
  refine Met.ofW (cc := cX11_belt) (maxL := 10) (ret := (some .int)) (by decide) rfl ?_
  intro p e s m args below meth c s₁ B hml hv
  obtain ⟨hav, hsz, hK, hZ, hP, hD⟩ := hv
  have hx := B.exec
  have hb := B.bytes
  have hr := B.returns
  have hts := atoms_spec (ws := wsX11_belt) B.pre
  have hown : s.vm.findClass RX11 = some m.cls := findClass_of_methodNamed B.named
  have hlocks := B.notSynchronized
  subst hsz
  have hA : ∀ q : Nat, s.heap.size ≤ q → xA ad ids s.heap.size q := fun q h => Or.inr h
  have hW : xW D KA layX stX ad ids (xA ad ids s.heap.size) s.heap σ s.heap [] := ⟨hP, xA_D (D := D) hD, va_S.rf⟩
  have kr : ∀ (v : Int32) (σ : St) (ad' : Nat → Nat) (ids' : List Nat) (H : Heap) (locs : List Loc) (ls : Array Slot) (pc : Nat), xW D KA layX stX ad' ids' (xA ad ids s.heap.size) s.heap σ H locs → (∀ c ∈ ids, ad' c = ad c) → (∀ c ∈ ids, c ∈ ids') → post v σ ids' → decode cX11_belt pc = .ok (.ireturn, 1) → W p l e rmX11_belt s m args below meth c H locs 1 13 (MQ below (va_Qi (S := St × (Nat → Nat) × List Nat) (fun r u => post r u.1 u.2.2) (xOutA D KA layX stX ad ids s.heap.size) (xA ad ids s.heap.size)) args s 1 13 (xA ad ids s.heap.size)) (F0 m pc ls [.int v]) := fun v σ ad' ids' H locs ls pc hW he hs h hd => x_iretA hx hb hr hlocks hW he hs h hd
  have hl := lv_entry ([.ref (ad 0), .int a1, .int a2, .int a3, .int a4]) (n := 10) (Nat.le_of_ble_eq_true rfl)
  rw [show entryFrame m args 10 = entryFrame m ([.ref (ad 0), .int a1, .int a2, .int a3, .int a4] : List Value).toArray 10 from by rw [hav]]
  rw [lg_entry_eq]
  generalize (lg_sl ([.ref (ad 0), .int a1, .int a2, .int a3, .int a4]) ++ List.replicate (10 - (lg_sl ([.ref (ad 0), .int a1, .int a2, .int a3, .int a4])).length) Slot.unset).toArray = ls at hl ⊢
  have hl : lv_has ls 10 [(0, .ref (ad 0)), (1, .int a1), (2, .int a2), (3, .int a3), (4, .int a4)] := hl
  show W p l e rmX11_belt s m args below meth c s.heap [] 0 0 _ _
  generalize MQ below (va_Qi (S := St × (Nat → Nat) × List Nat) (fun r u => post r u.1 u.2.2) (xOutA D KA layX stX ad ids s.heap.size) (xA ad ids s.heap.size)) args s 1 13 (xA ad ids s.heap.size) = Q at kr ⊢
  unfold wX11_belt at h
  refine lv_iload_n hx hb dX11_belt_0 rfl (lv_at hl 2 rfl) ?_
  refine lv_bipush (v := 10) hx hb dX11_belt_1 (by decide) ?_
  refine lv_idiv hx hb dX11_belt_3 (by decide) ?_
  refine lv_topi (fun v1001 hv1001 => ?_)
  have h := h v1001 hv1001
  refine lv_istore (lv' := [(5, .int v1001), (0, .ref (ad 0)), (1, .int a1), (2, .int a2), (3, .int a3), (4, .int a4)]) hx hb dX11_belt_4 hl (by decide) rfl (fun ls hl => ?_)
  refine lv_iload_n hx hb dX11_belt_6 rfl (lv_at hl 3 rfl) ?_
  refine lv_bipush (v := 10) hx hb dX11_belt_7 (by decide) ?_
  refine lv_irem hx hb dX11_belt_9 (by decide) ?_
  refine lv_topi (fun v1002 hv1002 => ?_)
  have h := h v1002 hv1002
  refine lv_istore (lv' := [(6, .int v1002), (5, .int v1001), (0, .ref (ad 0)), (1, .int a1), (2, .int a2), (3, .int a3), (4, .int a4)]) hx hb dX11_belt_10 hl (by decide) rfl (fun ls hl => ?_)
  refine lv_iload_n hx hb dX11_belt_12 rfl (lv_at hl 5 rfl) ?_
  refine lv_bipush (v := 100) hx hb dX11_belt_13 (by decide) ?_
  refine lv_idiv hx hb dX11_belt_15 (by decide) ?_
  refine lv_topi (fun v1003 hv1003 => ?_)
  have h := h v1003 hv1003
  refine lv_istore (lv' := [(7, .int v1003), (6, .int v1002), (5, .int v1001), (0, .ref (ad 0)), (1, .int a1), (2, .int a2), (3, .int a3), (4, .int a4)]) hx hb dX11_belt_16 hl (by decide) rfl (fun ls hl => ?_)
  refine lv_iload_n hx hb dX11_belt_18 rfl (lv_at hl 6 rfl) ?_
  refine lv_bipush (v := 100) hx hb dX11_belt_19 (by decide) ?_
  refine lv_irem hx hb dX11_belt_21 (by decide) ?_
  refine lv_topi (fun v1004 hv1004 => ?_)
  have h := h v1004 hv1004
  refine lv_istore (lv' := [(8, .int v1004), (7, .int v1003), (6, .int v1002), (5, .int v1001), (0, .ref (ad 0)), (1, .int a1), (2, .int a2), (3, .int a3), (4, .int a4)]) hx hb dX11_belt_22 hl (by decide) rfl (fun ls hl => ?_)
  refine lv_iload_n hx hb dX11_belt_24 rfl (lv_at hl 5 rfl) ?_
  refine x_calli (va_runS (As := [.int a1]) (rest := []) ⟨hx, hb, hml, hown, hts⟩ (J_X11_isKind l (fun c h => (hI c h)) h) (va_cwS 1 hts gX11_belt_X11_isKind rfl rfl rfl hdS_X11_isKind ⟨Nat.le_of_ble_eq_true rfl, Nat.le_of_ble_eq_true rfl⟩) (x_preS hK hZ hA hW) rfl rfl hl.1 rfl (lv_room (Nat.le_of_ble_eq_true rfl)) dX11_belt_25 ⟨Nat.le_of_ble_eq_true rfl, Nat.le_of_ble_eq_true rfl⟩) hW hA (fun r1006 σ1005 H locs h hW => ?_)
  try dsimp only at h
  refine lv_if_eq (tgt := 61) hx hb dX11_belt_28 (by decide) (fun c1007 => ?_) (fun c1007 => ?_)
  · have h := h.1 c1007
    refine lv_bipush (v := (-2)) hx hb dX11_belt_61 (by decide) ?_
    refine W.widen (k := 1) (n := 13) (Nat.le_of_ble_eq_true rfl) (Nat.le_of_ble_eq_true rfl) ?_
    exact kr _ _ _ _ _ _ _ _ hW (fun _ _ => rfl) (fun c hc => hc) h dX11_belt_63
  · have h := h.2 c1007
    refine lv_aload_n hx hb dX11_belt_31 rfl (lv_at hl 4 rfl) ?_
    refine lv_iload hx hb dX11_belt_32 (lv_at hl 3 rfl) ?_
    refine x_calli (va_runV (As := [.int v1001]) (rest := []) ⟨hx, hb, hml, hown, hts⟩ (J_X11_isShaft l (fun c h => (hI c h)) h) (cwV 1 hts gX11_belt_X11_isShaft rfl rfl rfl hdV_X11_isShaft ⟨Nat.le_of_ble_eq_true rfl, Nat.le_of_ble_eq_true rfl⟩) (x_preV (ci := 11) hK hZ hA hW (hI 0 (by decide)) lX_0 rfl) rfl rfl hl.1 rfl (lv_room (Nat.le_of_ble_eq_true rfl)) dX11_belt_34 ⟨Nat.le_of_ble_eq_true rfl, Nat.le_of_ble_eq_true rfl⟩) hW hA (fun r1009 σ1008 H locs h hW => ?_)
    try dsimp only at h
    refine lv_if_eq (tgt := 61) hx hb dX11_belt_37 (by decide) (fun c1010 => ?_) (fun c1010 => ?_)
    · have h := h.1 c1010
      refine lv_bipush (v := (-2)) hx hb dX11_belt_61 (by decide) ?_
      refine W.widen (k := 1) (n := 13) (Nat.le_of_ble_eq_true rfl) (Nat.le_of_ble_eq_true rfl) ?_
      exact kr _ _ _ _ _ _ _ _ hW (fun _ _ => rfl) (fun c hc => hc) h dX11_belt_63
    · have h := h.2 c1010
      refine lv_aload_n hx hb dX11_belt_40 rfl (lv_at hl 4 rfl) ?_
      refine lv_iload hx hb dX11_belt_41 (lv_at hl 2 rfl) ?_
      refine x_calli (va_runV (As := [.int v1002]) (rest := []) ⟨hx, hb, hml, hown, hts⟩ (J_X11_isShaft l (fun c h => (hI c h)) h) (cwV 1 hts gX11_belt_X11_isShaft rfl rfl rfl hdV_X11_isShaft ⟨Nat.le_of_ble_eq_true rfl, Nat.le_of_ble_eq_true rfl⟩) (x_preV (ci := 11) hK hZ hA hW (hI 0 (by decide)) lX_0 rfl) rfl rfl hl.1 rfl (lv_room (Nat.le_of_ble_eq_true rfl)) dX11_belt_43 ⟨Nat.le_of_ble_eq_true rfl, Nat.le_of_ble_eq_true rfl⟩) hW hA (fun r1012 σ1011 H locs h hW => ?_)
      try dsimp only at h
      refine lv_if_eq (tgt := 61) hx hb dX11_belt_46 (by decide) (fun c1013 => ?_) (fun c1013 => ?_)
      · have h := h.1 c1013
        refine lv_bipush (v := (-2)) hx hb dX11_belt_61 (by decide) ?_
        refine W.widen (k := 1) (n := 13) (Nat.le_of_ble_eq_true rfl) (Nat.le_of_ble_eq_true rfl) ?_
        exact kr _ _ _ _ _ _ _ _ hW (fun _ _ => rfl) (fun c hc => hc) h dX11_belt_63
      · have h := h.2 c1013
        refine lv_iload hx hb dX11_belt_49 (lv_at hl 2 rfl) ?_
        refine lv_if_eq (tgt := 61) hx hb dX11_belt_51 (by decide) (fun c1014 => ?_) (fun c1014 => ?_)
        · have h := h.1 c1014
          refine lv_bipush (v := (-2)) hx hb dX11_belt_61 (by decide) ?_
          refine W.widen (k := 1) (n := 13) (Nat.le_of_ble_eq_true rfl) (Nat.le_of_ble_eq_true rfl) ?_
          exact kr _ _ _ _ _ _ _ _ hW (fun _ _ => rfl) (fun c hc => hc) h dX11_belt_63
        · have h := h.2 c1014
          refine lv_iload hx hb dX11_belt_54 (lv_at hl 2 rfl) ?_
          refine lv_iload hx hb dX11_belt_56 (lv_at hl 3 rfl) ?_
          refine lv_icmp_ne (tgt := 64) hx hb dX11_belt_58 (by decide) (fun c1015 => ?_) (fun c1015 => ?_)
          · have h := h.1 c1015
            refine lv_aload_n hx hb dX11_belt_64 rfl (lv_at hl 4 rfl) ?_
            refine lv_iload hx hb dX11_belt_65 (lv_at hl 1 rfl) ?_
            refine x_calli (va_runV (As := [.int v1003]) (rest := []) ⟨hx, hb, hml, hown, hts⟩ (J_X11_isDrum l (fun c h => (hI c h)) h) (cwV 1 hts gX11_belt_X11_isDrum rfl rfl rfl hdV_X11_isDrum ⟨Nat.le_of_ble_eq_true rfl, Nat.le_of_ble_eq_true rfl⟩) (x_preV (ci := 11) hK hZ hA hW (hI 0 (by decide)) lX_0 rfl) rfl rfl hl.1 rfl (lv_room (Nat.le_of_ble_eq_true rfl)) dX11_belt_67 ⟨Nat.le_of_ble_eq_true rfl, Nat.le_of_ble_eq_true rfl⟩) hW hA (fun r1017 σ1016 H locs h hW => ?_)
            try dsimp only at h
            refine lv_if_eq (tgt := 101) hx hb dX11_belt_70 (by decide) (fun c1018 => ?_) (fun c1018 => ?_)
            · have h := h.1 c1018
              refine lv_bipush (v := (-2)) hx hb dX11_belt_101 (by decide) ?_
              refine W.widen (k := 1) (n := 13) (Nat.le_of_ble_eq_true rfl) (Nat.le_of_ble_eq_true rfl) ?_
              exact kr _ _ _ _ _ _ _ _ hW (fun _ _ => rfl) (fun c hc => hc) h dX11_belt_103
            · have h := h.2 c1018
              refine lv_aload_n hx hb dX11_belt_73 rfl (lv_at hl 4 rfl) ?_
              refine lv_iload hx hb dX11_belt_74 (lv_at hl 0 rfl) ?_
              refine x_calli (va_runV (As := [.int v1004]) (rest := []) ⟨hx, hb, hml, hown, hts⟩ (J_X11_isDrum l (fun c h => (hI c h)) h) (cwV 1 hts gX11_belt_X11_isDrum rfl rfl rfl hdV_X11_isDrum ⟨Nat.le_of_ble_eq_true rfl, Nat.le_of_ble_eq_true rfl⟩) (x_preV (ci := 11) hK hZ hA hW (hI 0 (by decide)) lX_0 rfl) rfl rfl hl.1 rfl (lv_room (Nat.le_of_ble_eq_true rfl)) dX11_belt_76 ⟨Nat.le_of_ble_eq_true rfl, Nat.le_of_ble_eq_true rfl⟩) hW hA (fun r1020 σ1019 H locs h hW => ?_)
              try dsimp only at h
              refine lv_if_eq (tgt := 101) hx hb dX11_belt_79 (by decide) (fun c1021 => ?_) (fun c1021 => ?_)
              · have h := h.1 c1021
                refine lv_bipush (v := (-2)) hx hb dX11_belt_101 (by decide) ?_
                refine W.widen (k := 1) (n := 13) (Nat.le_of_ble_eq_true rfl) (Nat.le_of_ble_eq_true rfl) ?_
                exact kr _ _ _ _ _ _ _ _ hW (fun _ _ => rfl) (fun c hc => hc) h dX11_belt_103
              · have h := h.2 c1021
                refine lv_iload hx hb dX11_belt_82 (lv_at hl 1 rfl) ?_
                refine lv_iload hx hb dX11_belt_84 (lv_at hl 0 rfl) ?_
                refine lv_icmp_eq (tgt := 101) hx hb dX11_belt_86 (by decide) (fun c1022 => ?_) (fun c1022 => ?_)
                · have h := h.1 c1022
                  refine lv_bipush (v := (-2)) hx hb dX11_belt_101 (by decide) ?_
                  refine W.widen (k := 1) (n := 13) (Nat.le_of_ble_eq_true rfl) (Nat.le_of_ble_eq_true rfl) ?_
                  exact kr _ _ _ _ _ _ _ _ hW (fun _ _ => rfl) (fun c hc => hc) h dX11_belt_103
                · have h := h.2 c1022
                  refine lv_iload hx hb dX11_belt_89 (lv_at hl 8 rfl) ?_
                  refine lv_iconst (v := 1) hx hb dX11_belt_91 (by decide) ?_
                  refine lv_sipush (v := 999) hx hb dX11_belt_92 (by decide) ?_
                  refine x_calli (va_runS (As := [.int a4, .int (1 : Int32), .int (999 : Int32)]) (rest := []) ⟨hx, hb, hml, hown, hts⟩ (J_X11_within l (fun c h => (hI c h)) h) (va_cwS 3 hts gX11_belt_X11_within rfl rfl rfl hdS_X11_within ⟨Nat.le_of_ble_eq_true rfl, Nat.le_of_ble_eq_true rfl⟩) (x_preS hK hZ hA hW) rfl rfl hl.1 rfl (lv_room (Nat.le_of_ble_eq_true rfl)) dX11_belt_95 ⟨Nat.le_of_ble_eq_true rfl, Nat.le_of_ble_eq_true rfl⟩) hW hA (fun r1024 σ1023 H locs h hW => ?_)
                  try dsimp only at h
                  refine lv_if_ne (tgt := 104) hx hb dX11_belt_98 (by decide) (fun c1025 => ?_) (fun c1025 => ?_)
                  · have h := h.1 c1025
                    refine lv_aload_n hx hb dX11_belt_104 rfl (lv_at hl 4 rfl) ?_
                    refine xgX11_0r hx hb hts hown hK hW 0 hcX11_belt_X11 (hI 0 (by decide)) lX_0 (hts _ hwX11_belt_0) (sX_0_0 _) dX11_belt_105 ?_
                    refine xgX6_6r hx hb hts hown hK hW 1 hcX11_belt_X6 (hI 1 (by decide)) lX_1 (hts _ hwX11_belt_1) (sX_1_6 _) dX11_belt_108 ?_
                    refine lv_iload hx hb dX11_belt_111 (lv_at hl 2 rfl) ?_
                    obtain ⟨hi1026, h⟩ := h
                    refine x_iald hx hb hK hW 5 (hI 5 (by decide)) lX_5 hi1026 dX11_belt_113 ?_
                    refine lv_iconst (v := (-1)) hx hb dX11_belt_114 (by decide) ?_
                    refine lv_icmp_ne (tgt := 132) hx hb dX11_belt_115 (by decide) (fun c1027 => ?_) (fun c1027 => ?_)
                    · have h := h.1 c1027
                      refine lv_bipush (v := (-3)) hx hb dX11_belt_132 (by decide) ?_
                      refine W.widen (k := 1) (n := 13) (Nat.le_of_ble_eq_true rfl) (Nat.le_of_ble_eq_true rfl) ?_
                      exact kr _ _ _ _ _ _ _ _ hW (fun _ _ => rfl) (fun c hc => hc) h dX11_belt_134
                    · have h := h.2 c1027
                      refine lv_aload_n hx hb dX11_belt_118 rfl (lv_at hl 4 rfl) ?_
                      refine xgX11_0r hx hb hts hown hK hW 0 hcX11_belt_X11 (hI 0 (by decide)) lX_0 (hts _ hwX11_belt_0) (sX_0_0 _) dX11_belt_119 ?_
                      refine lv_iload hx hb dX11_belt_122 (lv_at hl 2 rfl) ?_
                      refine lv_iload hx hb dX11_belt_124 (lv_at hl 3 rfl) ?_
                      refine x_calli (va_runV (As := [.int v1002, .int v1001]) (rest := []) ⟨hx, hb, hml, hown, hts⟩ (J_X6_drives l (fun c h => (hI c h)) h) (cwV 2 hts gX11_belt_X6_drives rfl rfl rfl hdV_X6_drives ⟨Nat.le_of_ble_eq_true rfl, Nat.le_of_ble_eq_true rfl⟩) (x_preV (ci := 6) hK hZ hA hW (hI 1 (by decide)) lX_1 rfl) rfl rfl hl.1 rfl (lv_room (Nat.le_of_ble_eq_true rfl)) dX11_belt_126 ⟨Nat.le_of_ble_eq_true rfl, Nat.le_of_ble_eq_true rfl⟩) hW hA (fun r1029 σ1028 H locs h hW => ?_)
                      try dsimp only at h
                      refine lv_if_eq (tgt := 135) hx hb dX11_belt_129 (by decide) (fun c1030 => ?_) (fun c1030 => ?_)
                      · have h := h.1 c1030
                        refine lv_aload_n hx hb dX11_belt_135 rfl (lv_at hl 4 rfl) ?_
                        refine xgX11_0r hx hb hts hown hK hW 0 hcX11_belt_X11 (hI 0 (by decide)) lX_0 (hts _ hwX11_belt_0) (sX_0_0 _) dX11_belt_136 ?_
                        refine xgX6_3 hx hb hts hown hK hW 1 hcX11_belt_X6 (hI 1 (by decide)) lX_1 (hts _ hwX11_belt_2) dX11_belt_139 ?_
                        refine lv_bipush (v := 7) hx hb dX11_belt_142 (by decide) ?_
                        refine lv_icmp_ne (tgt := 150) hx hb dX11_belt_144 (by decide) (fun c1031 => ?_) (fun c1031 => ?_)
                        · have h := h.1 c1031
                          refine lv_iload_n hx hb dX11_belt_150 rfl (lv_at hl 5 rfl) ?_
                          refine lv_iload hx hb dX11_belt_151 (lv_at hl 3 rfl) ?_
                          refine lv_iload hx hb dX11_belt_153 (lv_at hl 2 rfl) ?_
                          refine lv_iload hx hb dX11_belt_155 (lv_at hl 8 rfl) ?_
                          refine x_callrA (va_runS (As := [.int a1, .int v1001, .int v1002, .int a4]) (rest := []) ⟨hx, hb, hml, hown, hts⟩ (J_X11_newBelt l (fun c h => (hI c h)) h) (va_cwS 4 hts gX11_belt_X11_newBelt rfl rfl rfl hdS_X11_newBelt ⟨Nat.le_of_ble_eq_true rfl, Nat.le_of_ble_eq_true rfl⟩) (x_preS hK hZ hA hW) rfl rfl hl.1 rfl (lv_room (Nat.le_of_ble_eq_true rfl)) dX11_belt_157 ⟨Nat.le_of_ble_eq_true rfl, Nat.le_of_ble_eq_true rfl⟩) hW hA (fun o1033 σ1032 ad1034 ids1035 H locs h hAd1036 hSub1037 hW => ?_)
                          try dsimp only at h
                          have e1038 : ad 0 = ad1034 0 := (hAd1036 _ (hI 0 (by decide))).symm
                          rw [e1038] at hl
                          obtain ⟨ok1039, h⟩ := h
                          refine lv_astore (lv' := [(9, .ref (ad1034 o1033)), (8, .int v1004), (7, .int v1003), (6, .int v1002), (5, .int v1001), (0, .ref (ad1034 0)), (1, .int a1), (2, .int a2), (3, .int a3), (4, .int a4)]) hx hb dX11_belt_160 hl (by decide) rfl (fun ls hl => ?_)
                          refine lv_aload_n hx hb dX11_belt_162 rfl (lv_at hl 5 rfl) ?_
                          refine xgX11_0r hx hb hts hown hK hW 0 hcX11_belt_X11 (hSub1037 _ (hI 0 (by decide))) lX_0 (hts _ hwX11_belt_0) (sX_0_0 _) dX11_belt_163 ?_
                          refine lv_aload hx hb dX11_belt_166 (lv_at hl 0 rfl) ?_
                          refine lv_iconst (v := 0) hx hb dX11_belt_168 (by decide) ?_
                          refine lv_iload hx hb dX11_belt_169 (lv_at hl 2 rfl) ?_
                          refine x_callv (va_runV (As := [.ref (ad1034 o1033), .int (0 : Int32), .int v1003]) (rest := []) ⟨hx, hb, hml, hown, hts⟩ (J_X6_putDrum l (fun c h => (hSub1037 _ (hI c h))) ok1039 h) (cwV 3 hts gX11_belt_X6_putDrum rfl rfl rfl hdV_X6_putDrum ⟨Nat.le_of_ble_eq_true rfl, Nat.le_of_ble_eq_true rfl⟩) (x_preV (ci := 6) hK hZ hA hW (hSub1037 _ (hI 1 (by decide))) lX_1 rfl) rfl rfl hl.1 rfl (lv_room (Nat.le_of_ble_eq_true rfl)) dX11_belt_171 ⟨Nat.le_of_ble_eq_true rfl, Nat.le_of_ble_eq_true rfl⟩) hW hA (fun σ1040 H locs h hW => ?_)
                          try dsimp only at h
                          refine lv_aload_n hx hb dX11_belt_174 rfl (lv_at hl 5 rfl) ?_
                          refine xgX11_0r hx hb hts hown hK hW 0 hcX11_belt_X11 (hSub1037 _ (hI 0 (by decide))) lX_0 (hts _ hwX11_belt_0) (sX_0_0 _) dX11_belt_175 ?_
                          refine lv_aload hx hb dX11_belt_178 (lv_at hl 0 rfl) ?_
                          refine lv_iconst (v := 1) hx hb dX11_belt_180 (by decide) ?_
                          refine lv_iload hx hb dX11_belt_181 (lv_at hl 1 rfl) ?_
                          refine x_callv (va_runV (As := [.ref (ad1034 o1033), .int (1 : Int32), .int v1004]) (rest := []) ⟨hx, hb, hml, hown, hts⟩ (J_X6_putDrum l (fun c h => (hSub1037 _ (hI c h))) ok1039 h) (cwV 3 hts gX11_belt_X6_putDrum rfl rfl rfl hdV_X6_putDrum ⟨Nat.le_of_ble_eq_true rfl, Nat.le_of_ble_eq_true rfl⟩) (x_preV (ci := 6) hK hZ hA hW (hSub1037 _ (hI 1 (by decide))) lX_1 rfl) rfl rfl hl.1 rfl (lv_room (Nat.le_of_ble_eq_true rfl)) dX11_belt_183 ⟨Nat.le_of_ble_eq_true rfl, Nat.le_of_ble_eq_true rfl⟩) hW hA (fun σ1041 H locs h hW => ?_)
                          try dsimp only at h
                          refine lv_aload_n hx hb dX11_belt_186 rfl (lv_at hl 5 rfl) ?_
                          refine xgX11_0r hx hb hts hown hK hW 0 hcX11_belt_X11 (hSub1037 _ (hI 0 (by decide))) lX_0 (hts _ hwX11_belt_0) (sX_0_0 _) dX11_belt_187 ?_
                          refine lv_aload hx hb dX11_belt_190 (lv_at hl 0 rfl) ?_
                          refine x_calli (va_runV (As := [.ref (ad1034 o1033)]) (rest := []) ⟨hx, hb, hml, hown, hts⟩ (J_X6_addBelt l (fun c h => (hSub1037 _ (hI c h))) ok1039 h) (cwV 1 hts gX11_belt_X6_addBelt rfl rfl rfl hdV_X6_addBelt ⟨Nat.le_of_ble_eq_true rfl, Nat.le_of_ble_eq_true rfl⟩) (x_preV (ci := 6) hK hZ hA hW (hSub1037 _ (hI 1 (by decide))) lX_1 rfl) rfl rfl hl.1 rfl (lv_room (Nat.le_of_ble_eq_true rfl)) dX11_belt_192 ⟨Nat.le_of_ble_eq_true rfl, Nat.le_of_ble_eq_true rfl⟩) hW hA (fun r1043 σ1042 H locs h hW => ?_)
                          try dsimp only at h
                          refine W.widen (k := 1) (n := 13) (Nat.le_of_ble_eq_true rfl) (Nat.le_of_ble_eq_true rfl) ?_
                          exact kr _ _ _ _ _ _ _ _ hW (fun c hc => (hAd1036 c hc).trans ((fun _ _ => rfl) c hc)) (fun c hc => (hSub1037 _ hc)) h dX11_belt_195
                        · have h := h.2 c1031
                          refine lv_bipush (v := (-4)) hx hb dX11_belt_147 (by decide) ?_
                          refine W.widen (k := 1) (n := 13) (Nat.le_of_ble_eq_true rfl) (Nat.le_of_ble_eq_true rfl) ?_
                          exact kr _ _ _ _ _ _ _ _ hW (fun _ _ => rfl) (fun c hc => hc) h dX11_belt_149
                      · have h := h.2 c1030
                        refine lv_bipush (v := (-3)) hx hb dX11_belt_132 (by decide) ?_
                        refine W.widen (k := 1) (n := 13) (Nat.le_of_ble_eq_true rfl) (Nat.le_of_ble_eq_true rfl) ?_
                        exact kr _ _ _ _ _ _ _ _ hW (fun _ _ => rfl) (fun c hc => hc) h dX11_belt_134
                  · have h := h.2 c1025
                    refine lv_bipush (v := (-2)) hx hb dX11_belt_101 (by decide) ?_
                    refine W.widen (k := 1) (n := 13) (Nat.le_of_ble_eq_true rfl) (Nat.le_of_ble_eq_true rfl) ?_
                    exact kr _ _ _ _ _ _ _ _ hW (fun _ _ => rfl) (fun c hc => hc) h dX11_belt_103
          · have h := h.2 c1015
            refine lv_bipush (v := (-2)) hx hb dX11_belt_61 (by decide) ?_
            refine W.widen (k := 1) (n := 13) (Nat.le_of_ble_eq_true rfl) (Nat.le_of_ble_eq_true rfl) ?_
            exact kr _ _ _ _ _ _ _ _ hW (fun _ _ => rfl) (fun c hc => hc) h dX11_belt_63
theorem hwX11_isMachine_0 : (.fieldLink RX11 10 "FortyBelts" "mill" "LFortyBelts$Mill;" : Cond) ∈ wsX11_isMachine := (List.mem_cons_of_mem _ (List.mem_append_left _ (List.mem_append_left _ (List.mem_of_getElem? (i := 0) rfl))))
theorem hwX11_isMachine_1 : (.fieldLink RX11 92 "FortyBelts$Mill" "machineCount" "I" : Cond) ∈ wsX11_isMachine := (List.mem_cons_of_mem _ (List.mem_append_left _ (List.mem_append_left _ (List.mem_of_getElem? (i := 1) rfl))))
theorem hcX11_isMachine_X11 : ∀ w ∈ wsX110, w ∈ wsX11_isMachine := fun _ h => (List.mem_cons_of_mem _ (List.mem_append_left _ (List.mem_append_right _ h)))
theorem hcX11_isMachine_X6 : ∀ w ∈ wsX60, w ∈ wsX11_isMachine := fun _ h => (List.mem_cons_of_mem _ (List.mem_append_right _ h))
set_option maxHeartbeats 4000000 in
set_option maxRecDepth 100000 in
theorem J_X11_isMachine {D : va_G} {KA : Nat → ClassId} {zs : ZS} {ad : Nat → Nat} {ids : List Nat} {sz : Nat} (l : Launch) (hI : ∀ c, c < 52 ∧ ¬ c = 19 → c ∈ ids) {a1 : Int32}  {σ : St} {post : Int32 → St → Prop} (h : wX11_isMachine ids a1 σ post) : Met l yX11_isMachine wsX11_isMachine rmX11_isMachine (va_Pc [.ref (ad 0), .int a1] (xIn D KA zs layX stX ad ids sz σ)) (va_Qi post (xOut D KA layX stX ad ids) (xA ad ids sz)) 0 0 (xA ad ids sz) := by
  refine Met.ofW (cc := cX11_isMachine) (maxL := 2) (ret := (some .boolean)) (by decide) rfl ?_
  intro p e s m args below meth c s₁ B hml hv
  obtain ⟨hav, hsz, hK, hZ, hP, hD⟩ := hv
  have hx := B.exec
  have hb := B.bytes
  have hr := B.returns
  have hts := atoms_spec (ws := wsX11_isMachine) B.pre
  have hown : s.vm.findClass RX11 = some m.cls := findClass_of_methodNamed B.named
  have hlocks := B.notSynchronized
  subst hsz
  have hA : ∀ q : Nat, s.heap.size ≤ q → xA ad ids s.heap.size q := fun q h => Or.inr h
  have hW : xW D KA layX stX ad ids (xA ad ids s.heap.size) s.heap σ s.heap [] := ⟨hP, xA_D (D := D) hD, va_S.rf⟩
  have kr : ∀ (v : Int32) (σ : St) (H : Heap) (locs : List Loc) (ls : Array Slot) (pc : Nat), xW D KA layX stX ad ids (xA ad ids s.heap.size) s.heap σ H locs → isB v → post v σ → decode cX11_isMachine pc = .ok (.ireturn, 1) → W p l e rmX11_isMachine s m args below meth c H locs 0 0 (MQ below (va_Qi post (xOut D KA layX stX ad ids) (xA ad ids s.heap.size)) args s 0 0 (xA ad ids s.heap.size)) (F0 m pc ls [.int v]) := fun v σ H locs ls pc hW hz h hd => x_zret hx hb hr hlocks hW hz h hd
  have hl := lv_entry ([.ref (ad 0), .int a1]) (n := 2) (Nat.le_of_ble_eq_true rfl)
  rw [show entryFrame m args 2 = entryFrame m ([.ref (ad 0), .int a1] : List Value).toArray 2 from by rw [hav]]
  rw [lg_entry_eq]
  generalize (lg_sl ([.ref (ad 0), .int a1]) ++ List.replicate (2 - (lg_sl ([.ref (ad 0), .int a1])).length) Slot.unset).toArray = ls at hl ⊢
  have hl : lv_has ls 2 [(0, .ref (ad 0)), (1, .int a1)] := hl
  show W p l e rmX11_isMachine s m args below meth c s.heap [] 0 0 _ _
  generalize MQ below (va_Qi post (xOut D KA layX stX ad ids) (xA ad ids s.heap.size)) args s 0 0 (xA ad ids s.heap.size) = Q at kr ⊢
  have main : ∀ (H : Heap) (locs : List Loc) (ls : Array Slot), xW D KA layX stX ad ids (xA ad ids s.heap.size) s.heap σ H locs → lv_has ls 2 [(0, .ref (ad 0)), (1, .int a1)] → W p l e rmX11_isMachine s m args below meth c H locs 0 0 Q (F0 m 0 ls []) := by
    intro H locs ls hW hl
    unfold wX11_isMachine at h
    refine lv_iload_n hx hb dX11_isMachine_0 rfl (lv_at hl 1 rfl) ?_
    refine lv_iconst (v := 0) hx hb dX11_isMachine_1 (by decide) ?_
    refine lv_aload_n hx hb dX11_isMachine_2 rfl (lv_at hl 0 rfl) ?_
    refine xgX11_0r hx hb hts hown hK hW 0 hcX11_isMachine_X11 (hI 0 (by decide)) lX_0 (hts _ hwX11_isMachine_0) (sX_0_0 _) dX11_isMachine_3 ?_
    refine xgX6_1 hx hb hts hown hK hW 1 hcX11_isMachine_X6 (hI 1 (by decide)) lX_1 (hts _ hwX11_isMachine_1) dX11_isMachine_6 ?_
    refine lv_iconst (v := 1) hx hb dX11_isMachine_9 (by decide) ?_
    refine lv_isub hx hb dX11_isMachine_10 ?_
    refine x_calli (va_runS (As := [.int a1, .int (0 : Int32), .int ((gI σ 1 1) - (1 : Int32))]) (rest := []) ⟨hx, hb, hml, hown, hts⟩ (J_X11_within l hI h) (va_cwS 3 hts gX11_isMachine_X11_within rfl rfl rfl hdS_X11_within ⟨Nat.le_of_ble_eq_true rfl, Nat.le_of_ble_eq_true rfl⟩) (x_preS hK hZ hA hW) rfl rfl hl.1 rfl (lv_room (Nat.le_of_ble_eq_true rfl)) dX11_isMachine_11 ⟨Nat.zero_le _, Nat.zero_le _⟩) hW hA (fun r1002 σ1001 H locs h hW => ?_)
    try dsimp only at h
    obtain ⟨hz1003, h⟩ := h
    exact kr _ _ _ _ _ _ hW hz1003 h dX11_isMachine_14
  exact main _ _ _ hW hl
theorem hwX6_cutTurns_0 : (.constantLong RX6 101 (1000000) : Cond) ∈ wsX6_cutTurns := (List.mem_cons_of_mem _ (List.mem_append_left _ (List.mem_of_getElem? (i := 0) rfl)))
theorem hwX6_cutTurns_1 : (.fieldLink RX6 21 "FortyBelts$Mill" "above" "[J" : Cond) ∈ wsX6_cutTurns := (List.mem_cons_of_mem _ (List.mem_append_left _ (List.mem_of_getElem? (i := 1) rfl)))
theorem hwX6_cutTurns_2 : (.fieldLink RX6 25 "FortyBelts$Mill" "below" "[J" : Cond) ∈ wsX6_cutTurns := (List.mem_cons_of_mem _ (List.mem_append_left _ (List.mem_of_getElem? (i := 2) rfl)))
theorem hwX6_cutTurns_3 : (.methodLink RX6 103 Lib.MathLoose.max_long.x : Cond) ∈ wsX6_cutTurns := (List.mem_cons_of_mem _ (List.mem_append_left _ (List.mem_of_getElem? (i := 3) rfl)))
theorem hwX6_cutTurns_4 : (.static Lib.MathLoose.max_long.x : Cond) ∈ wsX6_cutTurns := (List.mem_cons_of_mem _ (List.mem_append_left _ (List.mem_of_getElem? (i := 4) rfl)))
theorem hwX6_cutTurns_5 : (.initialized "java/lang/Math" : Cond) ∈ wsX6_cutTurns := (List.mem_cons_of_mem _ (List.mem_append_left _ (List.mem_of_getElem? (i := 5) rfl)))
theorem hwX6_cutTurns_6 : (.code Lib.MathLoose.max_long.x Lib.MathLoose.max_long.code 4 (some .long) : Cond) ∈ wsX6_cutTurns := (List.mem_cons_of_mem _ (List.mem_append_left _ (List.mem_of_getElem? (i := 6) rfl)))
theorem hwX6_cutTurns_7 : (.methodLink RX6 109 Lib.MathLoose.min_long.x : Cond) ∈ wsX6_cutTurns := (List.mem_cons_of_mem _ (List.mem_append_left _ (List.mem_of_getElem? (i := 7) rfl)))
theorem hwX6_cutTurns_8 : (.static Lib.MathLoose.min_long.x : Cond) ∈ wsX6_cutTurns := (List.mem_cons_of_mem _ (List.mem_append_left _ (List.mem_of_getElem? (i := 8) rfl)))
theorem hwX6_cutTurns_9 : (.code Lib.MathLoose.min_long.x Lib.MathLoose.min_long.code 4 (some .long) : Cond) ∈ wsX6_cutTurns := (List.mem_cons_of_mem _ (List.mem_append_left _ (List.mem_of_getElem? (i := 9) rfl)))
theorem hcX6_cutTurns_X6 : ∀ w ∈ wsX60, w ∈ wsX6_cutTurns := fun _ h => (List.mem_cons_of_mem _ (List.mem_append_right _ h))
set_option maxHeartbeats 4000000 in
set_option maxRecDepth 100000 in
theorem J_X6_cutTurns {D : va_G} {KA : Nat → ClassId} {zs : ZS} {ad : Nat → Nat} {ids : List Nat} {sz : Nat} (l : Launch) (hI : ∀ c, c < 52 ∧ ¬ c = 19 → c ∈ ids) {a1 : Int32}  {σ : St} {post : Int32 → St → Prop} (h : wX6_cutTurns ids a1 σ post) : Met l yX6_cutTurns wsX6_cutTurns rmX6_cutTurns (va_Pc [.ref (ad 1), .int a1] (xIn D KA zs layX stX ad ids sz σ)) (va_Qi post (xOut D KA layX stX ad ids) (xA ad ids sz)) 0 0 (xA ad ids sz) := by
  refine Met.ofW (cc := cX6_cutTurns) (maxL := 2) (ret := (some .int)) (by decide) rfl ?_
  intro p e s m args below meth c s₁ B hml hv
  obtain ⟨hav, hsz, hK, hZ, hP, hD⟩ := hv
  have hx := B.exec
  have hb := B.bytes
  have hr := B.returns
  have hts := atoms_spec (ws := wsX6_cutTurns) B.pre
  have hown : s.vm.findClass RX6 = some m.cls := findClass_of_methodNamed B.named
  have hlocks := B.notSynchronized
  subst hsz
  have hA : ∀ q : Nat, s.heap.size ≤ q → xA ad ids s.heap.size q := fun q h => Or.inr h
  have hW : xW D KA layX stX ad ids (xA ad ids s.heap.size) s.heap σ s.heap [] := ⟨hP, xA_D (D := D) hD, va_S.rf⟩
  have kr : ∀ (v : Int32) (σ : St) (H : Heap) (locs : List Loc) (ls : Array Slot) (pc : Nat), xW D KA layX stX ad ids (xA ad ids s.heap.size) s.heap σ H locs → post v σ → decode cX6_cutTurns pc = .ok (.ireturn, 1) → W p l e rmX6_cutTurns s m args below meth c H locs 0 0 (MQ below (va_Qi post (xOut D KA layX stX ad ids) (xA ad ids s.heap.size)) args s 0 0 (xA ad ids s.heap.size)) (F0 m pc ls [.int v]) := fun v σ H locs ls pc hW h hd => x_iret hx hb hr hlocks hW h hd
  have hl := lv_entry ([.ref (ad 1), .int a1]) (n := 2) (Nat.le_of_ble_eq_true rfl)
  rw [show entryFrame m args 2 = entryFrame m ([.ref (ad 1), .int a1] : List Value).toArray 2 from by rw [hav]]
  rw [lg_entry_eq]
  generalize (lg_sl ([.ref (ad 1), .int a1]) ++ List.replicate (2 - (lg_sl ([.ref (ad 1), .int a1])).length) Slot.unset).toArray = ls at hl ⊢
  have hl : lv_has ls 2 [(0, .ref (ad 1)), (1, .int a1)] := hl
  show W p l e rmX6_cutTurns s m args below meth c s.heap [] 0 0 _ _
  generalize MQ below (va_Qi post (xOut D KA layX stX ad ids) (xA ad ids s.heap.size)) args s 0 0 (xA ad ids s.heap.size) = Q at kr ⊢
  have main : ∀ (H : Heap) (locs : List Loc) (ls : Array Slot), xW D KA layX stX ad ids (xA ad ids s.heap.size) s.heap σ H locs → lv_has ls 2 [(0, .ref (ad 1)), (1, .int a1)] → W p l e rmX6_cutTurns s m args below meth c H locs 0 0 Q (F0 m 0 ls []) := by
    intro H locs ls hW hl
    unfold wX6_cutTurns at h
    refine lv_ldc2 hx hb hown (hts _ hwX6_cutTurns_0) dX6_cutTurns_0 ?_
    refine lv_aload_n hx hb dX6_cutTurns_3 rfl (lv_at hl 0 rfl) ?_
    refine xgX6_7r hx hb hts hown hK hW 1 hcX6_cutTurns_X6 (hI 1 (by decide)) lX_1 (hts _ hwX6_cutTurns_1) (sX_1_7 _) dX6_cutTurns_4 ?_
    refine lv_iload_n hx hb dX6_cutTurns_7 rfl (lv_at hl 1 rfl) ?_
    obtain ⟨hi1001, h⟩ := h
    refine x_lald hx hb hK hW 6 (hI 6 (by decide)) lX_6 hi1001 dX6_cutTurns_8 ?_
    refine lv_lconst (v := 1) hx hb dX6_cutTurns_9 (by decide) ?_
    refine lv_aload_n hx hb dX6_cutTurns_10 rfl (lv_at hl 0 rfl) ?_
    refine xgX6_8r hx hb hts hown hK hW 1 hcX6_cutTurns_X6 (hI 1 (by decide)) lX_1 (hts _ hwX6_cutTurns_2) (sX_1_8 _) dX6_cutTurns_11 ?_
    refine lv_iload_n hx hb dX6_cutTurns_14 rfl (lv_at hl 1 rfl) ?_
    refine x_lald hx hb hK hW 7 (hI 7 (by decide)) lX_7 hi1001 dX6_cutTurns_15 ?_
    refine va_mmax_long hx hb (hml.trans hl.1.symm) hown (hts _ hwX6_cutTurns_3) (hts _ hwX6_cutTurns_4) (hts _ hwX6_cutTurns_5) (hts _ hwX6_cutTurns_6) (Nat.le_of_ble_eq_true rfl) (Nat.le_of_ble_eq_true rfl) (Nat.le_of_ble_eq_true rfl) (Nat.le_of_ble_eq_true rfl) dX6_cutTurns_16 ?_
    obtain ⟨hd1003, h⟩ := h
    refine lv_ldiv hx hb dX6_cutTurns_19 hd1003 ?_
    refine va_mmin_long hx hb (hml.trans hl.1.symm) hown (hts _ hwX6_cutTurns_7) (hts _ hwX6_cutTurns_8) (hts _ hwX6_cutTurns_5) (hts _ hwX6_cutTurns_9) (Nat.le_of_ble_eq_true rfl) (Nat.le_of_ble_eq_true rfl) (Nat.le_of_ble_eq_true rfl) (Nat.le_of_ble_eq_true rfl) dX6_cutTurns_20 ?_
    refine lv_l2i hx hb dX6_cutTurns_23 rfl ?_
    exact kr _ _ _ _ _ _ hW h dX6_cutTurns_24
  exact main _ _ _ hW hl
theorem hwX9_pop_0 : (.fieldLink RX9 29 "FortyBelts$Text" "valueCount" "I" : Cond) ∈ wsX9_pop := (List.mem_cons_of_mem _ (List.mem_append_left _ (List.mem_of_getElem? (i := 0) rfl)))
theorem hwX9_pop_1 : (.fieldLink RX9 18 "FortyBelts$Text" "values" "[I" : Cond) ∈ wsX9_pop := (List.mem_cons_of_mem _ (List.mem_append_left _ (List.mem_of_getElem? (i := 1) rfl)))
theorem hcX9_pop_X9 : ∀ w ∈ wsX90, w ∈ wsX9_pop := fun _ h => (List.mem_cons_of_mem _ (List.mem_append_right _ h))
set_option maxHeartbeats 4000000 in
set_option maxRecDepth 100000 in
theorem J_X9_pop {D : va_G} {KA : Nat → ClassId} {zs : ZS} {ad : Nat → Nat} {ids : List Nat} {sz : Nat} (l : Launch) (hI : ∀ c, n7 c → c ∈ ids) {st : Nat → Nat → Option Nat} (hst : ∀ c, n7 c → st c = stX c) {a0 : Nat} (ok_a0 : okT ids a0) {σ : St} {post : Int32 → St → Prop} (h : wX9_pop ids a0 σ post) : Met l yX9_pop wsX9_pop rmX9_pop (va_Pc [.ref (ad a0)] (xIn D KA zs layX st ad ids sz σ)) (va_Qi post (xOut D KA layX st ad ids) (xA ad ids sz)) 0 0 (xA ad ids sz) := by
  refine Met.ofW (cc := cX9_pop) (maxL := 1) (ret := (some .int)) (by decide) rfl ?_
  intro p e s m args below meth c s₁ B hml hv
  obtain ⟨hav, hsz, hK, hZ, hP, hD⟩ := hv
  have hx := B.exec
  have hb := B.bytes
  have hr := B.returns
  have hts := atoms_spec (ws := wsX9_pop) B.pre
  have hown : s.vm.findClass RX9 = some m.cls := findClass_of_methodNamed B.named
  have hlocks := B.notSynchronized
  subst hsz
  have hA : ∀ q : Nat, s.heap.size ≤ q → xA ad ids s.heap.size q := fun q h => Or.inr h
  have hW : xW D KA layX st ad ids (xA ad ids s.heap.size) s.heap σ s.heap [] := ⟨hP, xA_D (D := D) hD, va_S.rf⟩
  have kr : ∀ (v : Int32) (σ : St) (H : Heap) (locs : List Loc) (ls : Array Slot) (pc : Nat), xW D KA layX st ad ids (xA ad ids s.heap.size) s.heap σ H locs → post v σ → decode cX9_pop pc = .ok (.ireturn, 1) → W p l e rmX9_pop s m args below meth c H locs 0 0 (MQ below (va_Qi post (xOut D KA layX st ad ids) (xA ad ids s.heap.size)) args s 0 0 (xA ad ids s.heap.size)) (F0 m pc ls [.int v]) := fun v σ H locs ls pc hW h hd => x_iret hx hb hr hlocks hW h hd
  have hl := lv_entry ([.ref (ad a0)]) (n := 1) (Nat.le_of_ble_eq_true rfl)
  rw [show entryFrame m args 1 = entryFrame m ([.ref (ad a0)] : List Value).toArray 1 from by rw [hav]]
  rw [lg_entry_eq]
  generalize (lg_sl ([.ref (ad a0)]) ++ List.replicate (1 - (lg_sl ([.ref (ad a0)])).length) Slot.unset).toArray = ls at hl ⊢
  have hl : lv_has ls 1 [(0, .ref (ad a0))] := hl
  show W p l e rmX9_pop s m args below meth c s.heap [] 0 0 _ _
  generalize MQ below (va_Qi post (xOut D KA layX st ad ids) (xA ad ids s.heap.size)) args s 0 0 (xA ad ids s.heap.size) = Q at kr ⊢
  have main : ∀ (H : Heap) (locs : List Loc) (ls : Array Slot), xW D KA layX st ad ids (xA ad ids s.heap.size) s.heap σ H locs → lv_has ls 1 [(0, .ref (ad a0))] → W p l e rmX9_pop s m args below meth c H locs 0 0 Q (F0 m 0 ls []) := by
    intro H locs ls hW hl
    unfold wX9_pop at h
    refine lv_aload_n hx hb dX9_pop_0 rfl (lv_at hl 0 rfl) ?_
    refine xgX9_4 hx hb hts hown hK hW a0 hcX9_pop_X9 ok_a0.1 (lay_okT ok_a0) (hts _ hwX9_pop_0) dX9_pop_1 ?_
    refine lv_if_ne (tgt := 9) hx hb dX9_pop_4 (by decide) (fun c1001 => ?_) (fun c1001 => ?_)
    · have h := h.1 c1001
      refine lv_aload_n hx hb dX9_pop_9 rfl (lv_at hl 0 rfl) ?_
      refine lv_dup hx hb dX9_pop_10 rfl ?_
      refine xgX9_4 hx hb hts hown hK hW a0 hcX9_pop_X9 ok_a0.1 (lay_okT ok_a0) (hts _ hwX9_pop_0) dX9_pop_11 ?_
      refine lv_iconst (v := 1) hx hb dX9_pop_14 (by decide) ?_
      refine lv_isub hx hb dX9_pop_15 ?_
      refine xpX9_4 hx hb hts hown hK hW a0 hcX9_pop_X9 ok_a0.1 (lay_okT ok_a0) (hts _ hwX9_pop_0) dX9_pop_16 (fun σ1002 H locs hσ1002 hW => ?_)
      have h := h σ1002 hσ1002
      refine lv_aload_n hx hb dX9_pop_19 rfl (lv_at hl 0 rfl) ?_
      refine xgX9_3r hx hb hts hown hK hW a0 hcX9_pop_X9 ok_a0.1 (lay_okT ok_a0) (hts _ hwX9_pop_1) (s7_okT3 hst ok_a0) dX9_pop_20 ?_
      refine lv_aload_n hx hb dX9_pop_23 rfl (lv_at hl 0 rfl) ?_
      refine xgX9_4 hx hb hts hown hK hW a0 hcX9_pop_X9 ok_a0.1 (lay_okT ok_a0) (hts _ hwX9_pop_0) dX9_pop_24 ?_
      obtain ⟨hi1003, h⟩ := h
      refine x_iald hx hb hK hW (a0 + 3) (hI _ (okT_n3 ok_a0)) (lay_okT3 ok_a0) hi1003 dX9_pop_27 ?_
      exact kr _ _ _ _ _ _ hW h dX9_pop_28
    · have h := h.2 c1001
      refine lv_iconst (v := 0) hx hb dX9_pop_7 (by decide) ?_
      exact kr _ _ _ _ _ _ hW h dX9_pop_8
  exact main _ _ _ hW hl
theorem hwX9_push_0 : (.fieldLink RX9 29 "FortyBelts$Text" "valueCount" "I" : Cond) ∈ wsX9_push := (List.mem_cons_of_mem _ (List.mem_append_left _ (List.mem_of_getElem? (i := 0) rfl)))
theorem hwX9_push_1 : (.fieldLink RX9 18 "FortyBelts$Text" "values" "[I" : Cond) ∈ wsX9_push := (List.mem_cons_of_mem _ (List.mem_append_left _ (List.mem_of_getElem? (i := 1) rfl)))
theorem hcX9_push_X9 : ∀ w ∈ wsX90, w ∈ wsX9_push := fun _ h => (List.mem_cons_of_mem _ (List.mem_append_right _ h))
set_option maxHeartbeats 4000000 in
set_option maxRecDepth 100000 in
theorem J_X9_push {D : va_G} {KA : Nat → ClassId} {zs : ZS} {ad : Nat → Nat} {ids : List Nat} {sz : Nat} (l : Launch) (hI : ∀ c, n7 c → c ∈ ids) {st : Nat → Nat → Option Nat} (hst : ∀ c, n7 c → st c = stX c) {a0 : Nat} {a1 : Int32} (ok_a0 : okT ids a0) {σ : St} {post : St → Prop} (h : wX9_push ids a0 a1 σ post) : Met l yX9_push wsX9_push rmX9_push (va_Pc [.ref (ad a0), .int a1] (xIn D KA zs layX st ad ids sz σ)) (va_Qv post (xOut D KA layX st ad ids) (xA ad ids sz)) 0 0 (xA ad ids sz) := by
  refine Met.ofW (cc := cX9_push) (maxL := 2) (ret := none) (by decide) rfl ?_
  intro p e s m args below meth c s₁ B hml hv
  obtain ⟨hav, hsz, hK, hZ, hP, hD⟩ := hv
  have hx := B.exec
  have hb := B.bytes
  have hr := B.returns
  have hts := atoms_spec (ws := wsX9_push) B.pre
  have hown : s.vm.findClass RX9 = some m.cls := findClass_of_methodNamed B.named
  have hlocks := B.notSynchronized
  subst hsz
  have hA : ∀ q : Nat, s.heap.size ≤ q → xA ad ids s.heap.size q := fun q h => Or.inr h
  have hW : xW D KA layX st ad ids (xA ad ids s.heap.size) s.heap σ s.heap [] := ⟨hP, xA_D (D := D) hD, va_S.rf⟩
  have kr : ∀ (σ : St) (H : Heap) (locs : List Loc) (ls : Array Slot) (pc : Nat), xW D KA layX st ad ids (xA ad ids s.heap.size) s.heap σ H locs → post σ → decode cX9_push pc = .ok (.return_, 1) → W p l e rmX9_push s m args below meth c H locs 0 0 (MQ below (va_Qv post (xOut D KA layX st ad ids) (xA ad ids s.heap.size)) args s 0 0 (xA ad ids s.heap.size)) (F0 m pc ls []) := fun σ H locs ls pc hW h hd => x_vret hx hb hr hlocks hW h hd
  have hl := lv_entry ([.ref (ad a0), .int a1]) (n := 2) (Nat.le_of_ble_eq_true rfl)
  rw [show entryFrame m args 2 = entryFrame m ([.ref (ad a0), .int a1] : List Value).toArray 2 from by rw [hav]]
  rw [lg_entry_eq]
  generalize (lg_sl ([.ref (ad a0), .int a1]) ++ List.replicate (2 - (lg_sl ([.ref (ad a0), .int a1])).length) Slot.unset).toArray = ls at hl ⊢
  have hl : lv_has ls 2 [(0, .ref (ad a0)), (1, .int a1)] := hl
  show W p l e rmX9_push s m args below meth c s.heap [] 0 0 _ _
  generalize MQ below (va_Qv post (xOut D KA layX st ad ids) (xA ad ids s.heap.size)) args s 0 0 (xA ad ids s.heap.size) = Q at kr ⊢
  have blk32 : ∀ (σ : St) (H : Heap) (locs : List Loc) (ls : Array Slot), xW D KA layX st ad ids (xA ad ids s.heap.size) s.heap σ H locs → lv_has ls 2 [] → wX9_push_32 ids post  σ → W p l e rmX9_push s m args below meth c H locs 0 0 Q (F0 m 32 ls []) := by
    intro    σ H locs ls hW hl h
    unfold wX9_push_32 at h
    exact kr _ _ _ _ _ hW h dX9_push_32
  have main : ∀ (H : Heap) (locs : List Loc) (ls : Array Slot), xW D KA layX st ad ids (xA ad ids s.heap.size) s.heap σ H locs → lv_has ls 2 [(0, .ref (ad a0)), (1, .int a1)] → W p l e rmX9_push s m args below meth c H locs 0 0 Q (F0 m 0 ls []) := by
    intro H locs ls hW hl
    unfold wX9_push at h
    refine lv_aload_n hx hb dX9_push_0 rfl (lv_at hl 0 rfl) ?_
    refine xgX9_4 hx hb hts hown hK hW a0 hcX9_push_X9 ok_a0.1 (lay_okT ok_a0) (hts _ hwX9_push_0) dX9_push_1 ?_
    refine lv_aload_n hx hb dX9_push_4 rfl (lv_at hl 0 rfl) ?_
    refine xgX9_3r hx hb hts hown hK hW a0 hcX9_push_X9 ok_a0.1 (lay_okT ok_a0) (hts _ hwX9_push_1) (s7_okT3 hst ok_a0) dX9_push_5 ?_
    refine x_alen hx hb hK hW (a0 + 3) (hI _ (okT_n3 ok_a0)) (lay_okT3 ok_a0) dX9_push_8 ?_
    refine lv_icmp_ge (tgt := 32) hx hb dX9_push_9 (by decide) (fun c1001 => ?_) (fun c1001 => ?_)
    · have h := h.1 c1001
      exact blk32    _ _ _ _ hW (lv_sub hl [] rfl) h
    · have h := h.2 c1001
      refine lv_aload_n hx hb dX9_push_12 rfl (lv_at hl 0 rfl) ?_
      refine xgX9_3r hx hb hts hown hK hW a0 hcX9_push_X9 ok_a0.1 (lay_okT ok_a0) (hts _ hwX9_push_1) (s7_okT3 hst ok_a0) dX9_push_13 ?_
      refine lv_aload_n hx hb dX9_push_16 rfl (lv_at hl 0 rfl) ?_
      refine xgX9_4 hx hb hts hown hK hW a0 hcX9_push_X9 ok_a0.1 (lay_okT ok_a0) (hts _ hwX9_push_0) dX9_push_17 ?_
      refine lv_iload_n hx hb dX9_push_20 rfl (lv_at hl 1 rfl) ?_
      obtain ⟨hi1002, h⟩ := h
      refine x_iast hx hb hK hW (a0 + 3) (hI _ (okT_n3 ok_a0)) (lay_okT3 ok_a0) hi1002 dX9_push_21 (fun σ1003 H locs hσ1003 hW => ?_)
      have h := h σ1003 hσ1003
      refine lv_aload_n hx hb dX9_push_22 rfl (lv_at hl 0 rfl) ?_
      refine lv_dup hx hb dX9_push_23 rfl ?_
      refine xgX9_4 hx hb hts hown hK hW a0 hcX9_push_X9 ok_a0.1 (lay_okT ok_a0) (hts _ hwX9_push_0) dX9_push_24 ?_
      refine lv_iconst (v := 1) hx hb dX9_push_27 (by decide) ?_
      refine lv_iadd hx hb dX9_push_28 ?_
      refine xpX9_4 hx hb hts hown hK hW a0 hcX9_push_X9 ok_a0.1 (lay_okT ok_a0) (hts _ hwX9_push_0) dX9_push_29 (fun σ1004 H locs hσ1004 hW => ?_)
      have h := h σ1004 hσ1004
      exact blk32    _ _ _ _ hW (lv_sub hl [] rfl) h
  exact main _ _ _ hW hl
set_option maxHeartbeats 4000000 in
set_option maxRecDepth 100000 in
theorem J_X9_joined {D : va_G} {KA : Nat → ClassId} {zs : ZS} {ad : Nat → Nat} {ids : List Nat} {sz : Nat} (l : Launch) (hI : ∀ c, n7 c → c ∈ ids) {st : Nat → Nat → Option Nat} (hst : ∀ c, n7 c → st c = stX c) {a0 : Int32} {a1 : Int32} {a2 : Int32}  {σ : St} {post : Int32 → St → Prop} (h : wX9_joined ids a0 a1 a2 σ post) : Met l yX9_joined wsX9_joined rmX9_joined (va_Pc [.int a0, .int a1, .int a2] (xIn D KA zs layX st ad ids sz σ)) (va_Qi post (xOut D KA layX st ad ids) (xA ad ids sz)) 0 0 (xA ad ids sz) := by
  refine Met.ofW (cc := cX9_joined) (maxL := 3) (ret := (some .int)) (by decide) rfl ?_
  intro p e s m args below meth c s₁ B hml hv
  obtain ⟨hav, hsz, hK, hZ, hP, hD⟩ := hv
  have hx := B.exec
  have hb := B.bytes
  have hr := B.returns
  have hts := atoms_spec (ws := wsX9_joined) B.pre
  have hown : s.vm.findClass RX9 = some m.cls := findClass_of_methodNamed B.named
  have hlocks := B.notSynchronized
  subst hsz
  have hA : ∀ q : Nat, s.heap.size ≤ q → xA ad ids s.heap.size q := fun q h => Or.inr h
  have hW : xW D KA layX st ad ids (xA ad ids s.heap.size) s.heap σ s.heap [] := ⟨hP, xA_D (D := D) hD, va_S.rf⟩
  have kr : ∀ (v : Int32) (σ : St) (H : Heap) (locs : List Loc) (ls : Array Slot) (pc : Nat), xW D KA layX st ad ids (xA ad ids s.heap.size) s.heap σ H locs → post v σ → decode cX9_joined pc = .ok (.ireturn, 1) → W p l e rmX9_joined s m args below meth c H locs 0 0 (MQ below (va_Qi post (xOut D KA layX st ad ids) (xA ad ids s.heap.size)) args s 0 0 (xA ad ids s.heap.size)) (F0 m pc ls [.int v]) := fun v σ H locs ls pc hW h hd => x_iret hx hb hr hlocks hW h hd
  have hl := lv_entry ([.int a0, .int a1, .int a2]) (n := 3) (Nat.le_of_ble_eq_true rfl)
  rw [show entryFrame m args 3 = entryFrame m ([.int a0, .int a1, .int a2] : List Value).toArray 3 from by rw [hav]]
  rw [lg_entry_eq]
  generalize (lg_sl ([.int a0, .int a1, .int a2]) ++ List.replicate (3 - (lg_sl ([.int a0, .int a1, .int a2])).length) Slot.unset).toArray = ls at hl ⊢
  have hl : lv_has ls 3 [(0, .int a0), (1, .int a1), (2, .int a2)] := hl
  show W p l e rmX9_joined s m args below meth c s.heap [] 0 0 _ _
  generalize MQ below (va_Qi post (xOut D KA layX st ad ids) (xA ad ids s.heap.size)) args s 0 0 (xA ad ids s.heap.size) = Q at kr ⊢
  have blk109 : ∀ (s0 : Int32) (σ : St) (H : Heap) (locs : List Loc) (ls : Array Slot), xW D KA layX st ad ids (xA ad ids s.heap.size) s.heap σ H locs → lv_has ls 3 [] → wX9_joined_109 ids post s0 σ → W p l e rmX9_joined s m args below meth c H locs 0 0 Q (F0 m 109 ls [.int s0]) := by
    intro   s0 σ H locs ls hW hl h
    unfold wX9_joined_109 at h
    exact kr _ _ _ _ _ _ hW h dX9_joined_109
  have blk98 : ∀ (s0 : Int32) (σ : St) (H : Heap) (locs : List Loc) (ls : Array Slot), xW D KA layX st ad ids (xA ad ids s.heap.size) s.heap σ H locs → lv_has ls 3 [] → wX9_joined_98 ids post s0 σ → W p l e rmX9_joined s m args below meth c H locs 0 0 Q (F0 m 98 ls [.int s0]) := by
    intro   s0 σ H locs ls hW hl h
    unfold wX9_joined_98 at h
    exact kr _ _ _ _ _ _ hW h dX9_joined_98
  have blk87 : ∀ (s0 : Int32) (σ : St) (H : Heap) (locs : List Loc) (ls : Array Slot), xW D KA layX st ad ids (xA ad ids s.heap.size) s.heap σ H locs → lv_has ls 3 [] → wX9_joined_87 ids post s0 σ → W p l e rmX9_joined s m args below meth c H locs 0 0 Q (F0 m 87 ls [.int s0]) := by
    intro   s0 σ H locs ls hW hl h
    unfold wX9_joined_87 at h
    exact kr _ _ _ _ _ _ hW h dX9_joined_87
  have blk86 : ∀ (σ : St) (H : Heap) (locs : List Loc) (ls : Array Slot), xW D KA layX st ad ids (xA ad ids s.heap.size) s.heap σ H locs → lv_has ls 3 [] → wX9_joined_86 ids post  σ → W p l e rmX9_joined s m args below meth c H locs 0 0 Q (F0 m 86 ls []) := by
    intro    σ H locs ls hW hl h
    unfold wX9_joined_86 at h
    refine lv_iconst (v := 0) hx hb dX9_joined_86 (by decide) ?_
    exact blk87   (0 : Int32) _ _ _ _ hW (lv_sub hl [] rfl) h
  have blk73 : ∀ (s0 : Int32) (σ : St) (H : Heap) (locs : List Loc) (ls : Array Slot), xW D KA layX st ad ids (xA ad ids s.heap.size) s.heap σ H locs → lv_has ls 3 [] → wX9_joined_73 ids post s0 σ → W p l e rmX9_joined s m args below meth c H locs 0 0 Q (F0 m 73 ls [.int s0]) := by
    intro   s0 σ H locs ls hW hl h
    unfold wX9_joined_73 at h
    exact kr _ _ _ _ _ _ hW h dX9_joined_73
  have blk68 : ∀ (σ : St) (H : Heap) (locs : List Loc) (ls : Array Slot), xW D KA layX st ad ids (xA ad ids s.heap.size) s.heap σ H locs → lv_has ls 3 [] → wX9_joined_68 ids post  σ → W p l e rmX9_joined s m args below meth c H locs 0 0 Q (F0 m 68 ls []) := by
    intro    σ H locs ls hW hl h
    unfold wX9_joined_68 at h
    refine lv_iconst (v := 1) hx hb dX9_joined_68 (by decide) ?_
    refine lv_goto (tgt := 73) hx hb dX9_joined_69 (by decide) ?_
    exact blk73   (1 : Int32) _ _ _ _ hW (lv_sub hl [] rfl) h
  have main : ∀ (H : Heap) (locs : List Loc) (ls : Array Slot), xW D KA layX st ad ids (xA ad ids s.heap.size) s.heap σ H locs → lv_has ls 3 [(0, .int a0), (1, .int a1), (2, .int a2)] → W p l e rmX9_joined s m args below meth c H locs 0 0 Q (F0 m 0 ls []) := by
    intro H locs ls hW hl
    unfold wX9_joined at h
    refine lv_iload_n hx hb dX9_joined_0 rfl (lv_at hl 1 rfl) ?_
    refine lv_topi (fun v1001 hv1001 => ?_)
    have h := h v1001 hv1001
    obtain ⟨hcase, h⟩ := h
    by_cases hc1_0 : v1001 = (38 : Int32)
    · have h := hcase hc1_0
      clear hcase
      refine lv_lookup (tgt := 74) hx hb dX9_joined_1 (by decide) (by rw [hc1_0] <;> decide) (by decide) ?_
      refine lv_iload_n hx hb dX9_joined_74 rfl (lv_at hl 0 rfl) ?_
      refine lv_if_eq (tgt := 86) hx hb dX9_joined_75 (by decide) (fun c1002 => ?_) (fun c1002 => ?_)
      · have h := h.1 c1002
        exact blk86    _ _ _ _ hW (lv_sub hl [] rfl) h
      · have h := h.2 c1002
        refine lv_iload_n hx hb dX9_joined_78 rfl (lv_at hl 2 rfl) ?_
        refine lv_if_eq (tgt := 86) hx hb dX9_joined_79 (by decide) (fun c1003 => ?_) (fun c1003 => ?_)
        · have h := h.1 c1003
          exact blk86    _ _ _ _ hW (lv_sub hl [] rfl) h
        · have h := h.2 c1003
          refine lv_iconst (v := 1) hx hb dX9_joined_82 (by decide) ?_
          refine lv_goto (tgt := 87) hx hb dX9_joined_83 (by decide) ?_
          exact blk87   (1 : Int32) _ _ _ _ hW (lv_sub hl [] rfl) h
    clear hcase
    obtain ⟨hcase, h⟩ := h
    by_cases hc1_1 : v1001 = (43 : Int32)
    · have h := hcase hc1_1
      clear hcase
      refine lv_lookup (tgt := 110) hx hb dX9_joined_1 (by decide) (by rw [hc1_1] <;> decide) (by decide) ?_
      refine lv_iload_n hx hb dX9_joined_110 rfl (lv_at hl 0 rfl) ?_
      refine lv_iload_n hx hb dX9_joined_111 rfl (lv_at hl 2 rfl) ?_
      refine lv_iadd hx hb dX9_joined_112 ?_
      exact kr _ _ _ _ _ _ hW h dX9_joined_113
    clear hcase
    obtain ⟨hcase, h⟩ := h
    by_cases hc1_2 : v1001 = (45 : Int32)
    · have h := hcase hc1_2
      clear hcase
      refine lv_lookup (tgt := 114) hx hb dX9_joined_1 (by decide) (by rw [hc1_2] <;> decide) (by decide) ?_
      refine lv_iload_n hx hb dX9_joined_114 rfl (lv_at hl 0 rfl) ?_
      refine lv_iload_n hx hb dX9_joined_115 rfl (lv_at hl 2 rfl) ?_
      refine lv_isub hx hb dX9_joined_116 ?_
      exact kr _ _ _ _ _ _ hW h dX9_joined_117
    clear hcase
    obtain ⟨hcase, h⟩ := h
    by_cases hc1_3 : v1001 = (60 : Int32)
    · have h := hcase hc1_3
      clear hcase
      refine lv_lookup (tgt := 88) hx hb dX9_joined_1 (by decide) (by rw [hc1_3] <;> decide) (by decide) ?_
      refine lv_iload_n hx hb dX9_joined_88 rfl (lv_at hl 0 rfl) ?_
      refine lv_iload_n hx hb dX9_joined_89 rfl (lv_at hl 2 rfl) ?_
      refine lv_icmp_ge (tgt := 97) hx hb dX9_joined_90 (by decide) (fun c1004 => ?_) (fun c1004 => ?_)
      · have h := h.1 c1004
        refine lv_iconst (v := 0) hx hb dX9_joined_97 (by decide) ?_
        exact blk98   (0 : Int32) _ _ _ _ hW (lv_sub hl [] rfl) h
      · have h := h.2 c1004
        refine lv_iconst (v := 1) hx hb dX9_joined_93 (by decide) ?_
        refine lv_goto (tgt := 98) hx hb dX9_joined_94 (by decide) ?_
        exact blk98   (1 : Int32) _ _ _ _ hW (lv_sub hl [] rfl) h
    clear hcase
    obtain ⟨hcase, h⟩ := h
    by_cases hc1_4 : v1001 = (61 : Int32)
    · have h := hcase hc1_4
      clear hcase
      refine lv_lookup (tgt := 99) hx hb dX9_joined_1 (by decide) (by rw [hc1_4] <;> decide) (by decide) ?_
      refine lv_iload_n hx hb dX9_joined_99 rfl (lv_at hl 0 rfl) ?_
      refine lv_iload_n hx hb dX9_joined_100 rfl (lv_at hl 2 rfl) ?_
      refine lv_icmp_ne (tgt := 108) hx hb dX9_joined_101 (by decide) (fun c1005 => ?_) (fun c1005 => ?_)
      · have h := h.1 c1005
        refine lv_iconst (v := 0) hx hb dX9_joined_108 (by decide) ?_
        exact blk109   (0 : Int32) _ _ _ _ hW (lv_sub hl [] rfl) h
      · have h := h.2 c1005
        refine lv_iconst (v := 1) hx hb dX9_joined_104 (by decide) ?_
        refine lv_goto (tgt := 109) hx hb dX9_joined_105 (by decide) ?_
        exact blk109   (1 : Int32) _ _ _ _ hW (lv_sub hl [] rfl) h
    clear hcase
    obtain ⟨hcase, h⟩ := h
    by_cases hc1_5 : v1001 = (124 : Int32)
    · have h := hcase hc1_5
      clear hcase
      refine lv_lookup (tgt := 60) hx hb dX9_joined_1 (by decide) (by rw [hc1_5] <;> decide) (by decide) ?_
      refine lv_iload_n hx hb dX9_joined_60 rfl (lv_at hl 0 rfl) ?_
      refine lv_if_ne (tgt := 68) hx hb dX9_joined_61 (by decide) (fun c1006 => ?_) (fun c1006 => ?_)
      · have h := h.1 c1006
        exact blk68    _ _ _ _ hW (lv_sub hl [] rfl) h
      · have h := h.2 c1006
        refine lv_iload_n hx hb dX9_joined_64 rfl (lv_at hl 2 rfl) ?_
        refine lv_if_eq (tgt := 72) hx hb dX9_joined_65 (by decide) (fun c1007 => ?_) (fun c1007 => ?_)
        · have h := h.1 c1007
          refine lv_iconst (v := 0) hx hb dX9_joined_72 (by decide) ?_
          exact blk73   (0 : Int32) _ _ _ _ hW (lv_sub hl [] rfl) h
        · have h := h.2 c1007
          exact blk68    _ _ _ _ hW (lv_sub hl [] rfl) h
    clear hcase
    have h := h ⟨hc1_0, hc1_1, hc1_2, hc1_3, hc1_4, hc1_5⟩
    refine lv_lookup (tgt := 118) hx hb dX9_joined_1 (by decide) (off := 117) (lsw_out v1001 _ _ (fun q hq => ?_)) (by decide) ?_
    · simp only [List.mem_cons, List.not_mem_nil, or_false] at hq
      rcases hq with rfl | rfl | rfl | rfl | rfl | rfl
      · exact fun hq => hc1_0 (Int32.toInt_inj.mp hq)
      · exact fun hq => hc1_1 (Int32.toInt_inj.mp hq)
      · exact fun hq => hc1_2 (Int32.toInt_inj.mp hq)
      · exact fun hq => hc1_3 (Int32.toInt_inj.mp hq)
      · exact fun hq => hc1_4 (Int32.toInt_inj.mp hq)
      · exact fun hq => hc1_5 (Int32.toInt_inj.mp hq)
    refine lv_iload_n hx hb dX9_joined_118 rfl (lv_at hl 0 rfl) ?_
    refine lv_iload_n hx hb dX9_joined_119 rfl (lv_at hl 2 rfl) ?_
    refine lv_imul hx hb dX9_joined_120 ?_
    exact kr _ _ _ _ _ _ hW h dX9_joined_121
  exact main _ _ _ hW hl
set_option maxHeartbeats 4000000 in
set_option maxRecDepth 100000 in
theorem J_X9_work {D : va_G} {KA : Nat → ClassId} {zs : ZS} {ad : Nat → Nat} {ids : List Nat} {sz : Nat} (l : Launch) (hI : ∀ c, n7 c → c ∈ ids) {st : Nat → Nat → Option Nat} (hst : ∀ c, n7 c → st c = stX c) {a0 : Nat} {a1 : Int32} (ok_a0 : okT ids a0) {σ : St} {post : St → Prop} (h : wX9_work ids a0 a1 σ post) : Met l yX9_work wsX9_work rmX9_work (va_Pc [.ref (ad a0), .int a1] (xIn D KA zs layX st ad ids sz σ)) (va_Qv post (xOut D KA layX st ad ids) (xA ad ids sz)) 0 0 (xA ad ids sz) := by
  refine Met.ofW (cc := cX9_work) (maxL := 3) (ret := none) (by decide) rfl ?_
  intro p e s m args below meth c s₁ B hml hv
  obtain ⟨hav, hsz, hK, hZ, hP, hD⟩ := hv
  have hx := B.exec
  have hb := B.bytes
  have hr := B.returns
  have hts := atoms_spec (ws := wsX9_work) B.pre
  have hown : s.vm.findClass RX9 = some m.cls := findClass_of_methodNamed B.named
  have hlocks := B.notSynchronized
  subst hsz
  have hA : ∀ q : Nat, s.heap.size ≤ q → xA ad ids s.heap.size q := fun q h => Or.inr h
  have hW : xW D KA layX st ad ids (xA ad ids s.heap.size) s.heap σ s.heap [] := ⟨hP, xA_D (D := D) hD, va_S.rf⟩
  have kr : ∀ (σ : St) (H : Heap) (locs : List Loc) (ls : Array Slot) (pc : Nat), xW D KA layX st ad ids (xA ad ids s.heap.size) s.heap σ H locs → post σ → decode cX9_work pc = .ok (.return_, 1) → W p l e rmX9_work s m args below meth c H locs 0 0 (MQ below (va_Qv post (xOut D KA layX st ad ids) (xA ad ids s.heap.size)) args s 0 0 (xA ad ids s.heap.size)) (F0 m pc ls []) := fun σ H locs ls pc hW h hd => x_vret hx hb hr hlocks hW h hd
  have hl := lv_entry ([.ref (ad a0), .int a1]) (n := 3) (Nat.le_of_ble_eq_true rfl)
  rw [show entryFrame m args 3 = entryFrame m ([.ref (ad a0), .int a1] : List Value).toArray 3 from by rw [hav]]
  rw [lg_entry_eq]
  generalize (lg_sl ([.ref (ad a0), .int a1]) ++ List.replicate (3 - (lg_sl ([.ref (ad a0), .int a1])).length) Slot.unset).toArray = ls at hl ⊢
  have hl : lv_has ls 3 [(0, .ref (ad a0)), (1, .int a1)] := hl
  show W p l e rmX9_work s m args below meth c s.heap [] 0 0 _ _
  generalize MQ below (va_Qv post (xOut D KA layX st ad ids) (xA ad ids s.heap.size)) args s 0 0 (xA ad ids s.heap.size) = Q at kr ⊢
  have blk70 : ∀ (σ : St) (H : Heap) (locs : List Loc) (ls : Array Slot), xW D KA layX st ad ids (xA ad ids s.heap.size) s.heap σ H locs → lv_has ls 3 [] → wX9_work_70 ids post  σ → W p l e rmX9_work s m args below meth c H locs 0 0 Q (F0 m 70 ls []) := by
    intro    σ H locs ls hW hl h
    unfold wX9_work_70 at h
    exact kr _ _ _ _ _ hW h dX9_work_70
  have blk42 : ∀ (s0 : Nat) (ok_s0 : okT ids s0) (s1 : Int32) (σ : St) (H : Heap) (locs : List Loc) (ls : Array Slot), xW D KA layX st ad ids (xA ad ids s.heap.size) s.heap σ H locs → lv_has ls 3 [] → wX9_work_42 ids post s0 s1 σ → W p l e rmX9_work s m args below meth c H locs 0 0 Q (F0 m 42 ls [.int s1, .ref (ad s0)]) := by
    intro   s0 ok_s0 s1 σ H locs ls hW hl h
    unfold wX9_work_42 at h
    refine x_callv (va_runV (As := [.int s1]) (rest := []) ⟨hx, hb, hml, hown, hts⟩ (J_X9_push l hI hst ok_s0 h) (cwV 1 hts gX9_work_X9_push rfl rfl rfl hdV_X9_push ⟨Nat.le_of_ble_eq_true rfl, Nat.le_of_ble_eq_true rfl⟩) (x_preV (ci := 9) hK hZ hA hW ok_s0.1 (lay_okT ok_s0) rfl) rfl rfl hl.1 rfl (lv_room (Nat.le_of_ble_eq_true rfl)) dX9_work_42 ⟨Nat.zero_le _, Nat.zero_le _⟩) hW hA (fun σ1 H locs h hW => ?_)
    try dsimp only at h
    refine lv_goto (tgt := 70) hx hb dX9_work_45 (by decide) ?_
    exact blk70    _ _ _ _ hW (lv_sub hl [] rfl) h
  have main : ∀ (H : Heap) (locs : List Loc) (ls : Array Slot), xW D KA layX st ad ids (xA ad ids s.heap.size) s.heap σ H locs → lv_has ls 3 [(0, .ref (ad a0)), (1, .int a1)] → W p l e rmX9_work s m args below meth c H locs 0 0 Q (F0 m 0 ls []) := by
    intro H locs ls hW hl
    unfold wX9_work at h
    refine lv_aload_n hx hb dX9_work_0 rfl (lv_at hl 0 rfl) ?_
    refine x_calli (va_runV (As := []) (rest := []) ⟨hx, hb, hml, hown, hts⟩ (J_X9_pop l hI hst ok_a0 h) (cwV 0 hts gX9_work_X9_pop rfl rfl rfl hdV_X9_pop ⟨Nat.le_of_ble_eq_true rfl, Nat.le_of_ble_eq_true rfl⟩) (x_preV (ci := 9) hK hZ hA hW ok_a0.1 (lay_okT ok_a0) rfl) rfl rfl hl.1 rfl (lv_room (Nat.le_of_ble_eq_true rfl)) dX9_work_1 ⟨Nat.zero_le _, Nat.zero_le _⟩) hW hA (fun r1002 σ1001 H locs h hW => ?_)
    try dsimp only at h
    refine lv_istore_n (lv' := [(2, .int r1002), (0, .ref (ad a0)), (1, .int a1)]) hx hb dX9_work_4 rfl hl (by decide) rfl (fun ls hl => ?_)
    refine lv_iload_n hx hb dX9_work_5 rfl (lv_at hl 2 rfl) ?_
    refine lv_topi (fun v1003 hv1003 => ?_)
    have h := h v1003 hv1003
    obtain ⟨hcase, h⟩ := h
    by_cases hc6_0 : v1003 = (33 : Int32)
    · have h := hcase hc6_0
      clear hcase
      refine lv_lookup (tgt := 32) hx hb dX9_work_6 (by decide) (by rw [hc6_0] <;> decide) (by decide) ?_
      refine lv_aload_n hx hb dX9_work_32 rfl (lv_at hl 1 rfl) ?_
      refine lv_iload_n hx hb dX9_work_33 rfl (lv_at hl 0 rfl) ?_
      refine lv_if_ne (tgt := 41) hx hb dX9_work_34 (by decide) (fun c1004 => ?_) (fun c1004 => ?_)
      · have h := h.1 c1004
        refine lv_iconst (v := 0) hx hb dX9_work_41 (by decide) ?_
        exact blk42   a0 ok_a0 (0 : Int32) _ _ _ _ hW (lv_sub hl [] rfl) h
      · have h := h.2 c1004
        refine lv_iconst (v := 1) hx hb dX9_work_37 (by decide) ?_
        refine lv_goto (tgt := 42) hx hb dX9_work_38 (by decide) ?_
        exact blk42   a0 ok_a0 (1 : Int32) _ _ _ _ hW (lv_sub hl [] rfl) h
    clear hcase
    obtain ⟨hcase, h⟩ := h
    by_cases hc6_1 : v1003 = (126 : Int32)
    · have h := hcase hc6_1
      clear hcase
      refine lv_lookup (tgt := 48) hx hb dX9_work_6 (by decide) (by rw [hc6_1] <;> decide) (by decide) ?_
      refine lv_aload_n hx hb dX9_work_48 rfl (lv_at hl 1 rfl) ?_
      refine lv_iload_n hx hb dX9_work_49 rfl (lv_at hl 0 rfl) ?_
      refine lv_ineg hx hb dX9_work_50 ?_
      refine x_callv (va_runV (As := [.int (-r1002)]) (rest := []) ⟨hx, hb, hml, hown, hts⟩ (J_X9_push l hI hst ok_a0 h) (cwV 1 hts gX9_work_X9_push rfl rfl rfl hdV_X9_push ⟨Nat.le_of_ble_eq_true rfl, Nat.le_of_ble_eq_true rfl⟩) (x_preV (ci := 9) hK hZ hA hW ok_a0.1 (lay_okT ok_a0) rfl) rfl rfl hl.1 rfl (lv_room (Nat.le_of_ble_eq_true rfl)) dX9_work_51 ⟨Nat.zero_le _, Nat.zero_le _⟩) hW hA (fun σ1005 H locs h hW => ?_)
      try dsimp only at h
      refine lv_goto (tgt := 70) hx hb dX9_work_54 (by decide) ?_
      exact blk70    _ _ _ _ hW (lv_sub hl [] rfl) h
    clear hcase
    have h := h ⟨hc6_0, hc6_1⟩
    refine lv_lookup (tgt := 57) hx hb dX9_work_6 (by decide) (off := 51) (lsw_out v1003 _ _ (fun q hq => ?_)) (by decide) ?_
    · simp only [List.mem_cons, List.not_mem_nil, or_false] at hq
      rcases hq with rfl | rfl
      · exact fun hq => hc6_0 (Int32.toInt_inj.mp hq)
      · exact fun hq => hc6_1 (Int32.toInt_inj.mp hq)
    refine lv_aload_n hx hb dX9_work_57 rfl (lv_at hl 1 rfl) ?_
    refine lv_aload_n hx hb dX9_work_58 rfl (lv_at hl 1 rfl) ?_
    refine x_calli (va_runV (As := []) (rest := [.ref (ad a0)]) ⟨hx, hb, hml, hown, hts⟩ (J_X9_pop l hI hst ok_a0 h) (cwV 0 hts gX9_work_X9_pop rfl rfl rfl hdV_X9_pop ⟨Nat.le_of_ble_eq_true rfl, Nat.le_of_ble_eq_true rfl⟩) (x_preV (ci := 9) hK hZ hA hW ok_a0.1 (lay_okT ok_a0) rfl) rfl rfl hl.1 rfl (lv_room (Nat.le_of_ble_eq_true rfl)) dX9_work_59 ⟨Nat.zero_le _, Nat.zero_le _⟩) hW hA (fun r1007 σ1006 H locs h hW => ?_)
    try dsimp only at h
    refine lv_iload_n hx hb dX9_work_62 rfl (lv_at hl 2 rfl) ?_
    refine lv_iload_n hx hb dX9_work_63 rfl (lv_at hl 0 rfl) ?_
    refine x_calli (va_runS (As := [.int r1007, .int a1, .int r1002]) (rest := [.ref (ad a0)]) ⟨hx, hb, hml, hown, hts⟩ (J_X9_joined l hI hst h) (va_cwS 3 hts gX9_work_X9_joined rfl rfl rfl hdS_X9_joined ⟨Nat.le_of_ble_eq_true rfl, Nat.le_of_ble_eq_true rfl⟩) (x_preS hK hZ hA hW) rfl rfl hl.1 rfl (lv_room (Nat.le_of_ble_eq_true rfl)) dX9_work_64 ⟨Nat.zero_le _, Nat.zero_le _⟩) hW hA (fun r1009 σ1008 H locs h hW => ?_)
    try dsimp only at h
    refine x_callv (va_runV (As := [.int r1009]) (rest := []) ⟨hx, hb, hml, hown, hts⟩ (J_X9_push l hI hst ok_a0 h) (cwV 1 hts gX9_work_X9_push rfl rfl rfl hdV_X9_push ⟨Nat.le_of_ble_eq_true rfl, Nat.le_of_ble_eq_true rfl⟩) (x_preV (ci := 9) hK hZ hA hW ok_a0.1 (lay_okT ok_a0) rfl) rfl rfl hl.1 rfl (lv_room (Nat.le_of_ble_eq_true rfl)) dX9_work_67 ⟨Nat.zero_le _, Nat.zero_le _⟩) hW hA (fun σ1010 H locs h hW => ?_)
    try dsimp only at h
    exact blk70    _ _ _ _ hW (lv_sub hl [] rfl) h
  exact main _ _ _ hW hl
theorem hwX9_says_0 : (.fieldLink RX9 15 "FortyBelts$Text" "ends" "[I" : Cond) ∈ wsX9_says := (List.mem_cons_of_mem _ (List.mem_append_left _ (List.mem_of_getElem? (i := 1) rfl)))
theorem hwX9_says_1 : (.fieldLink RX9 9 "FortyBelts$Text" "steps" "[I" : Cond) ∈ wsX9_says := (List.mem_cons_of_mem _ (List.mem_append_left _ (List.mem_of_getElem? (i := 2) rfl)))
theorem hwX9_says_2 : (.fieldLink RX9 29 "FortyBelts$Text" "valueCount" "I" : Cond) ∈ wsX9_says := (List.mem_cons_of_mem _ (List.mem_append_left _ (List.mem_of_getElem? (i := 0) rfl)))
theorem hcX9_says_X9 : ∀ w ∈ wsX90, w ∈ wsX9_says := fun _ h => (List.mem_cons_of_mem _ (List.mem_append_right _ h))
set_option maxHeartbeats 4000000 in
set_option maxRecDepth 100000 in
theorem J_X9_says {D : va_G} {KA : Nat → ClassId} {zs : ZS} {ad : Nat → Nat} {ids : List Nat} {sz : Nat} (l : Launch) (hI : ∀ c, n7 c → c ∈ ids) {st : Nat → Nat → Option Nat} (hst : ∀ c, n7 c → st c = stX c) {a0 : Nat} {a1 : Int32} {a2 : Nat} {n2 : Nat} (ok_a0 : okT ids a0) (hm_a2 : a2 ∈ ids) (hl_a2 : layX a2 = (1, n2)) {σ : St} {post : Int32 → St → Prop} (h : wX9_says ids a0 a1 a2 n2 σ post) : Met l yX9_says wsX9_says rmX9_says (va_Pc [.ref (ad a0), .int a1, .ref (ad a2)] (xIn D KA zs layX st ad ids sz σ)) (va_Qi post (xOut D KA layX st ad ids) (xA ad ids sz)) 0 0 (xA ad ids sz) := by
  refine Met.ofW (cc := cX9_says) (maxL := 5) (ret := (some .int)) (by decide) rfl ?_
  intro p e s m args below meth c s₁ B hml hv
  obtain ⟨hav, hsz, hK, hZ, hP, hD⟩ := hv
  have hx := B.exec
  have hb := B.bytes
  have hr := B.returns
  have hts := atoms_spec (ws := wsX9_says) B.pre
  have hown : s.vm.findClass RX9 = some m.cls := findClass_of_methodNamed B.named
  have hlocks := B.notSynchronized
  subst hsz
  have hA : ∀ q : Nat, s.heap.size ≤ q → xA ad ids s.heap.size q := fun q h => Or.inr h
  have hW : xW D KA layX st ad ids (xA ad ids s.heap.size) s.heap σ s.heap [] := ⟨hP, xA_D (D := D) hD, va_S.rf⟩
  have kr : ∀ (v : Int32) (σ : St) (H : Heap) (locs : List Loc) (ls : Array Slot) (pc : Nat), xW D KA layX st ad ids (xA ad ids s.heap.size) s.heap σ H locs → post v σ → decode cX9_says pc = .ok (.ireturn, 1) → W p l e rmX9_says s m args below meth c H locs 0 0 (MQ below (va_Qi post (xOut D KA layX st ad ids) (xA ad ids s.heap.size)) args s 0 0 (xA ad ids s.heap.size)) (F0 m pc ls [.int v]) := fun v σ H locs ls pc hW h hd => x_iret hx hb hr hlocks hW h hd
  have hl := lv_entry ([.ref (ad a0), .int a1, .ref (ad a2)]) (n := 5) (Nat.le_of_ble_eq_true rfl)
  rw [show entryFrame m args 5 = entryFrame m ([.ref (ad a0), .int a1, .ref (ad a2)] : List Value).toArray 5 from by rw [hav]]
  rw [lg_entry_eq]
  generalize (lg_sl ([.ref (ad a0), .int a1, .ref (ad a2)]) ++ List.replicate (5 - (lg_sl ([.ref (ad a0), .int a1, .ref (ad a2)])).length) Slot.unset).toArray = ls at hl ⊢
  have hl : lv_has ls 5 [(0, .ref (ad a0)), (1, .int a1), (2, .ref (ad a2))] := hl
  show W p l e rmX9_says s m args below meth c s.heap [] 0 0 _ _
  generalize MQ below (va_Qi post (xOut D KA layX st ad ids) (xA ad ids s.heap.size)) args s 0 0 (xA ad ids s.heap.size) = Q at kr ⊢
  have blk81 : ∀ (x0 : Nat) (ok_x0 : okT ids x0) (x1 : Int32) (k22 : Int32 → St → Prop) (hk22 : ∀ (x3 : Int32) (σ : St) (H : Heap) (locs : List Loc) (ls : Array Slot), xW D KA layX st ad ids (xA ad ids s.heap.size) s.heap σ H locs → lv_has ls 5 [(0, .ref (ad x0)), (1, .int x1), (2, .ref (ad a2)), (3, .int x3)] → k22 x3 σ → W p l e rmX9_says s m args below meth c H locs 0 0 Q (F0 m 22 ls [])) (x3 : Int32) (σ : St) (H : Heap) (locs : List Loc) (ls : Array Slot), xW D KA layX st ad ids (xA ad ids s.heap.size) s.heap σ H locs → lv_has ls 5 [(0, .ref (ad x0)), (1, .int x1), (2, .ref (ad a2)), (3, .int x3)] → wX9_says_81 ids a2 n2 k22 post x0 x1 x3 σ → W p l e rmX9_says s m args below meth c H locs 0 0 Q (F0 m 81 ls []) := by
    intro x0 ok_x0 x1 k22 hk22 x3 σ H locs ls hW hl h
    unfold wX9_says_81 at h
    obtain ⟨v1, hv1⟩ : ∃ y : Int32, y = x3 + (1 : Int32) := ⟨_, rfl⟩
    have h := h v1 hv1
    refine lv_iinc (v := v1) (lv' := [(3, .int v1), (0, .ref (ad x0)), (1, .int x1), (2, .ref (ad a2))]) hx hb dX9_says_81 hl (k := 3) rfl (by rw [hv1]; rfl) (by decide) rfl (fun ls hl => ?_)
    refine lv_goto (tgt := 22) hx hb dX9_says_84 (by decide) ?_
    exact hk22 v1 _ _ _ _ hW (lv_sub hl [1, 2, 3, 0] rfl) h
  have blk22 : ∀ (x0 : Nat) (ok_x0 : okT ids x0) (x1 : Int32) (n : Nat) (x3 : Int32) (σ : St) (H : Heap) (locs : List Loc) (ls : Array Slot), xW D KA layX st ad ids (xA ad ids s.heap.size) s.heap σ H locs → lv_has ls 5 [(0, .ref (ad x0)), (1, .int x1), (2, .ref (ad a2)), (3, .int x3)] → wX9_says_22 ids a2 n2 post x0 x1 n x3 σ → W p l e rmX9_says s m args below meth c H locs 0 0 Q (F0 m 22 ls []) := by
    intro   x0 ok_x0 x1 n
    induction n with
    | zero => intro x3 σ H locs ls hW hl h; exact (h : False).elim
    | succ n ih =>
      intro x3 σ H locs ls hW hl h
      have hk22 : ∀ (x3 : Int32) (σ : St) (H : Heap) (locs : List Loc) (ls : Array Slot), xW D KA layX st ad ids (xA ad ids s.heap.size) s.heap σ H locs → lv_has ls 5 [(0, .ref (ad x0)), (1, .int x1), (2, .ref (ad a2)), (3, .int x3)] → (wX9_says_22 ids a2 n2 post x0 x1 n) x3 σ → W p l e rmX9_says s m args below meth c H locs 0 0 Q (F0 m 22 ls []) := fun x3 σ H locs ls hW hl h => ih x3 σ H locs ls hW hl h
      rw [wX9_says_22_s] at h
      try dsimp only at h
      generalize wX9_says_22 ids a2 n2 post x0 x1 n = k22 at h hk22
      refine lv_iload_n hx hb dX9_says_22 rfl (lv_at hl 3 rfl) ?_
      refine lv_aload_n hx hb dX9_says_23 rfl (lv_at hl 0 rfl) ?_
      refine xgX9_2r hx hb hts hown hK hW x0 hcX9_says_X9 ok_x0.1 (lay_okT ok_x0) (hts _ hwX9_says_0) (s7_okT2 hst ok_x0) dX9_says_24 ?_
      refine lv_iload_n hx hb dX9_says_27 rfl (lv_at hl 1 rfl) ?_
      obtain ⟨hi2, h⟩ := h
      refine x_iald hx hb hK hW (x0 + 2) (hI _ (okT_n2 ok_x0)) (lay_okT2 ok_x0) hi2 dX9_says_28 ?_
      refine lv_icmp_ge (tgt := 87) hx hb dX9_says_29 (by decide) (fun c3 => ?_) (fun c3 => ?_)
      · have h := h.1 c3
        refine lv_aload_n hx hb dX9_says_87 rfl (lv_at hl 0 rfl) ?_
        refine x_calli (va_runV (As := []) (rest := []) ⟨hx, hb, hml, hown, hts⟩ (J_X9_pop l hI hst ok_x0 h) (cwV 0 hts gX9_says_X9_pop rfl rfl rfl hdV_X9_pop ⟨Nat.le_of_ble_eq_true rfl, Nat.le_of_ble_eq_true rfl⟩) (x_preV (ci := 9) hK hZ hA hW ok_x0.1 (lay_okT ok_x0) rfl) rfl rfl hl.1 rfl (lv_room (Nat.le_of_ble_eq_true rfl)) dX9_says_88 ⟨Nat.zero_le _, Nat.zero_le _⟩) hW hA (fun r5 σ4 H locs h hW => ?_)
        try dsimp only at h
        exact kr _ _ _ _ _ _ hW h dX9_says_91
      · have h := h.2 c3
        refine lv_aload_n hx hb dX9_says_32 rfl (lv_at hl 0 rfl) ?_
        refine xgX9_0r hx hb hts hown hK hW x0 hcX9_says_X9 ok_x0.1 (lay_okT ok_x0) (hts _ hwX9_says_1) (s7_okT1 hst ok_x0) dX9_says_33 ?_
        refine lv_iload_n hx hb dX9_says_36 rfl (lv_at hl 3 rfl) ?_
        obtain ⟨hi6, h⟩ := h
        refine x_iald hx hb hK hW (x0 + 1) (hI _ (okT_n1 ok_x0)) (lay_okT1 ok_x0) hi6 dX9_says_37 ?_
        refine lv_topi (fun v7 hv7 => ?_)
        have h := h v7 hv7
        refine lv_istore (lv' := [(4, .int v7), (0, .ref (ad x0)), (1, .int x1), (2, .ref (ad a2)), (3, .int x3)]) hx hb dX9_says_38 hl (by decide) rfl (fun ls hl => ?_)
        refine lv_iload hx hb dX9_says_40 (lv_at hl 0 rfl) ?_
        refine lv_if_lt (tgt := 54) hx hb dX9_says_42 (by decide) (fun c8 => ?_) (fun c8 => ?_)
        · have h := h.1 c8
          refine lv_iload hx hb dX9_says_54 (lv_at hl 0 rfl) ?_
          refine lv_bipush (v := (-6)) hx hb dX9_says_56 (by decide) ?_
          refine lv_icmp_lt (tgt := 74) hx hb dX9_says_58 (by decide) (fun c9 => ?_) (fun c9 => ?_)
          · have h := h.1 c9
            refine lv_aload_n hx hb dX9_says_74 rfl (lv_at hl 1 rfl) ?_
            refine lv_iload hx hb dX9_says_75 (lv_at hl 0 rfl) ?_
            refine lv_ineg hx hb dX9_says_77 ?_
            refine x_callv (va_runV (As := [.int (-v7)]) (rest := []) ⟨hx, hb, hml, hown, hts⟩ (J_X9_work l hI hst ok_x0 h) (cwV 1 hts gX9_says_X9_work rfl rfl rfl hdV_X9_work ⟨Nat.le_of_ble_eq_true rfl, Nat.le_of_ble_eq_true rfl⟩) (x_preV (ci := 9) hK hZ hA hW ok_x0.1 (lay_okT ok_x0) rfl) rfl rfl hl.1 rfl (lv_room (Nat.le_of_ble_eq_true rfl)) dX9_says_78 ⟨Nat.zero_le _, Nat.zero_le _⟩) hW hA (fun σ10 H locs h hW => ?_)
            try dsimp only at h
            exact blk81 x0 ok_x0 x1 k22 hk22 x3 _ _ _ _ hW (lv_sub hl [1, 2, 3, 4] rfl) h
          · have h := h.2 c9
            refine lv_aload_n hx hb dX9_says_61 rfl (lv_at hl 1 rfl) ?_
            refine lv_aload_n hx hb dX9_says_62 rfl (lv_at hl 3 rfl) ?_
            refine lv_iconst (v := (-1)) hx hb dX9_says_63 (by decide) ?_
            refine lv_iload hx hb dX9_says_64 (lv_at hl 0 rfl) ?_
            refine lv_isub hx hb dX9_says_66 ?_
            obtain ⟨hi11, h⟩ := h
            refine x_iald hx hb hK hW a2 hm_a2 hl_a2 hi11 dX9_says_67 ?_
            refine x_callv (va_runV (As := [.int (gI σ a2 ((-1 : Int32) - v7).toNatClampNeg)]) (rest := []) ⟨hx, hb, hml, hown, hts⟩ (J_X9_push l hI hst ok_x0 h) (cwV 1 hts gX9_says_X9_push rfl rfl rfl hdV_X9_push ⟨Nat.le_of_ble_eq_true rfl, Nat.le_of_ble_eq_true rfl⟩) (x_preV (ci := 9) hK hZ hA hW ok_x0.1 (lay_okT ok_x0) rfl) rfl rfl hl.1 rfl (lv_room (Nat.le_of_ble_eq_true rfl)) dX9_says_68 ⟨Nat.zero_le _, Nat.zero_le _⟩) hW hA (fun σ12 H locs h hW => ?_)
            try dsimp only at h
            refine lv_goto (tgt := 81) hx hb dX9_says_71 (by decide) ?_
            exact blk81 x0 ok_x0 x1 k22 hk22 x3 _ _ _ _ hW (lv_sub hl [1, 2, 3, 4] rfl) h
        · have h := h.2 c8
          refine lv_aload_n hx hb dX9_says_45 rfl (lv_at hl 1 rfl) ?_
          refine lv_iload hx hb dX9_says_46 (lv_at hl 0 rfl) ?_
          refine x_callv (va_runV (As := [.int v7]) (rest := []) ⟨hx, hb, hml, hown, hts⟩ (J_X9_push l hI hst ok_x0 h) (cwV 1 hts gX9_says_X9_push rfl rfl rfl hdV_X9_push ⟨Nat.le_of_ble_eq_true rfl, Nat.le_of_ble_eq_true rfl⟩) (x_preV (ci := 9) hK hZ hA hW ok_x0.1 (lay_okT ok_x0) rfl) rfl rfl hl.1 rfl (lv_room (Nat.le_of_ble_eq_true rfl)) dX9_says_48 ⟨Nat.zero_le _, Nat.zero_le _⟩) hW hA (fun σ13 H locs h hW => ?_)
          try dsimp only at h
          refine lv_goto (tgt := 81) hx hb dX9_says_51 (by decide) ?_
          exact blk81 x0 ok_x0 x1 k22 hk22 x3 _ _ _ _ hW (lv_sub hl [1, 2, 3, 4] rfl) h
  have blk21 : ∀ (x0 : Nat) (ok_x0 : okT ids x0) (x1 : Int32) (s0 : Int32) (σ : St) (H : Heap) (locs : List Loc) (ls : Array Slot), xW D KA layX st ad ids (xA ad ids s.heap.size) s.heap σ H locs → lv_has ls 5 [(0, .ref (ad x0)), (1, .int x1), (2, .ref (ad a2))] → wX9_says_21 ids a2 n2 post x0 x1 s0 σ → W p l e rmX9_says s m args below meth c H locs 0 0 Q (F0 m 21 ls [.int s0]) := by
    intro   x0 ok_x0 x1 s0 σ H locs ls hW hl h
    unfold wX9_says_21 at h
    refine lv_istore_n (lv' := [(3, .int s0), (0, .ref (ad x0)), (1, .int x1), (2, .ref (ad a2))]) hx hb dX9_says_21 rfl hl (by decide) rfl (fun ls hl => ?_)
    obtain ⟨n, h⟩ := h
    exact blk22   x0 ok_x0 x1 n s0 _ _ _ _ hW (lv_sub hl [1, 2, 3, 0] rfl) h
  have main : ∀ (H : Heap) (locs : List Loc) (ls : Array Slot), xW D KA layX st ad ids (xA ad ids s.heap.size) s.heap σ H locs → lv_has ls 5 [(0, .ref (ad a0)), (1, .int a1), (2, .ref (ad a2))] → W p l e rmX9_says s m args below meth c H locs 0 0 Q (F0 m 0 ls []) := by
    intro H locs ls hW hl
    unfold wX9_says at h
    refine lv_aload_n hx hb dX9_says_0 rfl (lv_at hl 0 rfl) ?_
    refine lv_iconst (v := 0) hx hb dX9_says_1 (by decide) ?_
    refine xpX9_4 hx hb hts hown hK hW a0 hcX9_says_X9 ok_a0.1 (lay_okT ok_a0) (hts _ hwX9_says_2) dX9_says_2 (fun σ1001 H locs hσ1001 hW => ?_)
    have h := h σ1001 hσ1001
    refine lv_iload_n hx hb dX9_says_5 rfl (lv_at hl 1 rfl) ?_
    refine lv_if_ne (tgt := 13) hx hb dX9_says_6 (by decide) (fun c1002 => ?_) (fun c1002 => ?_)
    · have h := h.1 c1002
      refine lv_aload_n hx hb dX9_says_13 rfl (lv_at hl 0 rfl) ?_
      refine xgX9_2r hx hb hts hown hK hW a0 hcX9_says_X9 ok_a0.1 (lay_okT ok_a0) (hts _ hwX9_says_0) (s7_okT2 hst ok_a0) dX9_says_14 ?_
      refine lv_iload_n hx hb dX9_says_17 rfl (lv_at hl 1 rfl) ?_
      refine lv_iconst (v := 1) hx hb dX9_says_18 (by decide) ?_
      refine lv_isub hx hb dX9_says_19 ?_
      obtain ⟨hi1003, h⟩ := h
      refine x_iald hx hb hK hW (a0 + 2) (hI _ (okT_n2 ok_a0)) (lay_okT2 ok_a0) hi1003 dX9_says_20 ?_
      exact blk21   a0 ok_a0 a1 (gI σ1001 (a0 + 2) (a1 - (1 : Int32)).toNatClampNeg) _ _ _ _ hW (lv_sub hl [0, 1, 2] rfl) h
    · have h := h.2 c1002
      refine lv_iconst (v := 0) hx hb dX9_says_9 (by decide) ?_
      refine lv_goto (tgt := 21) hx hb dX9_says_10 (by decide) ?_
      exact blk21   a0 ok_a0 a1 (0 : Int32) _ _ _ _ hW (lv_sub hl [0, 1, 2] rfl) h
  exact main _ _ _ hW hl
theorem hwX11_minds_0 : (.fieldLink RX11 54 "FortyBelts" "names" "[I" : Cond) ∈ wsX11_minds := (List.mem_cons_of_mem _ (List.mem_append_left _ (List.mem_append_left _ (List.mem_append_left _ (List.mem_append_left _ (List.mem_append_left _ (List.mem_of_getElem? (i := 0) rfl)))))))
theorem hwX11_minds_1 : (.fieldLink RX11 10 "FortyBelts" "mill" "LFortyBelts$Mill;" : Cond) ∈ wsX11_minds := (List.mem_cons_of_mem _ (List.mem_append_left _ (List.mem_append_left _ (List.mem_append_left _ (List.mem_append_left _ (List.mem_append_left _ (List.mem_of_getElem? (i := 1) rfl)))))))
theorem hwX11_minds_2 : (.fieldLink RX11 403 "FortyBelts$Machine" "shaft" "I" : Cond) ∈ wsX11_minds := (List.mem_cons_of_mem _ (List.mem_append_left _ (List.mem_append_left _ (List.mem_append_left _ (List.mem_append_left _ (List.mem_append_left _ (List.mem_of_getElem? (i := 2) rfl)))))))
theorem hwX11_minds_3 : (.fieldLink RX11 100 "FortyBelts$Machine" "load" "I" : Cond) ∈ wsX11_minds := (List.mem_cons_of_mem _ (List.mem_append_left _ (List.mem_append_left _ (List.mem_append_left _ (List.mem_append_left _ (List.mem_append_left _ (List.mem_of_getElem? (i := 3) rfl)))))))
theorem hwX11_minds_4 : (.fieldLink RX11 103 "FortyBelts$Machine" "hours" "I" : Cond) ∈ wsX11_minds := (List.mem_cons_of_mem _ (List.mem_append_left _ (List.mem_append_left _ (List.mem_append_left _ (List.mem_append_left _ (List.mem_append_left _ (List.mem_of_getElem? (i := 4) rfl)))))))
theorem hwX11_minds_5 : (.fieldLink RX11 25 "FortyBelts" "texts" "[LFortyBelts$Text;" : Cond) ∈ wsX11_minds := (List.mem_cons_of_mem _ (List.mem_append_left _ (List.mem_append_left _ (List.mem_append_left _ (List.mem_append_left _ (List.mem_append_left _ (List.mem_of_getElem? (i := 5) rfl)))))))
theorem hwX11_minds_6 : (.fieldLink RX11 243 "FortyBelts" "rule" "I" : Cond) ∈ wsX11_minds := (List.mem_cons_of_mem _ (List.mem_append_left _ (List.mem_append_left _ (List.mem_append_left _ (List.mem_append_left _ (List.mem_append_left _ (List.mem_of_getElem? (i := 6) rfl)))))))
theorem hcX11_minds_X11 : ∀ w ∈ wsX110, w ∈ wsX11_minds := fun _ h => (List.mem_cons_of_mem _ (List.mem_append_left _ (List.mem_append_left _ (List.mem_append_left _ (List.mem_append_right _ h)))))
theorem hcX11_minds_X5 : ∀ w ∈ wsX50, w ∈ wsX11_minds := fun _ h => (List.mem_cons_of_mem _ (List.mem_append_left _ (List.mem_append_left _ (List.mem_append_right _ h))))
set_option maxHeartbeats 4000000 in
set_option maxRecDepth 100000 in
theorem J_X11_minds {D : va_G} {KA : Nat → ClassId} {zs : ZS} {ad : Nat → Nat} {ids : List Nat} {sz : Nat} (l : Launch) (hI : ∀ c, c < 52 ∧ ¬ c = 19 → c ∈ ids) {a1 : Nat} {a2 : Int32} (ok_a1 : okM ids a1) {σ : St} {post : Int32 → St → Prop} (h : wX11_minds ids a1 a2 σ post) : Met l yX11_minds wsX11_minds rmX11_minds (va_Pc [.ref (ad 0), .ref (ad a1), .int a2] (xIn D KA zs layX stX ad ids sz σ)) (va_Qi post (xOut D KA layX stX ad ids) (xA ad ids sz)) 0 0 (xA ad ids sz) := by
  refine Met.ofW (cc := cX11_minds) (maxL := 3) (ret := (some .boolean)) (by decide) rfl ?_
  intro p e s m args below meth c s₁ B hml hv
  obtain ⟨hav, hsz, hK, hZ, hP, hD⟩ := hv
  have hx := B.exec
  have hb := B.bytes
  have hr := B.returns
  have hts := atoms_spec (ws := wsX11_minds) B.pre
  have hown : s.vm.findClass RX11 = some m.cls := findClass_of_methodNamed B.named
  have hlocks := B.notSynchronized
  subst hsz
  have hA : ∀ q : Nat, s.heap.size ≤ q → xA ad ids s.heap.size q := fun q h => Or.inr h
  have hW : xW D KA layX stX ad ids (xA ad ids s.heap.size) s.heap σ s.heap [] := ⟨hP, xA_D (D := D) hD, va_S.rf⟩
  have kr : ∀ (v : Int32) (σ : St) (H : Heap) (locs : List Loc) (ls : Array Slot) (pc : Nat), xW D KA layX stX ad ids (xA ad ids s.heap.size) s.heap σ H locs → isB v → post v σ → decode cX11_minds pc = .ok (.ireturn, 1) → W p l e rmX11_minds s m args below meth c H locs 0 0 (MQ below (va_Qi post (xOut D KA layX stX ad ids) (xA ad ids s.heap.size)) args s 0 0 (xA ad ids s.heap.size)) (F0 m pc ls [.int v]) := fun v σ H locs ls pc hW hz h hd => x_zret hx hb hr hlocks hW hz h hd
  have hl := lv_entry ([.ref (ad 0), .ref (ad a1), .int a2]) (n := 3) (Nat.le_of_ble_eq_true rfl)
  rw [show entryFrame m args 3 = entryFrame m ([.ref (ad 0), .ref (ad a1), .int a2] : List Value).toArray 3 from by rw [hav]]
  rw [lg_entry_eq]
  generalize (lg_sl ([.ref (ad 0), .ref (ad a1), .int a2]) ++ List.replicate (3 - (lg_sl ([.ref (ad 0), .ref (ad a1), .int a2])).length) Slot.unset).toArray = ls at hl ⊢
  have hl : lv_has ls 3 [(0, .ref (ad 0)), (1, .ref (ad a1)), (2, .int a2)] := hl
  show W p l e rmX11_minds s m args below meth c s.heap [] 0 0 _ _
  generalize MQ below (va_Qi post (xOut D KA layX stX ad ids) (xA ad ids s.heap.size)) args s 0 0 (xA ad ids s.heap.size) = Q at kr ⊢
  have blk83 : ∀ (s0 : Int32) (σ : St) (H : Heap) (locs : List Loc) (ls : Array Slot), xW D KA layX stX ad ids (xA ad ids s.heap.size) s.heap σ H locs → lv_has ls 3 [] → wX11_minds_83 ids post s0 σ → W p l e rmX11_minds s m args below meth c H locs 0 0 Q (F0 m 83 ls [.int s0]) := by
    intro   s0 σ H locs ls hW hl h
    unfold wX11_minds_83 at h
    obtain ⟨hz1, h⟩ := h
    exact kr _ _ _ _ _ _ hW hz1 h dX11_minds_83
  have main : ∀ (H : Heap) (locs : List Loc) (ls : Array Slot), xW D KA layX stX ad ids (xA ad ids s.heap.size) s.heap σ H locs → lv_has ls 3 [(0, .ref (ad 0)), (1, .ref (ad a1)), (2, .int a2)] → W p l e rmX11_minds s m args below meth c H locs 0 0 Q (F0 m 0 ls []) := by
    intro H locs ls hW hl
    unfold wX11_minds at h
    refine lv_aload_n hx hb dX11_minds_0 rfl (lv_at hl 0 rfl) ?_
    refine xgX11_5r hx hb hts hown hK hW 0 hcX11_minds_X11 (hI 0 (by decide)) lX_0 (hts _ hwX11_minds_0) (sX_0_5 _) dX11_minds_1 ?_
    refine lv_iconst (v := 0) hx hb dX11_minds_4 (by decide) ?_
    refine lv_iconst (v := 0) hx hb dX11_minds_5 (by decide) ?_
    obtain ⟨hi1001, h⟩ := h
    refine x_iast hx hb hK hW 15 (hI 15 (by decide)) lX_15 hi1001 dX11_minds_6 (fun σ1002 H locs hσ1002 hW => ?_)
    have h := h σ1002 hσ1002
    refine lv_aload_n hx hb dX11_minds_7 rfl (lv_at hl 0 rfl) ?_
    refine xgX11_5r hx hb hts hown hK hW 0 hcX11_minds_X11 (hI 0 (by decide)) lX_0 (hts _ hwX11_minds_0) (sX_0_5 _) dX11_minds_8 ?_
    refine lv_iconst (v := 1) hx hb dX11_minds_11 (by decide) ?_
    refine lv_aload_n hx hb dX11_minds_12 rfl (lv_at hl 0 rfl) ?_
    refine xgX11_0r hx hb hts hown hK hW 0 hcX11_minds_X11 (hI 0 (by decide)) lX_0 (hts _ hwX11_minds_1) (sX_0_0 _) dX11_minds_13 ?_
    refine lv_aload_n hx hb dX11_minds_16 rfl (lv_at hl 1 rfl) ?_
    refine xgX5_0 hx hb hts hown hK hW a1 hcX11_minds_X5 ok_a1.1 (lay_okM ok_a1) (hts _ hwX11_minds_2) dX11_minds_17 ?_
    refine x_calli (va_runV (As := [.int (gI σ1002 a1 0)]) (rest := [.int (1 : Int32), .ref (ad 15)]) ⟨hx, hb, hml, hown, hts⟩ (J_X6_cutTurns l hI h) (cwV 1 hts gX11_minds_X6_cutTurns rfl rfl rfl hdV_X6_cutTurns ⟨Nat.le_of_ble_eq_true rfl, Nat.le_of_ble_eq_true rfl⟩) (x_preV (ci := 6) hK hZ hA hW (hI 1 (by decide)) lX_1 rfl) rfl rfl hl.1 rfl (lv_room (Nat.le_of_ble_eq_true rfl)) dX11_minds_20 ⟨Nat.zero_le _, Nat.zero_le _⟩) hW hA (fun r1004 σ1003 H locs h hW => ?_)
    try dsimp only at h
    obtain ⟨hi1005, h⟩ := h
    refine x_iast hx hb hK hW 15 (hI 15 (by decide)) lX_15 hi1005 dX11_minds_23 (fun σ1006 H locs hσ1006 hW => ?_)
    have h := h σ1006 hσ1006
    refine lv_aload_n hx hb dX11_minds_24 rfl (lv_at hl 0 rfl) ?_
    refine xgX11_5r hx hb hts hown hK hW 0 hcX11_minds_X11 (hI 0 (by decide)) lX_0 (hts _ hwX11_minds_0) (sX_0_5 _) dX11_minds_25 ?_
    refine lv_iconst (v := 2) hx hb dX11_minds_28 (by decide) ?_
    refine lv_iload_n hx hb dX11_minds_29 rfl (lv_at hl 2 rfl) ?_
    obtain ⟨hi1007, h⟩ := h
    refine x_iast hx hb hK hW 15 (hI 15 (by decide)) lX_15 hi1007 dX11_minds_30 (fun σ1008 H locs hσ1008 hW => ?_)
    have h := h σ1008 hσ1008
    refine lv_aload_n hx hb dX11_minds_31 rfl (lv_at hl 0 rfl) ?_
    refine xgX11_5r hx hb hts hown hK hW 0 hcX11_minds_X11 (hI 0 (by decide)) lX_0 (hts _ hwX11_minds_0) (sX_0_5 _) dX11_minds_32 ?_
    refine lv_iconst (v := 3) hx hb dX11_minds_35 (by decide) ?_
    refine lv_aload_n hx hb dX11_minds_36 rfl (lv_at hl 1 rfl) ?_
    refine xgX5_3 hx hb hts hown hK hW a1 hcX11_minds_X5 ok_a1.1 (lay_okM ok_a1) (hts _ hwX11_minds_3) dX11_minds_37 ?_
    obtain ⟨hi1009, h⟩ := h
    refine x_iast hx hb hK hW 15 (hI 15 (by decide)) lX_15 hi1009 dX11_minds_40 (fun σ1010 H locs hσ1010 hW => ?_)
    have h := h σ1010 hσ1010
    refine lv_aload_n hx hb dX11_minds_41 rfl (lv_at hl 0 rfl) ?_
    refine xgX11_5r hx hb hts hown hK hW 0 hcX11_minds_X11 (hI 0 (by decide)) lX_0 (hts _ hwX11_minds_0) (sX_0_5 _) dX11_minds_42 ?_
    refine lv_iconst (v := 4) hx hb dX11_minds_45 (by decide) ?_
    refine lv_iconst (v := 0) hx hb dX11_minds_46 (by decide) ?_
    obtain ⟨hi1011, h⟩ := h
    refine x_iast hx hb hK hW 15 (hI 15 (by decide)) lX_15 hi1011 dX11_minds_47 (fun σ1012 H locs hσ1012 hW => ?_)
    have h := h σ1012 hσ1012
    refine lv_aload_n hx hb dX11_minds_48 rfl (lv_at hl 0 rfl) ?_
    refine xgX11_5r hx hb hts hown hK hW 0 hcX11_minds_X11 (hI 0 (by decide)) lX_0 (hts _ hwX11_minds_0) (sX_0_5 _) dX11_minds_49 ?_
    refine lv_iconst (v := 5) hx hb dX11_minds_52 (by decide) ?_
    refine lv_aload_n hx hb dX11_minds_53 rfl (lv_at hl 1 rfl) ?_
    refine xgX5_4 hx hb hts hown hK hW a1 hcX11_minds_X5 ok_a1.1 (lay_okM ok_a1) (hts _ hwX11_minds_4) dX11_minds_54 ?_
    obtain ⟨hi1013, h⟩ := h
    refine x_iast hx hb hK hW 15 (hI 15 (by decide)) lX_15 hi1013 dX11_minds_57 (fun σ1014 H locs hσ1014 hW => ?_)
    have h := h σ1014 hσ1014
    refine lv_aload_n hx hb dX11_minds_58 rfl (lv_at hl 0 rfl) ?_
    refine xgX11_2r hx hb hts hown hK hW 0 hcX11_minds_X11 (hI 0 (by decide)) lX_0 (hts _ hwX11_minds_5) (sX_0_2 _) dX11_minds_59 ?_
    refine lv_aload_n hx hb dX11_minds_62 rfl (lv_at hl 0 rfl) ?_
    refine xgX11_4 hx hb hts hown hK hW 0 hcX11_minds_X11 (hI 0 (by decide)) lX_0 (hts _ hwX11_minds_6) dX11_minds_63 ?_
    obtain ⟨hi1015, h⟩ := h
    refine x_ald hx hb hK hW 14 3 (hI 14 (by decide)) lX_14 rfl hi1015 (st_aokT hi1015) dX11_minds_66 ?_
    refine lv_iconst (v := 1) hx hb dX11_minds_67 (by decide) ?_
    refine lv_aload_n hx hb dX11_minds_68 rfl (lv_at hl 0 rfl) ?_
    refine xgX11_5r hx hb hts hown hK hW 0 hcX11_minds_X11 (hI 0 (by decide)) lX_0 (hts _ hwX11_minds_0) (sX_0_5 _) dX11_minds_69 ?_
    refine x_calli (va_runV (As := [.int (1 : Int32), .ref (ad 15)]) (rest := []) ⟨hx, hb, hml, hown, hts⟩ (J_X9_says l (fun c h => hI c (n7_lt h)) (fun _ _ => rfl) (okT_of hI hi1015) (hI 15 (by decide)) lX_15 h) (cwV 2 hts gX11_minds_X9_says rfl rfl rfl hdV_X9_says ⟨Nat.le_of_ble_eq_true rfl, Nat.le_of_ble_eq_true rfl⟩) (x_preV (ci := 9) hK hZ hA hW (okT_of hI hi1015).1 (lay_okT (okT_of hI hi1015)) rfl) rfl rfl hl.1 rfl (lv_room (Nat.le_of_ble_eq_true rfl)) dX11_minds_72 ⟨Nat.zero_le _, Nat.zero_le _⟩) hW hA (fun r1017 σ1016 H locs h hW => ?_)
    try dsimp only at h
    refine lv_if_eq (tgt := 82) hx hb dX11_minds_75 (by decide) (fun c1018 => ?_) (fun c1018 => ?_)
    · have h := h.1 c1018
      refine lv_iconst (v := 0) hx hb dX11_minds_82 (by decide) ?_
      exact blk83   (0 : Int32) _ _ _ _ hW (lv_sub hl [] rfl) h
    · have h := h.2 c1018
      refine lv_iconst (v := 1) hx hb dX11_minds_78 (by decide) ?_
      refine lv_goto (tgt := 83) hx hb dX11_minds_79 (by decide) ?_
      exact blk83   (1 : Int32) _ _ _ _ hW (lv_sub hl [] rfl) h
  exact main _ _ _ hW hl
