theorem hwX6_mostHours_0 : (.fieldLink RX6 59 "FortyBelts$Mill" "machineCount" "I" : Cond) ∈ wsX6_mostHours := (List.mem_cons_of_mem _ (List.mem_append_left _ (List.mem_append_left _ (List.mem_append_left _ (List.mem_append_left _ (List.mem_append_left _ (List.mem_append_left _ (List.mem_append_left _ (List.mem_append_left _ (List.mem_of_getElem? (i := 2) rfl))))))))))
theorem hwX6_mostHours_1 : (.fieldLink RX6 33 "FortyBelts$Mill" "machines" "[LFortyBelts$Machine;" : Cond) ∈ wsX6_mostHours := (List.mem_cons_of_mem _ (List.mem_append_left _ (List.mem_append_left _ (List.mem_append_left _ (List.mem_append_left _ (List.mem_append_left _ (List.mem_append_left _ (List.mem_append_left _ (List.mem_append_left _ (List.mem_of_getElem? (i := 3) rfl))))))))))
theorem hwX6_mostHours_2 : (.fieldLink RX6 141 "FortyBelts$Machine" "hours" "I" : Cond) ∈ wsX6_mostHours := (List.mem_cons_of_mem _ (List.mem_append_left _ (List.mem_append_left _ (List.mem_append_left _ (List.mem_append_left _ (List.mem_append_left _ (List.mem_append_left _ (List.mem_append_left _ (List.mem_append_left _ (List.mem_of_getElem? (i := 4) rfl))))))))))
theorem hwX6_mostHours_3 : (.methodLink RX6 144 Lib.Math.max.name : Cond) ∈ wsX6_mostHours := (List.mem_cons_of_mem _ (List.mem_append_left _ (List.mem_append_left _ (List.mem_append_left _ (List.mem_append_left _ (List.mem_append_left _ (List.mem_append_left _ (List.mem_append_left _ (List.mem_append_left _ (List.mem_of_getElem? (i := 5) rfl))))))))))
theorem hwX6_mostHours_4 : (.static Lib.Math.max.name : Cond) ∈ wsX6_mostHours := (List.mem_cons_of_mem _ (List.mem_append_left _ (List.mem_append_left _ (List.mem_append_left _ (List.mem_append_left _ (List.mem_append_left _ (List.mem_append_left _ (List.mem_append_left _ (List.mem_append_left _ (List.mem_of_getElem? (i := 6) rfl))))))))))
theorem hwX6_mostHours_5 : (.initialized "java/lang/Math" : Cond) ∈ wsX6_mostHours := (List.mem_cons_of_mem _ (List.mem_append_left _ (List.mem_append_left _ (List.mem_append_left _ (List.mem_append_left _ (List.mem_append_left _ (List.mem_append_left _ (List.mem_append_left _ (List.mem_append_left _ (List.mem_of_getElem? (i := 7) rfl))))))))))
theorem hwX6_mostHours_6 : (.code Lib.Math.max.name Lib.Math.max.code 2 (some .int) : Cond) ∈ wsX6_mostHours := (List.mem_cons_of_mem _ (List.mem_append_left _ (List.mem_append_left _ (List.mem_append_left _ (List.mem_append_left _ (List.mem_append_left _ (List.mem_append_left _ (List.mem_append_left _ (List.mem_append_left _ (List.mem_of_getElem? (i := 8) rfl))))))))))
theorem hwX6_mostHours_7 : (.fieldLink RX6 89 "FortyBelts$Belt" "on" "Z" : Cond) ∈ wsX6_mostHours := (List.mem_cons_of_mem _ (List.mem_append_left _ (List.mem_append_left _ (List.mem_append_left _ (List.mem_append_left _ (List.mem_append_left _ (List.mem_append_left _ (List.mem_append_left _ (List.mem_append_left _ (List.mem_of_getElem? (i := 0) rfl))))))))))
theorem hwX6_mostHours_8 : (.fieldLink RX6 68 "FortyBelts$Belt" "driven" "I" : Cond) ∈ wsX6_mostHours := (List.mem_cons_of_mem _ (List.mem_append_left _ (List.mem_append_left _ (List.mem_append_left _ (List.mem_append_left _ (List.mem_append_left _ (List.mem_append_left _ (List.mem_append_left _ (List.mem_append_left _ (List.mem_of_getElem? (i := 1) rfl))))))))))
theorem hcX6_mostHours_X6 : ∀ w ∈ wsX60, w ∈ wsX6_mostHours := fun _ h => (List.mem_cons_of_mem _ (List.mem_append_left _ (List.mem_append_right _ h)))
theorem hcX6_mostHours_X5 : ∀ w ∈ wsX50, w ∈ wsX6_mostHours := fun _ h => (List.mem_cons_of_mem _ (List.mem_append_right _ h))
theorem hcX6_mostHours_X0 : ∀ w ∈ wsX00, w ∈ wsX6_mostHours := fun _ h => (List.mem_cons_of_mem _ (List.mem_append_left _ (List.mem_append_left _ (List.mem_append_left _ (List.mem_append_left _ (List.mem_append_left _ (List.mem_append_left _ (List.mem_append_left _ (List.mem_append_right _ h)))))))))
theorem hcX6_mostHours_X1 : ∀ w ∈ wsX10, w ∈ wsX6_mostHours := fun _ h => (List.mem_cons_of_mem _ (List.mem_append_left _ (List.mem_append_left _ (List.mem_append_left _ (List.mem_append_left _ (List.mem_append_left _ (List.mem_append_left _ (List.mem_append_right _ h))))))))
theorem hcX6_mostHours_X2 : ∀ w ∈ wsX20, w ∈ wsX6_mostHours := fun _ h => (List.mem_cons_of_mem _ (List.mem_append_left _ (List.mem_append_left _ (List.mem_append_left _ (List.mem_append_left _ (List.mem_append_left _ (List.mem_append_right _ h)))))))
theorem hcX6_mostHours_X3 : ∀ w ∈ wsX30, w ∈ wsX6_mostHours := fun _ h => (List.mem_cons_of_mem _ (List.mem_append_left _ (List.mem_append_left _ (List.mem_append_left _ (List.mem_append_left _ (List.mem_append_right _ h))))))
theorem hcX6_mostHours_X4 : ∀ w ∈ wsX40, w ∈ wsX6_mostHours := fun _ h => (List.mem_cons_of_mem _ (List.mem_append_left _ (List.mem_append_left _ (List.mem_append_left _ (List.mem_append_right _ h)))))
theorem hcX6_mostHours_X10 : ∀ w ∈ wsX100, w ∈ wsX6_mostHours := fun _ h => (List.mem_cons_of_mem _ (List.mem_append_left _ (List.mem_append_left _ (List.mem_append_right _ h))))
theorem hBX6_mostHours : xHB wsX6_mostHours := ⟨hcX6_mostHours_X0, hcX6_mostHours_X1, hcX6_mostHours_X2, hcX6_mostHours_X3, hcX6_mostHours_X4, hcX6_mostHours_X10⟩
set_option maxHeartbeats 4000000 in
set_option maxRecDepth 100000 in
theorem J_X6_mostHours {D : va_G} {KA : Nat → ClassId} {zs : ZS} {ad : Nat → Nat} {ids : List Nat} {sz : Nat} (l : Launch) (hI : ∀ c, c < 52 ∧ ¬ c = 19 → c ∈ ids) {a1 : Nat} (ok_a1 : okB ids a1) {σ : St} {post : Int32 → St → Prop} (h : wX6_mostHours ids a1 σ post) : Met l yX6_mostHours wsX6_mostHours rmX6_mostHours (va_Pc [.ref (ad 1), .ref (ad a1)] (xIn D KA zs layX stX ad ids sz σ)) (va_Qi post (xOut D KA layX stX ad ids) (xA ad ids sz)) 0 0 (xA ad ids sz) := by
  refine Met.ofW (cc := cX6_mostHours) (maxL := 5) (ret := (some .int)) (by decide) rfl ?_
  intro p e s m args below meth c s₁ B hml hv
  obtain ⟨hav, hsz, hK, hZ, hP, hD⟩ := hv
  have hx := B.exec
  have hb := B.bytes
  have hr := B.returns
  have hts := atoms_spec (ws := wsX6_mostHours) B.pre
  have hown : s.vm.findClass RX6 = some m.cls := findClass_of_methodNamed B.named
  have hlocks := B.notSynchronized
  subst hsz
  have hA : ∀ q : Nat, s.heap.size ≤ q → xA ad ids s.heap.size q := fun q h => Or.inr h
  have hW : xW D KA layX stX ad ids (xA ad ids s.heap.size) s.heap σ s.heap [] := ⟨hP, xA_D (D := D) hD, va_S.rf⟩
  have kr : ∀ (v : Int32) (σ : St) (H : Heap) (locs : List Loc) (ls : Array Slot) (pc : Nat), xW D KA layX stX ad ids (xA ad ids s.heap.size) s.heap σ H locs → post v σ → decode cX6_mostHours pc = .ok (.ireturn, 1) → W p l e rmX6_mostHours s m args below meth c H locs 0 0 (MQ below (va_Qi post (xOut D KA layX stX ad ids) (xA ad ids s.heap.size)) args s 0 0 (xA ad ids s.heap.size)) (F0 m pc ls [.int v]) := fun v σ H locs ls pc hW h hd => x_iret hx hb hr hlocks hW h hd
  have hl := lv_entry ([.ref (ad 1), .ref (ad a1)]) (n := 5) (Nat.le_of_ble_eq_true rfl)
  rw [show entryFrame m args 5 = entryFrame m ([.ref (ad 1), .ref (ad a1)] : List Value).toArray 5 from by rw [hav]]
  rw [lg_entry_eq]
  generalize (lg_sl ([.ref (ad 1), .ref (ad a1)]) ++ List.replicate (5 - (lg_sl ([.ref (ad 1), .ref (ad a1)])).length) Slot.unset).toArray = ls at hl ⊢
  have hl : lv_has ls 5 [(0, .ref (ad 1)), (1, .ref (ad a1))] := hl
  show W p l e rmX6_mostHours s m args below meth c s.heap [] 0 0 _ _
  generalize MQ below (va_Qi post (xOut D KA layX stX ad ids) (xA ad ids s.heap.size)) args s 0 0 (xA ad ids s.heap.size) = Q at kr ⊢
  have blk63 : ∀ (x3 : Int32) (k29 : Int32 → Int32 → St → Prop) (hk29 : ∀ (x2 : Int32) (x4 : Int32) (σ : St) (H : Heap) (locs : List Loc) (ls : Array Slot), xW D KA layX stX ad ids (xA ad ids s.heap.size) s.heap σ H locs → lv_has ls 5 [(0, .ref (ad 1)), (2, .int x2), (3, .int x3), (4, .int x4)] → k29 x2 x4 σ → W p l e rmX6_mostHours s m args below meth c H locs 0 0 Q (F0 m 29 ls [])) (x2 : Int32) (x4 : Int32) (σ : St) (H : Heap) (locs : List Loc) (ls : Array Slot), xW D KA layX stX ad ids (xA ad ids s.heap.size) s.heap σ H locs → lv_has ls 5 [(0, .ref (ad 1)), (2, .int x2), (3, .int x3), (4, .int x4)] → wX6_mostHours_63 ids k29 post x2 x3 x4 σ → W p l e rmX6_mostHours s m args below meth c H locs 0 0 Q (F0 m 63 ls []) := by
    intro x3 k29 hk29 x2 x4 σ H locs ls hW hl h
    unfold wX6_mostHours_63 at h
    obtain ⟨v1, hv1⟩ : ∃ y : Int32, y = x4 + (1 : Int32) := ⟨_, rfl⟩
    have h := h v1 hv1
    refine lv_iinc (v := v1) (lv' := [(4, .int v1), (0, .ref (ad 1)), (2, .int x2), (3, .int x3)]) hx hb dX6_mostHours_63 hl (k := 3) rfl (by rw [hv1]; rfl) (by decide) rfl (fun ls hl => ?_)
    refine lv_goto (tgt := 29) hx hb dX6_mostHours_66 (by decide) ?_
    exact hk29 x2 v1 _ _ _ _ hW (lv_sub hl [1, 2, 3, 0] rfl) h
  have blk29 : ∀ (x3 : Int32) (n : Nat) (x2 : Int32) (x4 : Int32) (σ : St) (H : Heap) (locs : List Loc) (ls : Array Slot), xW D KA layX stX ad ids (xA ad ids s.heap.size) s.heap σ H locs → lv_has ls 5 [(0, .ref (ad 1)), (2, .int x2), (3, .int x3), (4, .int x4)] → wX6_mostHours_29 ids post x3 n x2 x4 σ → W p l e rmX6_mostHours s m args below meth c H locs 0 0 Q (F0 m 29 ls []) := by
    intro   x3 n
    induction n with
    | zero => intro x2 x4 σ H locs ls hW hl h; exact (h : False).elim
    | succ n ih =>
      intro x2 x4 σ H locs ls hW hl h
      have hk29 : ∀ (x2 : Int32) (x4 : Int32) (σ : St) (H : Heap) (locs : List Loc) (ls : Array Slot), xW D KA layX stX ad ids (xA ad ids s.heap.size) s.heap σ H locs → lv_has ls 5 [(0, .ref (ad 1)), (2, .int x2), (3, .int x3), (4, .int x4)] → (wX6_mostHours_29 ids post x3 n) x2 x4 σ → W p l e rmX6_mostHours s m args below meth c H locs 0 0 Q (F0 m 29 ls []) := fun x2 x4 σ H locs ls hW hl h => ih x2 x4 σ H locs ls hW hl h
      rw [wX6_mostHours_29_s] at h
      try dsimp only at h
      generalize wX6_mostHours_29 ids post x3 n = k29 at h hk29
      refine lv_iload hx hb dX6_mostHours_29 (lv_at hl 3 rfl) ?_
      refine lv_aload_n hx hb dX6_mostHours_31 rfl (lv_at hl 0 rfl) ?_
      refine xgX6_1 hx hb hts hown hK hW 1 hcX6_mostHours_X6 (hI 1 (by decide)) lX_1 (hts _ hwX6_mostHours_0) dX6_mostHours_32 ?_
      refine lv_icmp_ge (tgt := 69) hx hb dX6_mostHours_35 (by decide) (fun c2 => ?_) (fun c2 => ?_)
      · have h := h.1 c2
        refine lv_iload_n hx hb dX6_mostHours_69 rfl (lv_at hl 1 rfl) ?_
        exact kr _ _ _ _ _ _ hW h dX6_mostHours_70
      · have h := h.2 c2
        refine lv_iload_n hx hb dX6_mostHours_38 rfl (lv_at hl 2 rfl) ?_
        refine lv_iload hx hb dX6_mostHours_39 (lv_at hl 3 rfl) ?_
        refine lv_ishr hx hb dX6_mostHours_41 ?_
        refine lv_iconst (v := 1) hx hb dX6_mostHours_42 (by decide) ?_
        refine lv_iand hx hb dX6_mostHours_43 ?_
        refine lv_iconst (v := 1) hx hb dX6_mostHours_44 (by decide) ?_
        refine lv_icmp_ne (tgt := 63) hx hb dX6_mostHours_45 (by decide) (fun c3 => ?_) (fun c3 => ?_)
        · have h := h.1 c3
          exact blk63 x3 k29 hk29 x2 x4 _ _ _ _ hW (lv_sub hl [0, 1, 2, 3] rfl) h
        · have h := h.2 c3
          refine lv_iload_n hx hb dX6_mostHours_48 rfl (lv_at hl 1 rfl) ?_
          refine lv_aload_n hx hb dX6_mostHours_49 rfl (lv_at hl 0 rfl) ?_
          refine xgX6_10r hx hb hts hown hK hW 1 hcX6_mostHours_X6 (hI 1 (by decide)) lX_1 (hts _ hwX6_mostHours_1) (sX_1_10 _) dX6_mostHours_50 ?_
          refine lv_iload hx hb dX6_mostHours_53 (lv_at hl 3 rfl) ?_
          obtain ⟨hi4, h⟩ := h
          obtain ⟨o5, hr6, ok_o5, h⟩ := h
          refine x_ald hx hb hK hW 9 1 (hI 9 (by decide)) lX_9 rfl hi4 ((sX_9 _ _).trans hr6) dX6_mostHours_55 ?_
          refine xgX5_4 hx hb hts hown hK hW o5 hcX6_mostHours_X5 ok_o5.1 (lay_okM ok_o5) (hts _ hwX6_mostHours_2) dX6_mostHours_56 ?_
          refine va_mmax hx hb (hml.trans hl.1.symm) hown (hts _ hwX6_mostHours_3) (hts _ hwX6_mostHours_4) (hts _ hwX6_mostHours_5) (hts _ hwX6_mostHours_6) (Nat.le_of_ble_eq_true rfl) (Nat.le_of_ble_eq_true rfl) (Nat.le_of_ble_eq_true rfl) (Nat.le_of_ble_eq_true rfl) dX6_mostHours_59 ?_
          refine lv_topi (fun v7 hv7 => ?_)
          have h := h v7 hv7
          refine lv_istore_n (lv' := [(2, .int v7), (0, .ref (ad 1)), (3, .int x3), (4, .int x4)]) hx hb dX6_mostHours_62 rfl hl (by decide) rfl (fun ls hl => ?_)
          exact blk63 x3 k29 hk29 v7 x4 _ _ _ _ hW (lv_sub hl [1, 0, 2, 3] rfl) h
  have blk25 : ∀ (x2 : Int32) (s0 : Int32) (σ : St) (H : Heap) (locs : List Loc) (ls : Array Slot), xW D KA layX stX ad ids (xA ad ids s.heap.size) s.heap σ H locs → lv_has ls 5 [(0, .ref (ad 1)), (2, .int x2)] → wX6_mostHours_25 ids post x2 s0 σ → W p l e rmX6_mostHours s m args below meth c H locs 0 0 Q (F0 m 25 ls [.int s0]) := by
    intro   x2 s0 σ H locs ls hW hl h
    unfold wX6_mostHours_25 at h
    refine lv_istore_n (lv' := [(3, .int s0), (0, .ref (ad 1)), (2, .int x2)]) hx hb dX6_mostHours_25 rfl hl (by decide) rfl (fun ls hl => ?_)
    refine lv_iconst (v := 0) hx hb dX6_mostHours_26 (by decide) ?_
    refine lv_istore (lv' := [(4, .int (0 : Int32)), (3, .int s0), (0, .ref (ad 1)), (2, .int x2)]) hx hb dX6_mostHours_27 hl (by decide) rfl (fun ls hl => ?_)
    obtain ⟨n, h⟩ := h
    exact blk29   s0 n x2 (0 : Int32) _ _ _ _ hW (lv_sub hl [2, 3, 1, 0] rfl) h
  have main : ∀ (H : Heap) (locs : List Loc) (ls : Array Slot), xW D KA layX stX ad ids (xA ad ids s.heap.size) s.heap σ H locs → lv_has ls 5 [(0, .ref (ad 1)), (1, .ref (ad a1))] → W p l e rmX6_mostHours s m args below meth c H locs 0 0 Q (F0 m 0 ls []) := by
    intro H locs ls hW hl
    unfold wX6_mostHours at h
    refine lv_iconst (v := 0) hx hb dX6_mostHours_0 (by decide) ?_
    refine lv_istore_n (lv' := [(2, .int (0 : Int32)), (0, .ref (ad 1)), (1, .ref (ad a1))]) hx hb dX6_mostHours_1 rfl hl (by decide) rfl (fun ls hl => ?_)
    refine lv_aload_n hx hb dX6_mostHours_2 rfl (lv_at hl 2 rfl) ?_
    refine xgB_8 hx hb hts hown hK hW a1 hBX6_mostHours ok_a1 (hts _ hwX6_mostHours_7) (fun _ h => h) dX6_mostHours_3 ?_
    refine lv_if_eq (tgt := 24) hx hb dX6_mostHours_6 (by decide) (fun c1001 => ?_) (fun c1001 => ?_)
    · have h := h.1 c1001
      refine lv_iconst (v := 0) hx hb dX6_mostHours_24 (by decide) ?_
      exact blk25   (0 : Int32) (0 : Int32) _ _ _ _ hW (lv_sub hl [1, 0] rfl) h
    · have h := h.2 c1001
      refine lv_aload_n hx hb dX6_mostHours_9 rfl (lv_at hl 1 rfl) ?_
      refine lv_aload_n hx hb dX6_mostHours_10 rfl (lv_at hl 1 rfl) ?_
      refine lv_aload_n hx hb dX6_mostHours_11 rfl (lv_at hl 2 rfl) ?_
      refine xgB_2 hx hb hts hown hK hW a1 hBX6_mostHours ok_a1 (hts _ hwX6_mostHours_8) (fun _ h => h) dX6_mostHours_12 ?_
      refine x_calli (va_runV (As := [.int (gI σ a1 2)]) (rest := [.ref (ad 1)]) ⟨hx, hb, hml, hown, hts⟩ (J_X6_shaftsFrom l hI h) (cwV 1 hts gX6_mostHours_X6_shaftsFrom rfl rfl rfl hdV_X6_shaftsFrom ⟨Nat.le_of_ble_eq_true rfl, Nat.le_of_ble_eq_true rfl⟩) (x_preV (ci := 6) hK hZ hA hW (hI 1 (by decide)) lX_1 rfl) rfl rfl hl.1 rfl (lv_room (Nat.le_of_ble_eq_true rfl)) dX6_mostHours_15 ⟨Nat.zero_le _, Nat.zero_le _⟩) hW hA (fun r1003 σ1002 H locs h hW => ?_)
      try dsimp only at h
      refine x_calli (va_runV (As := [.int r1003]) (rest := []) ⟨hx, hb, hml, hown, hts⟩ (J_X6_machinesOn l hI h) (cwV 1 hts gX6_mostHours_X6_machinesOn rfl rfl rfl hdV_X6_machinesOn ⟨Nat.le_of_ble_eq_true rfl, Nat.le_of_ble_eq_true rfl⟩) (x_preV (ci := 6) hK hZ hA hW (hI 1 (by decide)) lX_1 rfl) rfl rfl hl.1 rfl (lv_room (Nat.le_of_ble_eq_true rfl)) dX6_mostHours_18 ⟨Nat.zero_le _, Nat.zero_le _⟩) hW hA (fun r1005 σ1004 H locs h hW => ?_)
      try dsimp only at h
      refine lv_goto (tgt := 25) hx hb dX6_mostHours_21 (by decide) ?_
      exact blk25   (0 : Int32) r1005 _ _ _ _ hW (lv_sub hl [1, 0] rfl) h
  exact main _ _ _ hW hl
theorem hwX6_pull_0 : (.fieldLink RX6 89 "FortyBelts$Belt" "on" "Z" : Cond) ∈ wsX6_pull := (List.mem_cons_of_mem _ (List.mem_append_left _ (List.mem_append_left _ (List.mem_append_left _ (List.mem_append_left _ (List.mem_append_left _ (List.mem_append_left _ (List.mem_append_left _ (List.mem_append_left _ (List.mem_append_left _ (List.mem_of_getElem? (i := 0) rfl)))))))))))
theorem hwX6_pull_1 : (.fieldLink RX6 68 "FortyBelts$Belt" "driven" "I" : Cond) ∈ wsX6_pull := (List.mem_cons_of_mem _ (List.mem_append_left _ (List.mem_append_left _ (List.mem_append_left _ (List.mem_append_left _ (List.mem_append_left _ (List.mem_append_left _ (List.mem_append_left _ (List.mem_append_left _ (List.mem_append_left _ (List.mem_of_getElem? (i := 1) rfl)))))))))))
theorem hcX6_pull_X0 : ∀ w ∈ wsX00, w ∈ wsX6_pull := fun _ h => (List.mem_cons_of_mem _ (List.mem_append_left _ (List.mem_append_left _ (List.mem_append_left _ (List.mem_append_left _ (List.mem_append_left _ (List.mem_append_left _ (List.mem_append_left _ (List.mem_append_right _ h)))))))))
theorem hcX6_pull_X1 : ∀ w ∈ wsX10, w ∈ wsX6_pull := fun _ h => (List.mem_cons_of_mem _ (List.mem_append_left _ (List.mem_append_left _ (List.mem_append_left _ (List.mem_append_left _ (List.mem_append_left _ (List.mem_append_left _ (List.mem_append_right _ h))))))))
theorem hcX6_pull_X2 : ∀ w ∈ wsX20, w ∈ wsX6_pull := fun _ h => (List.mem_cons_of_mem _ (List.mem_append_left _ (List.mem_append_left _ (List.mem_append_left _ (List.mem_append_left _ (List.mem_append_left _ (List.mem_append_right _ h)))))))
theorem hcX6_pull_X3 : ∀ w ∈ wsX30, w ∈ wsX6_pull := fun _ h => (List.mem_cons_of_mem _ (List.mem_append_left _ (List.mem_append_left _ (List.mem_append_left _ (List.mem_append_left _ (List.mem_append_right _ h))))))
theorem hcX6_pull_X4 : ∀ w ∈ wsX40, w ∈ wsX6_pull := fun _ h => (List.mem_cons_of_mem _ (List.mem_append_left _ (List.mem_append_left _ (List.mem_append_left _ (List.mem_append_right _ h)))))
theorem hcX6_pull_X10 : ∀ w ∈ wsX100, w ∈ wsX6_pull := fun _ h => (List.mem_cons_of_mem _ (List.mem_append_left _ (List.mem_append_left _ (List.mem_append_right _ h))))
theorem hBX6_pull : xHB wsX6_pull := ⟨hcX6_pull_X0, hcX6_pull_X1, hcX6_pull_X2, hcX6_pull_X3, hcX6_pull_X4, hcX6_pull_X10⟩
set_option maxHeartbeats 4000000 in
set_option maxRecDepth 100000 in
theorem J_X6_pull {D : va_G} {KA : Nat → ClassId} {zs : ZS} {ad : Nat → Nat} {ids : List Nat} {sz : Nat} (l : Launch) (hI : ∀ c, c < 52 ∧ ¬ c = 19 → c ∈ ids) {a1 : Nat} (ok_a1 : okB ids a1) {σ : St} {post : Int32 → St → Prop} (h : wX6_pull ids a1 σ post) : Met l yX6_pull wsX6_pull rmX6_pull (va_Pc [.ref (ad 1), .ref (ad a1)] (xIn D KA zs layX stX ad ids sz σ)) (va_Qi post (xOut D KA layX stX ad ids) (xA ad ids sz)) 0 0 (xA ad ids sz) := by
  refine Met.ofW (cc := cX6_pull) (maxL := 2) (ret := (some .int)) (by decide) rfl ?_
  intro p e s m args below meth c s₁ B hml hv
  obtain ⟨hav, hsz, hK, hZ, hP, hD⟩ := hv
  have hx := B.exec
  have hb := B.bytes
  have hr := B.returns
  have hts := atoms_spec (ws := wsX6_pull) B.pre
  have hown : s.vm.findClass RX6 = some m.cls := findClass_of_methodNamed B.named
  have hlocks := B.notSynchronized
  subst hsz
  have hA : ∀ q : Nat, s.heap.size ≤ q → xA ad ids s.heap.size q := fun q h => Or.inr h
  have hW : xW D KA layX stX ad ids (xA ad ids s.heap.size) s.heap σ s.heap [] := ⟨hP, xA_D (D := D) hD, va_S.rf⟩
  have kr : ∀ (v : Int32) (σ : St) (H : Heap) (locs : List Loc) (ls : Array Slot) (pc : Nat), xW D KA layX stX ad ids (xA ad ids s.heap.size) s.heap σ H locs → post v σ → decode cX6_pull pc = .ok (.ireturn, 1) → W p l e rmX6_pull s m args below meth c H locs 0 0 (MQ below (va_Qi post (xOut D KA layX stX ad ids) (xA ad ids s.heap.size)) args s 0 0 (xA ad ids s.heap.size)) (F0 m pc ls [.int v]) := fun v σ H locs ls pc hW h hd => x_iret hx hb hr hlocks hW h hd
  have hl := lv_entry ([.ref (ad 1), .ref (ad a1)]) (n := 2) (Nat.le_of_ble_eq_true rfl)
  rw [show entryFrame m args 2 = entryFrame m ([.ref (ad 1), .ref (ad a1)] : List Value).toArray 2 from by rw [hav]]
  rw [lg_entry_eq]
  generalize (lg_sl ([.ref (ad 1), .ref (ad a1)]) ++ List.replicate (2 - (lg_sl ([.ref (ad 1), .ref (ad a1)])).length) Slot.unset).toArray = ls at hl ⊢
  have hl : lv_has ls 2 [(0, .ref (ad 1)), (1, .ref (ad a1))] := hl
  show W p l e rmX6_pull s m args below meth c s.heap [] 0 0 _ _
  generalize MQ below (va_Qi post (xOut D KA layX stX ad ids) (xA ad ids s.heap.size)) args s 0 0 (xA ad ids s.heap.size) = Q at kr ⊢
  have blk23 : ∀ (s0 : Int32) (σ : St) (H : Heap) (locs : List Loc) (ls : Array Slot), xW D KA layX stX ad ids (xA ad ids s.heap.size) s.heap σ H locs → lv_has ls 2 [] → wX6_pull_23 ids post s0 σ → W p l e rmX6_pull s m args below meth c H locs 0 0 Q (F0 m 23 ls [.int s0]) := by
    intro   s0 σ H locs ls hW hl h
    unfold wX6_pull_23 at h
    exact kr _ _ _ _ _ _ hW h dX6_pull_23
  have main : ∀ (H : Heap) (locs : List Loc) (ls : Array Slot), xW D KA layX stX ad ids (xA ad ids s.heap.size) s.heap σ H locs → lv_has ls 2 [(0, .ref (ad 1)), (1, .ref (ad a1))] → W p l e rmX6_pull s m args below meth c H locs 0 0 Q (F0 m 0 ls []) := by
    intro H locs ls hW hl
    unfold wX6_pull at h
    refine lv_aload_n hx hb dX6_pull_0 rfl (lv_at hl 1 rfl) ?_
    refine xgB_8 hx hb hts hown hK hW a1 hBX6_pull ok_a1 (hts _ hwX6_pull_0) (fun _ h => h) dX6_pull_1 ?_
    refine lv_if_eq (tgt := 22) hx hb dX6_pull_4 (by decide) (fun c1001 => ?_) (fun c1001 => ?_)
    · have h := h.1 c1001
      refine lv_iconst (v := 0) hx hb dX6_pull_22 (by decide) ?_
      exact blk23   (0 : Int32) _ _ _ _ hW (lv_sub hl [] rfl) h
    · have h := h.2 c1001
      refine lv_aload_n hx hb dX6_pull_7 rfl (lv_at hl 0 rfl) ?_
      refine lv_aload_n hx hb dX6_pull_8 rfl (lv_at hl 0 rfl) ?_
      refine lv_aload_n hx hb dX6_pull_9 rfl (lv_at hl 1 rfl) ?_
      refine xgB_2 hx hb hts hown hK hW a1 hBX6_pull ok_a1 (hts _ hwX6_pull_1) (fun _ h => h) dX6_pull_10 ?_
      refine x_calli (va_runV (As := [.int (gI σ a1 2)]) (rest := [.ref (ad 1)]) ⟨hx, hb, hml, hown, hts⟩ (J_X6_shaftsFrom l hI h) (cwV 1 hts gX6_pull_X6_shaftsFrom rfl rfl rfl hdV_X6_shaftsFrom ⟨Nat.le_of_ble_eq_true rfl, Nat.le_of_ble_eq_true rfl⟩) (x_preV (ci := 6) hK hZ hA hW (hI 1 (by decide)) lX_1 rfl) rfl rfl hl.1 rfl (lv_room (Nat.le_of_ble_eq_true rfl)) dX6_pull_13 ⟨Nat.zero_le _, Nat.zero_le _⟩) hW hA (fun r1003 σ1002 H locs h hW => ?_)
      try dsimp only at h
      refine x_calli (va_runV (As := [.int r1003]) (rest := []) ⟨hx, hb, hml, hown, hts⟩ (J_X6_loadedOn l hI h) (cwV 1 hts gX6_pull_X6_loadedOn rfl rfl rfl hdV_X6_loadedOn ⟨Nat.le_of_ble_eq_true rfl, Nat.le_of_ble_eq_true rfl⟩) (x_preV (ci := 6) hK hZ hA hW (hI 1 (by decide)) lX_1 rfl) rfl rfl hl.1 rfl (lv_room (Nat.le_of_ble_eq_true rfl)) dX6_pull_16 ⟨Nat.zero_le _, Nat.zero_le _⟩) hW hA (fun r1005 σ1004 H locs h hW => ?_)
      try dsimp only at h
      refine lv_goto (tgt := 23) hx hb dX6_pull_19 (by decide) ?_
      exact blk23   r1005 _ _ _ _ hW (lv_sub hl [] rfl) h
  exact main _ _ _ hW hl
theorem hwX11_wear_0 : (.fieldLink RX11 54 "FortyBelts" "names" "[I" : Cond) ∈ wsX11_wear := (List.mem_cons_of_mem _ (List.mem_append_left _ (List.mem_append_left _ (List.mem_append_left _ (List.mem_append_left _ (List.mem_append_left _ (List.mem_append_left _ (List.mem_append_left _ (List.mem_append_left _ (List.mem_append_left _ (List.mem_append_left _ (List.mem_append_left _ (List.mem_of_getElem? (i := 0) rfl)))))))))))))
theorem hwX11_wear_1 : (.fieldLink RX11 179 "FortyBelts$Belt" "kind" "I" : Cond) ∈ wsX11_wear := (List.mem_cons_of_mem _ (List.mem_append_left _ (List.mem_append_left _ (List.mem_append_left _ (List.mem_append_left _ (List.mem_append_left _ (List.mem_append_left _ (List.mem_append_left _ (List.mem_append_left _ (List.mem_append_left _ (List.mem_append_left _ (List.mem_append_left _ (List.mem_of_getElem? (i := 1) rfl)))))))))))))
theorem hwX11_wear_2 : (.fieldLink RX11 10 "FortyBelts" "mill" "LFortyBelts$Mill;" : Cond) ∈ wsX11_wear := (List.mem_cons_of_mem _ (List.mem_append_left _ (List.mem_append_left _ (List.mem_append_left _ (List.mem_append_left _ (List.mem_append_left _ (List.mem_append_left _ (List.mem_append_left _ (List.mem_append_left _ (List.mem_append_left _ (List.mem_append_left _ (List.mem_append_left _ (List.mem_of_getElem? (i := 2) rfl)))))))))))))
theorem hwX11_wear_3 : (.fieldLink RX11 182 "FortyBelts$Belt" "driver" "I" : Cond) ∈ wsX11_wear := (List.mem_cons_of_mem _ (List.mem_append_left _ (List.mem_append_left _ (List.mem_append_left _ (List.mem_append_left _ (List.mem_append_left _ (List.mem_append_left _ (List.mem_append_left _ (List.mem_append_left _ (List.mem_append_left _ (List.mem_append_left _ (List.mem_append_left _ (List.mem_of_getElem? (i := 3) rfl)))))))))))))
theorem hwX11_wear_4 : (.code yX0_wrap cX0_wrap 1 (some .int) : Cond) ∈ wsX11_wear := (List.mem_cons_of_mem _ (List.mem_append_left _ (List.mem_append_left _ (List.mem_append_left _ (List.mem_append_left _ (List.mem_append_left _ (List.mem_append_left _ (List.mem_append_left _ (List.mem_append_left _ (List.mem_append_left _ (List.mem_append_left _ (List.mem_append_right _ (List.mem_append_left _ (List.mem_of_getElem? (i := 9) rfl))))))))))))))
theorem hwX11_wear_5 : (.fieldLink RX11 385 "FortyBelts$Belt" "a" "I" : Cond) ∈ wsX11_wear := (List.mem_cons_of_mem _ (List.mem_append_left _ (List.mem_append_left _ (List.mem_append_left _ (List.mem_append_left _ (List.mem_append_left _ (List.mem_append_left _ (List.mem_append_left _ (List.mem_append_left _ (List.mem_append_left _ (List.mem_append_left _ (List.mem_append_left _ (List.mem_of_getElem? (i := 4) rfl)))))))))))))
theorem hwX11_wear_6 : (.fieldLink RX11 271 "FortyBelts$Belt" "b" "I" : Cond) ∈ wsX11_wear := (List.mem_cons_of_mem _ (List.mem_append_left _ (List.mem_append_left _ (List.mem_append_left _ (List.mem_append_left _ (List.mem_append_left _ (List.mem_append_left _ (List.mem_append_left _ (List.mem_append_left _ (List.mem_append_left _ (List.mem_append_left _ (List.mem_append_left _ (List.mem_of_getElem? (i := 5) rfl)))))))))))))
theorem hwX11_wear_7 : (.fieldLink RX11 25 "FortyBelts" "texts" "[LFortyBelts$Text;" : Cond) ∈ wsX11_wear := (List.mem_cons_of_mem _ (List.mem_append_left _ (List.mem_append_left _ (List.mem_append_left _ (List.mem_append_left _ (List.mem_append_left _ (List.mem_append_left _ (List.mem_append_left _ (List.mem_append_left _ (List.mem_append_left _ (List.mem_append_left _ (List.mem_append_left _ (List.mem_of_getElem? (i := 6) rfl)))))))))))))
theorem hwX11_wear_8 : (.fieldLink RX11 243 "FortyBelts" "rule" "I" : Cond) ∈ wsX11_wear := (List.mem_cons_of_mem _ (List.mem_append_left _ (List.mem_append_left _ (List.mem_append_left _ (List.mem_append_left _ (List.mem_append_left _ (List.mem_append_left _ (List.mem_append_left _ (List.mem_append_left _ (List.mem_append_left _ (List.mem_append_left _ (List.mem_append_left _ (List.mem_of_getElem? (i := 7) rfl)))))))))))))
theorem hwX11_wear_9 : (.methodLink RX11 395 Lib.Math.min.name : Cond) ∈ wsX11_wear := (List.mem_cons_of_mem _ (List.mem_append_left _ (List.mem_append_left _ (List.mem_append_left _ (List.mem_append_left _ (List.mem_append_left _ (List.mem_append_left _ (List.mem_append_left _ (List.mem_append_left _ (List.mem_append_left _ (List.mem_append_left _ (List.mem_append_left _ (List.mem_of_getElem? (i := 8) rfl)))))))))))))
theorem hwX11_wear_10 : (.static Lib.Math.min.name : Cond) ∈ wsX11_wear := (List.mem_cons_of_mem _ (List.mem_append_left _ (List.mem_append_left _ (List.mem_append_left _ (List.mem_append_left _ (List.mem_append_left _ (List.mem_append_left _ (List.mem_append_left _ (List.mem_append_left _ (List.mem_append_left _ (List.mem_append_left _ (List.mem_append_left _ (List.mem_of_getElem? (i := 9) rfl)))))))))))))
theorem hwX11_wear_11 : (.initialized "java/lang/Math" : Cond) ∈ wsX11_wear := (List.mem_cons_of_mem _ (List.mem_append_left _ (List.mem_append_left _ (List.mem_append_left _ (List.mem_append_left _ (List.mem_append_left _ (List.mem_append_left _ (List.mem_append_left _ (List.mem_append_left _ (List.mem_append_left _ (List.mem_append_left _ (List.mem_append_left _ (List.mem_of_getElem? (i := 10) rfl)))))))))))))
theorem hwX11_wear_12 : (.code Lib.Math.min.name Lib.Math.min.code 2 (some .int) : Cond) ∈ wsX11_wear := (List.mem_cons_of_mem _ (List.mem_append_left _ (List.mem_append_left _ (List.mem_append_left _ (List.mem_append_left _ (List.mem_append_left _ (List.mem_append_left _ (List.mem_append_left _ (List.mem_append_left _ (List.mem_append_left _ (List.mem_append_left _ (List.mem_append_left _ (List.mem_of_getElem? (i := 11) rfl)))))))))))))
theorem hwX11_wear_13 : (.methodLink RX11 400 Lib.Math.max.name : Cond) ∈ wsX11_wear := (List.mem_cons_of_mem _ (List.mem_append_left _ (List.mem_append_left _ (List.mem_append_left _ (List.mem_append_left _ (List.mem_append_left _ (List.mem_append_left _ (List.mem_append_left _ (List.mem_append_left _ (List.mem_append_left _ (List.mem_append_left _ (List.mem_append_left _ (List.mem_of_getElem? (i := 12) rfl)))))))))))))
theorem hwX11_wear_14 : (.static Lib.Math.max.name : Cond) ∈ wsX11_wear := (List.mem_cons_of_mem _ (List.mem_append_left _ (List.mem_append_left _ (List.mem_append_left _ (List.mem_append_left _ (List.mem_append_left _ (List.mem_append_left _ (List.mem_append_left _ (List.mem_append_left _ (List.mem_append_left _ (List.mem_append_left _ (List.mem_append_left _ (List.mem_of_getElem? (i := 13) rfl)))))))))))))
theorem hwX11_wear_15 : (.code Lib.Math.max.name Lib.Math.max.code 2 (some .int) : Cond) ∈ wsX11_wear := (List.mem_cons_of_mem _ (List.mem_append_left _ (List.mem_append_left _ (List.mem_append_left _ (List.mem_append_left _ (List.mem_append_left _ (List.mem_append_left _ (List.mem_append_left _ (List.mem_append_left _ (List.mem_append_left _ (List.mem_append_left _ (List.mem_append_left _ (List.mem_of_getElem? (i := 14) rfl)))))))))))))
theorem hcX11_wear_X11 : ∀ w ∈ wsX110, w ∈ wsX11_wear := fun _ h => (List.mem_cons_of_mem _ (List.mem_append_left _ (List.mem_append_left _ (List.mem_append_left _ (List.mem_append_left _ (List.mem_append_left _ (List.mem_append_left _ (List.mem_append_left _ (List.mem_append_left _ (List.mem_append_left _ (List.mem_append_right _ h)))))))))))
theorem hcX11_wear_X0 : ∀ w ∈ wsX00, w ∈ wsX11_wear := fun _ h => (List.mem_cons_of_mem _ (List.mem_append_left _ (List.mem_append_left _ (List.mem_append_left _ (List.mem_append_left _ (List.mem_append_left _ (List.mem_append_left _ (List.mem_append_left _ (List.mem_append_left _ (List.mem_append_right _ h))))))))))
theorem hcX11_wear_X1 : ∀ w ∈ wsX10, w ∈ wsX11_wear := fun _ h => (List.mem_cons_of_mem _ (List.mem_append_left _ (List.mem_append_left _ (List.mem_append_left _ (List.mem_append_left _ (List.mem_append_left _ (List.mem_append_left _ (List.mem_append_left _ (List.mem_append_right _ h)))))))))
theorem hcX11_wear_X2 : ∀ w ∈ wsX20, w ∈ wsX11_wear := fun _ h => (List.mem_cons_of_mem _ (List.mem_append_left _ (List.mem_append_left _ (List.mem_append_left _ (List.mem_append_left _ (List.mem_append_left _ (List.mem_append_left _ (List.mem_append_right _ h))))))))
theorem hcX11_wear_X3 : ∀ w ∈ wsX30, w ∈ wsX11_wear := fun _ h => (List.mem_cons_of_mem _ (List.mem_append_left _ (List.mem_append_left _ (List.mem_append_left _ (List.mem_append_left _ (List.mem_append_left _ (List.mem_append_right _ h)))))))
theorem hcX11_wear_X4 : ∀ w ∈ wsX40, w ∈ wsX11_wear := fun _ h => (List.mem_cons_of_mem _ (List.mem_append_left _ (List.mem_append_left _ (List.mem_append_left _ (List.mem_append_left _ (List.mem_append_right _ h))))))
theorem hcX11_wear_X10 : ∀ w ∈ wsX100, w ∈ wsX11_wear := fun _ h => (List.mem_cons_of_mem _ (List.mem_append_left _ (List.mem_append_left _ (List.mem_append_left _ (List.mem_append_right _ h)))))
theorem hBX11_wear : xHB wsX11_wear := ⟨hcX11_wear_X0, hcX11_wear_X1, hcX11_wear_X2, hcX11_wear_X3, hcX11_wear_X4, hcX11_wear_X10⟩
set_option maxHeartbeats 4000000 in
set_option maxRecDepth 100000 in
theorem J_X11_wear {D : va_G} {KA : Nat → ClassId} {zs : ZS} {ad : Nat → Nat} {ids : List Nat} {sz : Nat} (l : Launch) (hI : ∀ c, c < 52 ∧ ¬ c = 19 → c ∈ ids) {a1 : Nat} (ok_a1 : okB ids a1) {σ : St} {post : Int32 → St → Prop} (h : wX11_wear ids a1 σ post) : Met l yX11_wear wsX11_wear rmX11_wear (va_Pc [.ref (ad 0), .ref (ad a1)] (xIn D KA zs layX stX ad ids sz σ)) (va_Qi post (xOut D KA layX stX ad ids) (xA ad ids sz)) 0 0 (xA ad ids sz) := by
  refine Met.ofW (cc := cX11_wear) (maxL := 2) (ret := (some .int)) (by decide) rfl ?_
  intro p e s m args below meth c s₁ B hml hv
  obtain ⟨hav, hsz, hK, hZ, hP, hD⟩ := hv
  have hx := B.exec
  have hb := B.bytes
  have hr := B.returns
  have hts := atoms_spec (ws := wsX11_wear) B.pre
  have hown : s.vm.findClass RX11 = some m.cls := findClass_of_methodNamed B.named
  have hlocks := B.notSynchronized
  subst hsz
  have hA : ∀ q : Nat, s.heap.size ≤ q → xA ad ids s.heap.size q := fun q h => Or.inr h
  have hW : xW D KA layX stX ad ids (xA ad ids s.heap.size) s.heap σ s.heap [] := ⟨hP, xA_D (D := D) hD, va_S.rf⟩
  have kr : ∀ (v : Int32) (σ : St) (H : Heap) (locs : List Loc) (ls : Array Slot) (pc : Nat), xW D KA layX stX ad ids (xA ad ids s.heap.size) s.heap σ H locs → post v σ → decode cX11_wear pc = .ok (.ireturn, 1) → W p l e rmX11_wear s m args below meth c H locs 0 0 (MQ below (va_Qi post (xOut D KA layX stX ad ids) (xA ad ids s.heap.size)) args s 0 0 (xA ad ids s.heap.size)) (F0 m pc ls [.int v]) := fun v σ H locs ls pc hW h hd => x_iret hx hb hr hlocks hW h hd
  have hl := lv_entry ([.ref (ad 0), .ref (ad a1)]) (n := 2) (Nat.le_of_ble_eq_true rfl)
  rw [show entryFrame m args 2 = entryFrame m ([.ref (ad 0), .ref (ad a1)] : List Value).toArray 2 from by rw [hav]]
  rw [lg_entry_eq]
  generalize (lg_sl ([.ref (ad 0), .ref (ad a1)]) ++ List.replicate (2 - (lg_sl ([.ref (ad 0), .ref (ad a1)])).length) Slot.unset).toArray = ls at hl ⊢
  have hl : lv_has ls 2 [(0, .ref (ad 0)), (1, .ref (ad a1))] := hl
  show W p l e rmX11_wear s m args below meth c s.heap [] 0 0 _ _
  generalize MQ below (va_Qi post (xOut D KA layX stX ad ids) (xA ad ids s.heap.size)) args s 0 0 (xA ad ids s.heap.size) = Q at kr ⊢
  have main : ∀ (H : Heap) (locs : List Loc) (ls : Array Slot), xW D KA layX stX ad ids (xA ad ids s.heap.size) s.heap σ H locs → lv_has ls 2 [(0, .ref (ad 0)), (1, .ref (ad a1))] → W p l e rmX11_wear s m args below meth c H locs 0 0 Q (F0 m 0 ls []) := by
    intro H locs ls hW hl
    unfold wX11_wear at h
    refine lv_aload_n hx hb dX11_wear_0 rfl (lv_at hl 0 rfl) ?_
    refine xgX11_5r hx hb hts hown hK hW 0 hcX11_wear_X11 (hI 0 (by decide)) lX_0 (hts _ hwX11_wear_0) (sX_0_5 _) dX11_wear_1 ?_
    refine lv_iconst (v := 0) hx hb dX11_wear_4 (by decide) ?_
    refine lv_aload_n hx hb dX11_wear_5 rfl (lv_at hl 1 rfl) ?_
    refine xgB_0 hx hb hts hown hK hW a1 hBX11_wear ok_a1 (hts _ hwX11_wear_1) (fun _ h => h) dX11_wear_6 ?_
    obtain ⟨hi1001, h⟩ := h
    refine x_iast hx hb hK hW 15 (hI 15 (by decide)) lX_15 hi1001 dX11_wear_9 (fun σ1002 H locs hσ1002 hW => ?_)
    have h := h σ1002 hσ1002
    refine lv_aload_n hx hb dX11_wear_10 rfl (lv_at hl 0 rfl) ?_
    refine xgX11_5r hx hb hts hown hK hW 0 hcX11_wear_X11 (hI 0 (by decide)) lX_0 (hts _ hwX11_wear_0) (sX_0_5 _) dX11_wear_11 ?_
    refine lv_iconst (v := 1) hx hb dX11_wear_14 (by decide) ?_
    refine lv_aload_n hx hb dX11_wear_15 rfl (lv_at hl 0 rfl) ?_
    refine xgX11_0r hx hb hts hown hK hW 0 hcX11_wear_X11 (hI 0 (by decide)) lX_0 (hts _ hwX11_wear_2) (sX_0_0 _) dX11_wear_16 ?_
    refine lv_aload_n hx hb dX11_wear_19 rfl (lv_at hl 1 rfl) ?_
    refine xgB_1 hx hb hts hown hK hW a1 hBX11_wear ok_a1 (hts _ hwX11_wear_3) (fun _ h => h) dX11_wear_20 ?_
    refine x_calli (va_runV (As := [.int (gI σ1002 a1 1)]) (rest := [.int (1 : Int32), .ref (ad 15)]) ⟨hx, hb, hml, hown, hts⟩ (J_X6_cutTurns l hI h) (cwV 1 hts gX11_wear_X6_cutTurns rfl rfl rfl hdV_X6_cutTurns ⟨Nat.le_of_ble_eq_true rfl, Nat.le_of_ble_eq_true rfl⟩) (x_preV (ci := 6) hK hZ hA hW (hI 1 (by decide)) lX_1 rfl) rfl rfl hl.1 rfl (lv_room (Nat.le_of_ble_eq_true rfl)) dX11_wear_23 ⟨Nat.zero_le _, Nat.zero_le _⟩) hW hA (fun r1004 σ1003 H locs h hW => ?_)
    try dsimp only at h
    obtain ⟨hi1005, h⟩ := h
    refine x_iast hx hb hK hW 15 (hI 15 (by decide)) lX_15 hi1005 dX11_wear_26 (fun σ1006 H locs hσ1006 hW => ?_)
    have h := h σ1006 hσ1006
    refine lv_aload_n hx hb dX11_wear_27 rfl (lv_at hl 0 rfl) ?_
    refine xgX11_5r hx hb hts hown hK hW 0 hcX11_wear_X11 (hI 0 (by decide)) lX_0 (hts _ hwX11_wear_0) (sX_0_5 _) dX11_wear_28 ?_
    refine lv_iconst (v := 2) hx hb dX11_wear_31 (by decide) ?_
    refine lv_aload_n hx hb dX11_wear_32 rfl (lv_at hl 1 rfl) ?_
    have hr1007 : ∀ post : Int32 → St → Prop, wB_wrap ids a1 σ1006 post → va_Run p l e rmX11_wear s m args below meth c H locs 0 0 0 0 (F0 m 33 ls ([].reverse ++ .ref (ad a1) :: [.int (2 : Int32), .ref (ad 15)])) [.int (2 : Int32), .ref (ad 15)] (va_Qi post (xOut D KA layX stX ad ids) (xA ad ids H.size) (Value.ref (ad a1) :: []).toArray) (xA ad ids H.size) := by
      intro post h
      unfold wB_wrap at h
      rcases (okB_cases ok_a1) with hq | hq | hq | hq | hq | hq
      · exact va_runV (As := []) (rest := [.int (2 : Int32), .ref (ad 15)]) ⟨hx, hb, hml, hown, hts⟩ (J_X0_wrap l hI ok_a1 (h.1 (Or.inl hq))) (cwV 0 hts gX11_wear_X0_wrap rfl rfl rfl hdV_X0_wrap ⟨Nat.le_of_ble_eq_true rfl, Nat.le_of_ble_eq_true rfl⟩) (x_preV (ci := 0) hK hZ hA hW ok_a1.1 (lay_okB0 ok_a1 hq) rfl) rfl rfl hl.1 rfl (lv_room (Nat.le_of_ble_eq_true rfl)) dX11_wear_33 ⟨Nat.zero_le _, Nat.zero_le _⟩
      · exact va_runU (As := []) (rest := [.int (2 : Int32), .ref (ad 15)]) ⟨hx, hb, hml, hown, hts⟩ (J_X2_wrap l hI ok_a1 (h.2.1 hq)) (va_cwO 0 hts gX11_wear_X2_wrap_u191X2 rfl rfl rfl hwX11_wear_4 (by decide +kernel) ⟨Nat.le_of_ble_eq_true rfl, Nat.le_of_ble_eq_true rfl⟩) (x_preV (ci := 2) hK hZ hA hW ok_a1.1 (lay_okB1 ok_a1 hq) rfl) rfl rfl hl.1 rfl (lv_room (Nat.le_of_ble_eq_true rfl)) dX11_wear_33 ⟨Nat.zero_le _, Nat.zero_le _⟩
      · exact va_runU (As := []) (rest := [.int (2 : Int32), .ref (ad 15)]) ⟨hx, hb, hml, hown, hts⟩ (J_X3_wrap l hI ok_a1 (h.2.2.1 hq)) (va_cwO 0 hts gX11_wear_X3_wrap_u191X3 rfl rfl rfl hwX11_wear_4 (by decide +kernel) ⟨Nat.le_of_ble_eq_true rfl, Nat.le_of_ble_eq_true rfl⟩) (x_preV (ci := 3) hK hZ hA hW ok_a1.1 (lay_okB2 ok_a1 hq) rfl) rfl rfl hl.1 rfl (lv_room (Nat.le_of_ble_eq_true rfl)) dX11_wear_33 ⟨Nat.zero_le _, Nat.zero_le _⟩
      · exact va_runU (As := []) (rest := [.int (2 : Int32), .ref (ad 15)]) ⟨hx, hb, hml, hown, hts⟩ (J_X0_wrap l hI ok_a1 (h.1 (Or.inr hq))) (va_cwU 0 hts gX11_wear_X0_wrap_u191X1 rfl rfl rfl rfl (by decide +kernel) ⟨Nat.le_of_ble_eq_true rfl, Nat.le_of_ble_eq_true rfl⟩) (x_preV (ci := 1) hK hZ hA hW ok_a1.1 (lay_okB3 ok_a1 hq) rfl) rfl rfl hl.1 rfl (lv_room (Nat.le_of_ble_eq_true rfl)) dX11_wear_33 ⟨Nat.zero_le _, Nat.zero_le _⟩
      · exact va_runU (As := []) (rest := [.int (2 : Int32), .ref (ad 15)]) ⟨hx, hb, hml, hown, hts⟩ (J_X4_wrap l hI ok_a1 (h.2.2.2.1 hq)) (va_cwO 0 hts gX11_wear_X4_wrap_u191X4 rfl rfl rfl hwX11_wear_4 (by decide +kernel) ⟨Nat.le_of_ble_eq_true rfl, Nat.le_of_ble_eq_true rfl⟩) (x_preV (ci := 4) hK hZ hA hW ok_a1.1 (lay_okB4 ok_a1 hq) rfl) rfl rfl hl.1 rfl (lv_room (Nat.le_of_ble_eq_true rfl)) dX11_wear_33 ⟨Nat.zero_le _, Nat.zero_le _⟩
      · exact va_runU (As := []) (rest := [.int (2 : Int32), .ref (ad 15)]) ⟨hx, hb, hml, hown, hts⟩ (J_X10_wrap l hI ok_a1 (h.2.2.2.2 hq)) (va_cwO 0 hts gX11_wear_X10_wrap_u191X10 rfl rfl rfl hwX11_wear_4 (by decide +kernel) ⟨Nat.le_of_ble_eq_true rfl, Nat.le_of_ble_eq_true rfl⟩) (x_preV (ci := 10) hK hZ hA hW ok_a1.1 (lay_okB5 ok_a1 hq) rfl) rfl rfl hl.1 rfl (lv_room (Nat.le_of_ble_eq_true rfl)) dX11_wear_33 ⟨Nat.zero_le _, Nat.zero_le _⟩
    refine x_calli (hr1007 _ h) hW hA (fun r1009 σ1008 H locs h hW => ?_)
    try dsimp only at h
    obtain ⟨hi1010, h⟩ := h
    refine x_iast hx hb hK hW 15 (hI 15 (by decide)) lX_15 hi1010 dX11_wear_36 (fun σ1011 H locs hσ1011 hW => ?_)
    have h := h σ1011 hσ1011
    refine lv_aload_n hx hb dX11_wear_37 rfl (lv_at hl 0 rfl) ?_
    refine xgX11_5r hx hb hts hown hK hW 0 hcX11_wear_X11 (hI 0 (by decide)) lX_0 (hts _ hwX11_wear_0) (sX_0_5 _) dX11_wear_38 ?_
    refine lv_iconst (v := 3) hx hb dX11_wear_41 (by decide) ?_
    refine lv_aload_n hx hb dX11_wear_42 rfl (lv_at hl 0 rfl) ?_
    refine xgX11_0r hx hb hts hown hK hW 0 hcX11_wear_X11 (hI 0 (by decide)) lX_0 (hts _ hwX11_wear_2) (sX_0_0 _) dX11_wear_43 ?_
    refine lv_aload_n hx hb dX11_wear_46 rfl (lv_at hl 1 rfl) ?_
    refine x_calli (va_runV (As := [.ref (ad a1)]) (rest := [.int (3 : Int32), .ref (ad 15)]) ⟨hx, hb, hml, hown, hts⟩ (J_X6_pull l hI ok_a1 h) (cwV 1 hts gX11_wear_X6_pull rfl rfl rfl hdV_X6_pull ⟨Nat.le_of_ble_eq_true rfl, Nat.le_of_ble_eq_true rfl⟩) (x_preV (ci := 6) hK hZ hA hW (hI 1 (by decide)) lX_1 rfl) rfl rfl hl.1 rfl (lv_room (Nat.le_of_ble_eq_true rfl)) dX11_wear_47 ⟨Nat.zero_le _, Nat.zero_le _⟩) hW hA (fun r1013 σ1012 H locs h hW => ?_)
    try dsimp only at h
    obtain ⟨hi1014, h⟩ := h
    refine x_iast hx hb hK hW 15 (hI 15 (by decide)) lX_15 hi1014 dX11_wear_50 (fun σ1015 H locs hσ1015 hW => ?_)
    have h := h σ1015 hσ1015
    refine lv_aload_n hx hb dX11_wear_51 rfl (lv_at hl 0 rfl) ?_
    refine xgX11_5r hx hb hts hown hK hW 0 hcX11_wear_X11 (hI 0 (by decide)) lX_0 (hts _ hwX11_wear_0) (sX_0_5 _) dX11_wear_52 ?_
    refine lv_iconst (v := 4) hx hb dX11_wear_55 (by decide) ?_
    refine lv_aload_n hx hb dX11_wear_56 rfl (lv_at hl 1 rfl) ?_
    refine xgB_6 hx hb hts hown hK hW a1 hBX11_wear ok_a1 (hts _ hwX11_wear_5) (fun _ h => h) dX11_wear_57 ?_
    refine lv_aload_n hx hb dX11_wear_60 rfl (lv_at hl 1 rfl) ?_
    refine xgB_7 hx hb hts hown hK hW a1 hBX11_wear ok_a1 (hts _ hwX11_wear_6) (fun _ h => h) dX11_wear_61 ?_
    refine lv_iadd hx hb dX11_wear_64 ?_
    obtain ⟨hi1016, h⟩ := h
    refine x_iast hx hb hK hW 15 (hI 15 (by decide)) lX_15 hi1016 dX11_wear_65 (fun σ1017 H locs hσ1017 hW => ?_)
    have h := h σ1017 hσ1017
    refine lv_aload_n hx hb dX11_wear_66 rfl (lv_at hl 0 rfl) ?_
    refine xgX11_5r hx hb hts hown hK hW 0 hcX11_wear_X11 (hI 0 (by decide)) lX_0 (hts _ hwX11_wear_0) (sX_0_5 _) dX11_wear_67 ?_
    refine lv_iconst (v := 5) hx hb dX11_wear_70 (by decide) ?_
    refine lv_aload_n hx hb dX11_wear_71 rfl (lv_at hl 0 rfl) ?_
    refine xgX11_0r hx hb hts hown hK hW 0 hcX11_wear_X11 (hI 0 (by decide)) lX_0 (hts _ hwX11_wear_2) (sX_0_0 _) dX11_wear_72 ?_
    refine lv_aload_n hx hb dX11_wear_75 rfl (lv_at hl 1 rfl) ?_
    refine x_calli (va_runV (As := [.ref (ad a1)]) (rest := [.int (5 : Int32), .ref (ad 15)]) ⟨hx, hb, hml, hown, hts⟩ (J_X6_mostHours l hI ok_a1 h) (cwV 1 hts gX11_wear_X6_mostHours rfl rfl rfl hdV_X6_mostHours ⟨Nat.le_of_ble_eq_true rfl, Nat.le_of_ble_eq_true rfl⟩) (x_preV (ci := 6) hK hZ hA hW (hI 1 (by decide)) lX_1 rfl) rfl rfl hl.1 rfl (lv_room (Nat.le_of_ble_eq_true rfl)) dX11_wear_76 ⟨Nat.zero_le _, Nat.zero_le _⟩) hW hA (fun r1019 σ1018 H locs h hW => ?_)
    try dsimp only at h
    obtain ⟨hi1020, h⟩ := h
    refine x_iast hx hb hK hW 15 (hI 15 (by decide)) lX_15 hi1020 dX11_wear_79 (fun σ1021 H locs hσ1021 hW => ?_)
    have h := h σ1021 hσ1021
    refine lv_iconst (v := 0) hx hb dX11_wear_80 (by decide) ?_
    refine lv_sipush (v := 9999) hx hb dX11_wear_81 (by decide) ?_
    refine lv_aload_n hx hb dX11_wear_84 rfl (lv_at hl 0 rfl) ?_
    refine xgX11_2r hx hb hts hown hK hW 0 hcX11_wear_X11 (hI 0 (by decide)) lX_0 (hts _ hwX11_wear_7) (sX_0_2 _) dX11_wear_85 ?_
    refine lv_aload_n hx hb dX11_wear_88 rfl (lv_at hl 0 rfl) ?_
    refine xgX11_4 hx hb hts hown hK hW 0 hcX11_wear_X11 (hI 0 (by decide)) lX_0 (hts _ hwX11_wear_8) dX11_wear_89 ?_
    obtain ⟨hi1022, h⟩ := h
    refine x_ald hx hb hK hW 14 3 (hI 14 (by decide)) lX_14 rfl hi1022 (st_aokT hi1022) dX11_wear_92 ?_
    refine lv_iconst (v := 0) hx hb dX11_wear_93 (by decide) ?_
    refine lv_aload_n hx hb dX11_wear_94 rfl (lv_at hl 0 rfl) ?_
    refine xgX11_5r hx hb hts hown hK hW 0 hcX11_wear_X11 (hI 0 (by decide)) lX_0 (hts _ hwX11_wear_0) (sX_0_5 _) dX11_wear_95 ?_
    refine x_calli (va_runV (As := [.int (0 : Int32), .ref (ad 15)]) (rest := [.int (9999 : Int32), .int (0 : Int32)]) ⟨hx, hb, hml, hown, hts⟩ (J_X9_says l (fun c h => hI c (n7_lt h)) (fun _ _ => rfl) (okT_of hI hi1022) (hI 15 (by decide)) lX_15 h) (cwV 2 hts gX11_wear_X9_says rfl rfl rfl hdV_X9_says ⟨Nat.le_of_ble_eq_true rfl, Nat.le_of_ble_eq_true rfl⟩) (x_preV (ci := 9) hK hZ hA hW (okT_of hI hi1022).1 (lay_okT (okT_of hI hi1022)) rfl) rfl rfl hl.1 rfl (lv_room (Nat.le_of_ble_eq_true rfl)) dX11_wear_98 ⟨Nat.zero_le _, Nat.zero_le _⟩) hW hA (fun r1024 σ1023 H locs h hW => ?_)
    try dsimp only at h
    refine va_mmin hx hb (hml.trans hl.1.symm) hown (hts _ hwX11_wear_9) (hts _ hwX11_wear_10) (hts _ hwX11_wear_11) (hts _ hwX11_wear_12) (Nat.le_of_ble_eq_true rfl) (Nat.le_of_ble_eq_true rfl) (Nat.le_of_ble_eq_true rfl) (Nat.le_of_ble_eq_true rfl) dX11_wear_101 ?_
    refine va_mmax hx hb (hml.trans hl.1.symm) hown (hts _ hwX11_wear_13) (hts _ hwX11_wear_14) (hts _ hwX11_wear_11) (hts _ hwX11_wear_15) (Nat.le_of_ble_eq_true rfl) (Nat.le_of_ble_eq_true rfl) (Nat.le_of_ble_eq_true rfl) (Nat.le_of_ble_eq_true rfl) dX11_wear_104 ?_
    exact kr _ _ _ _ _ _ hW h dX11_wear_107
  exact main _ _ _ hW hl
set_option maxHeartbeats 4000000 in
set_option maxRecDepth 100000 in
theorem J_X11_days {D : va_G} {KA : Nat → ClassId} {zs : ZS} {ad : Nat → Nat} {ids : List Nat} {sz : Nat} (l : Launch) (hI : ∀ c, c < 52 ∧ ¬ c = 19 → c ∈ ids) {a1 : Nat} {a2 : Int32} (ok_a1 : okB ids a1) {σ : St} {post : Int32 → St → Prop} (h : wX11_days ids a1 a2 σ post) : Met l yX11_days wsX11_days rmX11_days (va_Pc [.ref (ad 0), .ref (ad a1), .int a2] (xIn D KA zs layX stX ad ids sz σ)) (va_Qi post (xOut D KA layX stX ad ids) (xA ad ids sz)) 0 0 (xA ad ids sz) := by
  refine Met.ofW (cc := cX11_days) (maxL := 4) (ret := (some .int)) (by decide) rfl ?_
  intro p e s m args below meth c s₁ B hml hv
  obtain ⟨hav, hsz, hK, hZ, hP, hD⟩ := hv
  have hx := B.exec
  have hb := B.bytes
  have hr := B.returns
  have hts := atoms_spec (ws := wsX11_days) B.pre
  have hown : s.vm.findClass RX11 = some m.cls := findClass_of_methodNamed B.named
  have hlocks := B.notSynchronized
  subst hsz
  have hA : ∀ q : Nat, s.heap.size ≤ q → xA ad ids s.heap.size q := fun q h => Or.inr h
  have hW : xW D KA layX stX ad ids (xA ad ids s.heap.size) s.heap σ s.heap [] := ⟨hP, xA_D (D := D) hD, va_S.rf⟩
  have kr : ∀ (v : Int32) (σ : St) (H : Heap) (locs : List Loc) (ls : Array Slot) (pc : Nat), xW D KA layX stX ad ids (xA ad ids s.heap.size) s.heap σ H locs → post v σ → decode cX11_days pc = .ok (.ireturn, 1) → W p l e rmX11_days s m args below meth c H locs 0 0 (MQ below (va_Qi post (xOut D KA layX stX ad ids) (xA ad ids s.heap.size)) args s 0 0 (xA ad ids s.heap.size)) (F0 m pc ls [.int v]) := fun v σ H locs ls pc hW h hd => x_iret hx hb hr hlocks hW h hd
  have hl := lv_entry ([.ref (ad 0), .ref (ad a1), .int a2]) (n := 4) (Nat.le_of_ble_eq_true rfl)
  rw [show entryFrame m args 4 = entryFrame m ([.ref (ad 0), .ref (ad a1), .int a2] : List Value).toArray 4 from by rw [hav]]
  rw [lg_entry_eq]
  generalize (lg_sl ([.ref (ad 0), .ref (ad a1), .int a2]) ++ List.replicate (4 - (lg_sl ([.ref (ad 0), .ref (ad a1), .int a2])).length) Slot.unset).toArray = ls at hl ⊢
  have hl : lv_has ls 4 [(0, .ref (ad 0)), (1, .ref (ad a1)), (2, .int a2)] := hl
  show W p l e rmX11_days s m args below meth c s.heap [] 0 0 _ _
  generalize MQ below (va_Qi post (xOut D KA layX stX ad ids) (xA ad ids s.heap.size)) args s 0 0 (xA ad ids s.heap.size) = Q at kr ⊢
  have blk21 : ∀ (s0 : Int32) (σ : St) (H : Heap) (locs : List Loc) (ls : Array Slot), xW D KA layX stX ad ids (xA ad ids s.heap.size) s.heap σ H locs → lv_has ls 4 [] → wX11_days_21 ids post s0 σ → W p l e rmX11_days s m args below meth c H locs 0 0 Q (F0 m 21 ls [.int s0]) := by
    intro   s0 σ H locs ls hW hl h
    unfold wX11_days_21 at h
    exact kr _ _ _ _ _ _ hW h dX11_days_21
  have main : ∀ (H : Heap) (locs : List Loc) (ls : Array Slot), xW D KA layX stX ad ids (xA ad ids s.heap.size) s.heap σ H locs → lv_has ls 4 [(0, .ref (ad 0)), (1, .ref (ad a1)), (2, .int a2)] → W p l e rmX11_days s m args below meth c H locs 0 0 Q (F0 m 0 ls []) := by
    intro H locs ls hW hl
    unfold wX11_days at h
    refine lv_aload_n hx hb dX11_days_0 rfl (lv_at hl 0 rfl) ?_
    refine lv_aload_n hx hb dX11_days_1 rfl (lv_at hl 1 rfl) ?_
    refine x_calli (va_runV (As := [.ref (ad a1)]) (rest := []) ⟨hx, hb, hml, hown, hts⟩ (J_X11_wear l hI ok_a1 h) (cwV 1 hts gX11_days_X11_wear rfl rfl rfl hdV_X11_wear ⟨Nat.le_of_ble_eq_true rfl, Nat.le_of_ble_eq_true rfl⟩) (x_preV (ci := 11) hK hZ hA hW (hI 0 (by decide)) lX_0 rfl) rfl rfl hl.1 rfl (lv_room (Nat.le_of_ble_eq_true rfl)) dX11_days_2 ⟨Nat.zero_le _, Nat.zero_le _⟩) hW hA (fun r1002 σ1001 H locs h hW => ?_)
    try dsimp only at h
    refine lv_istore_n (lv' := [(3, .int r1002), (0, .ref (ad 0)), (1, .ref (ad a1)), (2, .int a2)]) hx hb dX11_days_5 rfl hl (by decide) rfl (fun ls hl => ?_)
    refine lv_iload_n hx hb dX11_days_6 rfl (lv_at hl 0 rfl) ?_
    refine lv_if_ne (tgt := 14) hx hb dX11_days_7 (by decide) (fun c1003 => ?_) (fun c1003 => ?_)
    · have h := h.1 c1003
      refine lv_iload_n hx hb dX11_days_14 rfl (lv_at hl 3 rfl) ?_
      refine lv_iload_n hx hb dX11_days_15 rfl (lv_at hl 0 rfl) ?_
      refine lv_iadd hx hb dX11_days_16 ?_
      refine lv_iconst (v := 1) hx hb dX11_days_17 (by decide) ?_
      refine lv_isub hx hb dX11_days_18 ?_
      refine lv_iload_n hx hb dX11_days_19 rfl (lv_at hl 0 rfl) ?_
      obtain ⟨hd1004, h⟩ := h
      refine lv_idiv hx hb dX11_days_20 hd1004 ?_
      exact blk21   (((a2 + r1002) - (1 : Int32)) / r1002) _ _ _ _ hW (lv_sub hl [] rfl) h
    · have h := h.2 c1003
      refine lv_iconst (v := (-1)) hx hb dX11_days_10 (by decide) ?_
      refine lv_goto (tgt := 21) hx hb dX11_days_11 (by decide) ?_
      exact blk21   (-1 : Int32) _ _ _ _ hW (lv_sub hl [] rfl) h
  exact main _ _ _ hW hl
theorem hwX6_addDrum_0 : (.fieldLink RX6 37 "FortyBelts$Mill" "sizes" "[I" : Cond) ∈ wsX6_addDrum := (List.mem_cons_of_mem _ (List.mem_append_left _ (List.mem_of_getElem? (i := 0) rfl)))
theorem hwX6_addDrum_1 : (.fieldLink RX6 62 "FortyBelts$Mill" "drumCount" "I" : Cond) ∈ wsX6_addDrum := (List.mem_cons_of_mem _ (List.mem_append_left _ (List.mem_of_getElem? (i := 1) rfl)))
theorem hcX6_addDrum_X6 : ∀ w ∈ wsX60, w ∈ wsX6_addDrum := fun _ h => (List.mem_cons_of_mem _ (List.mem_append_right _ h))
set_option maxHeartbeats 4000000 in
set_option maxRecDepth 100000 in
theorem J_X6_addDrum {D : va_G} {KA : Nat → ClassId} {zs : ZS} {ad : Nat → Nat} {ids : List Nat} {sz : Nat} (l : Launch) (hI : ∀ c, c < 52 ∧ ¬ c = 19 → c ∈ ids) {a1 : Int32}  {σ : St} {post : Int32 → St → Prop} (h : wX6_addDrum ids a1 σ post) : Met l yX6_addDrum wsX6_addDrum rmX6_addDrum (va_Pc [.ref (ad 1), .int a1] (xIn D KA zs layX stX ad ids sz σ)) (va_Qi post (xOut D KA layX stX ad ids) (xA ad ids sz)) 0 0 (xA ad ids sz) := by
  refine Met.ofW (cc := cX6_addDrum) (maxL := 2) (ret := (some .int)) (by decide) rfl ?_
  intro p e s m args below meth c s₁ B hml hv
  obtain ⟨hav, hsz, hK, hZ, hP, hD⟩ := hv
  have hx := B.exec
  have hb := B.bytes
  have hr := B.returns
  have hts := atoms_spec (ws := wsX6_addDrum) B.pre
  have hown : s.vm.findClass RX6 = some m.cls := findClass_of_methodNamed B.named
  have hlocks := B.notSynchronized
  subst hsz
  have hA : ∀ q : Nat, s.heap.size ≤ q → xA ad ids s.heap.size q := fun q h => Or.inr h
  have hW : xW D KA layX stX ad ids (xA ad ids s.heap.size) s.heap σ s.heap [] := ⟨hP, xA_D (D := D) hD, va_S.rf⟩
  have kr : ∀ (v : Int32) (σ : St) (H : Heap) (locs : List Loc) (ls : Array Slot) (pc : Nat), xW D KA layX stX ad ids (xA ad ids s.heap.size) s.heap σ H locs → post v σ → decode cX6_addDrum pc = .ok (.ireturn, 1) → W p l e rmX6_addDrum s m args below meth c H locs 0 0 (MQ below (va_Qi post (xOut D KA layX stX ad ids) (xA ad ids s.heap.size)) args s 0 0 (xA ad ids s.heap.size)) (F0 m pc ls [.int v]) := fun v σ H locs ls pc hW h hd => x_iret hx hb hr hlocks hW h hd
  have hl := lv_entry ([.ref (ad 1), .int a1]) (n := 2) (Nat.le_of_ble_eq_true rfl)
  rw [show entryFrame m args 2 = entryFrame m ([.ref (ad 1), .int a1] : List Value).toArray 2 from by rw [hav]]
  rw [lg_entry_eq]
  generalize (lg_sl ([.ref (ad 1), .int a1]) ++ List.replicate (2 - (lg_sl ([.ref (ad 1), .int a1])).length) Slot.unset).toArray = ls at hl ⊢
  have hl : lv_has ls 2 [(0, .ref (ad 1)), (1, .int a1)] := hl
  show W p l e rmX6_addDrum s m args below meth c s.heap [] 0 0 _ _
  generalize MQ below (va_Qi post (xOut D KA layX stX ad ids) (xA ad ids s.heap.size)) args s 0 0 (xA ad ids s.heap.size) = Q at kr ⊢
  have main : ∀ (H : Heap) (locs : List Loc) (ls : Array Slot), xW D KA layX stX ad ids (xA ad ids s.heap.size) s.heap σ H locs → lv_has ls 2 [(0, .ref (ad 1)), (1, .int a1)] → W p l e rmX6_addDrum s m args below meth c H locs 0 0 Q (F0 m 0 ls []) := by
    intro H locs ls hW hl
    unfold wX6_addDrum at h
    refine lv_aload_n hx hb dX6_addDrum_0 rfl (lv_at hl 0 rfl) ?_
    refine xgX6_11r hx hb hts hown hK hW 1 hcX6_addDrum_X6 (hI 1 (by decide)) lX_1 (hts _ hwX6_addDrum_0) (sX_1_11 _) dX6_addDrum_1 ?_
    refine lv_aload_n hx hb dX6_addDrum_4 rfl (lv_at hl 0 rfl) ?_
    refine xgX6_2 hx hb hts hown hK hW 1 hcX6_addDrum_X6 (hI 1 (by decide)) lX_1 (hts _ hwX6_addDrum_1) dX6_addDrum_5 ?_
    refine lv_iload_n hx hb dX6_addDrum_8 rfl (lv_at hl 1 rfl) ?_
    obtain ⟨hi1001, h⟩ := h
    refine x_iast hx hb hK hW 10 (hI 10 (by decide)) lX_10 hi1001 dX6_addDrum_9 (fun σ1002 H locs hσ1002 hW => ?_)
    have h := h σ1002 hσ1002
    refine lv_aload_n hx hb dX6_addDrum_10 rfl (lv_at hl 0 rfl) ?_
    refine lv_dup hx hb dX6_addDrum_11 rfl ?_
    refine xgX6_2 hx hb hts hown hK hW 1 hcX6_addDrum_X6 (hI 1 (by decide)) lX_1 (hts _ hwX6_addDrum_1) dX6_addDrum_12 ?_
    refine lv_dup_x1 hx hb dX6_addDrum_15 rfl rfl ?_
    refine lv_iconst (v := 1) hx hb dX6_addDrum_16 (by decide) ?_
    refine lv_iadd hx hb dX6_addDrum_17 ?_
    refine xpX6_2 hx hb hts hown hK hW 1 hcX6_addDrum_X6 (hI 1 (by decide)) lX_1 (hts _ hwX6_addDrum_1) dX6_addDrum_18 (fun σ1003 H locs hσ1003 hW => ?_)
    have h := h σ1003 hσ1003
    exact kr _ _ _ _ _ _ hW h dX6_addDrum_21
  exact main _ _ _ hW hl
theorem hwX11_drum_0 : (.fieldLink RX11 10 "FortyBelts" "mill" "LFortyBelts$Mill;" : Cond) ∈ wsX11_drum := (List.mem_cons_of_mem _ (List.mem_append_left _ (List.mem_append_left _ (List.mem_of_getElem? (i := 0) rfl))))
theorem hwX11_drum_1 : (.fieldLink RX11 125 "FortyBelts$Mill" "drumCount" "I" : Cond) ∈ wsX11_drum := (List.mem_cons_of_mem _ (List.mem_append_left _ (List.mem_append_left _ (List.mem_of_getElem? (i := 1) rfl))))
theorem hcX11_drum_X11 : ∀ w ∈ wsX110, w ∈ wsX11_drum := fun _ h => (List.mem_cons_of_mem _ (List.mem_append_left _ (List.mem_append_right _ h)))
theorem hcX11_drum_X6 : ∀ w ∈ wsX60, w ∈ wsX11_drum := fun _ h => (List.mem_cons_of_mem _ (List.mem_append_right _ h))
set_option maxHeartbeats 4000000 in
set_option maxRecDepth 100000 in
theorem J_X11_drum {D : va_G} {KA : Nat → ClassId} {zs : ZS} {ad : Nat → Nat} {ids : List Nat} {sz : Nat} (l : Launch) (hI : ∀ c, c < 52 ∧ ¬ c = 19 → c ∈ ids) {a1 : Int32}  {σ : St} {post : Int32 → St → Prop} (h : wX11_drum ids a1 σ post) : Met l yX11_drum wsX11_drum rmX11_drum (va_Pc [.ref (ad 0), .int a1] (xIn D KA zs layX stX ad ids sz σ)) (va_Qi post (xOut D KA layX stX ad ids) (xA ad ids sz)) 0 0 (xA ad ids sz) := by
  refine Met.ofW (cc := cX11_drum) (maxL := 2) (ret := (some .int)) (by decide) rfl ?_
  intro p e s m args below meth c s₁ B hml hv
  obtain ⟨hav, hsz, hK, hZ, hP, hD⟩ := hv
  have hx := B.exec
  have hb := B.bytes
  have hr := B.returns
  have hts := atoms_spec (ws := wsX11_drum) B.pre
  have hown : s.vm.findClass RX11 = some m.cls := findClass_of_methodNamed B.named
  have hlocks := B.notSynchronized
  subst hsz
  have hA : ∀ q : Nat, s.heap.size ≤ q → xA ad ids s.heap.size q := fun q h => Or.inr h
  have hW : xW D KA layX stX ad ids (xA ad ids s.heap.size) s.heap σ s.heap [] := ⟨hP, xA_D (D := D) hD, va_S.rf⟩
  have kr : ∀ (v : Int32) (σ : St) (H : Heap) (locs : List Loc) (ls : Array Slot) (pc : Nat), xW D KA layX stX ad ids (xA ad ids s.heap.size) s.heap σ H locs → post v σ → decode cX11_drum pc = .ok (.ireturn, 1) → W p l e rmX11_drum s m args below meth c H locs 0 0 (MQ below (va_Qi post (xOut D KA layX stX ad ids) (xA ad ids s.heap.size)) args s 0 0 (xA ad ids s.heap.size)) (F0 m pc ls [.int v]) := fun v σ H locs ls pc hW h hd => x_iret hx hb hr hlocks hW h hd
  have hl := lv_entry ([.ref (ad 0), .int a1]) (n := 2) (Nat.le_of_ble_eq_true rfl)
  rw [show entryFrame m args 2 = entryFrame m ([.ref (ad 0), .int a1] : List Value).toArray 2 from by rw [hav]]
  rw [lg_entry_eq]
  generalize (lg_sl ([.ref (ad 0), .int a1]) ++ List.replicate (2 - (lg_sl ([.ref (ad 0), .int a1])).length) Slot.unset).toArray = ls at hl ⊢
  have hl : lv_has ls 2 [(0, .ref (ad 0)), (1, .int a1)] := hl
  show W p l e rmX11_drum s m args below meth c s.heap [] 0 0 _ _
  generalize MQ below (va_Qi post (xOut D KA layX stX ad ids) (xA ad ids s.heap.size)) args s 0 0 (xA ad ids s.heap.size) = Q at kr ⊢
  have blk38 : ∀ (s0 : Int32) (σ : St) (H : Heap) (locs : List Loc) (ls : Array Slot), xW D KA layX stX ad ids (xA ad ids s.heap.size) s.heap σ H locs → lv_has ls 2 [] → wX11_drum_38 ids post s0 σ → W p l e rmX11_drum s m args below meth c H locs 0 0 Q (F0 m 38 ls [.int s0]) := by
    intro   s0 σ H locs ls hW hl h
    unfold wX11_drum_38 at h
    exact kr _ _ _ _ _ _ hW h dX11_drum_38
  have main : ∀ (H : Heap) (locs : List Loc) (ls : Array Slot), xW D KA layX stX ad ids (xA ad ids s.heap.size) s.heap σ H locs → lv_has ls 2 [(0, .ref (ad 0)), (1, .int a1)] → W p l e rmX11_drum s m args below meth c H locs 0 0 Q (F0 m 0 ls []) := by
    intro H locs ls hW hl
    unfold wX11_drum at h
    refine lv_iload_n hx hb dX11_drum_0 rfl (lv_at hl 1 rfl) ?_
    refine lv_iconst (v := 1) hx hb dX11_drum_1 (by decide) ?_
    refine lv_bipush (v := 99) hx hb dX11_drum_2 (by decide) ?_
    refine x_calli (va_runS (As := [.int a1, .int (1 : Int32), .int (99 : Int32)]) (rest := []) ⟨hx, hb, hml, hown, hts⟩ (J_X11_within l hI h) (va_cwS 3 hts gX11_drum_X11_within rfl rfl rfl hdS_X11_within ⟨Nat.le_of_ble_eq_true rfl, Nat.le_of_ble_eq_true rfl⟩) (x_preS hK hZ hA hW) rfl rfl hl.1 rfl (lv_room (Nat.le_of_ble_eq_true rfl)) dX11_drum_4 ⟨Nat.zero_le _, Nat.zero_le _⟩) hW hA (fun r1002 σ1001 H locs h hW => ?_)
    try dsimp only at h
    refine lv_if_ne (tgt := 13) hx hb dX11_drum_7 (by decide) (fun c1003 => ?_) (fun c1003 => ?_)
    · have h := h.1 c1003
      refine lv_aload_n hx hb dX11_drum_13 rfl (lv_at hl 0 rfl) ?_
      refine xgX11_0r hx hb hts hown hK hW 0 hcX11_drum_X11 (hI 0 (by decide)) lX_0 (hts _ hwX11_drum_0) (sX_0_0 _) dX11_drum_14 ?_
      refine xgX6_2 hx hb hts hown hK hW 1 hcX11_drum_X6 (hI 1 (by decide)) lX_1 (hts _ hwX11_drum_1) dX11_drum_17 ?_
      refine lv_bipush (v := 12) hx hb dX11_drum_20 (by decide) ?_
      refine lv_icmp_ne (tgt := 30) hx hb dX11_drum_22 (by decide) (fun c1004 => ?_) (fun c1004 => ?_)
      · have h := h.1 c1004
        refine lv_aload_n hx hb dX11_drum_30 rfl (lv_at hl 0 rfl) ?_
        refine xgX11_0r hx hb hts hown hK hW 0 hcX11_drum_X11 (hI 0 (by decide)) lX_0 (hts _ hwX11_drum_0) (sX_0_0 _) dX11_drum_31 ?_
        refine lv_iload_n hx hb dX11_drum_34 rfl (lv_at hl 1 rfl) ?_
        refine x_calli (va_runV (As := [.int a1]) (rest := []) ⟨hx, hb, hml, hown, hts⟩ (J_X6_addDrum l hI h) (cwV 1 hts gX11_drum_X6_addDrum rfl rfl rfl hdV_X6_addDrum ⟨Nat.le_of_ble_eq_true rfl, Nat.le_of_ble_eq_true rfl⟩) (x_preV (ci := 6) hK hZ hA hW (hI 1 (by decide)) lX_1 rfl) rfl rfl hl.1 rfl (lv_room (Nat.le_of_ble_eq_true rfl)) dX11_drum_35 ⟨Nat.zero_le _, Nat.zero_le _⟩) hW hA (fun r1006 σ1005 H locs h hW => ?_)
        try dsimp only at h
        exact blk38   r1006 _ _ _ _ hW (lv_sub hl [] rfl) h
      · have h := h.2 c1004
        refine lv_bipush (v := (-4)) hx hb dX11_drum_25 (by decide) ?_
        refine lv_goto (tgt := 38) hx hb dX11_drum_27 (by decide) ?_
        exact blk38   (-4 : Int32) _ _ _ _ hW (lv_sub hl [] rfl) h
    · have h := h.2 c1003
      refine lv_bipush (v := (-2)) hx hb dX11_drum_10 (by decide) ?_
      exact kr _ _ _ _ _ _ hW h dX11_drum_12
  exact main _ _ _ hW hl
set_option maxHeartbeats 4000000 in
set_option maxRecDepth 100000 in
theorem J_X11_isSort {D : va_G} {KA : Nat → ClassId} {zs : ZS} {ad : Nat → Nat} {ids : List Nat} {sz : Nat} (l : Launch) (hI : ∀ c, c < 52 ∧ ¬ c = 19 → c ∈ ids) {a0 : Int32}  {σ : St} {post : Int32 → St → Prop} (h : wX11_isSort ids a0 σ post) : Met l yX11_isSort wsX11_isSort rmX11_isSort (va_Pc [.int a0] (xIn D KA zs layX stX ad ids sz σ)) (va_Qi post (xOut D KA layX stX ad ids) (xA ad ids sz)) 0 0 (xA ad ids sz) := by
  refine Met.ofW (cc := cX11_isSort) (maxL := 1) (ret := (some .boolean)) (by decide) rfl ?_
  intro p e s m args below meth c s₁ B hml hv
  obtain ⟨hav, hsz, hK, hZ, hP, hD⟩ := hv
  have hx := B.exec
  have hb := B.bytes
  have hr := B.returns
  have hts := atoms_spec (ws := wsX11_isSort) B.pre
  have hown : s.vm.findClass RX11 = some m.cls := findClass_of_methodNamed B.named
  have hlocks := B.notSynchronized
  subst hsz
  have hA : ∀ q : Nat, s.heap.size ≤ q → xA ad ids s.heap.size q := fun q h => Or.inr h
  have hW : xW D KA layX stX ad ids (xA ad ids s.heap.size) s.heap σ s.heap [] := ⟨hP, xA_D (D := D) hD, va_S.rf⟩
  have kr : ∀ (v : Int32) (σ : St) (H : Heap) (locs : List Loc) (ls : Array Slot) (pc : Nat), xW D KA layX stX ad ids (xA ad ids s.heap.size) s.heap σ H locs → isB v → post v σ → decode cX11_isSort pc = .ok (.ireturn, 1) → W p l e rmX11_isSort s m args below meth c H locs 0 0 (MQ below (va_Qi post (xOut D KA layX stX ad ids) (xA ad ids s.heap.size)) args s 0 0 (xA ad ids s.heap.size)) (F0 m pc ls [.int v]) := fun v σ H locs ls pc hW hz h hd => x_zret hx hb hr hlocks hW hz h hd
  have hl := lv_entry ([.int a0]) (n := 1) (Nat.le_of_ble_eq_true rfl)
  rw [show entryFrame m args 1 = entryFrame m ([.int a0] : List Value).toArray 1 from by rw [hav]]
  rw [lg_entry_eq]
  generalize (lg_sl ([.int a0]) ++ List.replicate (1 - (lg_sl ([.int a0])).length) Slot.unset).toArray = ls at hl ⊢
  have hl : lv_has ls 1 [(0, .int a0)] := hl
  show W p l e rmX11_isSort s m args below meth c s.heap [] 0 0 _ _
  generalize MQ below (va_Qi post (xOut D KA layX stX ad ids) (xA ad ids s.heap.size)) args s 0 0 (xA ad ids s.heap.size) = Q at kr ⊢
  have main : ∀ (H : Heap) (locs : List Loc) (ls : Array Slot), xW D KA layX stX ad ids (xA ad ids s.heap.size) s.heap σ H locs → lv_has ls 1 [(0, .int a0)] → W p l e rmX11_isSort s m args below meth c H locs 0 0 Q (F0 m 0 ls []) := by
    intro H locs ls hW hl
    unfold wX11_isSort at h
    refine lv_iload_n hx hb dX11_isSort_0 rfl (lv_at hl 0 rfl) ?_
    refine lv_iconst (v := 0) hx hb dX11_isSort_1 (by decide) ?_
    refine lv_iconst (v := 2) hx hb dX11_isSort_2 (by decide) ?_
    refine x_calli (va_runS (As := [.int a0, .int (0 : Int32), .int (2 : Int32)]) (rest := []) ⟨hx, hb, hml, hown, hts⟩ (J_X11_within l hI h) (va_cwS 3 hts gX11_isSort_X11_within rfl rfl rfl hdS_X11_within ⟨Nat.le_of_ble_eq_true rfl, Nat.le_of_ble_eq_true rfl⟩) (x_preS hK hZ hA hW) rfl rfl hl.1 rfl (lv_room (Nat.le_of_ble_eq_true rfl)) dX11_isSort_3 ⟨Nat.zero_le _, Nat.zero_le _⟩) hW hA (fun r1002 σ1001 H locs h hW => ?_)
    try dsimp only at h
    obtain ⟨hz1003, h⟩ := h
    exact kr _ _ _ _ _ _ hW hz1003 h dX11_isSort_6
  exact main _ _ _ hW hl
theorem hwX11_drums_0 : (.fieldLink RX11 336 "FortyBelts$Sheet" "size" "I" : Cond) ∈ wsX11_drums := (List.mem_cons_of_mem _ (List.mem_append_left _ (List.mem_append_left _ (List.mem_append_left _ (List.mem_append_left _ (List.mem_of_getElem? (i := 2) rfl))))))
theorem hwX11_drums_1 : (.fieldLink RX11 345 "FortyBelts$Sheet" "items" "[I" : Cond) ∈ wsX11_drums := (List.mem_cons_of_mem _ (List.mem_append_left _ (List.mem_append_left _ (List.mem_append_left _ (List.mem_append_left _ (List.mem_of_getElem? (i := 3) rfl))))))
theorem hwX11_drums_2 : (.fieldLink RX11 60 "FortyBelts" "sheets" "[LFortyBelts$Sheet;" : Cond) ∈ wsX11_drums := (List.mem_cons_of_mem _ (List.mem_append_left _ (List.mem_append_left _ (List.mem_append_left _ (List.mem_append_left _ (List.mem_of_getElem? (i := 0) rfl))))))
theorem hwX11_drums_3 : (.fieldLink RX11 333 "FortyBelts$Sheet" "sort" "I" : Cond) ∈ wsX11_drums := (List.mem_cons_of_mem _ (List.mem_append_left _ (List.mem_append_left _ (List.mem_append_left _ (List.mem_append_left _ (List.mem_of_getElem? (i := 1) rfl))))))
theorem hcX11_drums_X8 : ∀ w ∈ wsX80, w ∈ wsX11_drums := fun _ h => (List.mem_cons_of_mem _ (List.mem_append_left _ (List.mem_append_right _ h)))
theorem hcX11_drums_X11 : ∀ w ∈ wsX110, w ∈ wsX11_drums := fun _ h => (List.mem_cons_of_mem _ (List.mem_append_left _ (List.mem_append_left _ (List.mem_append_right _ h))))
set_option maxHeartbeats 4000000 in
set_option maxRecDepth 100000 in
theorem J_X11_drums {D : va_G} {KA : Nat → ClassId} {zs : ZS} {ad : Nat → Nat} {ids : List Nat} {sz : Nat} (l : Launch) (hI : ∀ c, c < 52 ∧ ¬ c = 19 → c ∈ ids) {a1 : Int32} {a2 : Int32} {a3 : Int32} {a4 : Int32}  {σ : St} {post : Int32 → St → Prop} (h : wX11_drums ids a1 a2 a3 a4 σ post) : Met l yX11_drums wsX11_drums rmX11_drums (va_Pc [.ref (ad 0), .int a1, .int a2, .int a3, .int a4] (xIn D KA zs layX stX ad ids sz σ)) (va_Qi post (xOut D KA layX stX ad ids) (xA ad ids sz)) 0 0 (xA ad ids sz) := by
  refine Met.ofW (cc := cX11_drums) (maxL := 8) (ret := (some .int)) (by decide) rfl ?_
  intro p e s m args below meth c s₁ B hml hv
  obtain ⟨hav, hsz, hK, hZ, hP, hD⟩ := hv
  have hx := B.exec
  have hb := B.bytes
  have hr := B.returns
  have hts := atoms_spec (ws := wsX11_drums) B.pre
  have hown : s.vm.findClass RX11 = some m.cls := findClass_of_methodNamed B.named
  have hlocks := B.notSynchronized
  subst hsz
  have hA : ∀ q : Nat, s.heap.size ≤ q → xA ad ids s.heap.size q := fun q h => Or.inr h
  have hW : xW D KA layX stX ad ids (xA ad ids s.heap.size) s.heap σ s.heap [] := ⟨hP, xA_D (D := D) hD, va_S.rf⟩
  have kr : ∀ (v : Int32) (σ : St) (H : Heap) (locs : List Loc) (ls : Array Slot) (pc : Nat), xW D KA layX stX ad ids (xA ad ids s.heap.size) s.heap σ H locs → post v σ → decode cX11_drums pc = .ok (.ireturn, 1) → W p l e rmX11_drums s m args below meth c H locs 0 0 (MQ below (va_Qi post (xOut D KA layX stX ad ids) (xA ad ids s.heap.size)) args s 0 0 (xA ad ids s.heap.size)) (F0 m pc ls [.int v]) := fun v σ H locs ls pc hW h hd => x_iret hx hb hr hlocks hW h hd
  have hl := lv_entry ([.ref (ad 0), .int a1, .int a2, .int a3, .int a4]) (n := 8) (Nat.le_of_ble_eq_true rfl)
  rw [show entryFrame m args 8 = entryFrame m ([.ref (ad 0), .int a1, .int a2, .int a3, .int a4] : List Value).toArray 8 from by rw [hav]]
  rw [lg_entry_eq]
  generalize (lg_sl ([.ref (ad 0), .int a1, .int a2, .int a3, .int a4]) ++ List.replicate (8 - (lg_sl ([.ref (ad 0), .int a1, .int a2, .int a3, .int a4])).length) Slot.unset).toArray = ls at hl ⊢
  have hl : lv_has ls 8 [(0, .ref (ad 0)), (1, .int a1), (2, .int a2), (3, .int a3), (4, .int a4)] := hl
  show W p l e rmX11_drums s m args below meth c s.heap [] 0 0 _ _
  generalize MQ below (va_Qi post (xOut D KA layX stX ad ids) (xA ad ids s.heap.size)) args s 0 0 (xA ad ids s.heap.size) = Q at kr ⊢
  have blk114 : ∀ (x3 : Int32) (x4 : Int32) (x5 : Nat) (ok_x5 : okS ids x5) (k66 : Int32 → Int32 → St → Prop) (hk66 : ∀ (x6 : Int32) (x7 : Int32) (σ : St) (H : Heap) (locs : List Loc) (ls : Array Slot), xW D KA layX stX ad ids (xA ad ids s.heap.size) s.heap σ H locs → lv_has ls 8 [(0, .ref (ad 0)), (3, .int x3), (4, .int x4), (5, .ref (ad x5)), (6, .int x6), (7, .int x7)] → k66 x6 x7 σ → W p l e rmX11_drums s m args below meth c H locs 0 0 Q (F0 m 66 ls [])) (x6 : Int32) (x7 : Int32) (σ : St) (H : Heap) (locs : List Loc) (ls : Array Slot), xW D KA layX stX ad ids (xA ad ids s.heap.size) s.heap σ H locs → lv_has ls 8 [(0, .ref (ad 0)), (3, .int x3), (4, .int x4), (5, .ref (ad x5)), (6, .int x6), (7, .int x7)] → wX11_drums_114 ids k66 post x3 x4 x5 x6 x7 σ → W p l e rmX11_drums s m args below meth c H locs 0 0 Q (F0 m 114 ls []) := by
    intro x3 x4 x5 ok_x5 k66 hk66 x6 x7 σ H locs ls hW hl h
    unfold wX11_drums_114 at h
    obtain ⟨v1, hv1⟩ : ∃ y : Int32, y = x7 + (1 : Int32) := ⟨_, rfl⟩
    have h := h v1 hv1
    refine lv_iinc (v := v1) (lv' := [(7, .int v1), (0, .ref (ad 0)), (3, .int x3), (4, .int x4), (5, .ref (ad x5)), (6, .int x6)]) hx hb dX11_drums_114 hl (k := 5) rfl (by rw [hv1]; rfl) (by decide) rfl (fun ls hl => ?_)
    refine lv_goto (tgt := 66) hx hb dX11_drums_117 (by decide) ?_
    exact hk66 x6 v1 _ _ _ _ hW (lv_sub hl [1, 2, 3, 4, 5, 0] rfl) h
  have blk66 : ∀ (x3 : Int32) (x4 : Int32) (x5 : Nat) (ok_x5 : okS ids x5) (n : Nat) (x6 : Int32) (x7 : Int32) (σ : St) (H : Heap) (locs : List Loc) (ls : Array Slot), xW D KA layX stX ad ids (xA ad ids s.heap.size) s.heap σ H locs → lv_has ls 8 [(0, .ref (ad 0)), (3, .int x3), (4, .int x4), (5, .ref (ad x5)), (6, .int x6), (7, .int x7)] → wX11_drums_66 ids post x3 x4 x5 n x6 x7 σ → W p l e rmX11_drums s m args below meth c H locs 0 0 Q (F0 m 66 ls []) := by
    intro   x3 x4 x5 ok_x5 n
    induction n with
    | zero => intro x6 x7 σ H locs ls hW hl h; exact (h : False).elim
    | succ n ih =>
      intro x6 x7 σ H locs ls hW hl h
      have hk66 : ∀ (x6 : Int32) (x7 : Int32) (σ : St) (H : Heap) (locs : List Loc) (ls : Array Slot), xW D KA layX stX ad ids (xA ad ids s.heap.size) s.heap σ H locs → lv_has ls 8 [(0, .ref (ad 0)), (3, .int x3), (4, .int x4), (5, .ref (ad x5)), (6, .int x6), (7, .int x7)] → (wX11_drums_66 ids post x3 x4 x5 n) x6 x7 σ → W p l e rmX11_drums s m args below meth c H locs 0 0 Q (F0 m 66 ls []) := fun x6 x7 σ H locs ls hW hl h => ih x6 x7 σ H locs ls hW hl h
      rw [wX11_drums_66_s] at h
      try dsimp only at h
      generalize wX11_drums_66 ids post x3 x4 x5 n = k66 at h hk66
      refine lv_iload hx hb dX11_drums_66 (lv_at hl 5 rfl) ?_
      refine lv_iload hx hb dX11_drums_68 (lv_at hl 2 rfl) ?_
      refine lv_icmp_ge (tgt := 120) hx hb dX11_drums_70 (by decide) (fun c2 => ?_) (fun c2 => ?_)
      · have h := h.1 c2
        refine lv_iload hx hb dX11_drums_120 (lv_at hl 4 rfl) ?_
        exact kr _ _ _ _ _ _ hW h dX11_drums_122
      · have h := h.2 c2
        refine lv_iload_n hx hb dX11_drums_73 rfl (lv_at hl 1 rfl) ?_
        refine lv_iconst (v := 0) hx hb dX11_drums_74 (by decide) ?_
        refine lv_aload hx hb dX11_drums_75 (lv_at hl 3 rfl) ?_
        refine xgX8_1 hx hb hts hown hK hW x5 hcX11_drums_X8 ok_x5.1 (lay_okS ok_x5) (hts _ hwX11_drums_0) dX11_drums_77 ?_
        refine lv_iconst (v := 1) hx hb dX11_drums_80 (by decide) ?_
        refine lv_isub hx hb dX11_drums_81 ?_
        refine lv_iload hx hb dX11_drums_82 (lv_at hl 5 rfl) ?_
        refine lv_isub hx hb dX11_drums_84 ?_
        refine x_calli (va_runS (As := [.int x3, .int (0 : Int32), .int (((gI σ x5 1) - (1 : Int32)) - x7)]) (rest := []) ⟨hx, hb, hml, hown, hts⟩ (J_X11_within l hI h) (va_cwS 3 hts gX11_drums_X11_within rfl rfl rfl hdS_X11_within ⟨Nat.le_of_ble_eq_true rfl, Nat.le_of_ble_eq_true rfl⟩) (x_preS hK hZ hA hW) rfl rfl hl.1 rfl (lv_room (Nat.le_of_ble_eq_true rfl)) dX11_drums_85 ⟨Nat.zero_le _, Nat.zero_le _⟩) hW hA (fun r4 σ3 H locs h hW => ?_)
        try dsimp only at h
        refine lv_if_ne (tgt := 94) hx hb dX11_drums_88 (by decide) (fun c5 => ?_) (fun c5 => ?_)
        · have h := h.1 c5
          refine lv_aload_n hx hb dX11_drums_94 rfl (lv_at hl 0 rfl) ?_
          refine lv_aload hx hb dX11_drums_95 (lv_at hl 3 rfl) ?_
          refine xgX8_2r hx hb hts hown hK hW x5 hcX11_drums_X8 ok_x5.1 (lay_okS ok_x5) (hts _ hwX11_drums_1) (st_okS1 ok_x5) dX11_drums_97 ?_
          refine lv_iload_n hx hb dX11_drums_100 rfl (lv_at hl 1 rfl) ?_
          refine lv_iload hx hb dX11_drums_101 (lv_at hl 5 rfl) ?_
          refine lv_iadd hx hb dX11_drums_103 ?_
          obtain ⟨hi6, h⟩ := h
          refine x_iald hx hb hK hW (x5 + 1) (hI _ (okS_lt1 ok_x5)) (lay_okS1 ok_x5) hi6 dX11_drums_104 ?_
          refine x_calli (va_runV (As := [.int (gI σ3 (x5 + 1) (x3 + x7).toNatClampNeg)]) (rest := []) ⟨hx, hb, hml, hown, hts⟩ (J_X11_drum l hI h) (cwV 1 hts gX11_drums_X11_drum rfl rfl rfl hdV_X11_drum ⟨Nat.le_of_ble_eq_true rfl, Nat.le_of_ble_eq_true rfl⟩) (x_preV (ci := 11) hK hZ hA hW (hI 0 (by decide)) lX_0 rfl) rfl rfl hl.1 rfl (lv_room (Nat.le_of_ble_eq_true rfl)) dX11_drums_105 ⟨Nat.zero_le _, Nat.zero_le _⟩) hW hA (fun r8 σ7 H locs h hW => ?_)
          try dsimp only at h
          refine lv_if_lt (tgt := 114) hx hb dX11_drums_108 (by decide) (fun c9 => ?_) (fun c9 => ?_)
          · have h := h.1 c9
            exact blk114 x3 x4 x5 ok_x5 k66 hk66 x6 x7 _ _ _ _ hW (lv_sub hl [0, 1, 2, 3, 4, 5] rfl) h
          · have h := h.2 c9
            obtain ⟨v10, hv10⟩ : ∃ y : Int32, y = x6 + (1 : Int32) := ⟨_, rfl⟩
            have h := h v10 hv10
            refine lv_iinc (v := v10) (lv' := [(6, .int v10), (0, .ref (ad 0)), (3, .int x3), (4, .int x4), (5, .ref (ad x5)), (7, .int x7)]) hx hb dX11_drums_111 hl (k := 4) rfl (by rw [hv10]; rfl) (by decide) rfl (fun ls hl => ?_)
            exact blk114 x3 x4 x5 ok_x5 k66 hk66 v10 x7 _ _ _ _ hW (lv_sub hl [1, 2, 3, 4, 0, 5] rfl) h
        · have h := h.2 c5
          refine lv_bipush (v := (-12)) hx hb dX11_drums_91 (by decide) ?_
          exact kr _ _ _ _ _ _ hW h dX11_drums_93
  have blk25 : ∀ (σ : St) (H : Heap) (locs : List Loc) (ls : Array Slot), xW D KA layX stX ad ids (xA ad ids s.heap.size) s.heap σ H locs → lv_has ls 8 [] → wX11_drums_25 ids post  σ → W p l e rmX11_drums s m args below meth c H locs 0 0 Q (F0 m 25 ls []) := by
    intro    σ H locs ls hW hl h
    unfold wX11_drums_25 at h
    refine lv_bipush (v := (-2)) hx hb dX11_drums_25 (by decide) ?_
    exact kr _ _ _ _ _ _ hW h dX11_drums_27
  have main : ∀ (H : Heap) (locs : List Loc) (ls : Array Slot), xW D KA layX stX ad ids (xA ad ids s.heap.size) s.heap σ H locs → lv_has ls 8 [(0, .ref (ad 0)), (1, .int a1), (2, .int a2), (3, .int a3), (4, .int a4)] → W p l e rmX11_drums s m args below meth c H locs 0 0 Q (F0 m 0 ls []) := by
    intro H locs ls hW hl
    unfold wX11_drums at h
    refine lv_iload_n hx hb dX11_drums_0 rfl (lv_at hl 1 rfl) ?_
    refine x_calli (va_runS (As := [.int a1]) (rest := []) ⟨hx, hb, hml, hown, hts⟩ (J_X11_isSheet l hI h) (va_cwS 1 hts gX11_drums_X11_isSheet rfl rfl rfl hdS_X11_isSheet ⟨Nat.le_of_ble_eq_true rfl, Nat.le_of_ble_eq_true rfl⟩) (x_preS hK hZ hA hW) rfl rfl hl.1 rfl (lv_room (Nat.le_of_ble_eq_true rfl)) dX11_drums_1 ⟨Nat.zero_le _, Nat.zero_le _⟩) hW hA (fun r1002 σ1001 H locs h hW => ?_)
    try dsimp only at h
    refine lv_if_eq (tgt := 25) hx hb dX11_drums_4 (by decide) (fun c1003 => ?_) (fun c1003 => ?_)
    · have h := h.1 c1003
      exact blk25    _ _ _ _ hW (lv_sub hl [] rfl) h
    · have h := h.2 c1003
      refine lv_iload_n hx hb dX11_drums_7 rfl (lv_at hl 2 rfl) ?_
      refine x_calli (va_runS (As := [.int a2]) (rest := []) ⟨hx, hb, hml, hown, hts⟩ (J_X11_isSort l hI h) (va_cwS 1 hts gX11_drums_X11_isSort rfl rfl rfl hdS_X11_isSort ⟨Nat.le_of_ble_eq_true rfl, Nat.le_of_ble_eq_true rfl⟩) (x_preS hK hZ hA hW) rfl rfl hl.1 rfl (lv_room (Nat.le_of_ble_eq_true rfl)) dX11_drums_8 ⟨Nat.zero_le _, Nat.zero_le _⟩) hW hA (fun r1005 σ1004 H locs h hW => ?_)
      try dsimp only at h
      refine lv_if_eq (tgt := 25) hx hb dX11_drums_11 (by decide) (fun c1006 => ?_) (fun c1006 => ?_)
      · have h := h.1 c1006
        exact blk25    _ _ _ _ hW (lv_sub hl [] rfl) h
      · have h := h.2 c1006
        refine lv_iload hx hb dX11_drums_14 (lv_at hl 4 rfl) ?_
        refine lv_iconst (v := 0) hx hb dX11_drums_16 (by decide) ?_
        refine lv_bipush (v := 12) hx hb dX11_drums_17 (by decide) ?_
        refine x_calli (va_runS (As := [.int a4, .int (0 : Int32), .int (12 : Int32)]) (rest := []) ⟨hx, hb, hml, hown, hts⟩ (J_X11_within l hI h) (va_cwS 3 hts gX11_drums_X11_within rfl rfl rfl hdS_X11_within ⟨Nat.le_of_ble_eq_true rfl, Nat.le_of_ble_eq_true rfl⟩) (x_preS hK hZ hA hW) rfl rfl hl.1 rfl (lv_room (Nat.le_of_ble_eq_true rfl)) dX11_drums_19 ⟨Nat.zero_le _, Nat.zero_le _⟩) hW hA (fun r1008 σ1007 H locs h hW => ?_)
        try dsimp only at h
        refine lv_if_ne (tgt := 28) hx hb dX11_drums_22 (by decide) (fun c1009 => ?_) (fun c1009 => ?_)
        · have h := h.1 c1009
          refine lv_aload_n hx hb dX11_drums_28 rfl (lv_at hl 0 rfl) ?_
          refine xgX11_6r hx hb hts hown hK hW 0 hcX11_drums_X11 (hI 0 (by decide)) lX_0 (hts _ hwX11_drums_2) (sX_0_6 _) dX11_drums_29 ?_
          refine lv_iload_n hx hb dX11_drums_32 rfl (lv_at hl 1 rfl) ?_
          obtain ⟨hi1010, h⟩ := h
          refine x_ald hx hb hK hW 16 2 (hI 16 (by decide)) lX_16 rfl hi1010 (st_aokS hi1010) dX11_drums_33 ?_
          refine lv_astore (lv' := [(5, .ref (ad (44 + 2 * a1.toNatClampNeg))), (0, .ref (ad 0)), (1, .int a1), (2, .int a2), (3, .int a3), (4, .int a4)]) hx hb dX11_drums_34 hl (by decide) rfl (fun ls hl => ?_)
          refine lv_aload hx hb dX11_drums_36 (lv_at hl 0 rfl) ?_
          refine xgX8_0 hx hb hts hown hK hW (44 + 2 * a1.toNatClampNeg) hcX11_drums_X8 (okS_of hI hi1010).1 (lay_okS (okS_of hI hi1010)) (hts _ hwX11_drums_3) dX11_drums_38 ?_
          refine lv_iconst (v := (-1)) hx hb dX11_drums_41 (by decide) ?_
          refine lv_icmp_ne (tgt := 48) hx hb dX11_drums_42 (by decide) (fun c1011 => ?_) (fun c1011 => ?_)
          · have h := h.1 c1011
            refine lv_aload hx hb dX11_drums_48 (lv_at hl 0 rfl) ?_
            refine xgX8_0 hx hb hts hown hK hW (44 + 2 * a1.toNatClampNeg) hcX11_drums_X8 (okS_of hI hi1010).1 (lay_okS (okS_of hI hi1010)) (hts _ hwX11_drums_3) dX11_drums_50 ?_
            refine lv_iload_n hx hb dX11_drums_53 rfl (lv_at hl 3 rfl) ?_
            refine lv_icmp_eq (tgt := 60) hx hb dX11_drums_54 (by decide) (fun c1012 => ?_) (fun c1012 => ?_)
            · have h := h.1 c1012
              refine lv_iconst (v := 0) hx hb dX11_drums_60 (by decide) ?_
              refine lv_istore (lv' := [(6, .int (0 : Int32)), (5, .ref (ad (44 + 2 * a1.toNatClampNeg))), (0, .ref (ad 0)), (1, .int a1), (2, .int a2), (3, .int a3), (4, .int a4)]) hx hb dX11_drums_61 hl (by decide) rfl (fun ls hl => ?_)
              refine lv_iconst (v := 0) hx hb dX11_drums_63 (by decide) ?_
              refine lv_istore (lv' := [(7, .int (0 : Int32)), (6, .int (0 : Int32)), (5, .ref (ad (44 + 2 * a1.toNatClampNeg))), (0, .ref (ad 0)), (1, .int a1), (2, .int a2), (3, .int a3), (4, .int a4)]) hx hb dX11_drums_64 hl (by decide) rfl (fun ls hl => ?_)
              obtain ⟨n, h⟩ := h
              exact blk66   a3 a4 (44 + 2 * a1.toNatClampNeg) (okS_of hI hi1010) n (0 : Int32) (0 : Int32) _ _ _ _ hW (lv_sub hl [3, 6, 7, 2, 1, 0] rfl) h
            · have h := h.2 c1012
              refine lv_bipush (v := (-13)) hx hb dX11_drums_57 (by decide) ?_
              exact kr _ _ _ _ _ _ hW h dX11_drums_59
          · have h := h.2 c1011
            refine lv_bipush (v := (-11)) hx hb dX11_drums_45 (by decide) ?_
            exact kr _ _ _ _ _ _ hW h dX11_drums_47
        · have h := h.2 c1009
          exact blk25    _ _ _ _ hW (lv_sub hl [] rfl) h
  exact main _ _ _ hW hl
theorem hwX11_engine_0 : (.fieldLink RX11 10 "FortyBelts" "mill" "LFortyBelts$Mill;" : Cond) ∈ wsX11_engine := (List.mem_cons_of_mem _ (List.mem_append_left _ (List.mem_append_left _ (List.mem_of_getElem? (i := 0) rfl))))
theorem hwX11_engine_1 : (.fieldLink RX11 85 "FortyBelts$Mill" "power" "I" : Cond) ∈ wsX11_engine := (List.mem_cons_of_mem _ (List.mem_append_left _ (List.mem_append_left _ (List.mem_of_getElem? (i := 2) rfl))))
theorem hwX11_engine_2 : (.fieldLink RX11 82 "FortyBelts$Mill" "engineTurns" "I" : Cond) ∈ wsX11_engine := (List.mem_cons_of_mem _ (List.mem_append_left _ (List.mem_append_left _ (List.mem_of_getElem? (i := 1) rfl))))
theorem hcX11_engine_X11 : ∀ w ∈ wsX110, w ∈ wsX11_engine := fun _ h => (List.mem_cons_of_mem _ (List.mem_append_left _ (List.mem_append_right _ h)))
theorem hcX11_engine_X6 : ∀ w ∈ wsX60, w ∈ wsX11_engine := fun _ h => (List.mem_cons_of_mem _ (List.mem_append_right _ h))
set_option maxHeartbeats 4000000 in
set_option maxRecDepth 100000 in
theorem J_X11_engine {D : va_G} {KA : Nat → ClassId} {zs : ZS} {ad : Nat → Nat} {ids : List Nat} {sz : Nat} (l : Launch) (hI : ∀ c, c < 52 ∧ ¬ c = 19 → c ∈ ids) {a1 : Int32} {a2 : Int32}  {σ : St} {post : Int32 → St → Prop} (h : wX11_engine ids a1 a2 σ post) : Met l yX11_engine wsX11_engine rmX11_engine (va_Pc [.ref (ad 0), .int a1, .int a2] (xIn D KA zs layX stX ad ids sz σ)) (va_Qi post (xOut D KA layX stX ad ids) (xA ad ids sz)) 0 0 (xA ad ids sz) := by
  refine Met.ofW (cc := cX11_engine) (maxL := 4) (ret := (some .int)) (by decide) rfl ?_
  intro p e s m args below meth c s₁ B hml hv
  obtain ⟨hav, hsz, hK, hZ, hP, hD⟩ := hv
  have hx := B.exec
  have hb := B.bytes
  have hr := B.returns
  have hts := atoms_spec (ws := wsX11_engine) B.pre
  have hown : s.vm.findClass RX11 = some m.cls := findClass_of_methodNamed B.named
  have hlocks := B.notSynchronized
  subst hsz
  have hA : ∀ q : Nat, s.heap.size ≤ q → xA ad ids s.heap.size q := fun q h => Or.inr h
  have hW : xW D KA layX stX ad ids (xA ad ids s.heap.size) s.heap σ s.heap [] := ⟨hP, xA_D (D := D) hD, va_S.rf⟩
  have kr : ∀ (v : Int32) (σ : St) (H : Heap) (locs : List Loc) (ls : Array Slot) (pc : Nat), xW D KA layX stX ad ids (xA ad ids s.heap.size) s.heap σ H locs → post v σ → decode cX11_engine pc = .ok (.ireturn, 1) → W p l e rmX11_engine s m args below meth c H locs 0 0 (MQ below (va_Qi post (xOut D KA layX stX ad ids) (xA ad ids s.heap.size)) args s 0 0 (xA ad ids s.heap.size)) (F0 m pc ls [.int v]) := fun v σ H locs ls pc hW h hd => x_iret hx hb hr hlocks hW h hd
  have hl := lv_entry ([.ref (ad 0), .int a1, .int a2]) (n := 4) (Nat.le_of_ble_eq_true rfl)
  rw [show entryFrame m args 4 = entryFrame m ([.ref (ad 0), .int a1, .int a2] : List Value).toArray 4 from by rw [hav]]
  rw [lg_entry_eq]
  generalize (lg_sl ([.ref (ad 0), .int a1, .int a2]) ++ List.replicate (4 - (lg_sl ([.ref (ad 0), .int a1, .int a2])).length) Slot.unset).toArray = ls at hl ⊢
  have hl : lv_has ls 4 [(0, .ref (ad 0)), (1, .int a1), (2, .int a2)] := hl
  show W p l e rmX11_engine s m args below meth c s.heap [] 0 0 _ _
  generalize MQ below (va_Qi post (xOut D KA layX stX ad ids) (xA ad ids s.heap.size)) args s 0 0 (xA ad ids s.heap.size) = Q at kr ⊢
  have blk67 : ∀ (σ : St) (H : Heap) (locs : List Loc) (ls : Array Slot), xW D KA layX stX ad ids (xA ad ids s.heap.size) s.heap σ H locs → lv_has ls 4 [] → wX11_engine_67 ids post  σ → W p l e rmX11_engine s m args below meth c H locs 0 0 Q (F0 m 67 ls []) := by
    intro    σ H locs ls hW hl h
    unfold wX11_engine_67 at h
    refine lv_bipush (v := (-2)) hx hb dX11_engine_67 (by decide) ?_
    exact kr _ _ _ _ _ _ hW h dX11_engine_69
  have blk33 : ∀ (x1 : Int32) (x2 : Int32) (σ : St) (H : Heap) (locs : List Loc) (ls : Array Slot), xW D KA layX stX ad ids (xA ad ids s.heap.size) s.heap σ H locs → lv_has ls 4 [(0, .ref (ad 0)), (1, .int x1), (2, .int x2)] → wX11_engine_33 ids post x1 x2 σ → W p l e rmX11_engine s m args below meth c H locs 0 0 Q (F0 m 33 ls []) := by
    intro   x1 x2 σ H locs ls hW hl h
    unfold wX11_engine_33 at h
    refine lv_iload_n hx hb dX11_engine_33 rfl (lv_at hl 1 rfl) ?_
    refine lv_iconst (v := 1) hx hb dX11_engine_34 (by decide) ?_
    refine lv_icmp_ne (tgt := 67) hx hb dX11_engine_35 (by decide) (fun c1 => ?_) (fun c1 => ?_)
    · have h := h.1 c1
      exact blk67    _ _ _ _ hW (lv_sub hl [] rfl) h
    · have h := h.2 c1
      refine lv_iload_n hx hb dX11_engine_38 rfl (lv_at hl 2 rfl) ?_
      refine lv_iconst (v := 1) hx hb dX11_engine_39 (by decide) ?_
      refine lv_sipush (v := 9999) hx hb dX11_engine_40 (by decide) ?_
      refine x_calli (va_runS (As := [.int x2, .int (1 : Int32), .int (9999 : Int32)]) (rest := []) ⟨hx, hb, hml, hown, hts⟩ (J_X11_within l hI h) (va_cwS 3 hts gX11_engine_X11_within rfl rfl rfl hdS_X11_within ⟨Nat.le_of_ble_eq_true rfl, Nat.le_of_ble_eq_true rfl⟩) (x_preS hK hZ hA hW) rfl rfl hl.1 rfl (lv_room (Nat.le_of_ble_eq_true rfl)) dX11_engine_43 ⟨Nat.zero_le _, Nat.zero_le _⟩) hW hA (fun r3 σ2 H locs h hW => ?_)
      try dsimp only at h
      refine lv_if_eq (tgt := 67) hx hb dX11_engine_46 (by decide) (fun c4 => ?_) (fun c4 => ?_)
      · have h := h.1 c4
        exact blk67    _ _ _ _ hW (lv_sub hl [] rfl) h
      · have h := h.2 c4
        refine lv_aload_n hx hb dX11_engine_49 rfl (lv_at hl 0 rfl) ?_
        refine xgX11_0r hx hb hts hown hK hW 0 hcX11_engine_X11 (hI 0 (by decide)) lX_0 (hts _ hwX11_engine_0) (sX_0_0 _) dX11_engine_50 ?_
        refine xgX6_15 hx hb hts hown hK hW 1 hcX11_engine_X6 (hI 1 (by decide)) lX_1 (hts _ hwX11_engine_1) dX11_engine_53 ?_
        refine lv_topi (fun v5 hv5 => ?_)
        have h := h v5 hv5
        refine lv_istore_n (lv' := [(3, .int v5), (0, .ref (ad 0)), (1, .int x1), (2, .int x2)]) hx hb dX11_engine_56 rfl hl (by decide) rfl (fun ls hl => ?_)
        refine lv_aload_n hx hb dX11_engine_57 rfl (lv_at hl 1 rfl) ?_
        refine xgX11_0r hx hb hts hown hK hW 0 hcX11_engine_X11 (hI 0 (by decide)) lX_0 (hts _ hwX11_engine_0) (sX_0_0 _) dX11_engine_58 ?_
        refine lv_iload_n hx hb dX11_engine_61 rfl (lv_at hl 3 rfl) ?_
        refine xpX6_15 hx hb hts hown hK hW 1 hcX11_engine_X6 (hI 1 (by decide)) lX_1 (hts _ hwX11_engine_1) dX11_engine_62 (fun σ6 H locs hσ6 hW => ?_)
        have h := h σ6 hσ6
        refine lv_iload_n hx hb dX11_engine_65 rfl (lv_at hl 0 rfl) ?_
        exact kr _ _ _ _ _ _ hW h dX11_engine_66
  have main : ∀ (H : Heap) (locs : List Loc) (ls : Array Slot), xW D KA layX stX ad ids (xA ad ids s.heap.size) s.heap σ H locs → lv_has ls 4 [(0, .ref (ad 0)), (1, .int a1), (2, .int a2)] → W p l e rmX11_engine s m args below meth c H locs 0 0 Q (F0 m 0 ls []) := by
    intro H locs ls hW hl
    unfold wX11_engine at h
    refine lv_iload_n hx hb dX11_engine_0 rfl (lv_at hl 1 rfl) ?_
    refine lv_if_ne (tgt := 33) hx hb dX11_engine_1 (by decide) (fun c1001 => ?_) (fun c1001 => ?_)
    · have h := h.1 c1001
      exact blk33   a1 a2 _ _ _ _ hW (lv_sub hl [0, 1, 2] rfl) h
    · have h := h.2 c1001
      refine lv_iload_n hx hb dX11_engine_4 rfl (lv_at hl 2 rfl) ?_
      refine lv_iconst (v := 1) hx hb dX11_engine_5 (by decide) ?_
      refine lv_sipush (v := 999) hx hb dX11_engine_6 (by decide) ?_
      refine x_calli (va_runS (As := [.int a2, .int (1 : Int32), .int (999 : Int32)]) (rest := []) ⟨hx, hb, hml, hown, hts⟩ (J_X11_within l hI h) (va_cwS 3 hts gX11_engine_X11_within rfl rfl rfl hdS_X11_within ⟨Nat.le_of_ble_eq_true rfl, Nat.le_of_ble_eq_true rfl⟩) (x_preS hK hZ hA hW) rfl rfl hl.1 rfl (lv_room (Nat.le_of_ble_eq_true rfl)) dX11_engine_9 ⟨Nat.zero_le _, Nat.zero_le _⟩) hW hA (fun r1003 σ1002 H locs h hW => ?_)
      try dsimp only at h
      refine lv_if_eq (tgt := 33) hx hb dX11_engine_12 (by decide) (fun c1004 => ?_) (fun c1004 => ?_)
      · have h := h.1 c1004
        exact blk33   a1 a2 _ _ _ _ hW (lv_sub hl [0, 1, 2] rfl) h
      · have h := h.2 c1004
        refine lv_aload_n hx hb dX11_engine_15 rfl (lv_at hl 0 rfl) ?_
        refine xgX11_0r hx hb hts hown hK hW 0 hcX11_engine_X11 (hI 0 (by decide)) lX_0 (hts _ hwX11_engine_0) (sX_0_0 _) dX11_engine_16 ?_
        refine xgX6_14 hx hb hts hown hK hW 1 hcX11_engine_X6 (hI 1 (by decide)) lX_1 (hts _ hwX11_engine_2) dX11_engine_19 ?_
        refine lv_topi (fun v1005 hv1005 => ?_)
        have h := h v1005 hv1005
        refine lv_istore_n (lv' := [(3, .int v1005), (0, .ref (ad 0)), (1, .int a1), (2, .int a2)]) hx hb dX11_engine_22 rfl hl (by decide) rfl (fun ls hl => ?_)
        refine lv_aload_n hx hb dX11_engine_23 rfl (lv_at hl 1 rfl) ?_
        refine xgX11_0r hx hb hts hown hK hW 0 hcX11_engine_X11 (hI 0 (by decide)) lX_0 (hts _ hwX11_engine_0) (sX_0_0 _) dX11_engine_24 ?_
        refine lv_iload_n hx hb dX11_engine_27 rfl (lv_at hl 3 rfl) ?_
        refine xpX6_14 hx hb hts hown hK hW 1 hcX11_engine_X6 (hI 1 (by decide)) lX_1 (hts _ hwX11_engine_2) dX11_engine_28 (fun σ1006 H locs hσ1006 hW => ?_)
        have h := h σ1006 hσ1006
        refine lv_iload_n hx hb dX11_engine_31 rfl (lv_at hl 0 rfl) ?_
        exact kr _ _ _ _ _ _ hW h dX11_engine_32
  exact main _ _ _ hW hl
theorem hwX7_take_0 : (.fieldLink RX7 15 "FortyBelts$Reader" "fed" "I" : Cond) ∈ wsX7_take := (List.mem_cons_of_mem _ (List.mem_append_left _ (List.mem_of_getElem? (i := 0) rfl)))
theorem hwX7_take_1 : (.fieldLink RX7 11 "FortyBelts$Reader" "tape" "[I" : Cond) ∈ wsX7_take := (List.mem_cons_of_mem _ (List.mem_append_left _ (List.mem_of_getElem? (i := 1) rfl)))
theorem hcX7_take_X7 : ∀ w ∈ wsX70, w ∈ wsX7_take := fun _ h => (List.mem_cons_of_mem _ (List.mem_append_right _ h))
set_option maxHeartbeats 4000000 in
set_option maxRecDepth 100000 in
theorem J_X7_take {D : va_G} {KA : Nat → ClassId} {zs : ZS} {ad : Nat → Nat} {ids : List Nat} {sz : Nat} (l : Launch) (hI : ∀ c, n7 c → c ∈ ids) {st : Nat → Nat → Option Nat} (hst : ∀ c, n7 c → st c = stX c) {a1 : Int32}  {σ : St} {post : St → Prop} (h : wX7_take ids a1 σ post) : Met l yX7_take wsX7_take rmX7_take (va_Pc [.ref (ad 2), .int a1] (xIn D KA zs layX st ad ids sz σ)) (va_Qv post (xOut D KA layX st ad ids) (xA ad ids sz)) 0 0 (xA ad ids sz) := by
  refine Met.ofW (cc := cX7_take) (maxL := 2) (ret := none) (by decide) rfl ?_
  intro p e s m args below meth c s₁ B hml hv
  obtain ⟨hav, hsz, hK, hZ, hP, hD⟩ := hv
  have hx := B.exec
  have hb := B.bytes
  have hr := B.returns
  have hts := atoms_spec (ws := wsX7_take) B.pre
  have hown : s.vm.findClass RX7 = some m.cls := findClass_of_methodNamed B.named
  have hlocks := B.notSynchronized
  subst hsz
  have hA : ∀ q : Nat, s.heap.size ≤ q → xA ad ids s.heap.size q := fun q h => Or.inr h
  have hW : xW D KA layX st ad ids (xA ad ids s.heap.size) s.heap σ s.heap [] := ⟨hP, xA_D (D := D) hD, va_S.rf⟩
  have kr : ∀ (σ : St) (H : Heap) (locs : List Loc) (ls : Array Slot) (pc : Nat), xW D KA layX st ad ids (xA ad ids s.heap.size) s.heap σ H locs → post σ → decode cX7_take pc = .ok (.return_, 1) → W p l e rmX7_take s m args below meth c H locs 0 0 (MQ below (va_Qv post (xOut D KA layX st ad ids) (xA ad ids s.heap.size)) args s 0 0 (xA ad ids s.heap.size)) (F0 m pc ls []) := fun σ H locs ls pc hW h hd => x_vret hx hb hr hlocks hW h hd
  have hl := lv_entry ([.ref (ad 2), .int a1]) (n := 2) (Nat.le_of_ble_eq_true rfl)
  rw [show entryFrame m args 2 = entryFrame m ([.ref (ad 2), .int a1] : List Value).toArray 2 from by rw [hav]]
  rw [lg_entry_eq]
  generalize (lg_sl ([.ref (ad 2), .int a1]) ++ List.replicate (2 - (lg_sl ([.ref (ad 2), .int a1])).length) Slot.unset).toArray = ls at hl ⊢
  have hl : lv_has ls 2 [(0, .ref (ad 2)), (1, .int a1)] := hl
  show W p l e rmX7_take s m args below meth c s.heap [] 0 0 _ _
  generalize MQ below (va_Qv post (xOut D KA layX st ad ids) (xA ad ids s.heap.size)) args s 0 0 (xA ad ids s.heap.size) = Q at kr ⊢
  have blk34 : ∀ (σ : St) (H : Heap) (locs : List Loc) (ls : Array Slot), xW D KA layX st ad ids (xA ad ids s.heap.size) s.heap σ H locs → lv_has ls 2 [] → wX7_take_34 ids post  σ → W p l e rmX7_take s m args below meth c H locs 0 0 Q (F0 m 34 ls []) := by
    intro    σ H locs ls hW hl h
    unfold wX7_take_34 at h
    exact kr _ _ _ _ _ hW h dX7_take_34
  have main : ∀ (H : Heap) (locs : List Loc) (ls : Array Slot), xW D KA layX st ad ids (xA ad ids s.heap.size) s.heap σ H locs → lv_has ls 2 [(0, .ref (ad 2)), (1, .int a1)] → W p l e rmX7_take s m args below meth c H locs 0 0 Q (F0 m 0 ls []) := by
    intro H locs ls hW hl
    unfold wX7_take at h
    refine lv_aload_n hx hb dX7_take_0 rfl (lv_at hl 0 rfl) ?_
    refine xgX7_1 hx hb hts hown hK hW 2 hcX7_take_X7 (hI 2 (by decide)) lX_2 (hts _ hwX7_take_0) dX7_take_1 ?_
    refine lv_sipush (v := 160) hx hb dX7_take_4 (by decide) ?_
    refine lv_icmp_ge (tgt := 34) hx hb dX7_take_7 (by decide) (fun c1001 => ?_) (fun c1001 => ?_)
    · have h := h.1 c1001
      exact blk34    _ _ _ _ hW (lv_sub hl [] rfl) h
    · have h := h.2 c1001
      refine lv_aload_n hx hb dX7_take_10 rfl (lv_at hl 0 rfl) ?_
      refine xgX7_0r hx hb hts hown hK hW 2 hcX7_take_X7 (hI 2 (by decide)) lX_2 (hts _ hwX7_take_1) (s7_2_0 hst _) dX7_take_11 ?_
      refine lv_aload_n hx hb dX7_take_14 rfl (lv_at hl 0 rfl) ?_
      refine xgX7_1 hx hb hts hown hK hW 2 hcX7_take_X7 (hI 2 (by decide)) lX_2 (hts _ hwX7_take_0) dX7_take_15 ?_
      refine lv_iload_n hx hb dX7_take_18 rfl (lv_at hl 1 rfl) ?_
      refine lv_sipush (v := 255) hx hb dX7_take_19 (by decide) ?_
      refine lv_iand hx hb dX7_take_22 ?_
      obtain ⟨hi1002, h⟩ := h
      refine x_iast hx hb hK hW 13 (hI 13 (by decide)) lX_13 hi1002 dX7_take_23 (fun σ1003 H locs hσ1003 hW => ?_)
      have h := h σ1003 hσ1003
      refine lv_aload_n hx hb dX7_take_24 rfl (lv_at hl 0 rfl) ?_
      refine lv_dup hx hb dX7_take_25 rfl ?_
      refine xgX7_1 hx hb hts hown hK hW 2 hcX7_take_X7 (hI 2 (by decide)) lX_2 (hts _ hwX7_take_0) dX7_take_26 ?_
      refine lv_iconst (v := 1) hx hb dX7_take_29 (by decide) ?_
      refine lv_iadd hx hb dX7_take_30 ?_
      refine xpX7_1 hx hb hts hown hK hW 2 hcX7_take_X7 (hI 2 (by decide)) lX_2 (hts _ hwX7_take_0) dX7_take_31 (fun σ1004 H locs hσ1004 hW => ?_)
      have h := h σ1004 hσ1004
      exact blk34    _ _ _ _ hW (lv_sub hl [] rfl) h
  exact main _ _ _ hW hl
theorem hwX11_feed_0 : (.fieldLink RX11 19 "FortyBelts" "reader" "LFortyBelts$Reader;" : Cond) ∈ wsX11_feed := (List.mem_cons_of_mem _ (List.mem_append_left _ (List.mem_append_left _ (List.mem_of_getElem? (i := 0) rfl))))
theorem hwX11_feed_1 : (.fieldLink RX11 240 "FortyBelts$Reader" "fed" "I" : Cond) ∈ wsX11_feed := (List.mem_cons_of_mem _ (List.mem_append_left _ (List.mem_append_left _ (List.mem_of_getElem? (i := 1) rfl))))
theorem hcX11_feed_X11 : ∀ w ∈ wsX110, w ∈ wsX11_feed := fun _ h => (List.mem_cons_of_mem _ (List.mem_append_left _ (List.mem_append_right _ h)))
theorem hcX11_feed_X7 : ∀ w ∈ wsX70, w ∈ wsX11_feed := fun _ h => (List.mem_cons_of_mem _ (List.mem_append_right _ h))
set_option maxHeartbeats 4000000 in
set_option maxRecDepth 100000 in
theorem J_X11_feed {D : va_G} {KA : Nat → ClassId} {zs : ZS} {ad : Nat → Nat} {ids : List Nat} {sz : Nat} (l : Launch) (hI : ∀ c, c < 52 ∧ ¬ c = 19 → c ∈ ids) {a1 : Int32} {a2 : Int64}  {σ : St} {post : Int32 → St → Prop} (h : wX11_feed ids a1 a2 σ post) : Met l yX11_feed wsX11_feed rmX11_feed (va_Pc [.ref (ad 0), .int a1, .long a2] (xIn D KA zs layX stX ad ids sz σ)) (va_Qi post (xOut D KA layX stX ad ids) (xA ad ids sz)) 0 0 (xA ad ids sz) := by
  refine Met.ofW (cc := cX11_feed) (maxL := 5) (ret := (some .int)) (by decide) rfl ?_
  intro p e s m args below meth c s₁ B hml hv
  obtain ⟨hav, hsz, hK, hZ, hP, hD⟩ := hv
  have hx := B.exec
  have hb := B.bytes
  have hr := B.returns
  have hts := atoms_spec (ws := wsX11_feed) B.pre
  have hown : s.vm.findClass RX11 = some m.cls := findClass_of_methodNamed B.named
  have hlocks := B.notSynchronized
  subst hsz
  have hA : ∀ q : Nat, s.heap.size ≤ q → xA ad ids s.heap.size q := fun q h => Or.inr h
  have hW : xW D KA layX stX ad ids (xA ad ids s.heap.size) s.heap σ s.heap [] := ⟨hP, xA_D (D := D) hD, va_S.rf⟩
  have kr : ∀ (v : Int32) (σ : St) (H : Heap) (locs : List Loc) (ls : Array Slot) (pc : Nat), xW D KA layX stX ad ids (xA ad ids s.heap.size) s.heap σ H locs → post v σ → decode cX11_feed pc = .ok (.ireturn, 1) → W p l e rmX11_feed s m args below meth c H locs 0 0 (MQ below (va_Qi post (xOut D KA layX stX ad ids) (xA ad ids s.heap.size)) args s 0 0 (xA ad ids s.heap.size)) (F0 m pc ls [.int v]) := fun v σ H locs ls pc hW h hd => x_iret hx hb hr hlocks hW h hd
  have hl := lv_entry ([.ref (ad 0), .int a1, .long a2]) (n := 5) (Nat.le_of_ble_eq_true rfl)
  rw [show entryFrame m args 5 = entryFrame m ([.ref (ad 0), .int a1, .long a2] : List Value).toArray 5 from by rw [hav]]
  rw [lg_entry_eq]
  generalize (lg_sl ([.ref (ad 0), .int a1, .long a2]) ++ List.replicate (5 - (lg_sl ([.ref (ad 0), .int a1, .long a2])).length) Slot.unset).toArray = ls at hl ⊢
  have hl : lv_has ls 5 [(0, .ref (ad 0)), (1, .int a1), (2, .long a2)] := hl
  show W p l e rmX11_feed s m args below meth c s.heap [] 0 0 _ _
  generalize MQ below (va_Qi post (xOut D KA layX stX ad ids) (xA ad ids s.heap.size)) args s 0 0 (xA ad ids s.heap.size) = Q at kr ⊢
  have blk34 : ∀ (x1 : Int32) (x2 : Int64) (n : Nat) (x4 : Int32) (σ : St) (H : Heap) (locs : List Loc) (ls : Array Slot), xW D KA layX stX ad ids (xA ad ids s.heap.size) s.heap σ H locs → lv_has ls 5 [(0, .ref (ad 0)), (1, .int x1), (2, .long x2), (4, .int x4)] → wX11_feed_34 ids post x1 x2 n x4 σ → W p l e rmX11_feed s m args below meth c H locs 0 0 Q (F0 m 34 ls []) := by
    intro   x1 x2 n
    induction n with
    | zero => intro x4 σ H locs ls hW hl h; exact (h : False).elim
    | succ n ih =>
      intro x4 σ H locs ls hW hl h
      have hk34 : ∀ (x4 : Int32) (σ : St) (H : Heap) (locs : List Loc) (ls : Array Slot), xW D KA layX stX ad ids (xA ad ids s.heap.size) s.heap σ H locs → lv_has ls 5 [(0, .ref (ad 0)), (1, .int x1), (2, .long x2), (4, .int x4)] → (wX11_feed_34 ids post x1 x2 n) x4 σ → W p l e rmX11_feed s m args below meth c H locs 0 0 Q (F0 m 34 ls []) := fun x4 σ H locs ls hW hl h => ih x4 σ H locs ls hW hl h
      rw [wX11_feed_34_s] at h
      try dsimp only at h
      generalize wX11_feed_34 ids post x1 x2 n = k34 at h hk34
      refine lv_iload hx hb dX11_feed_34 (lv_at hl 3 rfl) ?_
      refine lv_iload_n hx hb dX11_feed_36 rfl (lv_at hl 1 rfl) ?_
      refine lv_icmp_ge (tgt := 61) hx hb dX11_feed_37 (by decide) (fun c1 => ?_) (fun c1 => ?_)
      · have h := h.1 c1
        refine lv_aload_n hx hb dX11_feed_61 rfl (lv_at hl 0 rfl) ?_
        refine xgX11_1r hx hb hts hown hK hW 0 hcX11_feed_X11 (hI 0 (by decide)) lX_0 (hts _ hwX11_feed_0) (sX_0_1 _) dX11_feed_62 ?_
        refine xgX7_1 hx hb hts hown hK hW 2 hcX11_feed_X7 (hI 2 (by decide)) lX_2 (hts _ hwX11_feed_1) dX11_feed_65 ?_
        exact kr _ _ _ _ _ _ hW h dX11_feed_68
      · have h := h.2 c1
        refine lv_aload_n hx hb dX11_feed_40 rfl (lv_at hl 0 rfl) ?_
        refine xgX11_1r hx hb hts hown hK hW 0 hcX11_feed_X11 (hI 0 (by decide)) lX_0 (hts _ hwX11_feed_0) (sX_0_1 _) dX11_feed_41 ?_
        refine lv_lload_n hx hb dX11_feed_44 rfl (lv_at hl 2 rfl) ?_
        refine lv_bipush (v := 8) hx hb dX11_feed_45 (by decide) ?_
        refine lv_iload hx hb dX11_feed_47 (lv_at hl 3 rfl) ?_
        refine lv_imul hx hb dX11_feed_49 ?_
        refine lv_lshr hx hb dX11_feed_50 rfl ?_
        refine lv_l2i hx hb dX11_feed_51 rfl ?_
        refine x_callv (va_runV (As := [.int ((x2 >>> (((8 : Int32) * x4).toInt64 &&& 63)).toInt32)]) (rest := []) ⟨hx, hb, hml, hown, hts⟩ (J_X7_take l (fun c h => hI c (n7_lt h)) (fun _ _ => rfl) h) (cwV 1 hts gX11_feed_X7_take rfl rfl rfl hdV_X7_take ⟨Nat.le_of_ble_eq_true rfl, Nat.le_of_ble_eq_true rfl⟩) (x_preV (ci := 7) hK hZ hA hW (hI 2 (by decide)) lX_2 rfl) rfl rfl hl.1 rfl (lv_room (Nat.le_of_ble_eq_true rfl)) dX11_feed_52 ⟨Nat.zero_le _, Nat.zero_le _⟩) hW hA (fun σ2 H locs h hW => ?_)
        try dsimp only at h
        obtain ⟨v3, hv3⟩ : ∃ y : Int32, y = x4 + (1 : Int32) := ⟨_, rfl⟩
        have h := h v3 hv3
        refine lv_iinc (v := v3) (lv' := [(4, .int v3), (0, .ref (ad 0)), (1, .int x1), (2, .long x2)]) hx hb dX11_feed_55 hl (k := 3) rfl (by rw [hv3]; rfl) (by decide) rfl (fun ls hl => ?_)
        refine lv_goto (tgt := 34) hx hb dX11_feed_58 (by decide) ?_
        exact hk34 v3 _ _ _ _ hW (lv_sub hl [1, 2, 3, 0] rfl) h
  have main : ∀ (H : Heap) (locs : List Loc) (ls : Array Slot), xW D KA layX stX ad ids (xA ad ids s.heap.size) s.heap σ H locs → lv_has ls 5 [(0, .ref (ad 0)), (1, .int a1), (2, .long a2)] → W p l e rmX11_feed s m args below meth c H locs 0 0 Q (F0 m 0 ls []) := by
    intro H locs ls hW hl
    unfold wX11_feed at h
    refine lv_iload_n hx hb dX11_feed_0 rfl (lv_at hl 1 rfl) ?_
    refine lv_iconst (v := 1) hx hb dX11_feed_1 (by decide) ?_
    refine lv_bipush (v := 8) hx hb dX11_feed_2 (by decide) ?_
    refine x_calli (va_runS (As := [.int a1, .int (1 : Int32), .int (8 : Int32)]) (rest := []) ⟨hx, hb, hml, hown, hts⟩ (J_X11_within l hI h) (va_cwS 3 hts gX11_feed_X11_within rfl rfl rfl hdS_X11_within ⟨Nat.le_of_ble_eq_true rfl, Nat.le_of_ble_eq_true rfl⟩) (x_preS hK hZ hA hW) rfl rfl hl.1 rfl (lv_room (Nat.le_of_ble_eq_true rfl)) dX11_feed_4 ⟨Nat.zero_le _, Nat.zero_le _⟩) hW hA (fun r1002 σ1001 H locs h hW => ?_)
    try dsimp only at h
    refine lv_if_ne (tgt := 13) hx hb dX11_feed_7 (by decide) (fun c1003 => ?_) (fun c1003 => ?_)
    · have h := h.1 c1003
      refine lv_aload_n hx hb dX11_feed_13 rfl (lv_at hl 0 rfl) ?_
      refine xgX11_1r hx hb hts hown hK hW 0 hcX11_feed_X11 (hI 0 (by decide)) lX_0 (hts _ hwX11_feed_0) (sX_0_1 _) dX11_feed_14 ?_
      refine xgX7_1 hx hb hts hown hK hW 2 hcX11_feed_X7 (hI 2 (by decide)) lX_2 (hts _ hwX11_feed_1) dX11_feed_17 ?_
      refine lv_iload_n hx hb dX11_feed_20 rfl (lv_at hl 1 rfl) ?_
      refine lv_iadd hx hb dX11_feed_21 ?_
      refine lv_sipush (v := 160) hx hb dX11_feed_22 (by decide) ?_
      refine lv_icmp_le (tgt := 31) hx hb dX11_feed_25 (by decide) (fun c1004 => ?_) (fun c1004 => ?_)
      · have h := h.1 c1004
        refine lv_iconst (v := 0) hx hb dX11_feed_31 (by decide) ?_
        refine lv_istore (lv' := [(4, .int (0 : Int32)), (0, .ref (ad 0)), (1, .int a1), (2, .long a2)]) hx hb dX11_feed_32 hl (by decide) rfl (fun ls hl => ?_)
        obtain ⟨n, h⟩ := h
        exact blk34   a1 a2 n (0 : Int32) _ _ _ _ hW (lv_sub hl [1, 2, 3, 0] rfl) h
      · have h := h.2 c1004
        refine lv_bipush (v := (-4)) hx hb dX11_feed_28 (by decide) ?_
        exact kr _ _ _ _ _ _ hW h dX11_feed_30
    · have h := h.2 c1003
      refine lv_bipush (v := (-2)) hx hb dX11_feed_10 (by decide) ?_
      exact kr _ _ _ _ _ _ hW h dX11_feed_12
  exact main _ _ _ hW hl
theorem hwX11_firstOnTurning_0 : (.fieldLink RX11 10 "FortyBelts" "mill" "LFortyBelts$Mill;" : Cond) ∈ wsX11_firstOnTurning := (List.mem_cons_of_mem _ (List.mem_append_left _ (List.mem_append_left _ (List.mem_append_left _ (List.mem_append_left _ (List.mem_append_left _ (List.mem_append_left _ (List.mem_append_left _ (List.mem_append_left _ (List.mem_of_getElem? (i := 0) rfl))))))))))
theorem hwX11_firstOnTurning_1 : (.fieldLink RX11 145 "FortyBelts$Mill" "beltCount" "I" : Cond) ∈ wsX11_firstOnTurning := (List.mem_cons_of_mem _ (List.mem_append_left _ (List.mem_append_left _ (List.mem_append_left _ (List.mem_append_left _ (List.mem_append_left _ (List.mem_append_left _ (List.mem_append_left _ (List.mem_append_left _ (List.mem_of_getElem? (i := 1) rfl))))))))))
theorem hwX11_firstOnTurning_2 : (.fieldLink RX11 163 "FortyBelts$Mill" "belts" "[LFortyBelts$Belt;" : Cond) ∈ wsX11_firstOnTurning := (List.mem_cons_of_mem _ (List.mem_append_left _ (List.mem_append_left _ (List.mem_append_left _ (List.mem_append_left _ (List.mem_append_left _ (List.mem_append_left _ (List.mem_append_left _ (List.mem_append_left _ (List.mem_of_getElem? (i := 2) rfl))))))))))
theorem hwX11_firstOnTurning_3 : (.fieldLink RX11 167 "FortyBelts$Belt" "on" "Z" : Cond) ∈ wsX11_firstOnTurning := (List.mem_cons_of_mem _ (List.mem_append_left _ (List.mem_append_left _ (List.mem_append_left _ (List.mem_append_left _ (List.mem_append_left _ (List.mem_append_left _ (List.mem_append_left _ (List.mem_append_left _ (List.mem_of_getElem? (i := 3) rfl))))))))))
theorem hwX11_firstOnTurning_4 : (.fieldLink RX11 182 "FortyBelts$Belt" "driver" "I" : Cond) ∈ wsX11_firstOnTurning := (List.mem_cons_of_mem _ (List.mem_append_left _ (List.mem_append_left _ (List.mem_append_left _ (List.mem_append_left _ (List.mem_append_left _ (List.mem_append_left _ (List.mem_append_left _ (List.mem_append_left _ (List.mem_of_getElem? (i := 4) rfl))))))))))
theorem hcX11_firstOnTurning_X11 : ∀ w ∈ wsX110, w ∈ wsX11_firstOnTurning := fun _ h => (List.mem_cons_of_mem _ (List.mem_append_left _ (List.mem_append_left _ (List.mem_append_left _ (List.mem_append_left _ (List.mem_append_left _ (List.mem_append_left _ (List.mem_append_left _ (List.mem_append_right _ h)))))))))
theorem hcX11_firstOnTurning_X6 : ∀ w ∈ wsX60, w ∈ wsX11_firstOnTurning := fun _ h => (List.mem_cons_of_mem _ (List.mem_append_left _ (List.mem_append_left _ (List.mem_append_left _ (List.mem_append_left _ (List.mem_append_left _ (List.mem_append_left _ (List.mem_append_right _ h))))))))
theorem hcX11_firstOnTurning_X0 : ∀ w ∈ wsX00, w ∈ wsX11_firstOnTurning := fun _ h => (List.mem_cons_of_mem _ (List.mem_append_left _ (List.mem_append_left _ (List.mem_append_left _ (List.mem_append_left _ (List.mem_append_left _ (List.mem_append_right _ h)))))))
theorem hcX11_firstOnTurning_X1 : ∀ w ∈ wsX10, w ∈ wsX11_firstOnTurning := fun _ h => (List.mem_cons_of_mem _ (List.mem_append_left _ (List.mem_append_left _ (List.mem_append_left _ (List.mem_append_left _ (List.mem_append_right _ h))))))
theorem hcX11_firstOnTurning_X2 : ∀ w ∈ wsX20, w ∈ wsX11_firstOnTurning := fun _ h => (List.mem_cons_of_mem _ (List.mem_append_left _ (List.mem_append_left _ (List.mem_append_left _ (List.mem_append_right _ h)))))
theorem hcX11_firstOnTurning_X3 : ∀ w ∈ wsX30, w ∈ wsX11_firstOnTurning := fun _ h => (List.mem_cons_of_mem _ (List.mem_append_left _ (List.mem_append_left _ (List.mem_append_right _ h))))
theorem hcX11_firstOnTurning_X4 : ∀ w ∈ wsX40, w ∈ wsX11_firstOnTurning := fun _ h => (List.mem_cons_of_mem _ (List.mem_append_left _ (List.mem_append_right _ h)))
theorem hcX11_firstOnTurning_X10 : ∀ w ∈ wsX100, w ∈ wsX11_firstOnTurning := fun _ h => (List.mem_cons_of_mem _ (List.mem_append_right _ h))
theorem hBX11_firstOnTurning : xHB wsX11_firstOnTurning := ⟨hcX11_firstOnTurning_X0, hcX11_firstOnTurning_X1, hcX11_firstOnTurning_X2, hcX11_firstOnTurning_X3, hcX11_firstOnTurning_X4, hcX11_firstOnTurning_X10⟩
set_option maxHeartbeats 4000000 in
set_option maxRecDepth 100000 in
theorem J_X11_firstOnTurning {D : va_G} {KA : Nat → ClassId} {zs : ZS} {ad : Nat → Nat} {ids : List Nat} {sz : Nat} (l : Launch) (hI : ∀ c, c < 52 ∧ ¬ c = 19 → c ∈ ids) {a1 : Int32} {a2 : Int32}  {σ : St} {post : Int32 → St → Prop} (h : wX11_firstOnTurning ids a1 a2 σ post) : Met l yX11_firstOnTurning wsX11_firstOnTurning rmX11_firstOnTurning (va_Pc [.ref (ad 0), .int a1, .int a2] (xIn D KA zs layX stX ad ids sz σ)) (va_Qi post (xOut D KA layX stX ad ids) (xA ad ids sz)) 0 0 (xA ad ids sz) := by
  refine Met.ofW (cc := cX11_firstOnTurning) (maxL := 5) (ret := (some .int)) (by decide) rfl ?_
  intro p e s m args below meth c s₁ B hml hv
  obtain ⟨hav, hsz, hK, hZ, hP, hD⟩ := hv
  have hx := B.exec
  have hb := B.bytes
  have hr := B.returns
  have hts := atoms_spec (ws := wsX11_firstOnTurning) B.pre
  have hown : s.vm.findClass RX11 = some m.cls := findClass_of_methodNamed B.named
  have hlocks := B.notSynchronized
  subst hsz
  have hA : ∀ q : Nat, s.heap.size ≤ q → xA ad ids s.heap.size q := fun q h => Or.inr h
  have hW : xW D KA layX stX ad ids (xA ad ids s.heap.size) s.heap σ s.heap [] := ⟨hP, xA_D (D := D) hD, va_S.rf⟩
  have kr : ∀ (v : Int32) (σ : St) (H : Heap) (locs : List Loc) (ls : Array Slot) (pc : Nat), xW D KA layX stX ad ids (xA ad ids s.heap.size) s.heap σ H locs → post v σ → decode cX11_firstOnTurning pc = .ok (.ireturn, 1) → W p l e rmX11_firstOnTurning s m args below meth c H locs 0 0 (MQ below (va_Qi post (xOut D KA layX stX ad ids) (xA ad ids s.heap.size)) args s 0 0 (xA ad ids s.heap.size)) (F0 m pc ls [.int v]) := fun v σ H locs ls pc hW h hd => x_iret hx hb hr hlocks hW h hd
  have hl := lv_entry ([.ref (ad 0), .int a1, .int a2]) (n := 5) (Nat.le_of_ble_eq_true rfl)
  rw [show entryFrame m args 5 = entryFrame m ([.ref (ad 0), .int a1, .int a2] : List Value).toArray 5 from by rw [hav]]
  rw [lg_entry_eq]
  generalize (lg_sl ([.ref (ad 0), .int a1, .int a2]) ++ List.replicate (5 - (lg_sl ([.ref (ad 0), .int a1, .int a2])).length) Slot.unset).toArray = ls at hl ⊢
  have hl : lv_has ls 5 [(0, .ref (ad 0)), (1, .int a1), (2, .int a2)] := hl
  show W p l e rmX11_firstOnTurning s m args below meth c s.heap [] 0 0 _ _
  generalize MQ below (va_Qi post (xOut D KA layX stX ad ids) (xA ad ids s.heap.size)) args s 0 0 (xA ad ids s.heap.size) = Q at kr ⊢
  have blk55 : ∀ (x1 : Int32) (x2 : Int32) (k2 : Int32 → St → Prop) (hk2 : ∀ (x3 : Int32) (σ : St) (H : Heap) (locs : List Loc) (ls : Array Slot), xW D KA layX stX ad ids (xA ad ids s.heap.size) s.heap σ H locs → lv_has ls 5 [(0, .ref (ad 0)), (1, .int x1), (2, .int x2), (3, .int x3)] → k2 x3 σ → W p l e rmX11_firstOnTurning s m args below meth c H locs 0 0 Q (F0 m 2 ls [])) (x3 : Int32) (σ : St) (H : Heap) (locs : List Loc) (ls : Array Slot), xW D KA layX stX ad ids (xA ad ids s.heap.size) s.heap σ H locs → lv_has ls 5 [(0, .ref (ad 0)), (1, .int x1), (2, .int x2), (3, .int x3)] → wX11_firstOnTurning_55 ids k2 post x1 x2 x3 σ → W p l e rmX11_firstOnTurning s m args below meth c H locs 0 0 Q (F0 m 55 ls []) := by
    intro x1 x2 k2 hk2 x3 σ H locs ls hW hl h
    unfold wX11_firstOnTurning_55 at h
    obtain ⟨v1, hv1⟩ : ∃ y : Int32, y = x3 + (1 : Int32) := ⟨_, rfl⟩
    have h := h v1 hv1
    refine lv_iinc (v := v1) (lv' := [(3, .int v1), (0, .ref (ad 0)), (1, .int x1), (2, .int x2)]) hx hb dX11_firstOnTurning_55 hl (k := 3) rfl (by rw [hv1]; rfl) (by decide) rfl (fun ls hl => ?_)
    refine lv_goto (tgt := 2) hx hb dX11_firstOnTurning_58 (by decide) ?_
    exact hk2 v1 _ _ _ _ hW (lv_sub hl [1, 2, 3, 0] rfl) h
  have blk2 : ∀ (x1 : Int32) (x2 : Int32) (n : Nat) (x3 : Int32) (σ : St) (H : Heap) (locs : List Loc) (ls : Array Slot), xW D KA layX stX ad ids (xA ad ids s.heap.size) s.heap σ H locs → lv_has ls 5 [(0, .ref (ad 0)), (1, .int x1), (2, .int x2), (3, .int x3)] → wX11_firstOnTurning_2 ids post x1 x2 n x3 σ → W p l e rmX11_firstOnTurning s m args below meth c H locs 0 0 Q (F0 m 2 ls []) := by
    intro   x1 x2 n
    induction n with
    | zero => intro x3 σ H locs ls hW hl h; exact (h : False).elim
    | succ n ih =>
      intro x3 σ H locs ls hW hl h
      have hk2 : ∀ (x3 : Int32) (σ : St) (H : Heap) (locs : List Loc) (ls : Array Slot), xW D KA layX stX ad ids (xA ad ids s.heap.size) s.heap σ H locs → lv_has ls 5 [(0, .ref (ad 0)), (1, .int x1), (2, .int x2), (3, .int x3)] → (wX11_firstOnTurning_2 ids post x1 x2 n) x3 σ → W p l e rmX11_firstOnTurning s m args below meth c H locs 0 0 Q (F0 m 2 ls []) := fun x3 σ H locs ls hW hl h => ih x3 σ H locs ls hW hl h
      rw [wX11_firstOnTurning_2_s] at h
      try dsimp only at h
      generalize wX11_firstOnTurning_2 ids post x1 x2 n = k2 at h hk2
      refine lv_iload_n hx hb dX11_firstOnTurning_2 rfl (lv_at hl 3 rfl) ?_
      refine lv_aload_n hx hb dX11_firstOnTurning_3 rfl (lv_at hl 0 rfl) ?_
      refine xgX11_0r hx hb hts hown hK hW 0 hcX11_firstOnTurning_X11 (hI 0 (by decide)) lX_0 (hts _ hwX11_firstOnTurning_0) (sX_0_0 _) dX11_firstOnTurning_4 ?_
      refine xgX6_3 hx hb hts hown hK hW 1 hcX11_firstOnTurning_X6 (hI 1 (by decide)) lX_1 (hts _ hwX11_firstOnTurning_1) dX11_firstOnTurning_7 ?_
      refine lv_icmp_ge (tgt := 61) hx hb dX11_firstOnTurning_10 (by decide) (fun c2 => ?_) (fun c2 => ?_)
      · have h := h.1 c2
        refine lv_iconst (v := (-1)) hx hb dX11_firstOnTurning_61 (by decide) ?_
        exact kr _ _ _ _ _ _ hW h dX11_firstOnTurning_62
      · have h := h.2 c2
        refine lv_aload_n hx hb dX11_firstOnTurning_13 rfl (lv_at hl 0 rfl) ?_
        refine xgX11_0r hx hb hts hown hK hW 0 hcX11_firstOnTurning_X11 (hI 0 (by decide)) lX_0 (hts _ hwX11_firstOnTurning_0) (sX_0_0 _) dX11_firstOnTurning_14 ?_
        refine xgX6_12r hx hb hts hown hK hW 1 hcX11_firstOnTurning_X6 (hI 1 (by decide)) lX_1 (hts _ hwX11_firstOnTurning_2) (sX_1_12 _) dX11_firstOnTurning_17 ?_
        refine lv_iload_n hx hb dX11_firstOnTurning_20 rfl (lv_at hl 3 rfl) ?_
        obtain ⟨hi3, h⟩ := h
        obtain ⟨o4, hr5, ok_o4, h⟩ := h
        refine x_ald hx hb hK hW 11 0 (hI 11 (by decide)) lX_11 rfl hi3 ((sX_11 _ _).trans hr5) dX11_firstOnTurning_21 ?_
        refine lv_astore (lv' := [(4, .ref (ad o4)), (0, .ref (ad 0)), (1, .int x1), (2, .int x2), (3, .int x3)]) hx hb dX11_firstOnTurning_22 hl (by decide) rfl (fun ls hl => ?_)
        refine lv_aload hx hb dX11_firstOnTurning_24 (lv_at hl 0 rfl) ?_
        refine xgB_8 hx hb hts hown hK hW o4 hBX11_firstOnTurning ok_o4 (hts _ hwX11_firstOnTurning_3) (fun _ h => h) dX11_firstOnTurning_26 ?_
        refine lv_if_eq (tgt := 55) hx hb dX11_firstOnTurning_29 (by decide) (fun c6 => ?_) (fun c6 => ?_)
        · have h := h.1 c6
          exact blk55 x1 x2 k2 hk2 x3 _ _ _ _ hW (lv_sub hl [1, 2, 3, 4] rfl) h
        · have h := h.2 c6
          refine lv_iload_n hx hb dX11_firstOnTurning_32 rfl (lv_at hl 3 rfl) ?_
          refine lv_iload_n hx hb dX11_firstOnTurning_33 rfl (lv_at hl 4 rfl) ?_
          refine lv_ishr hx hb dX11_firstOnTurning_34 ?_
          refine lv_iconst (v := 1) hx hb dX11_firstOnTurning_35 (by decide) ?_
          refine lv_iand hx hb dX11_firstOnTurning_36 ?_
          refine lv_if_ne (tgt := 55) hx hb dX11_firstOnTurning_37 (by decide) (fun c7 => ?_) (fun c7 => ?_)
          · have h := h.1 c7
            exact blk55 x1 x2 k2 hk2 x3 _ _ _ _ hW (lv_sub hl [1, 2, 3, 4] rfl) h
          · have h := h.2 c7
            refine lv_iload_n hx hb dX11_firstOnTurning_40 rfl (lv_at hl 2 rfl) ?_
            refine lv_aload hx hb dX11_firstOnTurning_41 (lv_at hl 0 rfl) ?_
            refine xgB_1 hx hb hts hown hK hW o4 hBX11_firstOnTurning ok_o4 (hts _ hwX11_firstOnTurning_4) (fun _ h => h) dX11_firstOnTurning_43 ?_
            refine lv_ishr hx hb dX11_firstOnTurning_46 ?_
            refine lv_iconst (v := 1) hx hb dX11_firstOnTurning_47 (by decide) ?_
            refine lv_iand hx hb dX11_firstOnTurning_48 ?_
            refine lv_iconst (v := 1) hx hb dX11_firstOnTurning_49 (by decide) ?_
            refine lv_icmp_ne (tgt := 55) hx hb dX11_firstOnTurning_50 (by decide) (fun c8 => ?_) (fun c8 => ?_)
            · have h := h.1 c8
              exact blk55 x1 x2 k2 hk2 x3 _ _ _ _ hW (lv_sub hl [1, 2, 3, 4] rfl) h
            · have h := h.2 c8
              refine lv_iload_n hx hb dX11_firstOnTurning_53 rfl (lv_at hl 4 rfl) ?_
              exact kr _ _ _ _ _ _ hW h dX11_firstOnTurning_54
  have main : ∀ (H : Heap) (locs : List Loc) (ls : Array Slot), xW D KA layX stX ad ids (xA ad ids s.heap.size) s.heap σ H locs → lv_has ls 5 [(0, .ref (ad 0)), (1, .int a1), (2, .int a2)] → W p l e rmX11_firstOnTurning s m args below meth c H locs 0 0 Q (F0 m 0 ls []) := by
    intro H locs ls hW hl
    unfold wX11_firstOnTurning at h
    refine lv_iconst (v := 0) hx hb dX11_firstOnTurning_0 (by decide) ?_
    refine lv_istore_n (lv' := [(3, .int (0 : Int32)), (0, .ref (ad 0)), (1, .int a1), (2, .int a2)]) hx hb dX11_firstOnTurning_1 rfl hl (by decide) rfl (fun ls hl => ?_)
    obtain ⟨n, h⟩ := h
    exact blk2   a1 a2 n (0 : Int32) _ _ _ _ hW (lv_sub hl [1, 2, 3, 0] rfl) h
  exact main _ _ _ hW hl
theorem hwX6_beltsOn_0 : (.fieldLink RX6 65 "FortyBelts$Mill" "beltCount" "I" : Cond) ∈ wsX6_beltsOn := (List.mem_cons_of_mem _ (List.mem_append_left _ (List.mem_append_left _ (List.mem_append_left _ (List.mem_append_left _ (List.mem_append_left _ (List.mem_append_left _ (List.mem_append_left _ (List.mem_of_getElem? (i := 0) rfl)))))))))
theorem hwX6_beltsOn_1 : (.fieldLink RX6 42 "FortyBelts$Mill" "belts" "[LFortyBelts$Belt;" : Cond) ∈ wsX6_beltsOn := (List.mem_cons_of_mem _ (List.mem_append_left _ (List.mem_append_left _ (List.mem_append_left _ (List.mem_append_left _ (List.mem_append_left _ (List.mem_append_left _ (List.mem_append_left _ (List.mem_of_getElem? (i := 1) rfl)))))))))
theorem hwX6_beltsOn_2 : (.fieldLink RX6 89 "FortyBelts$Belt" "on" "Z" : Cond) ∈ wsX6_beltsOn := (List.mem_cons_of_mem _ (List.mem_append_left _ (List.mem_append_left _ (List.mem_append_left _ (List.mem_append_left _ (List.mem_append_left _ (List.mem_append_left _ (List.mem_append_left _ (List.mem_of_getElem? (i := 2) rfl)))))))))
theorem hcX6_beltsOn_X6 : ∀ w ∈ wsX60, w ∈ wsX6_beltsOn := fun _ h => (List.mem_cons_of_mem _ (List.mem_append_left _ (List.mem_append_left _ (List.mem_append_left _ (List.mem_append_left _ (List.mem_append_left _ (List.mem_append_left _ (List.mem_append_right _ h))))))))
theorem hcX6_beltsOn_X0 : ∀ w ∈ wsX00, w ∈ wsX6_beltsOn := fun _ h => (List.mem_cons_of_mem _ (List.mem_append_left _ (List.mem_append_left _ (List.mem_append_left _ (List.mem_append_left _ (List.mem_append_left _ (List.mem_append_right _ h)))))))
theorem hcX6_beltsOn_X1 : ∀ w ∈ wsX10, w ∈ wsX6_beltsOn := fun _ h => (List.mem_cons_of_mem _ (List.mem_append_left _ (List.mem_append_left _ (List.mem_append_left _ (List.mem_append_left _ (List.mem_append_right _ h))))))
theorem hcX6_beltsOn_X2 : ∀ w ∈ wsX20, w ∈ wsX6_beltsOn := fun _ h => (List.mem_cons_of_mem _ (List.mem_append_left _ (List.mem_append_left _ (List.mem_append_left _ (List.mem_append_right _ h)))))
theorem hcX6_beltsOn_X3 : ∀ w ∈ wsX30, w ∈ wsX6_beltsOn := fun _ h => (List.mem_cons_of_mem _ (List.mem_append_left _ (List.mem_append_left _ (List.mem_append_right _ h))))
theorem hcX6_beltsOn_X4 : ∀ w ∈ wsX40, w ∈ wsX6_beltsOn := fun _ h => (List.mem_cons_of_mem _ (List.mem_append_left _ (List.mem_append_right _ h)))
theorem hcX6_beltsOn_X10 : ∀ w ∈ wsX100, w ∈ wsX6_beltsOn := fun _ h => (List.mem_cons_of_mem _ (List.mem_append_right _ h))
theorem hBX6_beltsOn : xHB wsX6_beltsOn := ⟨hcX6_beltsOn_X0, hcX6_beltsOn_X1, hcX6_beltsOn_X2, hcX6_beltsOn_X3, hcX6_beltsOn_X4, hcX6_beltsOn_X10⟩
set_option maxHeartbeats 4000000 in
set_option maxRecDepth 100000 in
theorem J_X6_beltsOn {D : va_G} {KA : Nat → ClassId} {zs : ZS} {ad : Nat → Nat} {ids : List Nat} {sz : Nat} (l : Launch) (hI : ∀ c, c < 52 ∧ ¬ c = 19 → c ∈ ids)   {σ : St} {post : Int32 → St → Prop} (h : wX6_beltsOn ids  σ post) : Met l yX6_beltsOn wsX6_beltsOn rmX6_beltsOn (va_Pc [.ref (ad 1)] (xIn D KA zs layX stX ad ids sz σ)) (va_Qi post (xOut D KA layX stX ad ids) (xA ad ids sz)) 0 0 (xA ad ids sz) := by
  refine Met.ofW (cc := cX6_beltsOn) (maxL := 3) (ret := (some .int)) (by decide) rfl ?_
  intro p e s m args below meth c s₁ B hml hv
  obtain ⟨hav, hsz, hK, hZ, hP, hD⟩ := hv
  have hx := B.exec
  have hb := B.bytes
  have hr := B.returns
  have hts := atoms_spec (ws := wsX6_beltsOn) B.pre
  have hown : s.vm.findClass RX6 = some m.cls := findClass_of_methodNamed B.named
  have hlocks := B.notSynchronized
  subst hsz
  have hA : ∀ q : Nat, s.heap.size ≤ q → xA ad ids s.heap.size q := fun q h => Or.inr h
  have hW : xW D KA layX stX ad ids (xA ad ids s.heap.size) s.heap σ s.heap [] := ⟨hP, xA_D (D := D) hD, va_S.rf⟩
  have kr : ∀ (v : Int32) (σ : St) (H : Heap) (locs : List Loc) (ls : Array Slot) (pc : Nat), xW D KA layX stX ad ids (xA ad ids s.heap.size) s.heap σ H locs → post v σ → decode cX6_beltsOn pc = .ok (.ireturn, 1) → W p l e rmX6_beltsOn s m args below meth c H locs 0 0 (MQ below (va_Qi post (xOut D KA layX stX ad ids) (xA ad ids s.heap.size)) args s 0 0 (xA ad ids s.heap.size)) (F0 m pc ls [.int v]) := fun v σ H locs ls pc hW h hd => x_iret hx hb hr hlocks hW h hd
  have hl := lv_entry ([.ref (ad 1)]) (n := 3) (Nat.le_of_ble_eq_true rfl)
  rw [show entryFrame m args 3 = entryFrame m ([.ref (ad 1)] : List Value).toArray 3 from by rw [hav]]
  rw [lg_entry_eq]
  generalize (lg_sl ([.ref (ad 1)]) ++ List.replicate (3 - (lg_sl ([.ref (ad 1)])).length) Slot.unset).toArray = ls at hl ⊢
  have hl : lv_has ls 3 [(0, .ref (ad 1))] := hl
  show W p l e rmX6_beltsOn s m args below meth c s.heap [] 0 0 _ _
  generalize MQ below (va_Qi post (xOut D KA layX stX ad ids) (xA ad ids s.heap.size)) args s 0 0 (xA ad ids s.heap.size) = Q at kr ⊢
  have blk27 : ∀ (k4 : Int32 → Int32 → St → Prop) (hk4 : ∀ (x1 : Int32) (x2 : Int32) (σ : St) (H : Heap) (locs : List Loc) (ls : Array Slot), xW D KA layX stX ad ids (xA ad ids s.heap.size) s.heap σ H locs → lv_has ls 3 [(0, .ref (ad 1)), (1, .int x1), (2, .int x2)] → k4 x1 x2 σ → W p l e rmX6_beltsOn s m args below meth c H locs 0 0 Q (F0 m 4 ls [])) (x1 : Int32) (x2 : Int32) (σ : St) (H : Heap) (locs : List Loc) (ls : Array Slot), xW D KA layX stX ad ids (xA ad ids s.heap.size) s.heap σ H locs → lv_has ls 3 [(0, .ref (ad 1)), (1, .int x1), (2, .int x2)] → wX6_beltsOn_27 ids k4 post x1 x2 σ → W p l e rmX6_beltsOn s m args below meth c H locs 0 0 Q (F0 m 27 ls []) := by
    intro  k4 hk4 x1 x2 σ H locs ls hW hl h
    unfold wX6_beltsOn_27 at h
    obtain ⟨v1, hv1⟩ : ∃ y : Int32, y = x2 + (1 : Int32) := ⟨_, rfl⟩
    have h := h v1 hv1
    refine lv_iinc (v := v1) (lv' := [(2, .int v1), (0, .ref (ad 1)), (1, .int x1)]) hx hb dX6_beltsOn_27 hl (k := 2) rfl (by rw [hv1]; rfl) (by decide) rfl (fun ls hl => ?_)
    refine lv_goto (tgt := 4) hx hb dX6_beltsOn_30 (by decide) ?_
    exact hk4 x1 v1 _ _ _ _ hW (lv_sub hl [1, 2, 0] rfl) h
  have blk4 : ∀ (n : Nat) (x1 : Int32) (x2 : Int32) (σ : St) (H : Heap) (locs : List Loc) (ls : Array Slot), xW D KA layX stX ad ids (xA ad ids s.heap.size) s.heap σ H locs → lv_has ls 3 [(0, .ref (ad 1)), (1, .int x1), (2, .int x2)] → wX6_beltsOn_4 ids post  n x1 x2 σ → W p l e rmX6_beltsOn s m args below meth c H locs 0 0 Q (F0 m 4 ls []) := by
    intro    n
    induction n with
    | zero => intro x1 x2 σ H locs ls hW hl h; exact (h : False).elim
    | succ n ih =>
      intro x1 x2 σ H locs ls hW hl h
      have hk4 : ∀ (x1 : Int32) (x2 : Int32) (σ : St) (H : Heap) (locs : List Loc) (ls : Array Slot), xW D KA layX stX ad ids (xA ad ids s.heap.size) s.heap σ H locs → lv_has ls 3 [(0, .ref (ad 1)), (1, .int x1), (2, .int x2)] → (wX6_beltsOn_4 ids post  n) x1 x2 σ → W p l e rmX6_beltsOn s m args below meth c H locs 0 0 Q (F0 m 4 ls []) := fun x1 x2 σ H locs ls hW hl h => ih x1 x2 σ H locs ls hW hl h
      rw [wX6_beltsOn_4_s] at h
      try dsimp only at h
      generalize wX6_beltsOn_4 ids post  n = k4 at h hk4
      refine lv_iload_n hx hb dX6_beltsOn_4 rfl (lv_at hl 2 rfl) ?_
      refine lv_aload_n hx hb dX6_beltsOn_5 rfl (lv_at hl 0 rfl) ?_
      refine xgX6_3 hx hb hts hown hK hW 1 hcX6_beltsOn_X6 (hI 1 (by decide)) lX_1 (hts _ hwX6_beltsOn_0) dX6_beltsOn_6 ?_
      refine lv_icmp_ge (tgt := 33) hx hb dX6_beltsOn_9 (by decide) (fun c2 => ?_) (fun c2 => ?_)
      · have h := h.1 c2
        refine lv_iload_n hx hb dX6_beltsOn_33 rfl (lv_at hl 1 rfl) ?_
        exact kr _ _ _ _ _ _ hW h dX6_beltsOn_34
      · have h := h.2 c2
        refine lv_aload_n hx hb dX6_beltsOn_12 rfl (lv_at hl 0 rfl) ?_
        refine xgX6_12r hx hb hts hown hK hW 1 hcX6_beltsOn_X6 (hI 1 (by decide)) lX_1 (hts _ hwX6_beltsOn_1) (sX_1_12 _) dX6_beltsOn_13 ?_
        refine lv_iload_n hx hb dX6_beltsOn_16 rfl (lv_at hl 2 rfl) ?_
        obtain ⟨hi3, h⟩ := h
        obtain ⟨o4, hr5, ok_o4, h⟩ := h
        refine x_ald hx hb hK hW 11 0 (hI 11 (by decide)) lX_11 rfl hi3 ((sX_11 _ _).trans hr5) dX6_beltsOn_17 ?_
        refine xgB_8 hx hb hts hown hK hW o4 hBX6_beltsOn ok_o4 (hts _ hwX6_beltsOn_2) (fun _ h => h) dX6_beltsOn_18 ?_
        refine lv_if_eq (tgt := 27) hx hb dX6_beltsOn_21 (by decide) (fun c6 => ?_) (fun c6 => ?_)
        · have h := h.1 c6
          exact blk27  k4 hk4 x1 x2 _ _ _ _ hW (lv_sub hl [0, 1, 2] rfl) h
        · have h := h.2 c6
          obtain ⟨v7, hv7⟩ : ∃ y : Int32, y = x1 + (1 : Int32) := ⟨_, rfl⟩
          have h := h v7 hv7
          refine lv_iinc (v := v7) (lv' := [(1, .int v7), (0, .ref (ad 1)), (2, .int x2)]) hx hb dX6_beltsOn_24 hl (k := 1) rfl (by rw [hv7]; rfl) (by decide) rfl (fun ls hl => ?_)
          exact blk27  k4 hk4 v7 x2 _ _ _ _ hW (lv_sub hl [1, 0, 2] rfl) h
  have main : ∀ (H : Heap) (locs : List Loc) (ls : Array Slot), xW D KA layX stX ad ids (xA ad ids s.heap.size) s.heap σ H locs → lv_has ls 3 [(0, .ref (ad 1))] → W p l e rmX6_beltsOn s m args below meth c H locs 0 0 Q (F0 m 0 ls []) := by
    intro H locs ls hW hl
    unfold wX6_beltsOn at h
    refine lv_iconst (v := 0) hx hb dX6_beltsOn_0 (by decide) ?_
    refine lv_istore_n (lv' := [(1, .int (0 : Int32)), (0, .ref (ad 1))]) hx hb dX6_beltsOn_1 rfl hl (by decide) rfl (fun ls hl => ?_)
    refine lv_iconst (v := 0) hx hb dX6_beltsOn_2 (by decide) ?_
    refine lv_istore_n (lv' := [(2, .int (0 : Int32)), (1, .int (0 : Int32)), (0, .ref (ad 1))]) hx hb dX6_beltsOn_3 rfl hl (by decide) rfl (fun ls hl => ?_)
    obtain ⟨n, h⟩ := h
    exact blk4    n (0 : Int32) (0 : Int32) _ _ _ _ hW (lv_sub hl [2, 1, 0] rfl) h
  exact main _ _ _ hW hl
theorem hwX11_firstOrder_0 : (.fieldLink RX11 10 "FortyBelts" "mill" "LFortyBelts$Mill;" : Cond) ∈ wsX11_firstOrder := (List.mem_cons_of_mem _ (List.mem_append_left _ (List.mem_append_left _ (List.mem_append_left _ (List.mem_append_left _ (List.mem_append_left _ (List.mem_append_left _ (List.mem_append_left _ (List.mem_append_left _ (List.mem_of_getElem? (i := 0) rfl))))))))))
theorem hwX11_firstOrder_1 : (.fieldLink RX11 163 "FortyBelts$Mill" "belts" "[LFortyBelts$Belt;" : Cond) ∈ wsX11_firstOrder := (List.mem_cons_of_mem _ (List.mem_append_left _ (List.mem_append_left _ (List.mem_append_left _ (List.mem_append_left _ (List.mem_append_left _ (List.mem_append_left _ (List.mem_append_left _ (List.mem_append_left _ (List.mem_of_getElem? (i := 1) rfl))))))))))
theorem hwX11_firstOrder_2 : (.fieldLink RX11 185 "FortyBelts$Belt" "driven" "I" : Cond) ∈ wsX11_firstOrder := (List.mem_cons_of_mem _ (List.mem_append_left _ (List.mem_append_left _ (List.mem_append_left _ (List.mem_append_left _ (List.mem_append_left _ (List.mem_append_left _ (List.mem_append_left _ (List.mem_append_left _ (List.mem_of_getElem? (i := 2) rfl))))))))))
theorem hcX11_firstOrder_X11 : ∀ w ∈ wsX110, w ∈ wsX11_firstOrder := fun _ h => (List.mem_cons_of_mem _ (List.mem_append_left _ (List.mem_append_left _ (List.mem_append_left _ (List.mem_append_left _ (List.mem_append_left _ (List.mem_append_left _ (List.mem_append_left _ (List.mem_append_right _ h)))))))))
theorem hcX11_firstOrder_X6 : ∀ w ∈ wsX60, w ∈ wsX11_firstOrder := fun _ h => (List.mem_cons_of_mem _ (List.mem_append_left _ (List.mem_append_left _ (List.mem_append_left _ (List.mem_append_left _ (List.mem_append_left _ (List.mem_append_left _ (List.mem_append_right _ h))))))))
theorem hcX11_firstOrder_X0 : ∀ w ∈ wsX00, w ∈ wsX11_firstOrder := fun _ h => (List.mem_cons_of_mem _ (List.mem_append_left _ (List.mem_append_left _ (List.mem_append_left _ (List.mem_append_left _ (List.mem_append_left _ (List.mem_append_right _ h)))))))
theorem hcX11_firstOrder_X1 : ∀ w ∈ wsX10, w ∈ wsX11_firstOrder := fun _ h => (List.mem_cons_of_mem _ (List.mem_append_left _ (List.mem_append_left _ (List.mem_append_left _ (List.mem_append_left _ (List.mem_append_right _ h))))))
theorem hcX11_firstOrder_X2 : ∀ w ∈ wsX20, w ∈ wsX11_firstOrder := fun _ h => (List.mem_cons_of_mem _ (List.mem_append_left _ (List.mem_append_left _ (List.mem_append_left _ (List.mem_append_right _ h)))))
theorem hcX11_firstOrder_X3 : ∀ w ∈ wsX30, w ∈ wsX11_firstOrder := fun _ h => (List.mem_cons_of_mem _ (List.mem_append_left _ (List.mem_append_left _ (List.mem_append_right _ h))))
theorem hcX11_firstOrder_X4 : ∀ w ∈ wsX40, w ∈ wsX11_firstOrder := fun _ h => (List.mem_cons_of_mem _ (List.mem_append_left _ (List.mem_append_right _ h)))
theorem hcX11_firstOrder_X10 : ∀ w ∈ wsX100, w ∈ wsX11_firstOrder := fun _ h => (List.mem_cons_of_mem _ (List.mem_append_right _ h))
theorem hBX11_firstOrder : xHB wsX11_firstOrder := ⟨hcX11_firstOrder_X0, hcX11_firstOrder_X1, hcX11_firstOrder_X2, hcX11_firstOrder_X3, hcX11_firstOrder_X4, hcX11_firstOrder_X10⟩
set_option maxHeartbeats 4000000 in
set_option maxRecDepth 100000 in
theorem J_X11_firstOrder {D : va_G} {KA : Nat → ClassId} {zs : ZS} {ad : Nat → Nat} {ids : List Nat} {sz : Nat} (l : Launch) (hI : ∀ c, c < 52 ∧ ¬ c = 19 → c ∈ ids)   {σ : St} {post : Int32 → St → Prop} (h : wX11_firstOrder ids  σ post) : Met l yX11_firstOrder wsX11_firstOrder rmX11_firstOrder (va_Pc [.ref (ad 0)] (xIn D KA zs layX stX ad ids sz σ)) (va_Qi post (xOut D KA layX stX ad ids) (xA ad ids sz)) 0 0 (xA ad ids sz) := by
  refine Met.ofW (cc := cX11_firstOrder) (maxL := 6) (ret := (some .int)) (by decide) rfl ?_
  intro p e s m args below meth c s₁ B hml hv
  obtain ⟨hav, hsz, hK, hZ, hP, hD⟩ := hv
  have hx := B.exec
  have hb := B.bytes
  have hr := B.returns
  have hts := atoms_spec (ws := wsX11_firstOrder) B.pre
  have hown : s.vm.findClass RX11 = some m.cls := findClass_of_methodNamed B.named
  have hlocks := B.notSynchronized
  subst hsz
  have hA : ∀ q : Nat, s.heap.size ≤ q → xA ad ids s.heap.size q := fun q h => Or.inr h
  have hW : xW D KA layX stX ad ids (xA ad ids s.heap.size) s.heap σ s.heap [] := ⟨hP, xA_D (D := D) hD, va_S.rf⟩
  have kr : ∀ (v : Int32) (σ : St) (H : Heap) (locs : List Loc) (ls : Array Slot) (pc : Nat), xW D KA layX stX ad ids (xA ad ids s.heap.size) s.heap σ H locs → post v σ → decode cX11_firstOrder pc = .ok (.ireturn, 1) → W p l e rmX11_firstOrder s m args below meth c H locs 0 0 (MQ below (va_Qi post (xOut D KA layX stX ad ids) (xA ad ids s.heap.size)) args s 0 0 (xA ad ids s.heap.size)) (F0 m pc ls [.int v]) := fun v σ H locs ls pc hW h hd => x_iret hx hb hr hlocks hW h hd
  have hl := lv_entry ([.ref (ad 0)]) (n := 6) (Nat.le_of_ble_eq_true rfl)
  rw [show entryFrame m args 6 = entryFrame m ([.ref (ad 0)] : List Value).toArray 6 from by rw [hav]]
  rw [lg_entry_eq]
  generalize (lg_sl ([.ref (ad 0)]) ++ List.replicate (6 - (lg_sl ([.ref (ad 0)])).length) Slot.unset).toArray = ls at hl ⊢
  have hl : lv_has ls 6 [(0, .ref (ad 0))] := hl
  show W p l e rmX11_firstOrder s m args below meth c s.heap [] 0 0 _ _
  generalize MQ below (va_Qi post (xOut D KA layX stX ad ids) (xA ad ids s.heap.size)) args s 0 0 (xA ad ids s.heap.size) = Q at kr ⊢
  have blk15 : ∀ (n : Nat) (x1 : Int32) (x2 : Int32) (x3 : Int32) (x4 : Int32) (σ : St) (H : Heap) (locs : List Loc) (ls : Array Slot), xW D KA layX stX ad ids (xA ad ids s.heap.size) s.heap σ H locs → lv_has ls 6 [(0, .ref (ad 0)), (1, .int x1), (2, .int x2), (3, .int x3), (4, .int x4)] → wX11_firstOrder_15 ids post  n x1 x2 x3 x4 σ → W p l e rmX11_firstOrder s m args below meth c H locs 0 0 Q (F0 m 15 ls []) := by
    intro    n
    induction n with
    | zero => intro x1 x2 x3 x4 σ H locs ls hW hl h; exact (h : False).elim
    | succ n ih =>
      intro x1 x2 x3 x4 σ H locs ls hW hl h
      have hk15 : ∀ (x1 : Int32) (x2 : Int32) (x3 : Int32) (x4 : Int32) (σ : St) (H : Heap) (locs : List Loc) (ls : Array Slot), xW D KA layX stX ad ids (xA ad ids s.heap.size) s.heap σ H locs → lv_has ls 6 [(0, .ref (ad 0)), (1, .int x1), (2, .int x2), (3, .int x3), (4, .int x4)] → (wX11_firstOrder_15 ids post  n) x1 x2 x3 x4 σ → W p l e rmX11_firstOrder s m args below meth c H locs 0 0 Q (F0 m 15 ls []) := fun x1 x2 x3 x4 σ H locs ls hW hl h => ih x1 x2 x3 x4 σ H locs ls hW hl h
      rw [wX11_firstOrder_15_s] at h
      try dsimp only at h
      generalize wX11_firstOrder_15 ids post  n = k15 at h hk15
      refine lv_iload hx hb dX11_firstOrder_15 (lv_at hl 4 rfl) ?_
      refine lv_if_le (tgt := 75) hx hb dX11_firstOrder_17 (by decide) (fun c1 => ?_) (fun c1 => ?_)
      · have h := h.1 c1
        refine lv_iload_n hx hb dX11_firstOrder_75 rfl (lv_at hl 1 rfl) ?_
        exact kr _ _ _ _ _ _ hW h dX11_firstOrder_76
      · have h := h.2 c1
        refine lv_aload_n hx hb dX11_firstOrder_20 rfl (lv_at hl 0 rfl) ?_
        refine lv_iload_n hx hb dX11_firstOrder_21 rfl (lv_at hl 3 rfl) ?_
        refine lv_iload_n hx hb dX11_firstOrder_22 rfl (lv_at hl 2 rfl) ?_
        refine x_calli (va_runV (As := [.int x3, .int x2]) (rest := []) ⟨hx, hb, hml, hown, hts⟩ (J_X11_firstOnTurning l hI h) (cwV 2 hts gX11_firstOrder_X11_firstOnTurning rfl rfl rfl hdV_X11_firstOnTurning ⟨Nat.le_of_ble_eq_true rfl, Nat.le_of_ble_eq_true rfl⟩) (x_preV (ci := 11) hK hZ hA hW (hI 0 (by decide)) lX_0 rfl) rfl rfl hl.1 rfl (lv_room (Nat.le_of_ble_eq_true rfl)) dX11_firstOrder_23 ⟨Nat.zero_le _, Nat.zero_le _⟩) hW hA (fun r3 σ2 H locs h hW => ?_)
        try dsimp only at h
        refine lv_istore (lv' := [(5, .int r3), (0, .ref (ad 0)), (1, .int x1), (2, .int x2), (3, .int x3), (4, .int x4)]) hx hb dX11_firstOrder_26 hl (by decide) rfl (fun ls hl => ?_)
        refine lv_iload hx hb dX11_firstOrder_28 (lv_at hl 0 rfl) ?_
        refine lv_iconst (v := (-1)) hx hb dX11_firstOrder_30 (by decide) ?_
        refine lv_icmp_ne (tgt := 36) hx hb dX11_firstOrder_31 (by decide) (fun c4 => ?_) (fun c4 => ?_)
        · have h := h.1 c4
          refine lv_iload_n hx hb dX11_firstOrder_36 rfl (lv_at hl 2 rfl) ?_
          refine lv_bipush (v := 10) hx hb dX11_firstOrder_37 (by decide) ?_
          refine lv_imul hx hb dX11_firstOrder_39 ?_
          refine lv_iload hx hb dX11_firstOrder_40 (lv_at hl 0 rfl) ?_
          refine lv_iadd hx hb dX11_firstOrder_42 ?_
          refine lv_topi (fun v5 hv5 => ?_)
          have h := h v5 hv5
          refine lv_istore_n (lv' := [(1, .int v5), (5, .int r3), (0, .ref (ad 0)), (2, .int x2), (3, .int x3), (4, .int x4)]) hx hb dX11_firstOrder_43 rfl hl (by decide) rfl (fun ls hl => ?_)
          refine lv_iload_n hx hb dX11_firstOrder_44 rfl (lv_at hl 3 rfl) ?_
          refine lv_iconst (v := 1) hx hb dX11_firstOrder_45 (by decide) ?_
          refine lv_iload hx hb dX11_firstOrder_46 (lv_at hl 1 rfl) ?_
          refine lv_ishl hx hb dX11_firstOrder_48 ?_
          refine lv_ior hx hb dX11_firstOrder_49 ?_
          refine lv_topi (fun v6 hv6 => ?_)
          have h := h v6 hv6
          refine lv_istore_n (lv' := [(2, .int v6), (1, .int v5), (5, .int r3), (0, .ref (ad 0)), (3, .int x3), (4, .int x4)]) hx hb dX11_firstOrder_50 rfl hl (by decide) rfl (fun ls hl => ?_)
          refine lv_iload_n hx hb dX11_firstOrder_51 rfl (lv_at hl 4 rfl) ?_
          refine lv_iconst (v := 1) hx hb dX11_firstOrder_52 (by decide) ?_
          refine lv_aload_n hx hb dX11_firstOrder_53 rfl (lv_at hl 3 rfl) ?_
          refine xgX11_0r hx hb hts hown hK hW 0 hcX11_firstOrder_X11 (hI 0 (by decide)) lX_0 (hts _ hwX11_firstOrder_0) (sX_0_0 _) dX11_firstOrder_54 ?_
          refine xgX6_12r hx hb hts hown hK hW 1 hcX11_firstOrder_X6 (hI 1 (by decide)) lX_1 (hts _ hwX11_firstOrder_1) (sX_1_12 _) dX11_firstOrder_57 ?_
          refine lv_iload hx hb dX11_firstOrder_60 (lv_at hl 2 rfl) ?_
          obtain ⟨hi7, h⟩ := h
          obtain ⟨o8, hr9, ok_o8, h⟩ := h
          refine x_ald hx hb hK hW 11 0 (hI 11 (by decide)) lX_11 rfl hi7 ((sX_11 _ _).trans hr9) dX11_firstOrder_62 ?_
          refine xgB_2 hx hb hts hown hK hW o8 hBX11_firstOrder ok_o8 (hts _ hwX11_firstOrder_2) (fun _ h => h) dX11_firstOrder_63 ?_
          refine lv_ishl hx hb dX11_firstOrder_66 ?_
          refine lv_ior hx hb dX11_firstOrder_67 ?_
          refine lv_topi (fun v10 hv10 => ?_)
          have h := h v10 hv10
          refine lv_istore_n (lv' := [(3, .int v10), (2, .int v6), (1, .int v5), (5, .int r3), (0, .ref (ad 0)), (4, .int x4)]) hx hb dX11_firstOrder_68 rfl hl (by decide) rfl (fun ls hl => ?_)
          obtain ⟨v11, hv11⟩ : ∃ y : Int32, y = x4 + (-1 : Int32) := ⟨_, rfl⟩
          have h := h v11 hv11
          refine lv_iinc (v := v11) (lv' := [(4, .int v11), (3, .int v10), (2, .int v6), (1, .int v5), (5, .int r3), (0, .ref (ad 0))]) hx hb dX11_firstOrder_69 hl (k := 5) rfl (by rw [hv11]; rfl) (by decide) rfl (fun ls hl => ?_)
          refine lv_goto (tgt := 15) hx hb dX11_firstOrder_72 (by decide) ?_
          exact hk15 v5 v6 v10 v11 _ _ _ _ hW (lv_sub hl [5, 3, 2, 1, 0] rfl) h
        · have h := h.2 c4
          refine lv_iconst (v := (-1)) hx hb dX11_firstOrder_34 (by decide) ?_
          exact kr _ _ _ _ _ _ hW h dX11_firstOrder_35
  have main : ∀ (H : Heap) (locs : List Loc) (ls : Array Slot), xW D KA layX stX ad ids (xA ad ids s.heap.size) s.heap σ H locs → lv_has ls 6 [(0, .ref (ad 0))] → W p l e rmX11_firstOrder s m args below meth c H locs 0 0 Q (F0 m 0 ls []) := by
    intro H locs ls hW hl
    unfold wX11_firstOrder at h
    refine lv_iconst (v := 0) hx hb dX11_firstOrder_0 (by decide) ?_
    refine lv_istore_n (lv' := [(1, .int (0 : Int32)), (0, .ref (ad 0))]) hx hb dX11_firstOrder_1 rfl hl (by decide) rfl (fun ls hl => ?_)
    refine lv_iconst (v := 0) hx hb dX11_firstOrder_2 (by decide) ?_
    refine lv_istore_n (lv' := [(2, .int (0 : Int32)), (1, .int (0 : Int32)), (0, .ref (ad 0))]) hx hb dX11_firstOrder_3 rfl hl (by decide) rfl (fun ls hl => ?_)
    refine lv_iconst (v := 1) hx hb dX11_firstOrder_4 (by decide) ?_
    refine lv_istore_n (lv' := [(3, .int (1 : Int32)), (2, .int (0 : Int32)), (1, .int (0 : Int32)), (0, .ref (ad 0))]) hx hb dX11_firstOrder_5 rfl hl (by decide) rfl (fun ls hl => ?_)
    refine lv_aload_n hx hb dX11_firstOrder_6 rfl (lv_at hl 3 rfl) ?_
    refine xgX11_0r hx hb hts hown hK hW 0 hcX11_firstOrder_X11 (hI 0 (by decide)) lX_0 (hts _ hwX11_firstOrder_0) (sX_0_0 _) dX11_firstOrder_7 ?_
    refine x_calli (va_runV (As := []) (rest := []) ⟨hx, hb, hml, hown, hts⟩ (J_X6_beltsOn l hI h) (cwV 0 hts gX11_firstOrder_X6_beltsOn rfl rfl rfl hdV_X6_beltsOn ⟨Nat.le_of_ble_eq_true rfl, Nat.le_of_ble_eq_true rfl⟩) (x_preV (ci := 6) hK hZ hA hW (hI 1 (by decide)) lX_1 rfl) rfl rfl hl.1 rfl (lv_room (Nat.le_of_ble_eq_true rfl)) dX11_firstOrder_10 ⟨Nat.zero_le _, Nat.zero_le _⟩) hW hA (fun r1002 σ1001 H locs h hW => ?_)
    try dsimp only at h
    refine lv_istore (lv' := [(4, .int r1002), (3, .int (1 : Int32)), (2, .int (0 : Int32)), (1, .int (0 : Int32)), (0, .ref (ad 0))]) hx hb dX11_firstOrder_13 hl (by decide) rfl (fun ls hl => ?_)
    obtain ⟨n, h⟩ := h
    exact blk15    n (0 : Int32) (0 : Int32) (1 : Int32) r1002 _ _ _ _ hW (lv_sub hl [4, 3, 2, 1, 0] rfl) h
  exact main _ _ _ hW hl
theorem hwX11_firstWorn_0 : (.fieldLink RX11 10 "FortyBelts" "mill" "LFortyBelts$Mill;" : Cond) ∈ wsX11_firstWorn := (List.mem_cons_of_mem _ (List.mem_append_left _ (List.mem_append_left _ (List.mem_append_left _ (List.mem_append_left _ (List.mem_append_left _ (List.mem_append_left _ (List.mem_append_left _ (List.mem_append_left _ (List.mem_append_left _ (List.mem_append_left _ (List.mem_append_left _ (List.mem_of_getElem? (i := 0) rfl)))))))))))))
theorem hwX11_firstWorn_1 : (.fieldLink RX11 145 "FortyBelts$Mill" "beltCount" "I" : Cond) ∈ wsX11_firstWorn := (List.mem_cons_of_mem _ (List.mem_append_left _ (List.mem_append_left _ (List.mem_append_left _ (List.mem_append_left _ (List.mem_append_left _ (List.mem_append_left _ (List.mem_append_left _ (List.mem_append_left _ (List.mem_append_left _ (List.mem_append_left _ (List.mem_append_left _ (List.mem_of_getElem? (i := 1) rfl)))))))))))))
theorem hwX11_firstWorn_2 : (.fieldLink RX11 163 "FortyBelts$Mill" "belts" "[LFortyBelts$Belt;" : Cond) ∈ wsX11_firstWorn := (List.mem_cons_of_mem _ (List.mem_append_left _ (List.mem_append_left _ (List.mem_append_left _ (List.mem_append_left _ (List.mem_append_left _ (List.mem_append_left _ (List.mem_append_left _ (List.mem_append_left _ (List.mem_append_left _ (List.mem_append_left _ (List.mem_append_left _ (List.mem_of_getElem? (i := 2) rfl)))))))))))))
theorem hcX11_firstWorn_X11 : ∀ w ∈ wsX110, w ∈ wsX11_firstWorn := fun _ h => (List.mem_cons_of_mem _ (List.mem_append_left _ (List.mem_append_left _ (List.mem_append_left _ (List.mem_append_left _ (List.mem_append_left _ (List.mem_append_left _ (List.mem_append_left _ (List.mem_append_left _ (List.mem_append_left _ (List.mem_append_right _ h)))))))))))
theorem hcX11_firstWorn_X6 : ∀ w ∈ wsX60, w ∈ wsX11_firstWorn := fun _ h => (List.mem_cons_of_mem _ (List.mem_append_left _ (List.mem_append_left _ (List.mem_append_left _ (List.mem_append_left _ (List.mem_append_left _ (List.mem_append_left _ (List.mem_append_left _ (List.mem_append_left _ (List.mem_append_right _ h))))))))))
set_option maxHeartbeats 4000000 in
set_option maxRecDepth 100000 in
theorem J_X11_firstWorn {D : va_G} {KA : Nat → ClassId} {zs : ZS} {ad : Nat → Nat} {ids : List Nat} {sz : Nat} (l : Launch) (hI : ∀ c, c < 52 ∧ ¬ c = 19 → c ∈ ids) {a1 : Int32}  {σ : St} {post : Int32 → St → Prop} (h : wX11_firstWorn ids a1 σ post) : Met l yX11_firstWorn wsX11_firstWorn rmX11_firstWorn (va_Pc [.ref (ad 0), .int a1] (xIn D KA zs layX stX ad ids sz σ)) (va_Qi post (xOut D KA layX stX ad ids) (xA ad ids sz)) 0 0 (xA ad ids sz) := by
  refine Met.ofW (cc := cX11_firstWorn) (maxL := 6) (ret := (some .int)) (by decide) rfl ?_
  intro p e s m args below meth c s₁ B hml hv
  obtain ⟨hav, hsz, hK, hZ, hP, hD⟩ := hv
  have hx := B.exec
  have hb := B.bytes
  have hr := B.returns
  have hts := atoms_spec (ws := wsX11_firstWorn) B.pre
  have hown : s.vm.findClass RX11 = some m.cls := findClass_of_methodNamed B.named
  have hlocks := B.notSynchronized
  subst hsz
  have hA : ∀ q : Nat, s.heap.size ≤ q → xA ad ids s.heap.size q := fun q h => Or.inr h
  have hW : xW D KA layX stX ad ids (xA ad ids s.heap.size) s.heap σ s.heap [] := ⟨hP, xA_D (D := D) hD, va_S.rf⟩
  have kr : ∀ (v : Int32) (σ : St) (H : Heap) (locs : List Loc) (ls : Array Slot) (pc : Nat), xW D KA layX stX ad ids (xA ad ids s.heap.size) s.heap σ H locs → post v σ → decode cX11_firstWorn pc = .ok (.ireturn, 1) → W p l e rmX11_firstWorn s m args below meth c H locs 0 0 (MQ below (va_Qi post (xOut D KA layX stX ad ids) (xA ad ids s.heap.size)) args s 0 0 (xA ad ids s.heap.size)) (F0 m pc ls [.int v]) := fun v σ H locs ls pc hW h hd => x_iret hx hb hr hlocks hW h hd
  have hl := lv_entry ([.ref (ad 0), .int a1]) (n := 6) (Nat.le_of_ble_eq_true rfl)
  rw [show entryFrame m args 6 = entryFrame m ([.ref (ad 0), .int a1] : List Value).toArray 6 from by rw [hav]]
  rw [lg_entry_eq]
  generalize (lg_sl ([.ref (ad 0), .int a1]) ++ List.replicate (6 - (lg_sl ([.ref (ad 0), .int a1])).length) Slot.unset).toArray = ls at hl ⊢
  have hl : lv_has ls 6 [(0, .ref (ad 0)), (1, .int a1)] := hl
  show W p l e rmX11_firstWorn s m args below meth c s.heap [] 0 0 _ _
  generalize MQ below (va_Qi post (xOut D KA layX stX ad ids) (xA ad ids s.heap.size)) args s 0 0 (xA ad ids s.heap.size) = Q at kr ⊢
  have blk59 : ∀ (x1 : Int32) (k7 : Int32 → Int32 → Int32 → St → Prop) (hk7 : ∀ (x2 : Int32) (x3 : Int32) (x4 : Int32) (σ : St) (H : Heap) (locs : List Loc) (ls : Array Slot), xW D KA layX stX ad ids (xA ad ids s.heap.size) s.heap σ H locs → lv_has ls 6 [(0, .ref (ad 0)), (1, .int x1), (2, .int x2), (3, .int x3), (4, .int x4)] → k7 x2 x3 x4 σ → W p l e rmX11_firstWorn s m args below meth c H locs 0 0 Q (F0 m 7 ls [])) (x2 : Int32) (x3 : Int32) (x4 : Int32) (σ : St) (H : Heap) (locs : List Loc) (ls : Array Slot), xW D KA layX stX ad ids (xA ad ids s.heap.size) s.heap σ H locs → lv_has ls 6 [(0, .ref (ad 0)), (1, .int x1), (2, .int x2), (3, .int x3), (4, .int x4)] → wX11_firstWorn_59 ids k7 post x1 x2 x3 x4 σ → W p l e rmX11_firstWorn s m args below meth c H locs 0 0 Q (F0 m 59 ls []) := by
    intro x1 k7 hk7 x2 x3 x4 σ H locs ls hW hl h
    unfold wX11_firstWorn_59 at h
    obtain ⟨v1, hv1⟩ : ∃ y : Int32, y = x4 + (1 : Int32) := ⟨_, rfl⟩
    have h := h v1 hv1
    refine lv_iinc (v := v1) (lv' := [(4, .int v1), (0, .ref (ad 0)), (1, .int x1), (2, .int x2), (3, .int x3)]) hx hb dX11_firstWorn_59 hl (k := 4) rfl (by rw [hv1]; rfl) (by decide) rfl (fun ls hl => ?_)
    refine lv_goto (tgt := 7) hx hb dX11_firstWorn_62 (by decide) ?_
    exact hk7 x2 x3 v1 _ _ _ _ hW (lv_sub hl [1, 2, 3, 4, 0] rfl) h
  have blk53 : ∀ (x1 : Int32) (k7 : Int32 → Int32 → Int32 → St → Prop) (hk7 : ∀ (x2 : Int32) (x3 : Int32) (x4 : Int32) (σ : St) (H : Heap) (locs : List Loc) (ls : Array Slot), xW D KA layX stX ad ids (xA ad ids s.heap.size) s.heap σ H locs → lv_has ls 6 [(0, .ref (ad 0)), (1, .int x1), (2, .int x2), (3, .int x3), (4, .int x4)] → k7 x2 x3 x4 σ → W p l e rmX11_firstWorn s m args below meth c H locs 0 0 Q (F0 m 7 ls [])) (x4 : Int32) (x5 : Int32) (σ : St) (H : Heap) (locs : List Loc) (ls : Array Slot), xW D KA layX stX ad ids (xA ad ids s.heap.size) s.heap σ H locs → lv_has ls 6 [(0, .ref (ad 0)), (1, .int x1), (4, .int x4), (5, .int x5)] → wX11_firstWorn_53 ids k7 post x1 x4 x5 σ → W p l e rmX11_firstWorn s m args below meth c H locs 0 0 Q (F0 m 53 ls []) := by
    intro x1 k7 hk7 x4 x5 σ H locs ls hW hl h
    unfold wX11_firstWorn_53 at h
    refine lv_iload hx hb dX11_firstWorn_53 (lv_at hl 2 rfl) ?_
    refine lv_istore_n (lv' := [(2, .int x4), (0, .ref (ad 0)), (1, .int x1), (4, .int x4), (5, .int x5)]) hx hb dX11_firstWorn_55 rfl hl (by decide) rfl (fun ls hl => ?_)
    refine lv_iload hx hb dX11_firstWorn_56 (lv_at hl 4 rfl) ?_
    refine lv_istore_n (lv' := [(3, .int x5), (2, .int x4), (0, .ref (ad 0)), (1, .int x1), (4, .int x4), (5, .int x5)]) hx hb dX11_firstWorn_58 rfl hl (by decide) rfl (fun ls hl => ?_)
    exact blk59 x1 k7 hk7 x4 x5 x4 _ _ _ _ hW (lv_sub hl [2, 3, 1, 0, 4] rfl) h
  have blk7 : ∀ (x1 : Int32) (n : Nat) (x2 : Int32) (x3 : Int32) (x4 : Int32) (σ : St) (H : Heap) (locs : List Loc) (ls : Array Slot), xW D KA layX stX ad ids (xA ad ids s.heap.size) s.heap σ H locs → lv_has ls 6 [(0, .ref (ad 0)), (1, .int x1), (2, .int x2), (3, .int x3), (4, .int x4)] → wX11_firstWorn_7 ids post x1 n x2 x3 x4 σ → W p l e rmX11_firstWorn s m args below meth c H locs 0 0 Q (F0 m 7 ls []) := by
    intro   x1 n
    induction n with
    | zero => intro x2 x3 x4 σ H locs ls hW hl h; exact (h : False).elim
    | succ n ih =>
      intro x2 x3 x4 σ H locs ls hW hl h
      have hk7 : ∀ (x2 : Int32) (x3 : Int32) (x4 : Int32) (σ : St) (H : Heap) (locs : List Loc) (ls : Array Slot), xW D KA layX stX ad ids (xA ad ids s.heap.size) s.heap σ H locs → lv_has ls 6 [(0, .ref (ad 0)), (1, .int x1), (2, .int x2), (3, .int x3), (4, .int x4)] → (wX11_firstWorn_7 ids post x1 n) x2 x3 x4 σ → W p l e rmX11_firstWorn s m args below meth c H locs 0 0 Q (F0 m 7 ls []) := fun x2 x3 x4 σ H locs ls hW hl h => ih x2 x3 x4 σ H locs ls hW hl h
      rw [wX11_firstWorn_7_s] at h
      try dsimp only at h
      generalize wX11_firstWorn_7 ids post x1 n = k7 at h hk7
      refine lv_iload hx hb dX11_firstWorn_7 (lv_at hl 4 rfl) ?_
      refine lv_aload_n hx hb dX11_firstWorn_9 rfl (lv_at hl 0 rfl) ?_
      refine xgX11_0r hx hb hts hown hK hW 0 hcX11_firstWorn_X11 (hI 0 (by decide)) lX_0 (hts _ hwX11_firstWorn_0) (sX_0_0 _) dX11_firstWorn_10 ?_
      refine xgX6_3 hx hb hts hown hK hW 1 hcX11_firstWorn_X6 (hI 1 (by decide)) lX_1 (hts _ hwX11_firstWorn_1) dX11_firstWorn_13 ?_
      refine lv_icmp_ge (tgt := 65) hx hb dX11_firstWorn_16 (by decide) (fun c2 => ?_) (fun c2 => ?_)
      · have h := h.1 c2
        refine lv_iload_n hx hb dX11_firstWorn_65 rfl (lv_at hl 2 rfl) ?_
        exact kr _ _ _ _ _ _ hW h dX11_firstWorn_66
      · have h := h.2 c2
        refine lv_aload_n hx hb dX11_firstWorn_19 rfl (lv_at hl 0 rfl) ?_
        refine lv_aload_n hx hb dX11_firstWorn_20 rfl (lv_at hl 0 rfl) ?_
        refine xgX11_0r hx hb hts hown hK hW 0 hcX11_firstWorn_X11 (hI 0 (by decide)) lX_0 (hts _ hwX11_firstWorn_0) (sX_0_0 _) dX11_firstWorn_21 ?_
        refine xgX6_12r hx hb hts hown hK hW 1 hcX11_firstWorn_X6 (hI 1 (by decide)) lX_1 (hts _ hwX11_firstWorn_2) (sX_1_12 _) dX11_firstWorn_24 ?_
        refine lv_iload hx hb dX11_firstWorn_27 (lv_at hl 4 rfl) ?_
        obtain ⟨hi3, h⟩ := h
        obtain ⟨o4, hr5, ok_o4, h⟩ := h
        refine x_ald hx hb hK hW 11 0 (hI 11 (by decide)) lX_11 rfl hi3 ((sX_11 _ _).trans hr5) dX11_firstWorn_29 ?_
        refine lv_iload_n hx hb dX11_firstWorn_30 rfl (lv_at hl 1 rfl) ?_
        refine x_calli (va_runV (As := [.ref (ad o4), .int x1]) (rest := []) ⟨hx, hb, hml, hown, hts⟩ (J_X11_days l hI ok_o4 h) (cwV 2 hts gX11_firstWorn_X11_days rfl rfl rfl hdV_X11_days ⟨Nat.le_of_ble_eq_true rfl, Nat.le_of_ble_eq_true rfl⟩) (x_preV (ci := 11) hK hZ hA hW (hI 0 (by decide)) lX_0 rfl) rfl rfl hl.1 rfl (lv_room (Nat.le_of_ble_eq_true rfl)) dX11_firstWorn_31 ⟨Nat.zero_le _, Nat.zero_le _⟩) hW hA (fun r7 σ6 H locs h hW => ?_)
        try dsimp only at h
        refine lv_istore (lv' := [(5, .int r7), (0, .ref (ad 0)), (1, .int x1), (2, .int x2), (3, .int x3), (4, .int x4)]) hx hb dX11_firstWorn_34 hl (by decide) rfl (fun ls hl => ?_)
        refine lv_iload hx hb dX11_firstWorn_36 (lv_at hl 0 rfl) ?_
        refine lv_iconst (v := (-1)) hx hb dX11_firstWorn_38 (by decide) ?_
        refine lv_icmp_eq (tgt := 59) hx hb dX11_firstWorn_39 (by decide) (fun c8 => ?_) (fun c8 => ?_)
        · have h := h.1 c8
          exact blk59 x1 k7 hk7 x2 x3 x4 _ _ _ _ hW (lv_sub hl [1, 2, 3, 4, 5] rfl) h
        · have h := h.2 c8
          refine lv_iload_n hx hb dX11_firstWorn_42 rfl (lv_at hl 3 rfl) ?_
          refine lv_iconst (v := (-1)) hx hb dX11_firstWorn_43 (by decide) ?_
          refine lv_icmp_eq (tgt := 53) hx hb dX11_firstWorn_44 (by decide) (fun c9 => ?_) (fun c9 => ?_)
          · have h := h.1 c9
            exact blk53 x1 k7 hk7 x4 r7 _ _ _ _ hW (lv_sub hl [1, 2, 5, 0] rfl) h
          · have h := h.2 c9
            refine lv_iload hx hb dX11_firstWorn_47 (lv_at hl 0 rfl) ?_
            refine lv_iload_n hx hb dX11_firstWorn_49 rfl (lv_at hl 4 rfl) ?_
            refine lv_icmp_ge (tgt := 59) hx hb dX11_firstWorn_50 (by decide) (fun c10 => ?_) (fun c10 => ?_)
            · have h := h.1 c10
              exact blk59 x1 k7 hk7 x2 x3 x4 _ _ _ _ hW (lv_sub hl [1, 2, 3, 4, 5] rfl) h
            · have h := h.2 c10
              exact blk53 x1 k7 hk7 x4 r7 _ _ _ _ hW (lv_sub hl [1, 2, 5, 0] rfl) h
  have main : ∀ (H : Heap) (locs : List Loc) (ls : Array Slot), xW D KA layX stX ad ids (xA ad ids s.heap.size) s.heap σ H locs → lv_has ls 6 [(0, .ref (ad 0)), (1, .int a1)] → W p l e rmX11_firstWorn s m args below meth c H locs 0 0 Q (F0 m 0 ls []) := by
    intro H locs ls hW hl
    unfold wX11_firstWorn at h
    refine lv_iconst (v := (-1)) hx hb dX11_firstWorn_0 (by decide) ?_
    refine lv_istore_n (lv' := [(2, .int (-1 : Int32)), (0, .ref (ad 0)), (1, .int a1)]) hx hb dX11_firstWorn_1 rfl hl (by decide) rfl (fun ls hl => ?_)
    refine lv_iconst (v := 0) hx hb dX11_firstWorn_2 (by decide) ?_
    refine lv_istore_n (lv' := [(3, .int (0 : Int32)), (2, .int (-1 : Int32)), (0, .ref (ad 0)), (1, .int a1)]) hx hb dX11_firstWorn_3 rfl hl (by decide) rfl (fun ls hl => ?_)
    refine lv_iconst (v := 0) hx hb dX11_firstWorn_4 (by decide) ?_
    refine lv_istore (lv' := [(4, .int (0 : Int32)), (3, .int (0 : Int32)), (2, .int (-1 : Int32)), (0, .ref (ad 0)), (1, .int a1)]) hx hb dX11_firstWorn_5 hl (by decide) rfl (fun ls hl => ?_)
    obtain ⟨n, h⟩ := h
    exact blk7   a1 n (-1 : Int32) (0 : Int32) (0 : Int32) _ _ _ _ hW (lv_sub hl [3, 4, 2, 1, 0] rfl) h
  exact main _ _ _ hW hl
