/-! STRING CONSTANTS: the members of String that are called, over the three constants (place i) -/
def xSin (zs : ZS) (sz : Nat) (U : State) : Prop := U.heap.size = sz ∧ xZ zs (fun q => sz ≤ q) U
def xSi (post : Int32 → Prop) : Array Value → State → Outcome → State → Prop := fun _ st oc t => ∃ r : Int32, oc = .returned (some (.int r)) ∧ post r ∧ t.heap = st.heap
def xSv (post : Prop) : Array Value → State → Outcome → State → Prop := fun _ st oc t => oc = .returned none ∧ post ∧ t.heap = st.heap
theorem xs_blind {zs : ZS} {as : List Value} {sz : Nat} : FrameBlind (va_Pc as (xSin zs sz)) := by
  intro a U g mk q
  obtain ⟨q0, q1, qZ⟩ := q
  exact ⟨q0, q1, xZ_vm (u := U) (U := U.calling g mk a) rfl rfl qZ⟩
section XSS
variable {p : Program} {l : Launch} {e : Env} {R : Room} {s : State} {m : MethodId} {args : Array Value} {below : List Frame} {meth : Method} {c : Code} {H : Heap} {locs : List Loc} {cells slots : Nat} {Q : State → Prop}
variable {pc : Nat} {ls : Array Slot} {rest st0 : List Value} {a : Array Value} {zs : ZS} {A : Nat → Prop}
theorem xs_pre {as : List Value} (hZ : xZ zs A s) (hS : va_S A s.heap H locs) (hA : ∀ q, s.heap.size ≤ q → A q) : ∀ U : State, U.heap = H → s.WarmedH U.vm → va_Pc as (xSin zs H.size) as.toArray U :=
  fun U hU hw => ⟨rfl, by rw [hU], xZ_moved hU hw hS.2.1 (fun q h => hA q (Nat.le_trans hS.1 h)) hZ⟩
theorem xs_preS {as : List Value} (hZ : xZ zs A s) (hS : va_S A s.heap H locs) (hA : ∀ q, s.heap.size ≤ q → A q) : PreS s H (va_Pc as (xSin zs H.size)) as := ⟨xs_blind, xs_pre hZ hS hA⟩
theorem xs_preV {as : List Value} (hZ : xZ zs A s) (hS : va_S A s.heap H locs) (hA : ∀ q, s.heap.size ≤ q → A q) (i : Nat) (hi : i < 3) : PreV s H "java/lang/String" (zs.1 i) (va_Pc (.ref (zs.1 i) :: as) (xSin zs H.size)) as := ⟨xs_blind, vk_recv hZ.1 hi hS, xs_pre hZ hS hA⟩
theorem xs_calli {post : Int32 → Prop} (hr : va_Run p l e R s m args below meth c H locs cells slots 0 0 (F0 m pc ls st0) rest (xSi post a) (fun _ => False)) (kk : ∀ r : Int32, post r → W p l e R s m args below meth c H locs cells slots Q (F0 m (pc + 3) ls (.int r :: rest))) : W p l e R s m args below meth c H locs cells slots Q (F0 m pc ls st0) := by
  intro T hT X
  obtain ⟨v, st₀, t, T', L, h0, X', hL, e1, e2, ⟨r, hv, hp, hh⟩, st⟩ := hr T hT X
  cases hv
  cases L with
  | cons q L => exact (hL q List.mem_cons_self).elim
  | nil =>
    rw [List.append_nil] at X'
    obtain ⟨t2, a1, b1⟩ := kk r hp T' (by rw [e1, hh, h0]) X'
    exact ⟨t2, st t2 a1, b1⟩
theorem xs_callv {post : Prop} (hr : va_Run p l e R s m args below meth c H locs cells slots 0 0 (F0 m pc ls st0) rest (xSv post a) (fun _ => False)) (kk : post → W p l e R s m args below meth c H locs cells slots Q (F0 m (pc + 3) ls rest)) : W p l e R s m args below meth c H locs cells slots Q (F0 m pc ls st0) := by
  intro T hT X
  obtain ⟨v, st₀, t, T', L, h0, X', hL, e1, e2, ⟨hv, hp, hh⟩, st⟩ := hr T hT X
  cases hv
  cases L with
  | cons q L => exact (hL q List.mem_cons_self).elim
  | nil =>
    rw [List.append_nil] at X'
    obtain ⟨t2, a1, b1⟩ := kk hp T' (by rw [e1, hh, h0]) X'
    exact ⟨t2, st t2 a1, b1⟩
end XSS
theorem xb_all : ∀ i, i < 3 → (xLen.getD i 0 = (xByt.getD i []).length ∧ xLen.getD i 0 < 100 ∧ ∀ b ∈ xByt.getD i [], b.toInt8.toInt32 = b ∧ (b &&& 255) = b ∧ (b.toUInt32 % 65536).toInt32 = b) := by decide +kernel
/-- the char at k of constant i -/
def xCh (i k : Nat) : Int32 := (xByt.getD i []).getD k 0
theorem xCh_all {i k : Nat} (hi : i < 3) (hk : k < xLen.getD i 0) : (xCh i k &&& 255) = xCh i k ∧ ((xCh i k).toUInt32 % 65536).toInt32 = xCh i k ∧ (xCh i k).toInt8.toInt32 = xCh i k := by
  obtain ⟨h1, -, h2⟩ := xb_all i hi
  have hm : xCh i k ∈ xByt.getD i [] := by
    unfold xCh
    generalize xByt.getD i [] = L at h1
    rw [List.getD_eq_getElem?_getD, List.getElem?_eq_getElem (by omega)]
    exact List.getElem_mem _
  exact ⟨(h2 _ hm).2.1, (h2 _ hm).2.2, (h2 _ hm).1⟩
/-- where c stands first in constant i, from place k on, of n places; -1 -/
def xIx (i : Nat) (c : Int32) : Nat → Nat → Int32
  | 0, _ => -1
  | n + 1, k => if xCh i k = c then nI k else xIx i c n (k + 1)
def rmJ0_coder_7d493 : Room := { frames := 1, cells := 0, slots := 0, locals := 40 }
set_option maxHeartbeats 4000000 in
set_option maxRecDepth 100000 in
theorem J_J0_coder_7d493 {zs : ZS} {sz : Nat} (l : Launch) (i : Nat) (hi : i < 3)  {post : Int32 → Prop} (h : post 0) : Met l yJ0_coder_7d493 wsJ0_coder_7d493 rmJ0_coder_7d493 (va_Pc [.ref (zs.1 i)] (xSin zs sz)) (xSi post) 0 0 (fun _ => False) := by
  refine Met.ofW (cc := cJ0_coder_7d493) (maxL := 1) (ret := (some .byte)) (by decide) rfl ?_
  intro p e s m args below meth c s₁ B hml hv
  obtain ⟨hav, hsz, hZ⟩ := hv
  have hx := B.exec
  have hb := B.bytes
  have hr := B.returns
  have hlocks := B.notSynchronized
  have hts := atoms_spec (ws := wsJ0_coder_7d493) B.pre
  have hown : s.vm.findClass RJ0 = some m.cls := findClass_of_methodNamed B.named
  subst hsz
  have hS : va_S (fun q => s.heap.size ≤ q) s.heap s.heap [] := va_S.rf
  have hl := lv_entry ([.ref (zs.1 i)]) (n := 1) (Nat.le_of_ble_eq_true rfl)
  rw [show entryFrame m args 1 = entryFrame m ([.ref (zs.1 i)] : List Value).toArray 1 from by rw [hav]]
  rw [lg_entry_eq]
  generalize (lg_sl ([.ref (zs.1 i)]) ++ List.replicate (1 - (lg_sl ([.ref (zs.1 i)])).length) Slot.unset).toArray = ls at hl ⊢
  have kr : ∀ (v : Int32) (ls : Array Slot) (pc : Nat), post v → narrow .byte (.int v) = .int v → decode cJ0_coder_7d493 pc = .ok (.ireturn, 1) → W p l e rmJ0_coder_7d493 s m args below meth c s.heap [] 0 0 (MQ below (xSi post) args s 0 0 (fun _ => False)) (F0 m pc ls [.int v]) := fun v ls pc h hn hd => W.zret hx hb hr hn (fun t ht _ => ⟨v, rfl, h, ht⟩) (fun _ h => absurd h List.not_mem_nil) hd
  show W p l e rmJ0_coder_7d493 s m args below meth c s.heap [] 0 0 _ _
  have hl : lv_has ls 1 [(0, .ref (zs.1 i))] := hl
  refine va_gets hx hb hZ.2.1 hS hown (hts _ (List.mem_cons_of_mem _ (List.mem_of_getElem? (i := 0) rfl))) (fun _ h => h) dJ0_coder_7d493_0 ?_
  refine lv_if_eq (tgt := 13) hx hb dJ0_coder_7d493_3 (by decide) (fun hc => absurd hc (by decide)) (fun _ => ?_)
  refine lv_aload_n hx hb dJ0_coder_7d493_6 rfl (lv_at hl 0 rfl) ?_
  refine vk_getf hx hb (hZ.1.1 i hi).2.1 hS hown (hts _ (List.mem_cons_of_mem _ (List.mem_of_getElem? (i := 1) rfl))) (fun _ h => h) dJ0_coder_7d493_7 ?_
  refine lv_goto (tgt := 14) hx hb dJ0_coder_7d493_10 (by decide) ?_
  exact kr _ _ _ h rfl dJ0_coder_7d493_14
def rmJ0_isLatin1_aae02 : Room := { frames := 1, cells := 0, slots := 0, locals := 40 }
set_option maxHeartbeats 4000000 in
set_option maxRecDepth 100000 in
theorem J_J0_isLatin1_aae02 {zs : ZS} {sz : Nat} (l : Launch) (i : Nat) (hi : i < 3)  {post : Int32 → Prop} (h : post 1) : Met l yJ0_isLatin1_aae02 wsJ0_isLatin1_aae02 rmJ0_isLatin1_aae02 (va_Pc [.ref (zs.1 i)] (xSin zs sz)) (xSi post) 0 0 (fun _ => False) := by
  refine Met.ofW (cc := cJ0_isLatin1_aae02) (maxL := 1) (ret := (some .boolean)) (by decide) rfl ?_
  intro p e s m args below meth c s₁ B hml hv
  obtain ⟨hav, hsz, hZ⟩ := hv
  have hx := B.exec
  have hb := B.bytes
  have hr := B.returns
  have hlocks := B.notSynchronized
  have hts := atoms_spec (ws := wsJ0_isLatin1_aae02) B.pre
  have hown : s.vm.findClass RJ0 = some m.cls := findClass_of_methodNamed B.named
  subst hsz
  have hS : va_S (fun q => s.heap.size ≤ q) s.heap s.heap [] := va_S.rf
  have hl := lv_entry ([.ref (zs.1 i)]) (n := 1) (Nat.le_of_ble_eq_true rfl)
  rw [show entryFrame m args 1 = entryFrame m ([.ref (zs.1 i)] : List Value).toArray 1 from by rw [hav]]
  rw [lg_entry_eq]
  generalize (lg_sl ([.ref (zs.1 i)]) ++ List.replicate (1 - (lg_sl ([.ref (zs.1 i)])).length) Slot.unset).toArray = ls at hl ⊢
  have kr : ∀ (v : Int32) (ls : Array Slot) (pc : Nat), post v → narrow .boolean (.int v) = .int v → decode cJ0_isLatin1_aae02 pc = .ok (.ireturn, 1) → W p l e rmJ0_isLatin1_aae02 s m args below meth c s.heap [] 0 0 (MQ below (xSi post) args s 0 0 (fun _ => False)) (F0 m pc ls [.int v]) := fun v ls pc h hn hd => W.zret hx hb hr hn (fun t ht _ => ⟨v, rfl, h, ht⟩) (fun _ h => absurd h List.not_mem_nil) hd
  show W p l e rmJ0_isLatin1_aae02 s m args below meth c s.heap [] 0 0 _ _
  have hl : lv_has ls 1 [(0, .ref (zs.1 i))] := hl
  refine va_gets hx hb hZ.2.1 hS hown (hts _ (List.mem_cons_of_mem _ (List.mem_of_getElem? (i := 0) rfl))) (fun _ h => h) dJ0_isLatin1_aae02_0 ?_
  refine lv_if_eq (tgt := 17) hx hb dJ0_isLatin1_aae02_3 (by decide) (fun hc => absurd hc (by decide)) (fun _ => ?_)
  refine lv_aload_n hx hb dJ0_isLatin1_aae02_6 rfl (lv_at hl 0 rfl) ?_
  refine vk_getf hx hb (hZ.1.1 i hi).2.1 hS hown (hts _ (List.mem_cons_of_mem _ (List.mem_of_getElem? (i := 1) rfl))) (fun _ h => h) dJ0_isLatin1_aae02_7 ?_
  refine lv_if_ne (tgt := 17) hx hb dJ0_isLatin1_aae02_10 (by decide) (fun hc => absurd rfl hc) (fun _ => ?_)
  refine lv_iconst (v := 1) hx hb dJ0_isLatin1_aae02_13 (by decide) ?_
  refine lv_goto (tgt := 18) hx hb dJ0_isLatin1_aae02_14 (by decide) ?_
  exact kr _ _ _ h rfl dJ0_isLatin1_aae02_18
def rmJ0_length_8abf5 : Room := { frames := 2, cells := 0, slots := 0, locals := 60 }
set_option maxHeartbeats 4000000 in
set_option maxRecDepth 100000 in
theorem J_J0_length_8abf5 {zs : ZS} {sz : Nat} (l : Launch) (i : Nat) (hi : i < 3)  {post : Int32 → Prop} (h : post (nI (xLen.getD i 0))) : Met l yJ0_length_8abf5 wsJ0_length_8abf5 rmJ0_length_8abf5 (va_Pc [.ref (zs.1 i)] (xSin zs sz)) (xSi post) 0 0 (fun _ => False) := by
  refine Met.ofW (cc := cJ0_length_8abf5) (maxL := 1) (ret := (some .int)) (by decide) rfl ?_
  intro p e s m args below meth c s₁ B hml hv
  obtain ⟨hav, hsz, hZ⟩ := hv
  have hx := B.exec
  have hb := B.bytes
  have hr := B.returns
  have hlocks := B.notSynchronized
  have hts := atoms_spec (ws := wsJ0_length_8abf5) B.pre
  have hown : s.vm.findClass RJ0 = some m.cls := findClass_of_methodNamed B.named
  subst hsz
  have hS : va_S (fun q => s.heap.size ≤ q) s.heap s.heap [] := va_S.rf
  have hl := lv_entry ([.ref (zs.1 i)]) (n := 1) (Nat.le_of_ble_eq_true rfl)
  rw [show entryFrame m args 1 = entryFrame m ([.ref (zs.1 i)] : List Value).toArray 1 from by rw [hav]]
  rw [lg_entry_eq]
  generalize (lg_sl ([.ref (zs.1 i)]) ++ List.replicate (1 - (lg_sl ([.ref (zs.1 i)])).length) Slot.unset).toArray = ls at hl ⊢
  have kr : ∀ (v : Int32) (ls : Array Slot) (pc : Nat), post v → decode cJ0_length_8abf5 pc = .ok (.ireturn, 1) → W p l e rmJ0_length_8abf5 s m args below meth c s.heap [] 0 0 (MQ below (xSi post) args s 0 0 (fun _ => False)) (F0 m pc ls [.int v]) := fun v ls pc h hd => W.iret hx hb hr (fun t ht _ => ⟨v, rfl, h, ht⟩) (fun _ h => absurd h List.not_mem_nil) hd
  show W p l e rmJ0_length_8abf5 s m args below meth c s.heap [] 0 0 _ _
  have hl : lv_has ls 1 [(0, .ref (zs.1 i))] := hl
  refine lv_aload_n hx hb dJ0_length_8abf5_0 rfl (lv_at hl 0 rfl) ?_
  refine vk_getf hx hb (hZ.1.1 i hi).2.2.1 hS hown (hts _ (List.mem_cons_of_mem _ (List.mem_of_getElem? (i := 0) rfl))) (fun _ h => h) dJ0_length_8abf5_1 ?_
  refine va_tlen hx hb (hZ.1.1 i hi).2.2.2 hS rfl dJ0_length_8abf5_4 ?_
  refine lv_aload_n hx hb dJ0_length_8abf5_5 rfl (lv_at hl 0 rfl) ?_
  refine xs_calli (va_runV (As := []) (rest := [.int (Int32.ofNat (xLen.getD i 0))]) ⟨hx, hb, hml, hown, hts⟩ (J_J0_coder_7d493 (post := fun r => r = 0) l i hi rfl) (cwV 0 hts gJ0_length_8abf5_J0_coder_7d493 rfl rfl rfl (by decide +kernel) ⟨Nat.le_of_ble_eq_true rfl, Nat.le_of_ble_eq_true rfl⟩) (xs_preV hZ hS (fun _ h => h) i hi) rfl rfl hl.1 rfl (lv_room (Nat.le_of_ble_eq_true rfl)) dJ0_length_8abf5_6 ⟨Nat.zero_le _, Nat.zero_le _⟩) (fun r hr => ?_)
  subst hr
  refine lv_ishr hx hb dJ0_length_8abf5_9 ?_
  refine kr _ _ _ ?_ dJ0_length_8abf5_10
  have e : ∀ i, i < 3 → Int32.ofNat (xLen.getD i 0) >>> ((0 : Int32) &&& 31) = nI (xLen.getD i 0) := by decide +kernel
  rw [e i hi]
  exact h
def rmJ3_checkIndex_8e157 : Room := { frames := 1, cells := 0, slots := 0, locals := 40 }
set_option maxHeartbeats 4000000 in
set_option maxRecDepth 100000 in
theorem J_J3_checkIndex_8e157 {zs : ZS} {sz : Nat} (l : Launch) (a b : Int32) (v : Option Nat) (hab : ¬ a < 0 ∧ a < b) {post : Int32 → Prop} (h : post a) : Met l yJ3_checkIndex_8e157 wsJ3_checkIndex_8e157 rmJ3_checkIndex_8e157 (va_Pc [.int a, .int b, va_rf v] (xSin zs sz)) (xSi post) 0 0 (fun _ => False) := by
  refine Met.ofW (cc := cJ3_checkIndex_8e157) (maxL := 3) (ret := (some .int)) (by decide) rfl ?_
  intro p e s m args below meth c s₁ B hml hv
  obtain ⟨hav, hsz, hZ⟩ := hv
  have hx := B.exec
  have hb := B.bytes
  have hr := B.returns
  have hlocks := B.notSynchronized
  have hts := atoms_spec (ws := wsJ3_checkIndex_8e157) B.pre
  have hown : s.vm.findClass RJ3 = some m.cls := findClass_of_methodNamed B.named
  subst hsz
  have hS : va_S (fun q => s.heap.size ≤ q) s.heap s.heap [] := va_S.rf
  have hl : lv_has ((lg_sl ([.int a, .int b, va_rf v]) ++ List.replicate (3 - (lg_sl ([.int a, .int b, va_rf v])).length) Slot.unset).toArray) 3 (lv_args 0 ([.int a, .int b, va_rf v])) := by cases v <;> exact lv_entry _ (Nat.le_of_ble_eq_true rfl)
  rw [show entryFrame m args 3 = entryFrame m ([.int a, .int b, va_rf v] : List Value).toArray 3 from by rw [hav]]
  rw [lg_entry_eq]
  generalize (lg_sl ([.int a, .int b, va_rf v]) ++ List.replicate (3 - (lg_sl ([.int a, .int b, va_rf v])).length) Slot.unset).toArray = ls at hl ⊢
  have kr : ∀ (v : Int32) (ls : Array Slot) (pc : Nat), post v → decode cJ3_checkIndex_8e157 pc = .ok (.ireturn, 1) → W p l e rmJ3_checkIndex_8e157 s m args below meth c s.heap [] 0 0 (MQ below (xSi post) args s 0 0 (fun _ => False)) (F0 m pc ls [.int v]) := fun v ls pc h hd => W.iret hx hb hr (fun t ht _ => ⟨v, rfl, h, ht⟩) (fun _ h => absurd h List.not_mem_nil) hd
  show W p l e rmJ3_checkIndex_8e157 s m args below meth c s.heap [] 0 0 _ _
  have hl : lv_has ls 3 [(0, .int a), (1, .int b)] := by
    cases v with
    | none => exact lv_sub hl [0, 1] rfl
    | some q => exact lv_sub hl [0, 1] rfl
  refine lv_iload_n hx hb dJ3_checkIndex_8e157_0 rfl (lv_at hl 0 rfl) ?_
  refine lv_if_lt (tgt := 9) hx hb dJ3_checkIndex_8e157_1 (by decide) (fun hc => absurd hc hab.1) (fun _ => ?_)
  refine lv_iload_n hx hb dJ3_checkIndex_8e157_4 rfl (lv_at hl 0 rfl) ?_
  refine lv_iload_n hx hb dJ3_checkIndex_8e157_5 rfl (lv_at hl 1 rfl) ?_
  refine lv_icmp_lt (tgt := 16) hx hb dJ3_checkIndex_8e157_6 (by decide) (fun _ => ?_) (fun hc => absurd hab.2 hc)
  refine lv_iload_n hx hb dJ3_checkIndex_8e157_16 rfl (lv_at hl 0 rfl) ?_
  exact kr _ _ _ h dJ3_checkIndex_8e157_17
def rmJ0_checkIndex_df160 : Room := { frames := 2, cells := 0, slots := 0, locals := 62 }
set_option maxHeartbeats 4000000 in
set_option maxRecDepth 100000 in
theorem J_J0_checkIndex_df160 {zs : ZS} {sz : Nat} (l : Launch) (a b : Int32) (hab : ¬ a < 0 ∧ a < b) {post : Prop} (h : post) : Met l yJ0_checkIndex_df160 wsJ0_checkIndex_df160 rmJ0_checkIndex_df160 (va_Pc [.int a, .int b] (xSin zs sz)) (xSv post) 0 0 (fun _ => False) := by
  refine Met.ofW (cc := cJ0_checkIndex_df160) (maxL := 2) (ret := none) (by decide) rfl ?_
  intro p e s m args below meth c s₁ B hml hv
  obtain ⟨hav, hsz, hZ⟩ := hv
  have hx := B.exec
  have hb := B.bytes
  have hr := B.returns
  have hlocks := B.notSynchronized
  have hts := atoms_spec (ws := wsJ0_checkIndex_df160) B.pre
  have hown : s.vm.findClass RJ0 = some m.cls := findClass_of_methodNamed B.named
  subst hsz
  have hS : va_S (fun q => s.heap.size ≤ q) s.heap s.heap [] := va_S.rf
  have hl := lv_entry ([.int a, .int b]) (n := 2) (Nat.le_of_ble_eq_true rfl)
  rw [show entryFrame m args 2 = entryFrame m ([.int a, .int b] : List Value).toArray 2 from by rw [hav]]
  rw [lg_entry_eq]
  generalize (lg_sl ([.int a, .int b]) ++ List.replicate (2 - (lg_sl ([.int a, .int b])).length) Slot.unset).toArray = ls at hl ⊢
  have kr : ∀ (ls : Array Slot) (pc : Nat), post → decode cJ0_checkIndex_df160 pc = .ok (.return_, 1) → W p l e rmJ0_checkIndex_df160 s m args below meth c s.heap [] 0 0 (MQ below (xSv post) args s 0 0 (fun _ => False)) (F0 m pc ls []) := fun ls pc h hd => W.vret hx hb hr (fun t ht _ => ⟨rfl, h, ht⟩) (fun _ h => absurd h List.not_mem_nil) hd
  show W p l e rmJ0_checkIndex_df160 s m args below meth c s.heap [] 0 0 _ _
  have hl : lv_has ls 2 [(0, .int a), (1, .int b)] := hl
  obtain ⟨v, hv⟩ := hZ.2.2.1
  refine lv_iload_n hx hb dJ0_checkIndex_df160_0 rfl (lv_at hl 0 rfl) ?_
  refine lv_iload_n hx hb dJ0_checkIndex_df160_1 rfl (lv_at hl 1 rfl) ?_
  refine va_gets hx hb hv hS hown (hts _ (List.mem_cons_of_mem _ (List.mem_of_getElem? (i := 0) rfl))) (fun _ h => h) dJ0_checkIndex_df160_2 ?_
  refine xs_calli (va_runS (As := [.int a, .int b, va_rf v]) (rest := []) ⟨hx, hb, hml, hown, hts⟩ (J_J3_checkIndex_8e157 (post := fun _ => True) l a b v hab trivial) (va_cwS 3 hts gJ0_checkIndex_df160_J3_checkIndex_8e157 rfl rfl rfl (by decide +kernel) ⟨Nat.le_of_ble_eq_true rfl, Nat.le_of_ble_eq_true rfl⟩) (xs_preS hZ hS (fun _ h => h)) rfl rfl hl.1 rfl (lv_room (Nat.le_of_ble_eq_true rfl)) dJ0_checkIndex_df160_5 ⟨Nat.zero_le _, Nat.zero_le _⟩) (fun r hr => ?_)
  refine lv_pop hx hb dJ0_checkIndex_df160_8 rfl ?_
  exact kr _ _ h dJ0_checkIndex_df160_9
def rmJ1_charAt_3b067 : Room := { frames := 3, cells := 0, slots := 0, locals := 83 }
set_option maxHeartbeats 4000000 in
set_option maxRecDepth 100000 in
theorem J_J1_charAt_3b067 {zs : ZS} {sz : Nat} (l : Launch) (i k : Nat) (hi : i < 3) (hk : k < xLen.getD i 0) {post : Int32 → Prop} (h : post (xCh i k)) : Met l yJ1_charAt_3b067 wsJ1_charAt_3b067 rmJ1_charAt_3b067 (va_Pc [.ref (zs.2 i), .int (nI k)] (xSin zs sz)) (xSi post) 0 0 (fun _ => False) := by
  refine Met.ofW (cc := cJ1_charAt_3b067) (maxL := 2) (ret := (some .char)) (by decide) rfl ?_
  intro p e s m args below meth c s₁ B hml hv
  obtain ⟨hav, hsz, hZ⟩ := hv
  have hx := B.exec
  have hb := B.bytes
  have hr := B.returns
  have hlocks := B.notSynchronized
  have hts := atoms_spec (ws := wsJ1_charAt_3b067) B.pre
  have hown : s.vm.findClass RJ1 = some m.cls := findClass_of_methodNamed B.named
  subst hsz
  have hS : va_S (fun q => s.heap.size ≤ q) s.heap s.heap [] := va_S.rf
  have hl := lv_entry ([.ref (zs.2 i), .int (nI k)]) (n := 2) (Nat.le_of_ble_eq_true rfl)
  rw [show entryFrame m args 2 = entryFrame m ([.ref (zs.2 i), .int (nI k)] : List Value).toArray 2 from by rw [hav]]
  rw [lg_entry_eq]
  generalize (lg_sl ([.ref (zs.2 i), .int (nI k)]) ++ List.replicate (2 - (lg_sl ([.ref (zs.2 i), .int (nI k)])).length) Slot.unset).toArray = ls at hl ⊢
  have kr : ∀ (v : Int32) (ls : Array Slot) (pc : Nat), post v → narrow .char (.int v) = .int v → decode cJ1_charAt_3b067 pc = .ok (.ireturn, 1) → W p l e rmJ1_charAt_3b067 s m args below meth c s.heap [] 0 0 (MQ below (xSi post) args s 0 0 (fun _ => False)) (F0 m pc ls [.int v]) := fun v ls pc h hn hd => W.zret hx hb hr hn (fun t ht _ => ⟨v, rfl, h, ht⟩) (fun _ h => absurd h List.not_mem_nil) hd
  show W p l e rmJ1_charAt_3b067 s m args below meth c s.heap [] 0 0 _ _
  have hl : lv_has ls 2 [(0, .ref (zs.2 i)), (1, .int (nI k))] := hl
  have hk2 : k < 2 ^ 31 ∧ xLen.getD i 0 < 2 ^ 31 := by have := (xb_all i hi).2.1; omega
  refine lv_iload_n hx hb dJ1_charAt_3b067_0 rfl (lv_at hl 1 rfl) ?_
  refine lv_aload_n hx hb dJ1_charAt_3b067_1 rfl (lv_at hl 0 rfl) ?_
  refine va_tlen hx hb (hZ.1.1 i hi).2.2.2 hS rfl dJ1_charAt_3b067_2 ?_
  refine xs_callv (va_runS (As := [.int (nI k), .int (Int32.ofNat (xLen.getD i 0))]) (rest := []) ⟨hx, hb, hml, hown, hts⟩ (J_J0_checkIndex_df160 (post := True) l (nI k) (nI (xLen.getD i 0)) ⟨nI_pos hk2.1, nI_lt hk hk2.2⟩ trivial) (va_cwS 2 hts gJ1_charAt_3b067_J0_checkIndex_df160 rfl rfl rfl (by decide +kernel) ⟨Nat.le_of_ble_eq_true rfl, Nat.le_of_ble_eq_true rfl⟩) (xs_preS hZ hS (fun _ h => h)) rfl rfl hl.1 rfl (lv_room (Nat.le_of_ble_eq_true rfl)) dJ1_charAt_3b067_3 ⟨Nat.zero_le _, Nat.zero_le _⟩) (fun _ => ?_)
  refine lv_aload_n hx hb dJ1_charAt_3b067_6 rfl (lv_at hl 0 rfl) ?_
  refine lv_iload_n hx hb dJ1_charAt_3b067_7 rfl (lv_at hl 1 rfl) ?_
  refine va_tb (v := .int (xCh i k)) hx hb (hZ.1.1 i hi).2.2.2 hS (vp_in_nI hk hk2.2) (by rw [nI_clamp hk2.1]; rfl) dJ1_charAt_3b067_8 ?_
  refine lv_sipush (v := 255) hx hb dJ1_charAt_3b067_9 (by decide) ?_
  refine lv_iand hx hb dJ1_charAt_3b067_12 ?_
  rw [(xCh_all hi hk).1]
  refine lv_i2c (v := xCh i k) hx hb dJ1_charAt_3b067_13 (xCh_all hi hk).2.1 ?_
  refine kr _ _ _ h ?_ dJ1_charAt_3b067_14
  have := pk_nc (xCh i k)
  rw [(xCh_all hi hk).2.1] at this
  exact this
def rmJ0_charAt_5068e : Room := { frames := 4, cells := 0, slots := 0, locals := 104 }
set_option maxHeartbeats 4000000 in
set_option maxRecDepth 100000 in
theorem J_J0_charAt_5068e {zs : ZS} {sz : Nat} (l : Launch) (i k : Nat) (hi : i < 3) (hk : k < xLen.getD i 0) {post : Int32 → Prop} (h : post (xCh i k)) : Met l yJ0_charAt_5068e wsJ0_charAt_5068e rmJ0_charAt_5068e (va_Pc [.ref (zs.1 i), .int (nI k)] (xSin zs sz)) (xSi post) 0 0 (fun _ => False) := by
  refine Met.ofW (cc := cJ0_charAt_5068e) (maxL := 2) (ret := (some .char)) (by decide) rfl ?_
  intro p e s m args below meth c s₁ B hml hv
  obtain ⟨hav, hsz, hZ⟩ := hv
  have hx := B.exec
  have hb := B.bytes
  have hr := B.returns
  have hlocks := B.notSynchronized
  have hts := atoms_spec (ws := wsJ0_charAt_5068e) B.pre
  have hown : s.vm.findClass RJ0 = some m.cls := findClass_of_methodNamed B.named
  subst hsz
  have hS : va_S (fun q => s.heap.size ≤ q) s.heap s.heap [] := va_S.rf
  have hl := lv_entry ([.ref (zs.1 i), .int (nI k)]) (n := 2) (Nat.le_of_ble_eq_true rfl)
  rw [show entryFrame m args 2 = entryFrame m ([.ref (zs.1 i), .int (nI k)] : List Value).toArray 2 from by rw [hav]]
  rw [lg_entry_eq]
  generalize (lg_sl ([.ref (zs.1 i), .int (nI k)]) ++ List.replicate (2 - (lg_sl ([.ref (zs.1 i), .int (nI k)])).length) Slot.unset).toArray = ls at hl ⊢
  have kr : ∀ (v : Int32) (ls : Array Slot) (pc : Nat), post v → narrow .char (.int v) = .int v → decode cJ0_charAt_5068e pc = .ok (.ireturn, 1) → W p l e rmJ0_charAt_5068e s m args below meth c s.heap [] 0 0 (MQ below (xSi post) args s 0 0 (fun _ => False)) (F0 m pc ls [.int v]) := fun v ls pc h hn hd => W.zret hx hb hr hn (fun t ht _ => ⟨v, rfl, h, ht⟩) (fun _ h => absurd h List.not_mem_nil) hd
  show W p l e rmJ0_charAt_5068e s m args below meth c s.heap [] 0 0 _ _
  have hl : lv_has ls 2 [(0, .ref (zs.1 i)), (1, .int (nI k))] := hl
  refine lv_aload_n hx hb dJ0_charAt_5068e_0 rfl (lv_at hl 0 rfl) ?_
  refine xs_calli (va_runV (As := []) (rest := []) ⟨hx, hb, hml, hown, hts⟩ (J_J0_isLatin1_aae02 (post := fun r => r = 1) l i hi rfl) (cwV 0 hts gJ0_charAt_5068e_J0_isLatin1_aae02 rfl rfl rfl (by decide +kernel) ⟨Nat.le_of_ble_eq_true rfl, Nat.le_of_ble_eq_true rfl⟩) (xs_preV hZ hS (fun _ h => h) i hi) rfl rfl hl.1 rfl (lv_room (Nat.le_of_ble_eq_true rfl)) dJ0_charAt_5068e_1 ⟨Nat.zero_le _, Nat.zero_le _⟩) (fun r hr => ?_)
  subst hr
  refine lv_if_eq (tgt := 16) hx hb dJ0_charAt_5068e_4 (by decide) (fun hc => absurd hc (by decide)) (fun _ => ?_)
  refine lv_aload_n hx hb dJ0_charAt_5068e_7 rfl (lv_at hl 0 rfl) ?_
  refine vk_getf hx hb (hZ.1.1 i hi).2.2.1 hS hown (hts _ (List.mem_cons_of_mem _ (List.mem_append_left _ (List.mem_of_getElem? (i := 0) rfl)))) (fun _ h => h) dJ0_charAt_5068e_8 ?_
  refine lv_iload_n hx hb dJ0_charAt_5068e_11 rfl (lv_at hl 1 rfl) ?_
  refine xs_calli (va_runS (As := [.ref (zs.2 i), .int (nI k)]) (rest := []) ⟨hx, hb, hml, hown, hts⟩ (J_J1_charAt_3b067 (post := fun r => r = xCh i k) l i k hi hk rfl) (va_cwS 2 hts gJ0_charAt_5068e_J1_charAt_3b067 rfl rfl rfl (by decide +kernel) ⟨Nat.le_of_ble_eq_true rfl, Nat.le_of_ble_eq_true rfl⟩) (xs_preS hZ hS (fun _ h => h)) rfl rfl hl.1 rfl (lv_room (Nat.le_of_ble_eq_true rfl)) dJ0_charAt_5068e_12 ⟨Nat.zero_le _, Nat.zero_le _⟩) (fun r hr => ?_)
  subst hr
  refine kr _ _ _ h ?_ dJ0_charAt_5068e_15
  have := pk_nc (xCh i k)
  rw [(xCh_all hi hk).2.1] at this
  exact this
def rmJ1_canEncode_9a6ad : Room := { frames := 1, cells := 0, slots := 0, locals := 40 }
set_option maxHeartbeats 4000000 in
set_option maxRecDepth 100000 in
theorem J_J1_canEncode_9a6ad {zs : ZS} {sz : Nat} (l : Launch) (a : Int32) (ha : ¬ a < 0 ∧ ¬ 255 < a) {post : Int32 → Prop} (h : post 1) : Met l yJ1_canEncode_9a6ad wsJ1_canEncode_9a6ad rmJ1_canEncode_9a6ad (va_Pc [.int a] (xSin zs sz)) (xSi post) 0 0 (fun _ => False) := by
  refine Met.ofW (cc := cJ1_canEncode_9a6ad) (maxL := 1) (ret := (some .boolean)) (by decide) rfl ?_
  intro p e s m args below meth c s₁ B hml hv
  obtain ⟨hav, hsz, hZ⟩ := hv
  have hx := B.exec
  have hb := B.bytes
  have hr := B.returns
  have hlocks := B.notSynchronized
  have hts := atoms_spec (ws := wsJ1_canEncode_9a6ad) B.pre
  have hown : s.vm.findClass RJ1 = some m.cls := findClass_of_methodNamed B.named
  subst hsz
  have hS : va_S (fun q => s.heap.size ≤ q) s.heap s.heap [] := va_S.rf
  have hl := lv_entry ([.int a]) (n := 1) (Nat.le_of_ble_eq_true rfl)
  rw [show entryFrame m args 1 = entryFrame m ([.int a] : List Value).toArray 1 from by rw [hav]]
  rw [lg_entry_eq]
  generalize (lg_sl ([.int a]) ++ List.replicate (1 - (lg_sl ([.int a])).length) Slot.unset).toArray = ls at hl ⊢
  have kr : ∀ (v : Int32) (ls : Array Slot) (pc : Nat), post v → narrow .boolean (.int v) = .int v → decode cJ1_canEncode_9a6ad pc = .ok (.ireturn, 1) → W p l e rmJ1_canEncode_9a6ad s m args below meth c s.heap [] 0 0 (MQ below (xSi post) args s 0 0 (fun _ => False)) (F0 m pc ls [.int v]) := fun v ls pc h hn hd => W.zret hx hb hr hn (fun t ht _ => ⟨v, rfl, h, ht⟩) (fun _ h => absurd h List.not_mem_nil) hd
  show W p l e rmJ1_canEncode_9a6ad s m args below meth c s.heap [] 0 0 _ _
  have hl : lv_has ls 1 [(0, .int a)] := hl
  refine lv_iload_n hx hb dJ1_canEncode_9a6ad_0 rfl (lv_at hl 0 rfl) ?_
  refine lv_if_lt (tgt := 15) hx hb dJ1_canEncode_9a6ad_1 (by decide) (fun hc => absurd hc ha.1) (fun _ => ?_)
  refine lv_iload_n hx hb dJ1_canEncode_9a6ad_4 rfl (lv_at hl 0 rfl) ?_
  refine lv_sipush (v := 255) hx hb dJ1_canEncode_9a6ad_5 (by decide) ?_
  refine lv_icmp_gt (tgt := 15) hx hb dJ1_canEncode_9a6ad_8 (by decide) (fun hc => absurd hc ha.2) (fun _ => ?_)
  refine lv_iconst (v := 1) hx hb dJ1_canEncode_9a6ad_11 (by decide) ?_
  refine lv_goto (tgt := 16) hx hb dJ1_canEncode_9a6ad_12 (by decide) ?_
  exact kr _ _ _ h rfl dJ1_canEncode_9a6ad_16
def rmJ1_indexOfChar_4cfef : Room := { frames := 1, cells := 0, slots := 0, locals := 40 }
set_option maxHeartbeats 4000000 in
set_option maxRecDepth 100000 in
theorem J_J1_indexOfChar_4cfef {zs : ZS} {sz : Nat} (l : Launch) (i : Nat) (c0 : Int32) (hi : i < 3)  {post : Int32 → Prop} (h : post (xIx i c0.toInt8.toInt32 (xLen.getD i 0) 0)) : Met l yJ1_indexOfChar_4cfef wsJ1_indexOfChar_4cfef rmJ1_indexOfChar_4cfef (va_Pc [.ref (zs.2 i), .int c0, .int 0, .int (nI (xLen.getD i 0))] (xSin zs sz)) (xSi post) 0 0 (fun _ => False) := by
  refine Met.ofW (cc := cJ1_indexOfChar_4cfef) (maxL := 6) (ret := (some .int)) (by decide) rfl ?_
  intro p e s m args below meth c s₁ B hml hv
  obtain ⟨hav, hsz, hZ⟩ := hv
  have hx := B.exec
  have hb := B.bytes
  have hr := B.returns
  have hlocks := B.notSynchronized
  have hts := atoms_spec (ws := wsJ1_indexOfChar_4cfef) B.pre
  have hown : s.vm.findClass RJ1 = some m.cls := findClass_of_methodNamed B.named
  subst hsz
  have hS : va_S (fun q => s.heap.size ≤ q) s.heap s.heap [] := va_S.rf
  have hl := lv_entry ([.ref (zs.2 i), .int c0, .int 0, .int (nI (xLen.getD i 0))]) (n := 6) (Nat.le_of_ble_eq_true rfl)
  rw [show entryFrame m args 6 = entryFrame m ([.ref (zs.2 i), .int c0, .int 0, .int (nI (xLen.getD i 0))] : List Value).toArray 6 from by rw [hav]]
  rw [lg_entry_eq]
  generalize (lg_sl ([.ref (zs.2 i), .int c0, .int 0, .int (nI (xLen.getD i 0))]) ++ List.replicate (6 - (lg_sl ([.ref (zs.2 i), .int c0, .int 0, .int (nI (xLen.getD i 0))])).length) Slot.unset).toArray = ls at hl ⊢
  have kr : ∀ (v : Int32) (ls : Array Slot) (pc : Nat), post v → decode cJ1_indexOfChar_4cfef pc = .ok (.ireturn, 1) → W p l e rmJ1_indexOfChar_4cfef s m args below meth c s.heap [] 0 0 (MQ below (xSi post) args s 0 0 (fun _ => False)) (F0 m pc ls [.int v]) := fun v ls pc h hd => W.iret hx hb hr (fun t ht _ => ⟨v, rfl, h, ht⟩) (fun _ h => absurd h List.not_mem_nil) hd
  show W p l e rmJ1_indexOfChar_4cfef s m args below meth c s.heap [] 0 0 _ _
  have hl : lv_has ls 6 [(0, .ref (zs.2 i)), (1, .int c0), (2, .int 0), (3, .int (nI (xLen.getD i 0)))] := hl
  have hk2 : xLen.getD i 0 < 100 := (xb_all i hi).2.1
  refine lv_iload_n hx hb dJ1_indexOfChar_4cfef_0 rfl (lv_at hl 1 rfl) ?_
  refine lv_i2b (v := c0.toInt8.toInt32) hx hb dJ1_indexOfChar_4cfef_1 rfl ?_
  refine lv_istore (lv' := [(4, .int c0.toInt8.toInt32), (0, .ref (zs.2 i)), (1, .int c0), (2, .int 0), (3, .int (nI (xLen.getD i 0)))]) hx hb dJ1_indexOfChar_4cfef_2 hl (by decide) rfl (fun ls hl => ?_)
  refine lv_iload_n hx hb dJ1_indexOfChar_4cfef_4 rfl (lv_at hl 3 rfl) ?_
  refine lv_istore (lv' := [(5, .int 0), (4, .int c0.toInt8.toInt32), (0, .ref (zs.2 i)), (1, .int c0), (2, .int 0), (3, .int (nI (xLen.getD i 0)))]) hx hb dJ1_indexOfChar_4cfef_5 hl (by decide) rfl (fun ls hl => ?_)
  have key : ∀ (n k : Nat) (ls : Array Slot), k + n = xLen.getD i 0 → lv_has ls 6 [(5, .int (nI k)), (4, .int c0.toInt8.toInt32), (0, .ref (zs.2 i)), (3, .int (nI (xLen.getD i 0)))] → post (xIx i c0.toInt8.toInt32 n k) → W p l e rmJ1_indexOfChar_4cfef s m args below meth c s.heap [] 0 0 (MQ below (xSi post) args s 0 0 (fun _ => False)) (F0 m 7 ls []) := by
    intro n
    induction n with
    | zero =>
      intro k ls hk hl h
      refine lv_iload hx hb dJ1_indexOfChar_4cfef_7 (lv_at hl 0 rfl) ?_
      refine lv_iload_n hx hb dJ1_indexOfChar_4cfef_9 rfl (lv_at hl 3 rfl) ?_
      refine lv_icmp_ge (tgt := 31) hx hb dJ1_indexOfChar_4cfef_10 (by decide) (fun _ => ?_) (fun hc => absurd (nI_le (by omega) (by omega)) hc)
      refine lv_iconst (v := (-1)) hx hb dJ1_indexOfChar_4cfef_31 (by decide) ?_
      exact kr _ _ _ h dJ1_indexOfChar_4cfef_32
    | succ n ih =>
      intro k ls hk hl h
      refine lv_iload hx hb dJ1_indexOfChar_4cfef_7 (lv_at hl 0 rfl) ?_
      refine lv_iload_n hx hb dJ1_indexOfChar_4cfef_9 rfl (lv_at hl 3 rfl) ?_
      refine lv_icmp_ge (tgt := 31) hx hb dJ1_indexOfChar_4cfef_10 (by decide) (fun hc => absurd hc (nI_ge (by omega) (by omega))) (fun _ => ?_)
      refine lv_aload_n hx hb dJ1_indexOfChar_4cfef_13 rfl (lv_at hl 2 rfl) ?_
      refine lv_iload hx hb dJ1_indexOfChar_4cfef_14 (lv_at hl 0 rfl) ?_
      refine va_tb (v := .int (xCh i k)) hx hb (hZ.1.1 i hi).2.2.2 hS (vp_in_nI (by omega) (by omega)) (by rw [nI_clamp (by omega)]; rfl) dJ1_indexOfChar_4cfef_16 ?_
      refine lv_iload hx hb dJ1_indexOfChar_4cfef_17 (lv_at hl 1 rfl) ?_
      unfold xIx at h
      refine lv_icmp_ne (tgt := 25) hx hb dJ1_indexOfChar_4cfef_19 (by decide) (fun hc => ?_) (fun hc => ?_)
      · rw [if_neg hc] at h
        refine lv_iinc (v := nI (k + 1)) (lv' := [(5, .int (nI (k + 1))), (4, .int c0.toInt8.toInt32), (0, .ref (zs.2 i)), (3, .int (nI (xLen.getD i 0)))]) hx hb dJ1_indexOfChar_4cfef_25 hl (k := 0) rfl (nI_1 k) (by decide) rfl (fun ls hl => ?_)
        refine lv_goto (tgt := 7) hx hb dJ1_indexOfChar_4cfef_28 (by decide) ?_
        exact ih (k + 1) ls (by omega) hl h
      · rw [if_pos hc] at h
        refine lv_iload hx hb dJ1_indexOfChar_4cfef_22 (lv_at hl 0 rfl) ?_
        exact kr _ _ _ h dJ1_indexOfChar_4cfef_24
  exact key _ 0 ls (by omega) (lv_sub hl [0, 1, 2, 5] rfl) h
def rmJ1_indexOf_4cfef : Room := { frames := 2, cells := 0, slots := 0, locals := 65 }
set_option maxHeartbeats 4000000 in
set_option maxRecDepth 100000 in
theorem J_J1_indexOf_4cfef {zs : ZS} {sz : Nat} (l : Launch) (i : Nat) (c0 : Int32) (hi : i < 3) (ha : ¬ c0 < 0 ∧ ¬ 255 < c0) {post : Int32 → Prop} (h : post (xIx i c0.toInt8.toInt32 (xLen.getD i 0) 0)) : Met l yJ1_indexOf_4cfef wsJ1_indexOf_4cfef rmJ1_indexOf_4cfef (va_Pc [.ref (zs.2 i), .int c0, .int 0, .int (nI (xLen.getD i 0))] (xSin zs sz)) (xSi post) 0 0 (fun _ => False) := by
  refine Met.ofW (cc := cJ1_indexOf_4cfef) (maxL := 4) (ret := (some .int)) (by decide) rfl ?_
  intro p e s m args below meth c s₁ B hml hv
  obtain ⟨hav, hsz, hZ⟩ := hv
  have hx := B.exec
  have hb := B.bytes
  have hr := B.returns
  have hlocks := B.notSynchronized
  have hts := atoms_spec (ws := wsJ1_indexOf_4cfef) B.pre
  have hown : s.vm.findClass RJ1 = some m.cls := findClass_of_methodNamed B.named
  subst hsz
  have hS : va_S (fun q => s.heap.size ≤ q) s.heap s.heap [] := va_S.rf
  have hl := lv_entry ([.ref (zs.2 i), .int c0, .int 0, .int (nI (xLen.getD i 0))]) (n := 4) (Nat.le_of_ble_eq_true rfl)
  rw [show entryFrame m args 4 = entryFrame m ([.ref (zs.2 i), .int c0, .int 0, .int (nI (xLen.getD i 0))] : List Value).toArray 4 from by rw [hav]]
  rw [lg_entry_eq]
  generalize (lg_sl ([.ref (zs.2 i), .int c0, .int 0, .int (nI (xLen.getD i 0))]) ++ List.replicate (4 - (lg_sl ([.ref (zs.2 i), .int c0, .int 0, .int (nI (xLen.getD i 0))])).length) Slot.unset).toArray = ls at hl ⊢
  have kr : ∀ (v : Int32) (ls : Array Slot) (pc : Nat), post v → decode cJ1_indexOf_4cfef pc = .ok (.ireturn, 1) → W p l e rmJ1_indexOf_4cfef s m args below meth c s.heap [] 0 0 (MQ below (xSi post) args s 0 0 (fun _ => False)) (F0 m pc ls [.int v]) := fun v ls pc h hd => W.iret hx hb hr (fun t ht _ => ⟨v, rfl, h, ht⟩) (fun _ h => absurd h List.not_mem_nil) hd
  show W p l e rmJ1_indexOf_4cfef s m args below meth c s.heap [] 0 0 _ _
  have hl : lv_has ls 4 [(0, .ref (zs.2 i)), (1, .int c0), (2, .int 0), (3, .int (nI (xLen.getD i 0)))] := hl
  have hk3 : ∀ i, i < 3 → 0 < xLen.getD i 0 := by decide
  have hk2 : xLen.getD i 0 < 100 ∧ 0 < xLen.getD i 0 := ⟨(xb_all i hi).2.1, hk3 i hi⟩
  refine lv_iload_n hx hb dJ1_indexOf_4cfef_0 rfl (lv_at hl 1 rfl) ?_
  refine xs_calli (va_runS (As := [.int c0]) (rest := []) ⟨hx, hb, hml, hown, hts⟩ (J_J1_canEncode_9a6ad (post := fun r => r = 1) l c0 ha rfl) (va_cwS 1 hts gJ1_indexOf_4cfef_J1_canEncode_9a6ad rfl rfl rfl (by decide +kernel) ⟨Nat.le_of_ble_eq_true rfl, Nat.le_of_ble_eq_true rfl⟩) (xs_preS hZ hS (fun _ h => h)) rfl rfl hl.1 rfl (lv_room (Nat.le_of_ble_eq_true rfl)) dJ1_indexOf_4cfef_1 ⟨Nat.zero_le _, Nat.zero_le _⟩) (fun r hr => ?_)
  subst hr
  refine lv_if_ne (tgt := 9) hx hb dJ1_indexOf_4cfef_4 (by decide) (fun _ => ?_) (fun hc => absurd hc (by decide))
  refine lv_iload_n hx hb dJ1_indexOf_4cfef_9 rfl (lv_at hl 2 rfl) ?_
  refine lv_iconst (v := 0) hx hb dJ1_indexOf_4cfef_10 (by decide) ?_
  refine va_mmax hx hb (hml.trans hl.1.symm) hown (hts _ (List.mem_cons_of_mem _ (List.mem_of_getElem? (i := 0) rfl))) (hts _ (List.mem_cons_of_mem _ (List.mem_of_getElem? (i := 1) rfl))) (hts _ (List.mem_cons_of_mem _ (List.mem_of_getElem? (i := 2) rfl))) (hts _ (List.mem_cons_of_mem _ (List.mem_of_getElem? (i := 3) rfl))) (Nat.le_of_ble_eq_true rfl) (Nat.le_of_ble_eq_true rfl) (Nat.le_of_ble_eq_true rfl) (Nat.le_of_ble_eq_true rfl) dJ1_indexOf_4cfef_11 ?_
  rw [if_neg (by decide)]
  refine lv_istore_n (lv' := [(2, .int 0), (0, .ref (zs.2 i)), (1, .int c0), (3, .int (nI (xLen.getD i 0)))]) hx hb dJ1_indexOf_4cfef_14 rfl hl (by decide) rfl (fun ls hl => ?_)
  refine lv_iload_n hx hb dJ1_indexOf_4cfef_15 rfl (lv_at hl 3 rfl) ?_
  refine lv_aload_n hx hb dJ1_indexOf_4cfef_16 rfl (lv_at hl 1 rfl) ?_
  refine va_tlen (v := nI (xLen.getD i 0)) hx hb (hZ.1.1 i hi).2.2.2 hS rfl dJ1_indexOf_4cfef_17 ?_
  refine va_mmin hx hb (hml.trans hl.1.symm) hown (hts _ (List.mem_cons_of_mem _ (List.mem_of_getElem? (i := 4) rfl))) (hts _ (List.mem_cons_of_mem _ (List.mem_of_getElem? (i := 5) rfl))) (hts _ (List.mem_cons_of_mem _ (List.mem_of_getElem? (i := 2) rfl))) (hts _ (List.mem_cons_of_mem _ (List.mem_of_getElem? (i := 6) rfl))) (Nat.le_of_ble_eq_true rfl) (Nat.le_of_ble_eq_true rfl) (Nat.le_of_ble_eq_true rfl) (Nat.le_of_ble_eq_true rfl) dJ1_indexOf_4cfef_18 ?_
  rw [ite_self]
  refine lv_istore_n (lv' := [(3, .int (nI (xLen.getD i 0))), (2, .int 0), (0, .ref (zs.2 i)), (1, .int c0)]) hx hb dJ1_indexOf_4cfef_21 rfl hl (by decide) rfl (fun ls hl => ?_)
  refine lv_iload_n hx hb dJ1_indexOf_4cfef_22 rfl (lv_at hl 1 rfl) ?_
  refine lv_iload_n hx hb dJ1_indexOf_4cfef_23 rfl (lv_at hl 0 rfl) ?_
  refine lv_icmp_lt (tgt := 29) hx hb dJ1_indexOf_4cfef_24 (by decide) (fun _ => ?_) (fun hc => absurd (by rw [← nI_0]; exact nI_lt hk2.2 (by omega)) hc)
  refine lv_aload_n hx hb dJ1_indexOf_4cfef_29 rfl (lv_at hl 2 rfl) ?_
  refine lv_iload_n hx hb dJ1_indexOf_4cfef_30 rfl (lv_at hl 3 rfl) ?_
  refine lv_iload_n hx hb dJ1_indexOf_4cfef_31 rfl (lv_at hl 1 rfl) ?_
  refine lv_iload_n hx hb dJ1_indexOf_4cfef_32 rfl (lv_at hl 0 rfl) ?_
  refine xs_calli (va_runS (As := [.ref (zs.2 i), .int c0, .int 0, .int (nI (xLen.getD i 0))]) (rest := []) ⟨hx, hb, hml, hown, hts⟩ (J_J1_indexOfChar_4cfef (post := fun r => r = xIx i c0.toInt8.toInt32 (xLen.getD i 0) 0) l i c0 hi rfl) (va_cwS 4 hts gJ1_indexOf_4cfef_J1_indexOfChar_4cfef rfl rfl rfl (by decide +kernel) ⟨Nat.le_of_ble_eq_true rfl, Nat.le_of_ble_eq_true rfl⟩) (xs_preS hZ hS (fun _ h => h)) rfl rfl hl.1 rfl (lv_room (Nat.le_of_ble_eq_true rfl)) dJ1_indexOf_4cfef_33 ⟨Nat.zero_le _, Nat.zero_le _⟩) (fun r hr => ?_)
  subst hr
  exact kr _ _ _ h dJ1_indexOf_4cfef_36
def rmJ0_indexOf_7cf53 : Room := { frames := 3, cells := 0, slots := 0, locals := 88 }
set_option maxHeartbeats 4000000 in
set_option maxRecDepth 100000 in
theorem J_J0_indexOf_7cf53 {zs : ZS} {sz : Nat} (l : Launch) (i : Nat) (c0 : Int32) (hi : i < 3) (ha : ¬ c0 < 0 ∧ ¬ 255 < c0) {post : Int32 → Prop} (h : post (xIx i c0.toInt8.toInt32 (xLen.getD i 0) 0)) : Met l yJ0_indexOf_7cf53 wsJ0_indexOf_7cf53 rmJ0_indexOf_7cf53 (va_Pc [.ref (zs.1 i), .int c0, .int 0] (xSin zs sz)) (xSi post) 0 0 (fun _ => False) := by
  refine Met.ofW (cc := cJ0_indexOf_7cf53) (maxL := 3) (ret := (some .int)) (by decide) rfl ?_
  intro p e s m args below meth c s₁ B hml hv
  obtain ⟨hav, hsz, hZ⟩ := hv
  have hx := B.exec
  have hb := B.bytes
  have hr := B.returns
  have hlocks := B.notSynchronized
  have hts := atoms_spec (ws := wsJ0_indexOf_7cf53) B.pre
  have hown : s.vm.findClass RJ0 = some m.cls := findClass_of_methodNamed B.named
  subst hsz
  have hS : va_S (fun q => s.heap.size ≤ q) s.heap s.heap [] := va_S.rf
  have hl := lv_entry ([.ref (zs.1 i), .int c0, .int 0]) (n := 3) (Nat.le_of_ble_eq_true rfl)
  rw [show entryFrame m args 3 = entryFrame m ([.ref (zs.1 i), .int c0, .int 0] : List Value).toArray 3 from by rw [hav]]
  rw [lg_entry_eq]
  generalize (lg_sl ([.ref (zs.1 i), .int c0, .int 0]) ++ List.replicate (3 - (lg_sl ([.ref (zs.1 i), .int c0, .int 0])).length) Slot.unset).toArray = ls at hl ⊢
  have kr : ∀ (v : Int32) (ls : Array Slot) (pc : Nat), post v → decode cJ0_indexOf_7cf53 pc = .ok (.ireturn, 1) → W p l e rmJ0_indexOf_7cf53 s m args below meth c s.heap [] 0 0 (MQ below (xSi post) args s 0 0 (fun _ => False)) (F0 m pc ls [.int v]) := fun v ls pc h hd => W.iret hx hb hr (fun t ht _ => ⟨v, rfl, h, ht⟩) (fun _ h => absurd h List.not_mem_nil) hd
  show W p l e rmJ0_indexOf_7cf53 s m args below meth c s.heap [] 0 0 _ _
  have hl : lv_has ls 3 [(0, .ref (zs.1 i)), (1, .int c0), (2, .int 0)] := hl
  refine lv_aload_n hx hb dJ0_indexOf_7cf53_0 rfl (lv_at hl 0 rfl) ?_
  refine xs_calli (va_runV (As := []) (rest := []) ⟨hx, hb, hml, hown, hts⟩ (J_J0_isLatin1_aae02 (post := fun r => r = 1) l i hi rfl) (cwV 0 hts gJ0_indexOf_7cf53_J0_isLatin1_aae02 rfl rfl rfl (by decide +kernel) ⟨Nat.le_of_ble_eq_true rfl, Nat.le_of_ble_eq_true rfl⟩) (xs_preV hZ hS (fun _ h => h) i hi) rfl rfl hl.1 rfl (lv_room (Nat.le_of_ble_eq_true rfl)) dJ0_indexOf_7cf53_1 ⟨Nat.zero_le _, Nat.zero_le _⟩) (fun r hr => ?_)
  subst hr
  refine lv_if_eq (tgt := 23) hx hb dJ0_indexOf_7cf53_4 (by decide) (fun hc => absurd hc (by decide)) (fun _ => ?_)
  refine lv_aload_n hx hb dJ0_indexOf_7cf53_7 rfl (lv_at hl 0 rfl) ?_
  refine vk_getf hx hb (hZ.1.1 i hi).2.2.1 hS hown (hts _ (List.mem_cons_of_mem _ (List.mem_append_left _ (List.mem_of_getElem? (i := 0) rfl)))) (fun _ h => h) dJ0_indexOf_7cf53_8 ?_
  refine lv_iload_n hx hb dJ0_indexOf_7cf53_11 rfl (lv_at hl 1 rfl) ?_
  refine lv_iload_n hx hb dJ0_indexOf_7cf53_12 rfl (lv_at hl 2 rfl) ?_
  refine lv_aload_n hx hb dJ0_indexOf_7cf53_13 rfl (lv_at hl 0 rfl) ?_
  refine xs_calli (va_runV (As := []) (rest := [.int 0, .int c0, .ref (zs.2 i)]) ⟨hx, hb, hml, hown, hts⟩ (J_J0_length_8abf5 (post := fun r => r = nI (xLen.getD i 0)) l i hi rfl) (cwV 0 hts gJ0_indexOf_7cf53_J0_length_8abf5 rfl rfl rfl (by decide +kernel) ⟨Nat.le_of_ble_eq_true rfl, Nat.le_of_ble_eq_true rfl⟩) (xs_preV hZ hS (fun _ h => h) i hi) rfl rfl hl.1 rfl (lv_room (Nat.le_of_ble_eq_true rfl)) dJ0_indexOf_7cf53_14 ⟨Nat.zero_le _, Nat.zero_le _⟩) (fun r hr => ?_)
  subst hr
  refine xs_calli (va_runS (As := [.ref (zs.2 i), .int c0, .int 0, .int (nI (xLen.getD i 0))]) (rest := []) ⟨hx, hb, hml, hown, hts⟩ (J_J1_indexOf_4cfef (post := fun r => r = xIx i c0.toInt8.toInt32 (xLen.getD i 0) 0) l i c0 hi ha rfl) (va_cwS 4 hts gJ0_indexOf_7cf53_J1_indexOf_4cfef rfl rfl rfl (by decide +kernel) ⟨Nat.le_of_ble_eq_true rfl, Nat.le_of_ble_eq_true rfl⟩) (xs_preS hZ hS (fun _ h => h)) rfl rfl hl.1 rfl (lv_room (Nat.le_of_ble_eq_true rfl)) dJ0_indexOf_7cf53_17 ⟨Nat.zero_le _, Nat.zero_le _⟩) (fun r hr => ?_)
  subst hr
  refine lv_goto (tgt := 36) hx hb dJ0_indexOf_7cf53_20 (by decide) ?_
  exact kr _ _ _ h dJ0_indexOf_7cf53_36
def rmJ0_indexOf_0f7a4 : Room := { frames := 4, cells := 0, slots := 0, locals := 110 }
set_option maxHeartbeats 4000000 in
set_option maxRecDepth 100000 in
theorem J_J0_indexOf_0f7a4 {zs : ZS} {sz : Nat} (l : Launch) (i : Nat) (c0 : Int32) (hi : i < 3) (ha : ¬ c0 < 0 ∧ ¬ 255 < c0) {post : Int32 → Prop} (h : post (xIx i c0.toInt8.toInt32 (xLen.getD i 0) 0)) : Met l yJ0_indexOf_0f7a4 wsJ0_indexOf_0f7a4 rmJ0_indexOf_0f7a4 (va_Pc [.ref (zs.1 i), .int c0] (xSin zs sz)) (xSi post) 0 0 (fun _ => False) := by
  refine Met.ofW (cc := cJ0_indexOf_0f7a4) (maxL := 2) (ret := (some .int)) (by decide) rfl ?_
  intro p e s m args below meth c s₁ B hml hv
  obtain ⟨hav, hsz, hZ⟩ := hv
  have hx := B.exec
  have hb := B.bytes
  have hr := B.returns
  have hlocks := B.notSynchronized
  have hts := atoms_spec (ws := wsJ0_indexOf_0f7a4) B.pre
  have hown : s.vm.findClass RJ0 = some m.cls := findClass_of_methodNamed B.named
  subst hsz
  have hS : va_S (fun q => s.heap.size ≤ q) s.heap s.heap [] := va_S.rf
  have hl := lv_entry ([.ref (zs.1 i), .int c0]) (n := 2) (Nat.le_of_ble_eq_true rfl)
  rw [show entryFrame m args 2 = entryFrame m ([.ref (zs.1 i), .int c0] : List Value).toArray 2 from by rw [hav]]
  rw [lg_entry_eq]
  generalize (lg_sl ([.ref (zs.1 i), .int c0]) ++ List.replicate (2 - (lg_sl ([.ref (zs.1 i), .int c0])).length) Slot.unset).toArray = ls at hl ⊢
  have kr : ∀ (v : Int32) (ls : Array Slot) (pc : Nat), post v → decode cJ0_indexOf_0f7a4 pc = .ok (.ireturn, 1) → W p l e rmJ0_indexOf_0f7a4 s m args below meth c s.heap [] 0 0 (MQ below (xSi post) args s 0 0 (fun _ => False)) (F0 m pc ls [.int v]) := fun v ls pc h hd => W.iret hx hb hr (fun t ht _ => ⟨v, rfl, h, ht⟩) (fun _ h => absurd h List.not_mem_nil) hd
  show W p l e rmJ0_indexOf_0f7a4 s m args below meth c s.heap [] 0 0 _ _
  have hl : lv_has ls 2 [(0, .ref (zs.1 i)), (1, .int c0)] := hl
  refine lv_aload_n hx hb dJ0_indexOf_0f7a4_0 rfl (lv_at hl 0 rfl) ?_
  refine lv_iload_n hx hb dJ0_indexOf_0f7a4_1 rfl (lv_at hl 1 rfl) ?_
  refine lv_iconst (v := 0) hx hb dJ0_indexOf_0f7a4_2 (by decide) ?_
  refine xs_calli (va_runV (As := [.int c0, .int 0]) (rest := []) ⟨hx, hb, hml, hown, hts⟩ (J_J0_indexOf_7cf53 (post := fun r => r = xIx i c0.toInt8.toInt32 (xLen.getD i 0) 0) l i c0 hi ha rfl) (cwV 2 hts gJ0_indexOf_0f7a4_J0_indexOf_7cf53 rfl rfl rfl (by decide +kernel) ⟨Nat.le_of_ble_eq_true rfl, Nat.le_of_ble_eq_true rfl⟩) (xs_preV hZ hS (fun _ h => h) i hi) rfl rfl hl.1 rfl (lv_room (Nat.le_of_ble_eq_true rfl)) dJ0_indexOf_0f7a4_3 ⟨Nat.zero_le _, Nat.zero_le _⟩) (fun r hr => ?_)
  subst hr
  exact kr _ _ _ h dJ0_indexOf_0f7a4_6
theorem J_charAt {zs : ZS} {sz : Nat} (l : Launch) (i : Nat) (x : Int32) (hi : i < 3) (hx : vp_in x (xLen.getD i 0)) {post : Int32 → Prop} (h : post (xCh i x.toNatClampNeg)) : Met l yJ0_charAt_5068e wsJ0_charAt_5068e rmJ0_charAt_5068e (va_Pc [.ref (zs.1 i), .int x] (xSin zs sz)) (xSi post) 0 0 (fun _ => False) := by
  have hk2 : xLen.getD i 0 < 100 := (xb_all i hi).2.1
  obtain ⟨k, hk, rfl⟩ := vp_in_of hx (by omega)
  rw [nI_clamp (by omega)] at h
  exact J_J0_charAt_5068e l i k hi hk h
