/-! THE LAW: a pair of calls for each case, and the loop -/
abbrev idsR : List Nat := List.range 35
def tW (D : va_G) (KA : Nat → ClassId) (adX : Nat → Nat) (idsX : List Nat) (adR : Nat → Nat) (σ ρ : St) (s : State) (H : Heap) (locs : List Loc) : Prop :=
  xW D KA layX stX adX idsX (fun q => s.heap.size ≤ q) s.heap σ H locs ∧ xW D KA layR stR adR idsR (fun q => s.heap.size ≤ q) s.heap ρ H locs ∧ ∀ c ∈ idsX, ∀ o ∈ idsR, adX c ≠ adR o
theorem lg_self (r : Int64) : lg_cmp r r = 0 := by
  have h : ¬ r < r := by rw [fb_ltL]; omega
  unfold lg_cmp
  rw [if_neg (show ¬ r > r from h), if_pos rfl]
theorem two_new {D : va_G} {KA : Nat → ClassId} {adX adX' : Nat → Nat} {idsX idsX' : List Nat} {adR : Nat → Nat} {σ ρ : St} {s : State} {H : Heap} {locs : List Loc} (hT : tW D KA adX idsX adR σ ρ s H locs) (hn : ∀ c ∈ idsX', xA adX idsX H.size (adX' c)) : ∀ c ∈ idsX', ∀ o ∈ idsR, adX' c ≠ adR o := by
  intro c hc o ho z
  rcases hn c hc with ⟨c2, hc2, e⟩ | h
  · exact hT.2.2 c2 hc2 o ho (e.trans z)
  · have := xW_lt hT.2.1 o ho
    omega
theorem hdV_X11_shaft : yX11_shaft.cls = RX11 ∧ yX11_shaft.cls ≠ "java/lang/invoke/MethodHandle" ∧ yX11_shaft.cls ≠ "java/lang/invoke/VarHandle" ∧ (parseMethodDescriptor yX11_shaft.desc).map (fun d => d.parameters.length) = some 2 := by decide +kernel
theorem hdV_X12_shaft : yX12_shaft.cls = RX12 ∧ yX12_shaft.cls ≠ "java/lang/invoke/MethodHandle" ∧ yX12_shaft.cls ≠ "java/lang/invoke/VarHandle" ∧ (parseMethodDescriptor yX12_shaft.desc).map (fun d => d.parameters.length) = some 2 := by decide +kernel
theorem hdV_X11_engine : yX11_engine.cls = RX11 ∧ yX11_engine.cls ≠ "java/lang/invoke/MethodHandle" ∧ yX11_engine.cls ≠ "java/lang/invoke/VarHandle" ∧ (parseMethodDescriptor yX11_engine.desc).map (fun d => d.parameters.length) = some 2 := by decide +kernel
theorem hdV_X12_engine : yX12_engine.cls = RX12 ∧ yX12_engine.cls ≠ "java/lang/invoke/MethodHandle" ∧ yX12_engine.cls ≠ "java/lang/invoke/VarHandle" ∧ (parseMethodDescriptor yX12_engine.desc).map (fun d => d.parameters.length) = some 2 := by decide +kernel
theorem hdV_X11_machine : yX11_machine.cls = RX11 ∧ yX11_machine.cls ≠ "java/lang/invoke/MethodHandle" ∧ yX11_machine.cls ≠ "java/lang/invoke/VarHandle" ∧ (parseMethodDescriptor yX11_machine.desc).map (fun d => d.parameters.length) = some 4 := by decide +kernel
theorem hdV_X12_machine : yX12_machine.cls = RX12 ∧ yX12_machine.cls ≠ "java/lang/invoke/MethodHandle" ∧ yX12_machine.cls ≠ "java/lang/invoke/VarHandle" ∧ (parseMethodDescriptor yX12_machine.desc).map (fun d => d.parameters.length) = some 4 := by decide +kernel
theorem hdV_X11_set : yX11_set.cls = RX11 ∧ yX11_set.cls ≠ "java/lang/invoke/MethodHandle" ∧ yX11_set.cls ≠ "java/lang/invoke/VarHandle" ∧ (parseMethodDescriptor yX11_set.desc).map (fun d => d.parameters.length) = some 3 := by decide +kernel
theorem hdV_X12_set : yX12_set.cls = RX12 ∧ yX12_set.cls ≠ "java/lang/invoke/MethodHandle" ∧ yX12_set.cls ≠ "java/lang/invoke/VarHandle" ∧ (parseMethodDescriptor yX12_set.desc).map (fun d => d.parameters.length) = some 3 := by decide +kernel
theorem hdV_X11_belt : yX11_belt.cls = RX11 ∧ yX11_belt.cls ≠ "java/lang/invoke/MethodHandle" ∧ yX11_belt.cls ≠ "java/lang/invoke/VarHandle" ∧ (parseMethodDescriptor yX11_belt.desc).map (fun d => d.parameters.length) = some 4 := by decide +kernel
theorem hdV_X12_belt : yX12_belt.cls = RX12 ∧ yX12_belt.cls ≠ "java/lang/invoke/MethodHandle" ∧ yX12_belt.cls ≠ "java/lang/invoke/VarHandle" ∧ (parseMethodDescriptor yX12_belt.desc).map (fun d => d.parameters.length) = some 4 := by decide +kernel
theorem hdV_X11_throwsOn : yX11_throwsOn.cls = RX11 ∧ yX11_throwsOn.cls ≠ "java/lang/invoke/MethodHandle" ∧ yX11_throwsOn.cls ≠ "java/lang/invoke/VarHandle" ∧ (parseMethodDescriptor yX11_throwsOn.desc).map (fun d => d.parameters.length) = some 2 := by decide +kernel
theorem hdV_X12_throwsOn : yX12_throwsOn.cls = RX12 ∧ yX12_throwsOn.cls ≠ "java/lang/invoke/MethodHandle" ∧ yX12_throwsOn.cls ≠ "java/lang/invoke/VarHandle" ∧ (parseMethodDescriptor yX12_throwsOn.desc).map (fun d => d.parameters.length) = some 2 := by decide +kernel
theorem hdV_X11_change : yX11_change.cls = RX11 ∧ yX11_change.cls ≠ "java/lang/invoke/MethodHandle" ∧ yX11_change.cls ≠ "java/lang/invoke/VarHandle" ∧ (parseMethodDescriptor yX11_change.desc).map (fun d => d.parameters.length) = some 3 := by decide +kernel
theorem hdV_X12_change : yX12_change.cls = RX12 ∧ yX12_change.cls ≠ "java/lang/invoke/MethodHandle" ∧ yX12_change.cls ≠ "java/lang/invoke/VarHandle" ∧ (parseMethodDescriptor yX12_change.desc).map (fun d => d.parameters.length) = some 3 := by decide +kernel
theorem hdV_X11_told : yX11_told.cls = RX11 ∧ yX11_told.cls ≠ "java/lang/invoke/MethodHandle" ∧ yX11_told.cls ≠ "java/lang/invoke/VarHandle" ∧ (parseMethodDescriptor yX11_told.desc).map (fun d => d.parameters.length) = some 2 := by decide +kernel
theorem hdV_X12_told : yX12_told.cls = RX12 ∧ yX12_told.cls ≠ "java/lang/invoke/MethodHandle" ∧ yX12_told.cls ≠ "java/lang/invoke/VarHandle" ∧ (parseMethodDescriptor yX12_told.desc).map (fun d => d.parameters.length) = some 2 := by decide +kernel
theorem hdV_X11_turns : yX11_turns.cls = RX11 ∧ yX11_turns.cls ≠ "java/lang/invoke/MethodHandle" ∧ yX11_turns.cls ≠ "java/lang/invoke/VarHandle" ∧ (parseMethodDescriptor yX11_turns.desc).map (fun d => d.parameters.length) = some 2 := by decide +kernel
theorem hdV_X12_turns : yX12_turns.cls = RX12 ∧ yX12_turns.cls ≠ "java/lang/invoke/MethodHandle" ∧ yX12_turns.cls ≠ "java/lang/invoke/VarHandle" ∧ (parseMethodDescriptor yX12_turns.desc).map (fun d => d.parameters.length) = some 2 := by decide +kernel
theorem hdV_X11_runs : yX11_runs.cls = RX11 ∧ yX11_runs.cls ≠ "java/lang/invoke/MethodHandle" ∧ yX11_runs.cls ≠ "java/lang/invoke/VarHandle" ∧ (parseMethodDescriptor yX11_runs.desc).map (fun d => d.parameters.length) = some 1 := by decide +kernel
theorem hdV_X12_runs : yX12_runs.cls = RX12 ∧ yX12_runs.cls ≠ "java/lang/invoke/MethodHandle" ∧ yX12_runs.cls ≠ "java/lang/invoke/VarHandle" ∧ (parseMethodDescriptor yX12_runs.desc).map (fun d => d.parameters.length) = some 1 := by decide +kernel
theorem hdV_X11_feed : yX11_feed.cls = RX11 ∧ yX11_feed.cls ≠ "java/lang/invoke/MethodHandle" ∧ yX11_feed.cls ≠ "java/lang/invoke/VarHandle" ∧ (parseMethodDescriptor yX11_feed.desc).map (fun d => d.parameters.length) = some 2 := by decide +kernel
theorem hdV_X12_feed : yX12_feed.cls = RX12 ∧ yX12_feed.cls ≠ "java/lang/invoke/MethodHandle" ∧ yX12_feed.cls ≠ "java/lang/invoke/VarHandle" ∧ (parseMethodDescriptor yX12_feed.desc).map (fun d => d.parameters.length) = some 2 := by decide +kernel
theorem hdV_X11_text : yX11_text.cls = RX11 ∧ yX11_text.cls ≠ "java/lang/invoke/MethodHandle" ∧ yX11_text.cls ≠ "java/lang/invoke/VarHandle" ∧ (parseMethodDescriptor yX11_text.desc).map (fun d => d.parameters.length) = some 0 := by decide +kernel
theorem hdV_X12_text : yX12_text.cls = RX12 ∧ yX12_text.cls ≠ "java/lang/invoke/MethodHandle" ∧ yX12_text.cls ≠ "java/lang/invoke/VarHandle" ∧ (parseMethodDescriptor yX12_text.desc).map (fun d => d.parameters.length) = some 0 := by decide +kernel
theorem hdV_X11_force : yX11_force.cls = RX11 ∧ yX11_force.cls ≠ "java/lang/invoke/MethodHandle" ∧ yX11_force.cls ≠ "java/lang/invoke/VarHandle" ∧ (parseMethodDescriptor yX11_force.desc).map (fun d => d.parameters.length) = some 1 := by decide +kernel
theorem hdV_X12_force : yX12_force.cls = RX12 ∧ yX12_force.cls ≠ "java/lang/invoke/MethodHandle" ∧ yX12_force.cls ≠ "java/lang/invoke/VarHandle" ∧ (parseMethodDescriptor yX12_force.desc).map (fun d => d.parameters.length) = some 1 := by decide +kernel
theorem hdV_X11_judge : yX11_judge.cls = RX11 ∧ yX11_judge.cls ≠ "java/lang/invoke/MethodHandle" ∧ yX11_judge.cls ≠ "java/lang/invoke/VarHandle" ∧ (parseMethodDescriptor yX11_judge.desc).map (fun d => d.parameters.length) = some 0 := by decide +kernel
theorem hdV_X12_judge : yX12_judge.cls = RX12 ∧ yX12_judge.cls ≠ "java/lang/invoke/MethodHandle" ∧ yX12_judge.cls ≠ "java/lang/invoke/VarHandle" ∧ (parseMethodDescriptor yX12_judge.desc).map (fun d => d.parameters.length) = some 0 := by decide +kernel
theorem hdV_X11_choose : yX11_choose.cls = RX11 ∧ yX11_choose.cls ≠ "java/lang/invoke/MethodHandle" ∧ yX11_choose.cls ≠ "java/lang/invoke/VarHandle" ∧ (parseMethodDescriptor yX11_choose.desc).map (fun d => d.parameters.length) = some 1 := by decide +kernel
theorem hdV_X12_choose : yX12_choose.cls = RX12 ∧ yX12_choose.cls ≠ "java/lang/invoke/MethodHandle" ∧ yX12_choose.cls ≠ "java/lang/invoke/VarHandle" ∧ (parseMethodDescriptor yX12_choose.desc).map (fun d => d.parameters.length) = some 1 := by decide +kernel
theorem hdV_X11_lay : yX11_lay.cls = RX11 ∧ yX11_lay.cls ≠ "java/lang/invoke/MethodHandle" ∧ yX11_lay.cls ≠ "java/lang/invoke/VarHandle" ∧ (parseMethodDescriptor yX11_lay.desc).map (fun d => d.parameters.length) = some 0 := by decide +kernel
theorem hdV_X12_lay : yX12_lay.cls = RX12 ∧ yX12_lay.cls ≠ "java/lang/invoke/MethodHandle" ∧ yX12_lay.cls ≠ "java/lang/invoke/VarHandle" ∧ (parseMethodDescriptor yX12_lay.desc).map (fun d => d.parameters.length) = some 0 := by decide +kernel
theorem hdV_X11_cut : yX11_cut.cls = RX11 ∧ yX11_cut.cls ≠ "java/lang/invoke/MethodHandle" ∧ yX11_cut.cls ≠ "java/lang/invoke/VarHandle" ∧ (parseMethodDescriptor yX11_cut.desc).map (fun d => d.parameters.length) = some 2 := by decide +kernel
theorem hdV_X12_cut : yX12_cut.cls = RX12 ∧ yX12_cut.cls ≠ "java/lang/invoke/MethodHandle" ∧ yX12_cut.cls ≠ "java/lang/invoke/VarHandle" ∧ (parseMethodDescriptor yX12_cut.desc).map (fun d => d.parameters.length) = some 2 := by decide +kernel
theorem hdV_X11_off : yX11_off.cls = RX11 ∧ yX11_off.cls ≠ "java/lang/invoke/MethodHandle" ∧ yX11_off.cls ≠ "java/lang/invoke/VarHandle" ∧ (parseMethodDescriptor yX11_off.desc).map (fun d => d.parameters.length) = some 1 := by decide +kernel
theorem hdV_X12_off : yX12_off.cls = RX12 ∧ yX12_off.cls ≠ "java/lang/invoke/MethodHandle" ∧ yX12_off.cls ≠ "java/lang/invoke/VarHandle" ∧ (parseMethodDescriptor yX12_off.desc).map (fun d => d.parameters.length) = some 1 := by decide +kernel
theorem hdV_X11_hangs : yX11_hangs.cls = RX11 ∧ yX11_hangs.cls ≠ "java/lang/invoke/MethodHandle" ∧ yX11_hangs.cls ≠ "java/lang/invoke/VarHandle" ∧ (parseMethodDescriptor yX11_hangs.desc).map (fun d => d.parameters.length) = some 0 := by decide +kernel
theorem hdV_X12_hangs : yX12_hangs.cls = RX12 ∧ yX12_hangs.cls ≠ "java/lang/invoke/MethodHandle" ∧ yX12_hangs.cls ≠ "java/lang/invoke/VarHandle" ∧ (parseMethodDescriptor yX12_hangs.desc).map (fun d => d.parameters.length) = some 0 := by decide +kernel
theorem hdV_X11_bite : yX11_bite.cls = RX11 ∧ yX11_bite.cls ≠ "java/lang/invoke/MethodHandle" ∧ yX11_bite.cls ≠ "java/lang/invoke/VarHandle" ∧ (parseMethodDescriptor yX11_bite.desc).map (fun d => d.parameters.length) = some 2 := by decide +kernel
theorem hdV_X12_bite : yX12_bite.cls = RX12 ∧ yX12_bite.cls ≠ "java/lang/invoke/MethodHandle" ∧ yX12_bite.cls ≠ "java/lang/invoke/VarHandle" ∧ (parseMethodDescriptor yX12_bite.desc).map (fun d => d.parameters.length) = some 2 := by decide +kernel
theorem hdV_X11_years : yX11_years.cls = RX11 ∧ yX11_years.cls ≠ "java/lang/invoke/MethodHandle" ∧ yX11_years.cls ≠ "java/lang/invoke/VarHandle" ∧ (parseMethodDescriptor yX11_years.desc).map (fun d => d.parameters.length) = some 3 := by decide +kernel
theorem hdV_X12_years : yX12_years.cls = RX12 ∧ yX12_years.cls ≠ "java/lang/invoke/MethodHandle" ∧ yX12_years.cls ≠ "java/lang/invoke/VarHandle" ∧ (parseMethodDescriptor yX12_years.desc).map (fun d => d.parameters.length) = some 3 := by decide +kernel
theorem hdV_X11_start : yX11_start.cls = RX11 ∧ yX11_start.cls ≠ "java/lang/invoke/MethodHandle" ∧ yX11_start.cls ≠ "java/lang/invoke/VarHandle" ∧ (parseMethodDescriptor yX11_start.desc).map (fun d => d.parameters.length) = some 1 := by decide +kernel
theorem hdV_X12_start : yX12_start.cls = RX12 ∧ yX12_start.cls ≠ "java/lang/invoke/MethodHandle" ∧ yX12_start.cls ≠ "java/lang/invoke/VarHandle" ∧ (parseMethodDescriptor yX12_start.desc).map (fun d => d.parameters.length) = some 1 := by decide +kernel
theorem hdV_X11_save : yX11_save.cls = RX11 ∧ yX11_save.cls ≠ "java/lang/invoke/MethodHandle" ∧ yX11_save.cls ≠ "java/lang/invoke/VarHandle" ∧ (parseMethodDescriptor yX11_save.desc).map (fun d => d.parameters.length) = some 0 := by decide +kernel
theorem hdV_X12_save : yX12_save.cls = RX12 ∧ yX12_save.cls ≠ "java/lang/invoke/MethodHandle" ∧ yX12_save.cls ≠ "java/lang/invoke/VarHandle" ∧ (parseMethodDescriptor yX12_save.desc).map (fun d => d.parameters.length) = some 0 := by decide +kernel
theorem hdV_X11_image : yX11_image.cls = RX11 ∧ yX11_image.cls ≠ "java/lang/invoke/MethodHandle" ∧ yX11_image.cls ≠ "java/lang/invoke/VarHandle" ∧ (parseMethodDescriptor yX11_image.desc).map (fun d => d.parameters.length) = some 0 := by decide +kernel
theorem hdV_X12_image : yX12_image.cls = RX12 ∧ yX12_image.cls ≠ "java/lang/invoke/MethodHandle" ∧ yX12_image.cls ≠ "java/lang/invoke/VarHandle" ∧ (parseMethodDescriptor yX12_image.desc).map (fun d => d.parameters.length) = some 0 := by decide +kernel
theorem hdV_X11_back : yX11_back.cls = RX11 ∧ yX11_back.cls ≠ "java/lang/invoke/MethodHandle" ∧ yX11_back.cls ≠ "java/lang/invoke/VarHandle" ∧ (parseMethodDescriptor yX11_back.desc).map (fun d => d.parameters.length) = some 0 := by decide +kernel
theorem hdV_X12_back : yX12_back.cls = RX12 ∧ yX12_back.cls ≠ "java/lang/invoke/MethodHandle" ∧ yX12_back.cls ≠ "java/lang/invoke/VarHandle" ∧ (parseMethodDescriptor yX12_back.desc).map (fun d => d.parameters.length) = some 0 := by decide +kernel
theorem hdV_X11_count : yX11_count.cls = RX11 ∧ yX11_count.cls ≠ "java/lang/invoke/MethodHandle" ∧ yX11_count.cls ≠ "java/lang/invoke/VarHandle" ∧ (parseMethodDescriptor yX11_count.desc).map (fun d => d.parameters.length) = some 1 := by decide +kernel
theorem hdV_X12_count : yX12_count.cls = RX12 ∧ yX12_count.cls ≠ "java/lang/invoke/MethodHandle" ∧ yX12_count.cls ≠ "java/lang/invoke/VarHandle" ∧ (parseMethodDescriptor yX12_count.desc).map (fun d => d.parameters.length) = some 1 := by decide +kernel
theorem hdV_X11_sheet : yX11_sheet.cls = RX11 ∧ yX11_sheet.cls ≠ "java/lang/invoke/MethodHandle" ∧ yX11_sheet.cls ≠ "java/lang/invoke/VarHandle" ∧ (parseMethodDescriptor yX11_sheet.desc).map (fun d => d.parameters.length) = some 3 := by decide +kernel
theorem hdV_X12_sheet : yX12_sheet.cls = RX12 ∧ yX12_sheet.cls ≠ "java/lang/invoke/MethodHandle" ∧ yX12_sheet.cls ≠ "java/lang/invoke/VarHandle" ∧ (parseMethodDescriptor yX12_sheet.desc).map (fun d => d.parameters.length) = some 3 := by decide +kernel
theorem hdV_X11_cell : yX11_cell.cls = RX11 ∧ yX11_cell.cls ≠ "java/lang/invoke/MethodHandle" ∧ yX11_cell.cls ≠ "java/lang/invoke/VarHandle" ∧ (parseMethodDescriptor yX11_cell.desc).map (fun d => d.parameters.length) = some 3 := by decide +kernel
theorem hdV_X12_cell : yX12_cell.cls = RX12 ∧ yX12_cell.cls ≠ "java/lang/invoke/MethodHandle" ∧ yX12_cell.cls ≠ "java/lang/invoke/VarHandle" ∧ (parseMethodDescriptor yX12_cell.desc).map (fun d => d.parameters.length) = some 3 := by decide +kernel
theorem hdV_X11_copy : yX11_copy.cls = RX11 ∧ yX11_copy.cls ≠ "java/lang/invoke/MethodHandle" ∧ yX11_copy.cls ≠ "java/lang/invoke/VarHandle" ∧ (parseMethodDescriptor yX11_copy.desc).map (fun d => d.parameters.length) = some 5 := by decide +kernel
theorem hdV_X12_copy : yX12_copy.cls = RX12 ∧ yX12_copy.cls ≠ "java/lang/invoke/MethodHandle" ∧ yX12_copy.cls ≠ "java/lang/invoke/VarHandle" ∧ (parseMethodDescriptor yX12_copy.desc).map (fun d => d.parameters.length) = some 5 := by decide +kernel
theorem hdV_X11_drums : yX11_drums.cls = RX11 ∧ yX11_drums.cls ≠ "java/lang/invoke/MethodHandle" ∧ yX11_drums.cls ≠ "java/lang/invoke/VarHandle" ∧ (parseMethodDescriptor yX11_drums.desc).map (fun d => d.parameters.length) = some 4 := by decide +kernel
theorem hdV_X12_drums : yX12_drums.cls = RX12 ∧ yX12_drums.cls ≠ "java/lang/invoke/MethodHandle" ∧ yX12_drums.cls ≠ "java/lang/invoke/VarHandle" ∧ (parseMethodDescriptor yX12_drums.desc).map (fun d => d.parameters.length) = some 4 := by decide +kernel
theorem hdV_X11_taken : yX11_taken.cls = RX11 ∧ yX11_taken.cls ≠ "java/lang/invoke/MethodHandle" ∧ yX11_taken.cls ≠ "java/lang/invoke/VarHandle" ∧ (parseMethodDescriptor yX11_taken.desc).map (fun d => d.parameters.length) = some 2 := by decide +kernel
theorem hdV_X12_taken : yX12_taken.cls = RX12 ∧ yX12_taken.cls ≠ "java/lang/invoke/MethodHandle" ∧ yX12_taken.cls ≠ "java/lang/invoke/VarHandle" ∧ (parseMethodDescriptor yX12_taken.desc).map (fun d => d.parameters.length) = some 2 := by decide +kernel
set_option maxHeartbeats 4000000 in
set_option maxRecDepth 100000 in
theorem law_c0 {p : Program} {l : Launch} {e : Env} {s : State} {m : MethodId} {below : List Frame} {meth : Method} {c : Code} {b L : Nat} {xs : Nat → Int32} (C0 : lw_At p s m meth c b L xs) {D : va_G} {KA : Nat → ClassId} {zs : ZS} {adX adR : Nat → Nat} {idsX : List Nat} {σ ρ : St} {H : Heap} {locs : List Loc} (hK : xK D KA s) (hZ : xZ zs (fun q => s.heap.size ≤ q) s) (hT : tW D KA adX idsX adR σ ρ s H locs) (hR : Rel idsX σ ρ) {x3 : Int32} {cells slots : Nat} (hcs : cells + 1 ≤ 600000 ∧ slots + 13 ≤ 7302250) (hin : ∀ k : Nat, 1 ≤ k → k < 6 → vp_in (x3 + nI k) L) {ls : Array Slot} (hl : lv_has ls 4 [(0, .ref b), (1, .ref (adX 0)), (2, .ref (adR 0)), (3, .int x3)]) {Q : State → Prop} (hk : ∀ (σ1 ρ1 : St) (adX1 : Nat → Nat) (ids1 : List Nat) (H1 : Heap) (locs1 : List Loc) (ls1 : Array Slot), tW D KA adX1 ids1 adR σ1 ρ1 s H1 locs1 → Rel ids1 σ1 ρ1 → lv_has ls1 4 [(0, .ref b), (1, .ref (adX1 0)), (2, .ref (adR 0)), (3, .int x3)] → W p l e room_1 s m #[Value.ref b] below meth c H1 locs1 (cells + 1) (slots + 13) Q (F0 m 1193 ls1 [])) : W p l e room_1 s m #[Value.ref b] below meth c H locs cells slots Q (F0 m 176 ls []) := by
  obtain ⟨hx, hb, hr, hml, hown, hts0, hX, hbl, hlocks, hgv⟩ := id C0
  have hts : ∀ w ∈ wsL_law, w.before #[Value.ref b] s = true := fun w h => hts0 w (wsL_law_in w h)
  have hown : s.vm.findClass RL = some m.cls := hown
  have hA : ∀ q : Nat, s.heap.size ≤ q → (fun q : Nat => s.heap.size ≤ q) q := fun _ h => h
  have hbA : ¬ (fun q : Nat => s.heap.size ≤ q) b := Nat.not_le.mpr hbl
  have hIX : ∀ c, c < 52 ∧ ¬ c = 19 → c ∈ idsX := hR.1
  have hIR : ∀ c, c < 35 → c ∈ idsR := fun c h => List.mem_range.mpr h
  have hS := hT.1.2.2
  refine lv_aload_n hx hb dL_law_176 rfl (lv_at hl 1 rfl) ?_
  refine lv_aload_n hx hb dL_law_177 rfl (lv_at hl 0 rfl) ?_
  refine lv_iload_n hx hb dL_law_178 rfl (lv_at hl 3 rfl) ?_
  refine lv_iconst (v := 1) hx hb dL_law_179 (by decide) ?_
  refine lv_iadd hx hb dL_law_180 ?_
  refine va_sld hx hb hX hbl hbA hS (hin 1 (by decide) (by decide)) dL_law_181 ?_
  refine lv_aload_n hx hb dL_law_182 rfl (lv_at hl 0 rfl) ?_
  refine lv_iload_n hx hb dL_law_183 rfl (lv_at hl 3 rfl) ?_
  refine lv_iconst (v := 2) hx hb dL_law_184 (by decide) ?_
  refine lv_iadd hx hb dL_law_185 ?_
  refine va_sld hx hb hX hbl hbA hS (hin 2 (by decide) (by decide)) dL_law_186 ?_
  have h := pc_shaft (ids := idsX) (σ := σ) (ρ := ρ) (xs (x3 + (1 : Int32)).toNatClampNeg) (xs (x3 + (2 : Int32)).toNatClampNeg) hR
  refine x2_calli (va_runV (As := [.int (xs (x3 + (1 : Int32)).toNatClampNeg), .int (xs (x3 + (2 : Int32)).toNatClampNeg)]) (rest := []) ⟨hx, hb, hml, hown, hts⟩ (J_X11_shaft l hIX h) (cwV 2 hts gL_law_X11_shaft rfl rfl rfl hdV_X11_shaft ⟨Nat.le_of_ble_eq_true rfl, Nat.le_of_ble_eq_true rfl⟩) (x_preV (ci := 11) hK hZ hA hT.1 (hIX 0 (by decide)) lX_0 rfl) rfl rfl hl.1 rfl (lv_room (Nat.le_of_ble_eq_true rfl)) dL_law_187 ⟨by show _ ≤ 600000; omega, by show _ ≤ 7302250; omega⟩) hT.1 hA (fun r σ1 H1 locs1 h hk1 hWX => ?_)
  have hdis := hT.2.2
  try dsimp only at h
  have hWR := xW_other (lay := layX) (st := stX) hT.2.1 hk1 hT.2.2 hWX.2.2
  have hS := hWX.2.2
  refine lv_aload_n hx hb dL_law_190 rfl (lv_at hl 2 rfl) ?_
  refine lv_aload_n hx hb dL_law_191 rfl (lv_at hl 0 rfl) ?_
  refine lv_iload_n hx hb dL_law_192 rfl (lv_at hl 3 rfl) ?_
  refine lv_iconst (v := 1) hx hb dL_law_193 (by decide) ?_
  refine lv_iadd hx hb dL_law_194 ?_
  refine va_sld hx hb hX hbl hbA hS (hin 1 (by decide) (by decide)) dL_law_195 ?_
  refine lv_aload_n hx hb dL_law_196 rfl (lv_at hl 0 rfl) ?_
  refine lv_iload_n hx hb dL_law_197 rfl (lv_at hl 3 rfl) ?_
  refine lv_iconst (v := 2) hx hb dL_law_198 (by decide) ?_
  refine lv_iadd hx hb dL_law_199 ?_
  refine va_sld hx hb hX hbl hbA hS (hin 2 (by decide) (by decide)) dL_law_200 ?_
  refine x2_calli (va_runV (As := [.int (xs (x3 + (1 : Int32)).toNatClampNeg), .int (xs (x3 + (2 : Int32)).toNatClampNeg)]) (rest := [.int r]) ⟨hx, hb, hml, hown, hts⟩ (J_X12_shaft l hIR h) (cwV 2 hts gL_law_X12_shaft rfl rfl rfl hdV_X12_shaft ⟨Nat.le_of_ble_eq_true rfl, Nat.le_of_ble_eq_true rfl⟩) (x_preV (ci := 12) hK hZ hA hWR (hIR 0 (by decide)) lR_0 rfl) rfl rfl hl.1 rfl (lv_room (Nat.le_of_ble_eq_true rfl)) dL_law_201 ⟨by show _ ≤ 600000; omega, by show _ ≤ 7302250; omega⟩) hWR hA (fun r2 ρ1 H2 locs2 h hk2 hWR2 => ?_)
  try dsimp only at h
  obtain ⟨hrr, hR2⟩ := h
  subst hrr
  have hWX2 := xW_other (lay := layR) (st := stR) hWX hk2 (fun c hc o ho z => hdis o ho c hc z.symm) hWR2.2.2
  refine lv_icmp_eq (tgt := 1193) hx hb dL_law_204 (by decide) (fun _ => ?_) (fun hc => absurd rfl hc)
  refine W.widen (k := cells + 1) (n := slots + 13) (by omega) (by omega) ?_
  exact hk σ1 ρ1 adX idsX H2 locs2 ls ⟨hWX2, hWR2, hdis⟩ hR2 hl
set_option maxHeartbeats 4000000 in
set_option maxRecDepth 100000 in
theorem law_c1 {p : Program} {l : Launch} {e : Env} {s : State} {m : MethodId} {below : List Frame} {meth : Method} {c : Code} {b L : Nat} {xs : Nat → Int32} (C0 : lw_At p s m meth c b L xs) {D : va_G} {KA : Nat → ClassId} {zs : ZS} {adX adR : Nat → Nat} {idsX : List Nat} {σ ρ : St} {H : Heap} {locs : List Loc} (hK : xK D KA s) (hZ : xZ zs (fun q => s.heap.size ≤ q) s) (hT : tW D KA adX idsX adR σ ρ s H locs) (hR : Rel idsX σ ρ) {x3 : Int32} {cells slots : Nat} (hcs : cells + 1 ≤ 600000 ∧ slots + 13 ≤ 7302250) (hin : ∀ k : Nat, 1 ≤ k → k < 6 → vp_in (x3 + nI k) L) {ls : Array Slot} (hl : lv_has ls 4 [(0, .ref b), (1, .ref (adX 0)), (2, .ref (adR 0)), (3, .int x3)]) {Q : State → Prop} (hk : ∀ (σ1 ρ1 : St) (adX1 : Nat → Nat) (ids1 : List Nat) (H1 : Heap) (locs1 : List Loc) (ls1 : Array Slot), tW D KA adX1 ids1 adR σ1 ρ1 s H1 locs1 → Rel ids1 σ1 ρ1 → lv_has ls1 4 [(0, .ref b), (1, .ref (adX1 0)), (2, .ref (adR 0)), (3, .int x3)] → W p l e room_1 s m #[Value.ref b] below meth c H1 locs1 (cells + 1) (slots + 13) Q (F0 m 1193 ls1 [])) : W p l e room_1 s m #[Value.ref b] below meth c H locs cells slots Q (F0 m 209 ls []) := by
  obtain ⟨hx, hb, hr, hml, hown, hts0, hX, hbl, hlocks, hgv⟩ := id C0
  have hts : ∀ w ∈ wsL_law, w.before #[Value.ref b] s = true := fun w h => hts0 w (wsL_law_in w h)
  have hown : s.vm.findClass RL = some m.cls := hown
  have hA : ∀ q : Nat, s.heap.size ≤ q → (fun q : Nat => s.heap.size ≤ q) q := fun _ h => h
  have hbA : ¬ (fun q : Nat => s.heap.size ≤ q) b := Nat.not_le.mpr hbl
  have hIX : ∀ c, c < 52 ∧ ¬ c = 19 → c ∈ idsX := hR.1
  have hIR : ∀ c, c < 35 → c ∈ idsR := fun c h => List.mem_range.mpr h
  have hS := hT.1.2.2
  refine lv_aload_n hx hb dL_law_209 rfl (lv_at hl 1 rfl) ?_
  refine lv_aload_n hx hb dL_law_210 rfl (lv_at hl 0 rfl) ?_
  refine lv_iload_n hx hb dL_law_211 rfl (lv_at hl 3 rfl) ?_
  refine lv_iconst (v := 1) hx hb dL_law_212 (by decide) ?_
  refine lv_iadd hx hb dL_law_213 ?_
  refine va_sld hx hb hX hbl hbA hS (hin 1 (by decide) (by decide)) dL_law_214 ?_
  refine lv_aload_n hx hb dL_law_215 rfl (lv_at hl 0 rfl) ?_
  refine lv_iload_n hx hb dL_law_216 rfl (lv_at hl 3 rfl) ?_
  refine lv_iconst (v := 2) hx hb dL_law_217 (by decide) ?_
  refine lv_iadd hx hb dL_law_218 ?_
  refine va_sld hx hb hX hbl hbA hS (hin 2 (by decide) (by decide)) dL_law_219 ?_
  have h := pc_engine (ids := idsX) (σ := σ) (ρ := ρ) (xs (x3 + (1 : Int32)).toNatClampNeg) (xs (x3 + (2 : Int32)).toNatClampNeg) hR
  refine x2_calli (va_runV (As := [.int (xs (x3 + (1 : Int32)).toNatClampNeg), .int (xs (x3 + (2 : Int32)).toNatClampNeg)]) (rest := []) ⟨hx, hb, hml, hown, hts⟩ (J_X11_engine l hIX h) (cwV 2 hts gL_law_X11_engine rfl rfl rfl hdV_X11_engine ⟨Nat.le_of_ble_eq_true rfl, Nat.le_of_ble_eq_true rfl⟩) (x_preV (ci := 11) hK hZ hA hT.1 (hIX 0 (by decide)) lX_0 rfl) rfl rfl hl.1 rfl (lv_room (Nat.le_of_ble_eq_true rfl)) dL_law_220 ⟨by show _ ≤ 600000; omega, by show _ ≤ 7302250; omega⟩) hT.1 hA (fun r σ1 H1 locs1 h hk1 hWX => ?_)
  have hdis := hT.2.2
  try dsimp only at h
  have hWR := xW_other (lay := layX) (st := stX) hT.2.1 hk1 hT.2.2 hWX.2.2
  have hS := hWX.2.2
  refine lv_aload_n hx hb dL_law_223 rfl (lv_at hl 2 rfl) ?_
  refine lv_aload_n hx hb dL_law_224 rfl (lv_at hl 0 rfl) ?_
  refine lv_iload_n hx hb dL_law_225 rfl (lv_at hl 3 rfl) ?_
  refine lv_iconst (v := 1) hx hb dL_law_226 (by decide) ?_
  refine lv_iadd hx hb dL_law_227 ?_
  refine va_sld hx hb hX hbl hbA hS (hin 1 (by decide) (by decide)) dL_law_228 ?_
  refine lv_aload_n hx hb dL_law_229 rfl (lv_at hl 0 rfl) ?_
  refine lv_iload_n hx hb dL_law_230 rfl (lv_at hl 3 rfl) ?_
  refine lv_iconst (v := 2) hx hb dL_law_231 (by decide) ?_
  refine lv_iadd hx hb dL_law_232 ?_
  refine va_sld hx hb hX hbl hbA hS (hin 2 (by decide) (by decide)) dL_law_233 ?_
  refine x2_calli (va_runV (As := [.int (xs (x3 + (1 : Int32)).toNatClampNeg), .int (xs (x3 + (2 : Int32)).toNatClampNeg)]) (rest := [.int r]) ⟨hx, hb, hml, hown, hts⟩ (J_X12_engine l hIR h) (cwV 2 hts gL_law_X12_engine rfl rfl rfl hdV_X12_engine ⟨Nat.le_of_ble_eq_true rfl, Nat.le_of_ble_eq_true rfl⟩) (x_preV (ci := 12) hK hZ hA hWR (hIR 0 (by decide)) lR_0 rfl) rfl rfl hl.1 rfl (lv_room (Nat.le_of_ble_eq_true rfl)) dL_law_234 ⟨by show _ ≤ 600000; omega, by show _ ≤ 7302250; omega⟩) hWR hA (fun r2 ρ1 H2 locs2 h hk2 hWR2 => ?_)
  try dsimp only at h
  obtain ⟨hrr, hR2⟩ := h
  subst hrr
  have hWX2 := xW_other (lay := layR) (st := stR) hWX hk2 (fun c hc o ho z => hdis o ho c hc z.symm) hWR2.2.2
  refine lv_icmp_eq (tgt := 1193) hx hb dL_law_237 (by decide) (fun _ => ?_) (fun hc => absurd rfl hc)
  refine W.widen (k := cells + 1) (n := slots + 13) (by omega) (by omega) ?_
  exact hk σ1 ρ1 adX idsX H2 locs2 ls ⟨hWX2, hWR2, hdis⟩ hR2 hl
set_option maxHeartbeats 4000000 in
set_option maxRecDepth 100000 in
theorem law_c2 {p : Program} {l : Launch} {e : Env} {s : State} {m : MethodId} {below : List Frame} {meth : Method} {c : Code} {b L : Nat} {xs : Nat → Int32} (C0 : lw_At p s m meth c b L xs) {D : va_G} {KA : Nat → ClassId} {zs : ZS} {adX adR : Nat → Nat} {idsX : List Nat} {σ ρ : St} {H : Heap} {locs : List Loc} (hK : xK D KA s) (hZ : xZ zs (fun q => s.heap.size ≤ q) s) (hT : tW D KA adX idsX adR σ ρ s H locs) (hR : Rel idsX σ ρ) {x3 : Int32} {cells slots : Nat} (hcs : cells + 1 ≤ 600000 ∧ slots + 13 ≤ 7302250) (hin : ∀ k : Nat, 1 ≤ k → k < 6 → vp_in (x3 + nI k) L) {ls : Array Slot} (hl : lv_has ls 4 [(0, .ref b), (1, .ref (adX 0)), (2, .ref (adR 0)), (3, .int x3)]) {Q : State → Prop} (hk : ∀ (σ1 ρ1 : St) (adX1 : Nat → Nat) (ids1 : List Nat) (H1 : Heap) (locs1 : List Loc) (ls1 : Array Slot), tW D KA adX1 ids1 adR σ1 ρ1 s H1 locs1 → Rel ids1 σ1 ρ1 → lv_has ls1 4 [(0, .ref b), (1, .ref (adX1 0)), (2, .ref (adR 0)), (3, .int x3)] → W p l e room_1 s m #[Value.ref b] below meth c H1 locs1 (cells + 1) (slots + 13) Q (F0 m 1193 ls1 [])) : W p l e room_1 s m #[Value.ref b] below meth c H locs cells slots Q (F0 m 242 ls []) := by
  obtain ⟨hx, hb, hr, hml, hown, hts0, hX, hbl, hlocks, hgv⟩ := id C0
  have hts : ∀ w ∈ wsL_law, w.before #[Value.ref b] s = true := fun w h => hts0 w (wsL_law_in w h)
  have hown : s.vm.findClass RL = some m.cls := hown
  have hA : ∀ q : Nat, s.heap.size ≤ q → (fun q : Nat => s.heap.size ≤ q) q := fun _ h => h
  have hbA : ¬ (fun q : Nat => s.heap.size ≤ q) b := Nat.not_le.mpr hbl
  have hIX : ∀ c, c < 52 ∧ ¬ c = 19 → c ∈ idsX := hR.1
  have hIR : ∀ c, c < 35 → c ∈ idsR := fun c h => List.mem_range.mpr h
  have hS := hT.1.2.2
  refine lv_aload_n hx hb dL_law_242 rfl (lv_at hl 1 rfl) ?_
  refine lv_aload_n hx hb dL_law_243 rfl (lv_at hl 0 rfl) ?_
  refine lv_iload_n hx hb dL_law_244 rfl (lv_at hl 3 rfl) ?_
  refine lv_iconst (v := 1) hx hb dL_law_245 (by decide) ?_
  refine lv_iadd hx hb dL_law_246 ?_
  refine va_sld hx hb hX hbl hbA hS (hin 1 (by decide) (by decide)) dL_law_247 ?_
  refine lv_aload_n hx hb dL_law_248 rfl (lv_at hl 0 rfl) ?_
  refine lv_iload_n hx hb dL_law_249 rfl (lv_at hl 3 rfl) ?_
  refine lv_iconst (v := 2) hx hb dL_law_250 (by decide) ?_
  refine lv_iadd hx hb dL_law_251 ?_
  refine va_sld hx hb hX hbl hbA hS (hin 2 (by decide) (by decide)) dL_law_252 ?_
  refine lv_aload_n hx hb dL_law_253 rfl (lv_at hl 0 rfl) ?_
  refine lv_iload_n hx hb dL_law_254 rfl (lv_at hl 3 rfl) ?_
  refine lv_iconst (v := 3) hx hb dL_law_255 (by decide) ?_
  refine lv_iadd hx hb dL_law_256 ?_
  refine va_sld hx hb hX hbl hbA hS (hin 3 (by decide) (by decide)) dL_law_257 ?_
  refine lv_aload_n hx hb dL_law_258 rfl (lv_at hl 0 rfl) ?_
  refine lv_iload_n hx hb dL_law_259 rfl (lv_at hl 3 rfl) ?_
  refine lv_iconst (v := 4) hx hb dL_law_260 (by decide) ?_
  refine lv_iadd hx hb dL_law_261 ?_
  refine va_sld hx hb hX hbl hbA hS (hin 4 (by decide) (by decide)) dL_law_262 ?_
  obtain ⟨d0, h⟩ := pc_machine (xs (x3 + (1 : Int32)).toNatClampNeg) (xs (x3 + (2 : Int32)).toNatClampNeg) (xs (x3 + (3 : Int32)).toNatClampNeg) (xs (x3 + (4 : Int32)).toNatClampNeg) hR
  refine x2_calliA (va_runV (As := [.int (xs (x3 + (1 : Int32)).toNatClampNeg), .int (xs (x3 + (2 : Int32)).toNatClampNeg), .int (xs (x3 + (3 : Int32)).toNatClampNeg), .int (xs (x3 + (4 : Int32)).toNatClampNeg)]) (rest := []) ⟨hx, hb, hml, hown, hts⟩ (J_X11_machine l hIX h) (cwV 4 hts gL_law_X11_machine rfl rfl rfl hdV_X11_machine ⟨Nat.le_of_ble_eq_true rfl, Nat.le_of_ble_eq_true rfl⟩) (x_preV (ci := 11) hK hZ hA hT.1 (hIX 0 (by decide)) lX_0 rfl) rfl rfl hl.1 rfl (lv_room (Nat.le_of_ble_eq_true rfl)) dL_law_263 ⟨by show _ ≤ 600000; omega, by show _ ≤ 7302250; omega⟩) hT.1 hA (fun r σ1 adX' idsX' H1 locs1 h hk1 he1 hs1 hn1 hWX => ?_)
  have hdis : ∀ c ∈ idsX', ∀ o ∈ idsR, adX' c ≠ adR o := two_new hT hn1
  have e0 : adX 0 = adX' 0 := (he1 0 (hIX 0 (by decide))).symm
  rw [e0] at hl
  have hIX' : ∀ c, c < 52 ∧ ¬ c = 19 → c ∈ idsX' := fun c h => hs1 c (hIX c h)
  try dsimp only at h
  have hWR := xW_other (lay := layX) (st := stX) hT.2.1 hk1 hT.2.2 hWX.2.2
  have hS := hWX.2.2
  refine lv_aload_n hx hb dL_law_266 rfl (lv_at hl 2 rfl) ?_
  refine lv_aload_n hx hb dL_law_267 rfl (lv_at hl 0 rfl) ?_
  refine lv_iload_n hx hb dL_law_268 rfl (lv_at hl 3 rfl) ?_
  refine lv_iconst (v := 1) hx hb dL_law_269 (by decide) ?_
  refine lv_iadd hx hb dL_law_270 ?_
  refine va_sld hx hb hX hbl hbA hS (hin 1 (by decide) (by decide)) dL_law_271 ?_
  refine lv_aload_n hx hb dL_law_272 rfl (lv_at hl 0 rfl) ?_
  refine lv_iload_n hx hb dL_law_273 rfl (lv_at hl 3 rfl) ?_
  refine lv_iconst (v := 2) hx hb dL_law_274 (by decide) ?_
  refine lv_iadd hx hb dL_law_275 ?_
  refine va_sld hx hb hX hbl hbA hS (hin 2 (by decide) (by decide)) dL_law_276 ?_
  refine lv_aload_n hx hb dL_law_277 rfl (lv_at hl 0 rfl) ?_
  refine lv_iload_n hx hb dL_law_278 rfl (lv_at hl 3 rfl) ?_
  refine lv_iconst (v := 3) hx hb dL_law_279 (by decide) ?_
  refine lv_iadd hx hb dL_law_280 ?_
  refine va_sld hx hb hX hbl hbA hS (hin 3 (by decide) (by decide)) dL_law_281 ?_
  refine lv_aload_n hx hb dL_law_282 rfl (lv_at hl 0 rfl) ?_
  refine lv_iload_n hx hb dL_law_283 rfl (lv_at hl 3 rfl) ?_
  refine lv_iconst (v := 4) hx hb dL_law_284 (by decide) ?_
  refine lv_iadd hx hb dL_law_285 ?_
  refine va_sld hx hb hX hbl hbA hS (hin 4 (by decide) (by decide)) dL_law_286 ?_
  refine x2_calli (va_runV (As := [.int (xs (x3 + (1 : Int32)).toNatClampNeg), .int (xs (x3 + (2 : Int32)).toNatClampNeg), .int (xs (x3 + (3 : Int32)).toNatClampNeg), .int (xs (x3 + (4 : Int32)).toNatClampNeg)]) (rest := [.int r]) ⟨hx, hb, hml, hown, hts⟩ (J_X12_machine l hIR h) (cwV 4 hts gL_law_X12_machine rfl rfl rfl hdV_X12_machine ⟨Nat.le_of_ble_eq_true rfl, Nat.le_of_ble_eq_true rfl⟩) (x_preV (ci := 12) hK hZ hA hWR (hIR 0 (by decide)) lR_0 rfl) rfl rfl hl.1 rfl (lv_room (Nat.le_of_ble_eq_true rfl)) dL_law_287 ⟨by show _ ≤ 600000; omega, by show _ ≤ 7302250; omega⟩) hWR hA (fun r2 ρ1 H2 locs2 h hk2 hWR2 => ?_)
  try dsimp only at h
  obtain ⟨hrr, hR2⟩ := h
  subst hrr
  have hWX2 := xW_other (lay := layR) (st := stR) hWX hk2 (fun c hc o ho z => hdis o ho c hc z.symm) hWR2.2.2
  refine lv_icmp_eq (tgt := 1193) hx hb dL_law_290 (by decide) (fun _ => ?_) (fun hc => absurd rfl hc)
  refine W.widen (k := cells + 1) (n := slots + 13) (by omega) (by omega) ?_
  exact hk σ1 ρ1 adX' idsX' H2 locs2 ls ⟨hWX2, hWR2, hdis⟩ hR2 hl
set_option maxHeartbeats 4000000 in
set_option maxRecDepth 100000 in
theorem law_c3 {p : Program} {l : Launch} {e : Env} {s : State} {m : MethodId} {below : List Frame} {meth : Method} {c : Code} {b L : Nat} {xs : Nat → Int32} (C0 : lw_At p s m meth c b L xs) {D : va_G} {KA : Nat → ClassId} {zs : ZS} {adX adR : Nat → Nat} {idsX : List Nat} {σ ρ : St} {H : Heap} {locs : List Loc} (hK : xK D KA s) (hZ : xZ zs (fun q => s.heap.size ≤ q) s) (hT : tW D KA adX idsX adR σ ρ s H locs) (hR : Rel idsX σ ρ) {x3 : Int32} {cells slots : Nat} (hcs : cells + 1 ≤ 600000 ∧ slots + 13 ≤ 7302250) (hin : ∀ k : Nat, 1 ≤ k → k < 6 → vp_in (x3 + nI k) L) {ls : Array Slot} (hl : lv_has ls 4 [(0, .ref b), (1, .ref (adX 0)), (2, .ref (adR 0)), (3, .int x3)]) {Q : State → Prop} (hk : ∀ (σ1 ρ1 : St) (adX1 : Nat → Nat) (ids1 : List Nat) (H1 : Heap) (locs1 : List Loc) (ls1 : Array Slot), tW D KA adX1 ids1 adR σ1 ρ1 s H1 locs1 → Rel ids1 σ1 ρ1 → lv_has ls1 4 [(0, .ref b), (1, .ref (adX1 0)), (2, .ref (adR 0)), (3, .int x3)] → W p l e room_1 s m #[Value.ref b] below meth c H1 locs1 (cells + 1) (slots + 13) Q (F0 m 1193 ls1 [])) : W p l e room_1 s m #[Value.ref b] below meth c H locs cells slots Q (F0 m 295 ls []) := by
  obtain ⟨hx, hb, hr, hml, hown, hts0, hX, hbl, hlocks, hgv⟩ := id C0
  have hts : ∀ w ∈ wsL_law, w.before #[Value.ref b] s = true := fun w h => hts0 w (wsL_law_in w h)
  have hown : s.vm.findClass RL = some m.cls := hown
  have hA : ∀ q : Nat, s.heap.size ≤ q → (fun q : Nat => s.heap.size ≤ q) q := fun _ h => h
  have hbA : ¬ (fun q : Nat => s.heap.size ≤ q) b := Nat.not_le.mpr hbl
  have hIX : ∀ c, c < 52 ∧ ¬ c = 19 → c ∈ idsX := hR.1
  have hIR : ∀ c, c < 35 → c ∈ idsR := fun c h => List.mem_range.mpr h
  have hS := hT.1.2.2
  refine lv_aload_n hx hb dL_law_295 rfl (lv_at hl 1 rfl) ?_
  refine lv_aload_n hx hb dL_law_296 rfl (lv_at hl 0 rfl) ?_
  refine lv_iload_n hx hb dL_law_297 rfl (lv_at hl 3 rfl) ?_
  refine lv_iconst (v := 1) hx hb dL_law_298 (by decide) ?_
  refine lv_iadd hx hb dL_law_299 ?_
  refine va_sld hx hb hX hbl hbA hS (hin 1 (by decide) (by decide)) dL_law_300 ?_
  refine lv_aload_n hx hb dL_law_301 rfl (lv_at hl 0 rfl) ?_
  refine lv_iload_n hx hb dL_law_302 rfl (lv_at hl 3 rfl) ?_
  refine lv_iconst (v := 2) hx hb dL_law_303 (by decide) ?_
  refine lv_iadd hx hb dL_law_304 ?_
  refine va_sld hx hb hX hbl hbA hS (hin 2 (by decide) (by decide)) dL_law_305 ?_
  refine lv_aload_n hx hb dL_law_306 rfl (lv_at hl 0 rfl) ?_
  refine lv_iload_n hx hb dL_law_307 rfl (lv_at hl 3 rfl) ?_
  refine lv_iconst (v := 3) hx hb dL_law_308 (by decide) ?_
  refine lv_iadd hx hb dL_law_309 ?_
  refine va_sld hx hb hX hbl hbA hS (hin 3 (by decide) (by decide)) dL_law_310 ?_
  have h := pc_set (ids := idsX) (σ := σ) (ρ := ρ) (xs (x3 + (1 : Int32)).toNatClampNeg) (xs (x3 + (2 : Int32)).toNatClampNeg) (xs (x3 + (3 : Int32)).toNatClampNeg) hR
  refine x2_calli (va_runV (As := [.int (xs (x3 + (1 : Int32)).toNatClampNeg), .int (xs (x3 + (2 : Int32)).toNatClampNeg), .int (xs (x3 + (3 : Int32)).toNatClampNeg)]) (rest := []) ⟨hx, hb, hml, hown, hts⟩ (J_X11_set l hIX h) (cwV 3 hts gL_law_X11_set rfl rfl rfl hdV_X11_set ⟨Nat.le_of_ble_eq_true rfl, Nat.le_of_ble_eq_true rfl⟩) (x_preV (ci := 11) hK hZ hA hT.1 (hIX 0 (by decide)) lX_0 rfl) rfl rfl hl.1 rfl (lv_room (Nat.le_of_ble_eq_true rfl)) dL_law_311 ⟨by show _ ≤ 600000; omega, by show _ ≤ 7302250; omega⟩) hT.1 hA (fun r σ1 H1 locs1 h hk1 hWX => ?_)
  have hdis := hT.2.2
  try dsimp only at h
  have hWR := xW_other (lay := layX) (st := stX) hT.2.1 hk1 hT.2.2 hWX.2.2
  have hS := hWX.2.2
  refine lv_aload_n hx hb dL_law_314 rfl (lv_at hl 2 rfl) ?_
  refine lv_aload_n hx hb dL_law_315 rfl (lv_at hl 0 rfl) ?_
  refine lv_iload_n hx hb dL_law_316 rfl (lv_at hl 3 rfl) ?_
  refine lv_iconst (v := 1) hx hb dL_law_317 (by decide) ?_
  refine lv_iadd hx hb dL_law_318 ?_
  refine va_sld hx hb hX hbl hbA hS (hin 1 (by decide) (by decide)) dL_law_319 ?_
  refine lv_aload_n hx hb dL_law_320 rfl (lv_at hl 0 rfl) ?_
  refine lv_iload_n hx hb dL_law_321 rfl (lv_at hl 3 rfl) ?_
  refine lv_iconst (v := 2) hx hb dL_law_322 (by decide) ?_
  refine lv_iadd hx hb dL_law_323 ?_
  refine va_sld hx hb hX hbl hbA hS (hin 2 (by decide) (by decide)) dL_law_324 ?_
  refine lv_aload_n hx hb dL_law_325 rfl (lv_at hl 0 rfl) ?_
  refine lv_iload_n hx hb dL_law_326 rfl (lv_at hl 3 rfl) ?_
  refine lv_iconst (v := 3) hx hb dL_law_327 (by decide) ?_
  refine lv_iadd hx hb dL_law_328 ?_
  refine va_sld hx hb hX hbl hbA hS (hin 3 (by decide) (by decide)) dL_law_329 ?_
  refine x2_calli (va_runV (As := [.int (xs (x3 + (1 : Int32)).toNatClampNeg), .int (xs (x3 + (2 : Int32)).toNatClampNeg), .int (xs (x3 + (3 : Int32)).toNatClampNeg)]) (rest := [.int r]) ⟨hx, hb, hml, hown, hts⟩ (J_X12_set l hIR h) (cwV 3 hts gL_law_X12_set rfl rfl rfl hdV_X12_set ⟨Nat.le_of_ble_eq_true rfl, Nat.le_of_ble_eq_true rfl⟩) (x_preV (ci := 12) hK hZ hA hWR (hIR 0 (by decide)) lR_0 rfl) rfl rfl hl.1 rfl (lv_room (Nat.le_of_ble_eq_true rfl)) dL_law_330 ⟨by show _ ≤ 600000; omega, by show _ ≤ 7302250; omega⟩) hWR hA (fun r2 ρ1 H2 locs2 h hk2 hWR2 => ?_)
  try dsimp only at h
  obtain ⟨hrr, hR2⟩ := h
  subst hrr
  have hWX2 := xW_other (lay := layR) (st := stR) hWX hk2 (fun c hc o ho z => hdis o ho c hc z.symm) hWR2.2.2
  refine lv_icmp_eq (tgt := 1193) hx hb dL_law_333 (by decide) (fun _ => ?_) (fun hc => absurd rfl hc)
  refine W.widen (k := cells + 1) (n := slots + 13) (by omega) (by omega) ?_
  exact hk σ1 ρ1 adX idsX H2 locs2 ls ⟨hWX2, hWR2, hdis⟩ hR2 hl
set_option maxHeartbeats 4000000 in
set_option maxRecDepth 100000 in
theorem law_c4 {p : Program} {l : Launch} {e : Env} {s : State} {m : MethodId} {below : List Frame} {meth : Method} {c : Code} {b L : Nat} {xs : Nat → Int32} (C0 : lw_At p s m meth c b L xs) {D : va_G} {KA : Nat → ClassId} {zs : ZS} {adX adR : Nat → Nat} {idsX : List Nat} {σ ρ : St} {H : Heap} {locs : List Loc} (hK : xK D KA s) (hZ : xZ zs (fun q => s.heap.size ≤ q) s) (hT : tW D KA adX idsX adR σ ρ s H locs) (hR : Rel idsX σ ρ) {x3 : Int32} {cells slots : Nat} (hcs : cells + 1 ≤ 600000 ∧ slots + 13 ≤ 7302250) (hin : ∀ k : Nat, 1 ≤ k → k < 6 → vp_in (x3 + nI k) L) {ls : Array Slot} (hl : lv_has ls 4 [(0, .ref b), (1, .ref (adX 0)), (2, .ref (adR 0)), (3, .int x3)]) {Q : State → Prop} (hk : ∀ (σ1 ρ1 : St) (adX1 : Nat → Nat) (ids1 : List Nat) (H1 : Heap) (locs1 : List Loc) (ls1 : Array Slot), tW D KA adX1 ids1 adR σ1 ρ1 s H1 locs1 → Rel ids1 σ1 ρ1 → lv_has ls1 4 [(0, .ref b), (1, .ref (adX1 0)), (2, .ref (adR 0)), (3, .int x3)] → W p l e room_1 s m #[Value.ref b] below meth c H1 locs1 (cells + 1) (slots + 13) Q (F0 m 1193 ls1 [])) : W p l e room_1 s m #[Value.ref b] below meth c H locs cells slots Q (F0 m 338 ls []) := by
  obtain ⟨hx, hb, hr, hml, hown, hts0, hX, hbl, hlocks, hgv⟩ := id C0
  have hts : ∀ w ∈ wsL_law, w.before #[Value.ref b] s = true := fun w h => hts0 w (wsL_law_in w h)
  have hown : s.vm.findClass RL = some m.cls := hown
  have hA : ∀ q : Nat, s.heap.size ≤ q → (fun q : Nat => s.heap.size ≤ q) q := fun _ h => h
  have hbA : ¬ (fun q : Nat => s.heap.size ≤ q) b := Nat.not_le.mpr hbl
  have hIX : ∀ c, c < 52 ∧ ¬ c = 19 → c ∈ idsX := hR.1
  have hIR : ∀ c, c < 35 → c ∈ idsR := fun c h => List.mem_range.mpr h
  have hS := hT.1.2.2
  refine lv_aload_n hx hb dL_law_338 rfl (lv_at hl 1 rfl) ?_
  refine lv_aload_n hx hb dL_law_339 rfl (lv_at hl 0 rfl) ?_
  refine lv_iload_n hx hb dL_law_340 rfl (lv_at hl 3 rfl) ?_
  refine lv_iconst (v := 1) hx hb dL_law_341 (by decide) ?_
  refine lv_iadd hx hb dL_law_342 ?_
  refine va_sld hx hb hX hbl hbA hS (hin 1 (by decide) (by decide)) dL_law_343 ?_
  have h := pc_drum (ids := idsX) (σ := σ) (ρ := ρ) (xs (x3 + (1 : Int32)).toNatClampNeg) hR
  refine x2_calli (va_runV (As := [.int (xs (x3 + (1 : Int32)).toNatClampNeg)]) (rest := []) ⟨hx, hb, hml, hown, hts⟩ (J_X11_drum l hIX h) (cwV 1 hts gL_law_X11_drum rfl rfl rfl hdV_X11_drum ⟨Nat.le_of_ble_eq_true rfl, Nat.le_of_ble_eq_true rfl⟩) (x_preV (ci := 11) hK hZ hA hT.1 (hIX 0 (by decide)) lX_0 rfl) rfl rfl hl.1 rfl (lv_room (Nat.le_of_ble_eq_true rfl)) dL_law_344 ⟨by show _ ≤ 600000; omega, by show _ ≤ 7302250; omega⟩) hT.1 hA (fun r σ1 H1 locs1 h hk1 hWX => ?_)
  have hdis := hT.2.2
  try dsimp only at h
  have hWR := xW_other (lay := layX) (st := stX) hT.2.1 hk1 hT.2.2 hWX.2.2
  have hS := hWX.2.2
  refine lv_aload_n hx hb dL_law_347 rfl (lv_at hl 2 rfl) ?_
  refine lv_aload_n hx hb dL_law_348 rfl (lv_at hl 0 rfl) ?_
  refine lv_iload_n hx hb dL_law_349 rfl (lv_at hl 3 rfl) ?_
  refine lv_iconst (v := 1) hx hb dL_law_350 (by decide) ?_
  refine lv_iadd hx hb dL_law_351 ?_
  refine va_sld hx hb hX hbl hbA hS (hin 1 (by decide) (by decide)) dL_law_352 ?_
  refine x2_calli (va_runV (As := [.int (xs (x3 + (1 : Int32)).toNatClampNeg)]) (rest := [.int r]) ⟨hx, hb, hml, hown, hts⟩ (J_X12_drum l hIR h) (cwV 1 hts gL_law_X12_drum rfl rfl rfl hdV_X12_drum ⟨Nat.le_of_ble_eq_true rfl, Nat.le_of_ble_eq_true rfl⟩) (x_preV (ci := 12) hK hZ hA hWR (hIR 0 (by decide)) lR_0 rfl) rfl rfl hl.1 rfl (lv_room (Nat.le_of_ble_eq_true rfl)) dL_law_353 ⟨by show _ ≤ 600000; omega, by show _ ≤ 7302250; omega⟩) hWR hA (fun r2 ρ1 H2 locs2 h hk2 hWR2 => ?_)
  try dsimp only at h
  obtain ⟨hrr, hR2⟩ := h
  subst hrr
  have hWX2 := xW_other (lay := layR) (st := stR) hWX hk2 (fun c hc o ho z => hdis o ho c hc z.symm) hWR2.2.2
  refine lv_icmp_eq (tgt := 1193) hx hb dL_law_356 (by decide) (fun _ => ?_) (fun hc => absurd rfl hc)
  refine W.widen (k := cells + 1) (n := slots + 13) (by omega) (by omega) ?_
  exact hk σ1 ρ1 adX idsX H2 locs2 ls ⟨hWX2, hWR2, hdis⟩ hR2 hl
set_option maxHeartbeats 4000000 in
set_option maxRecDepth 100000 in
theorem law_c5 {p : Program} {l : Launch} {e : Env} {s : State} {m : MethodId} {below : List Frame} {meth : Method} {c : Code} {b L : Nat} {xs : Nat → Int32} (C0 : lw_At p s m meth c b L xs) {D : va_G} {KA : Nat → ClassId} {zs : ZS} {adX adR : Nat → Nat} {idsX : List Nat} {σ ρ : St} {H : Heap} {locs : List Loc} (hK : xK D KA s) (hZ : xZ zs (fun q => s.heap.size ≤ q) s) (hT : tW D KA adX idsX adR σ ρ s H locs) (hR : Rel idsX σ ρ) {x3 : Int32} {cells slots : Nat} (hcs : cells + 1 ≤ 600000 ∧ slots + 13 ≤ 7302250) (hin : ∀ k : Nat, 1 ≤ k → k < 6 → vp_in (x3 + nI k) L) {ls : Array Slot} (hl : lv_has ls 4 [(0, .ref b), (1, .ref (adX 0)), (2, .ref (adR 0)), (3, .int x3)]) {Q : State → Prop} (hk : ∀ (σ1 ρ1 : St) (adX1 : Nat → Nat) (ids1 : List Nat) (H1 : Heap) (locs1 : List Loc) (ls1 : Array Slot), tW D KA adX1 ids1 adR σ1 ρ1 s H1 locs1 → Rel ids1 σ1 ρ1 → lv_has ls1 4 [(0, .ref b), (1, .ref (adX1 0)), (2, .ref (adR 0)), (3, .int x3)] → W p l e room_1 s m #[Value.ref b] below meth c H1 locs1 (cells + 1) (slots + 13) Q (F0 m 1193 ls1 [])) : W p l e room_1 s m #[Value.ref b] below meth c H locs cells slots Q (F0 m 361 ls []) := by
  obtain ⟨hx, hb, hr, hml, hown, hts0, hX, hbl, hlocks, hgv⟩ := id C0
  have hts : ∀ w ∈ wsL_law, w.before #[Value.ref b] s = true := fun w h => hts0 w (wsL_law_in w h)
  have hown : s.vm.findClass RL = some m.cls := hown
  have hA : ∀ q : Nat, s.heap.size ≤ q → (fun q : Nat => s.heap.size ≤ q) q := fun _ h => h
  have hbA : ¬ (fun q : Nat => s.heap.size ≤ q) b := Nat.not_le.mpr hbl
  have hIX : ∀ c, c < 52 ∧ ¬ c = 19 → c ∈ idsX := hR.1
  have hIR : ∀ c, c < 35 → c ∈ idsR := fun c h => List.mem_range.mpr h
  have hS := hT.1.2.2
  refine lv_aload_n hx hb dL_law_361 rfl (lv_at hl 1 rfl) ?_
  refine lv_aload_n hx hb dL_law_362 rfl (lv_at hl 0 rfl) ?_
  refine lv_iload_n hx hb dL_law_363 rfl (lv_at hl 3 rfl) ?_
  refine lv_iconst (v := 1) hx hb dL_law_364 (by decide) ?_
  refine lv_iadd hx hb dL_law_365 ?_
  refine va_sld hx hb hX hbl hbA hS (hin 1 (by decide) (by decide)) dL_law_366 ?_
  refine lv_aload_n hx hb dL_law_367 rfl (lv_at hl 0 rfl) ?_
  refine lv_iload_n hx hb dL_law_368 rfl (lv_at hl 3 rfl) ?_
  refine lv_iconst (v := 2) hx hb dL_law_369 (by decide) ?_
  refine lv_iadd hx hb dL_law_370 ?_
  refine va_sld hx hb hX hbl hbA hS (hin 2 (by decide) (by decide)) dL_law_371 ?_
  refine lv_aload_n hx hb dL_law_372 rfl (lv_at hl 0 rfl) ?_
  refine lv_iload_n hx hb dL_law_373 rfl (lv_at hl 3 rfl) ?_
  refine lv_iconst (v := 3) hx hb dL_law_374 (by decide) ?_
  refine lv_iadd hx hb dL_law_375 ?_
  refine va_sld hx hb hX hbl hbA hS (hin 3 (by decide) (by decide)) dL_law_376 ?_
  refine lv_aload_n hx hb dL_law_377 rfl (lv_at hl 0 rfl) ?_
  refine lv_iload_n hx hb dL_law_378 rfl (lv_at hl 3 rfl) ?_
  refine lv_iconst (v := 4) hx hb dL_law_379 (by decide) ?_
  refine lv_iadd hx hb dL_law_380 ?_
  refine va_sld hx hb hX hbl hbA hS (hin 4 (by decide) (by decide)) dL_law_381 ?_
  obtain ⟨d0, h⟩ := pc_belt (xs (x3 + (1 : Int32)).toNatClampNeg) (xs (x3 + (2 : Int32)).toNatClampNeg) (xs (x3 + (3 : Int32)).toNatClampNeg) (xs (x3 + (4 : Int32)).toNatClampNeg) hR
  refine x2_calliA (va_runV (As := [.int (xs (x3 + (1 : Int32)).toNatClampNeg), .int (xs (x3 + (2 : Int32)).toNatClampNeg), .int (xs (x3 + (3 : Int32)).toNatClampNeg), .int (xs (x3 + (4 : Int32)).toNatClampNeg)]) (rest := []) ⟨hx, hb, hml, hown, hts⟩ (J_X11_belt l hIX h) (cwV 4 hts gL_law_X11_belt rfl rfl rfl hdV_X11_belt ⟨Nat.le_of_ble_eq_true rfl, Nat.le_of_ble_eq_true rfl⟩) (x_preV (ci := 11) hK hZ hA hT.1 (hIX 0 (by decide)) lX_0 rfl) rfl rfl hl.1 rfl (lv_room (Nat.le_of_ble_eq_true rfl)) dL_law_382 ⟨by show _ ≤ 600000; omega, by show _ ≤ 7302250; omega⟩) hT.1 hA (fun r σ1 adX' idsX' H1 locs1 h hk1 he1 hs1 hn1 hWX => ?_)
  have hdis : ∀ c ∈ idsX', ∀ o ∈ idsR, adX' c ≠ adR o := two_new hT hn1
  have e0 : adX 0 = adX' 0 := (he1 0 (hIX 0 (by decide))).symm
  rw [e0] at hl
  have hIX' : ∀ c, c < 52 ∧ ¬ c = 19 → c ∈ idsX' := fun c h => hs1 c (hIX c h)
  try dsimp only at h
  have hWR := xW_other (lay := layX) (st := stX) hT.2.1 hk1 hT.2.2 hWX.2.2
  have hS := hWX.2.2
  refine lv_aload_n hx hb dL_law_385 rfl (lv_at hl 2 rfl) ?_
  refine lv_aload_n hx hb dL_law_386 rfl (lv_at hl 0 rfl) ?_
  refine lv_iload_n hx hb dL_law_387 rfl (lv_at hl 3 rfl) ?_
  refine lv_iconst (v := 1) hx hb dL_law_388 (by decide) ?_
  refine lv_iadd hx hb dL_law_389 ?_
  refine va_sld hx hb hX hbl hbA hS (hin 1 (by decide) (by decide)) dL_law_390 ?_
  refine lv_aload_n hx hb dL_law_391 rfl (lv_at hl 0 rfl) ?_
  refine lv_iload_n hx hb dL_law_392 rfl (lv_at hl 3 rfl) ?_
  refine lv_iconst (v := 2) hx hb dL_law_393 (by decide) ?_
  refine lv_iadd hx hb dL_law_394 ?_
  refine va_sld hx hb hX hbl hbA hS (hin 2 (by decide) (by decide)) dL_law_395 ?_
  refine lv_aload_n hx hb dL_law_396 rfl (lv_at hl 0 rfl) ?_
  refine lv_iload_n hx hb dL_law_397 rfl (lv_at hl 3 rfl) ?_
  refine lv_iconst (v := 3) hx hb dL_law_398 (by decide) ?_
  refine lv_iadd hx hb dL_law_399 ?_
  refine va_sld hx hb hX hbl hbA hS (hin 3 (by decide) (by decide)) dL_law_400 ?_
  refine lv_aload_n hx hb dL_law_401 rfl (lv_at hl 0 rfl) ?_
  refine lv_iload_n hx hb dL_law_402 rfl (lv_at hl 3 rfl) ?_
  refine lv_iconst (v := 4) hx hb dL_law_403 (by decide) ?_
  refine lv_iadd hx hb dL_law_404 ?_
  refine va_sld hx hb hX hbl hbA hS (hin 4 (by decide) (by decide)) dL_law_405 ?_
  refine x2_calli (va_runV (As := [.int (xs (x3 + (1 : Int32)).toNatClampNeg), .int (xs (x3 + (2 : Int32)).toNatClampNeg), .int (xs (x3 + (3 : Int32)).toNatClampNeg), .int (xs (x3 + (4 : Int32)).toNatClampNeg)]) (rest := [.int r]) ⟨hx, hb, hml, hown, hts⟩ (J_X12_belt l hIR h) (cwV 4 hts gL_law_X12_belt rfl rfl rfl hdV_X12_belt ⟨Nat.le_of_ble_eq_true rfl, Nat.le_of_ble_eq_true rfl⟩) (x_preV (ci := 12) hK hZ hA hWR (hIR 0 (by decide)) lR_0 rfl) rfl rfl hl.1 rfl (lv_room (Nat.le_of_ble_eq_true rfl)) dL_law_406 ⟨by show _ ≤ 600000; omega, by show _ ≤ 7302250; omega⟩) hWR hA (fun r2 ρ1 H2 locs2 h hk2 hWR2 => ?_)
  try dsimp only at h
  obtain ⟨hrr, hR2⟩ := h
  subst hrr
  have hWX2 := xW_other (lay := layR) (st := stR) hWX hk2 (fun c hc o ho z => hdis o ho c hc z.symm) hWR2.2.2
  refine lv_icmp_eq (tgt := 1193) hx hb dL_law_409 (by decide) (fun _ => ?_) (fun hc => absurd rfl hc)
  refine W.widen (k := cells + 1) (n := slots + 13) (by omega) (by omega) ?_
  exact hk σ1 ρ1 adX' idsX' H2 locs2 ls ⟨hWX2, hWR2, hdis⟩ hR2 hl
set_option maxHeartbeats 4000000 in
set_option maxRecDepth 100000 in
theorem law_c6 {p : Program} {l : Launch} {e : Env} {s : State} {m : MethodId} {below : List Frame} {meth : Method} {c : Code} {b L : Nat} {xs : Nat → Int32} (C0 : lw_At p s m meth c b L xs) {D : va_G} {KA : Nat → ClassId} {zs : ZS} {adX adR : Nat → Nat} {idsX : List Nat} {σ ρ : St} {H : Heap} {locs : List Loc} (hK : xK D KA s) (hZ : xZ zs (fun q => s.heap.size ≤ q) s) (hT : tW D KA adX idsX adR σ ρ s H locs) (hR : Rel idsX σ ρ) {x3 : Int32} {cells slots : Nat} (hcs : cells + 1 ≤ 600000 ∧ slots + 13 ≤ 7302250) (hin : ∀ k : Nat, 1 ≤ k → k < 6 → vp_in (x3 + nI k) L) {ls : Array Slot} (hl : lv_has ls 4 [(0, .ref b), (1, .ref (adX 0)), (2, .ref (adR 0)), (3, .int x3)]) {Q : State → Prop} (hk : ∀ (σ1 ρ1 : St) (adX1 : Nat → Nat) (ids1 : List Nat) (H1 : Heap) (locs1 : List Loc) (ls1 : Array Slot), tW D KA adX1 ids1 adR σ1 ρ1 s H1 locs1 → Rel ids1 σ1 ρ1 → lv_has ls1 4 [(0, .ref b), (1, .ref (adX1 0)), (2, .ref (adR 0)), (3, .int x3)] → W p l e room_1 s m #[Value.ref b] below meth c H1 locs1 (cells + 1) (slots + 13) Q (F0 m 1193 ls1 [])) : W p l e room_1 s m #[Value.ref b] below meth c H locs cells slots Q (F0 m 414 ls []) := by
  obtain ⟨hx, hb, hr, hml, hown, hts0, hX, hbl, hlocks, hgv⟩ := id C0
  have hts : ∀ w ∈ wsL_law, w.before #[Value.ref b] s = true := fun w h => hts0 w (wsL_law_in w h)
  have hown : s.vm.findClass RL = some m.cls := hown
  have hA : ∀ q : Nat, s.heap.size ≤ q → (fun q : Nat => s.heap.size ≤ q) q := fun _ h => h
  have hbA : ¬ (fun q : Nat => s.heap.size ≤ q) b := Nat.not_le.mpr hbl
  have hIX : ∀ c, c < 52 ∧ ¬ c = 19 → c ∈ idsX := hR.1
  have hIR : ∀ c, c < 35 → c ∈ idsR := fun c h => List.mem_range.mpr h
  have hS := hT.1.2.2
  refine lv_aload_n hx hb dL_law_414 rfl (lv_at hl 1 rfl) ?_
  refine lv_aload_n hx hb dL_law_415 rfl (lv_at hl 0 rfl) ?_
  refine lv_iload_n hx hb dL_law_416 rfl (lv_at hl 3 rfl) ?_
  refine lv_iconst (v := 1) hx hb dL_law_417 (by decide) ?_
  refine lv_iadd hx hb dL_law_418 ?_
  refine va_sld hx hb hX hbl hbA hS (hin 1 (by decide) (by decide)) dL_law_419 ?_
  refine lv_aload_n hx hb dL_law_420 rfl (lv_at hl 0 rfl) ?_
  refine lv_iload_n hx hb dL_law_421 rfl (lv_at hl 3 rfl) ?_
  refine lv_iconst (v := 2) hx hb dL_law_422 (by decide) ?_
  refine lv_iadd hx hb dL_law_423 ?_
  refine va_sld hx hb hX hbl hbA hS (hin 2 (by decide) (by decide)) dL_law_424 ?_
  have h := pc_throwsOn (ids := idsX) (σ := σ) (ρ := ρ) (xs (x3 + (1 : Int32)).toNatClampNeg) (xs (x3 + (2 : Int32)).toNatClampNeg) hR
  refine x2_calli (va_runV (As := [.int (xs (x3 + (1 : Int32)).toNatClampNeg), .int (xs (x3 + (2 : Int32)).toNatClampNeg)]) (rest := []) ⟨hx, hb, hml, hown, hts⟩ (J_X11_throwsOn l hIX h) (cwV 2 hts gL_law_X11_throwsOn rfl rfl rfl hdV_X11_throwsOn ⟨Nat.le_of_ble_eq_true rfl, Nat.le_of_ble_eq_true rfl⟩) (x_preV (ci := 11) hK hZ hA hT.1 (hIX 0 (by decide)) lX_0 rfl) rfl rfl hl.1 rfl (lv_room (Nat.le_of_ble_eq_true rfl)) dL_law_425 ⟨by show _ ≤ 600000; omega, by show _ ≤ 7302250; omega⟩) hT.1 hA (fun r σ1 H1 locs1 h hk1 hWX => ?_)
  have hdis := hT.2.2
  try dsimp only at h
  have hWR := xW_other (lay := layX) (st := stX) hT.2.1 hk1 hT.2.2 hWX.2.2
  have hS := hWX.2.2
  refine lv_aload_n hx hb dL_law_428 rfl (lv_at hl 2 rfl) ?_
  refine lv_aload_n hx hb dL_law_429 rfl (lv_at hl 0 rfl) ?_
  refine lv_iload_n hx hb dL_law_430 rfl (lv_at hl 3 rfl) ?_
  refine lv_iconst (v := 1) hx hb dL_law_431 (by decide) ?_
  refine lv_iadd hx hb dL_law_432 ?_
  refine va_sld hx hb hX hbl hbA hS (hin 1 (by decide) (by decide)) dL_law_433 ?_
  refine lv_aload_n hx hb dL_law_434 rfl (lv_at hl 0 rfl) ?_
  refine lv_iload_n hx hb dL_law_435 rfl (lv_at hl 3 rfl) ?_
  refine lv_iconst (v := 2) hx hb dL_law_436 (by decide) ?_
  refine lv_iadd hx hb dL_law_437 ?_
  refine va_sld hx hb hX hbl hbA hS (hin 2 (by decide) (by decide)) dL_law_438 ?_
  refine x2_calli (va_runV (As := [.int (xs (x3 + (1 : Int32)).toNatClampNeg), .int (xs (x3 + (2 : Int32)).toNatClampNeg)]) (rest := [.int r]) ⟨hx, hb, hml, hown, hts⟩ (J_X12_throwsOn l hIR h) (cwV 2 hts gL_law_X12_throwsOn rfl rfl rfl hdV_X12_throwsOn ⟨Nat.le_of_ble_eq_true rfl, Nat.le_of_ble_eq_true rfl⟩) (x_preV (ci := 12) hK hZ hA hWR (hIR 0 (by decide)) lR_0 rfl) rfl rfl hl.1 rfl (lv_room (Nat.le_of_ble_eq_true rfl)) dL_law_439 ⟨by show _ ≤ 600000; omega, by show _ ≤ 7302250; omega⟩) hWR hA (fun r2 ρ1 H2 locs2 h hk2 hWR2 => ?_)
  try dsimp only at h
  obtain ⟨hrr, hR2⟩ := h
  subst hrr
  have hWX2 := xW_other (lay := layR) (st := stR) hWX hk2 (fun c hc o ho z => hdis o ho c hc z.symm) hWR2.2.2
  refine lv_icmp_eq (tgt := 1193) hx hb dL_law_442 (by decide) (fun _ => ?_) (fun hc => absurd rfl hc)
  refine W.widen (k := cells + 1) (n := slots + 13) (by omega) (by omega) ?_
  exact hk σ1 ρ1 adX idsX H2 locs2 ls ⟨hWX2, hWR2, hdis⟩ hR2 hl
set_option maxHeartbeats 4000000 in
set_option maxRecDepth 100000 in
theorem law_c7 {p : Program} {l : Launch} {e : Env} {s : State} {m : MethodId} {below : List Frame} {meth : Method} {c : Code} {b L : Nat} {xs : Nat → Int32} (C0 : lw_At p s m meth c b L xs) {D : va_G} {KA : Nat → ClassId} {zs : ZS} {adX adR : Nat → Nat} {idsX : List Nat} {σ ρ : St} {H : Heap} {locs : List Loc} (hK : xK D KA s) (hZ : xZ zs (fun q => s.heap.size ≤ q) s) (hT : tW D KA adX idsX adR σ ρ s H locs) (hR : Rel idsX σ ρ) {x3 : Int32} {cells slots : Nat} (hcs : cells + 1 ≤ 600000 ∧ slots + 13 ≤ 7302250) (hin : ∀ k : Nat, 1 ≤ k → k < 6 → vp_in (x3 + nI k) L) {ls : Array Slot} (hl : lv_has ls 4 [(0, .ref b), (1, .ref (adX 0)), (2, .ref (adR 0)), (3, .int x3)]) {Q : State → Prop} (hk : ∀ (σ1 ρ1 : St) (adX1 : Nat → Nat) (ids1 : List Nat) (H1 : Heap) (locs1 : List Loc) (ls1 : Array Slot), tW D KA adX1 ids1 adR σ1 ρ1 s H1 locs1 → Rel ids1 σ1 ρ1 → lv_has ls1 4 [(0, .ref b), (1, .ref (adX1 0)), (2, .ref (adR 0)), (3, .int x3)] → W p l e room_1 s m #[Value.ref b] below meth c H1 locs1 (cells + 1) (slots + 13) Q (F0 m 1193 ls1 [])) : W p l e room_1 s m #[Value.ref b] below meth c H locs cells slots Q (F0 m 447 ls []) := by
  obtain ⟨hx, hb, hr, hml, hown, hts0, hX, hbl, hlocks, hgv⟩ := id C0
  have hts : ∀ w ∈ wsL_law, w.before #[Value.ref b] s = true := fun w h => hts0 w (wsL_law_in w h)
  have hown : s.vm.findClass RL = some m.cls := hown
  have hA : ∀ q : Nat, s.heap.size ≤ q → (fun q : Nat => s.heap.size ≤ q) q := fun _ h => h
  have hbA : ¬ (fun q : Nat => s.heap.size ≤ q) b := Nat.not_le.mpr hbl
  have hIX : ∀ c, c < 52 ∧ ¬ c = 19 → c ∈ idsX := hR.1
  have hIR : ∀ c, c < 35 → c ∈ idsR := fun c h => List.mem_range.mpr h
  have hS := hT.1.2.2
  refine lv_aload_n hx hb dL_law_447 rfl (lv_at hl 1 rfl) ?_
  refine lv_aload_n hx hb dL_law_448 rfl (lv_at hl 0 rfl) ?_
  refine lv_iload_n hx hb dL_law_449 rfl (lv_at hl 3 rfl) ?_
  refine lv_iconst (v := 1) hx hb dL_law_450 (by decide) ?_
  refine lv_iadd hx hb dL_law_451 ?_
  refine va_sld hx hb hX hbl hbA hS (hin 1 (by decide) (by decide)) dL_law_452 ?_
  refine lv_aload_n hx hb dL_law_453 rfl (lv_at hl 0 rfl) ?_
  refine lv_iload_n hx hb dL_law_454 rfl (lv_at hl 3 rfl) ?_
  refine lv_iconst (v := 2) hx hb dL_law_455 (by decide) ?_
  refine lv_iadd hx hb dL_law_456 ?_
  refine va_sld hx hb hX hbl hbA hS (hin 2 (by decide) (by decide)) dL_law_457 ?_
  refine lv_aload_n hx hb dL_law_458 rfl (lv_at hl 0 rfl) ?_
  refine lv_iload_n hx hb dL_law_459 rfl (lv_at hl 3 rfl) ?_
  refine lv_iconst (v := 3) hx hb dL_law_460 (by decide) ?_
  refine lv_iadd hx hb dL_law_461 ?_
  refine va_sld hx hb hX hbl hbA hS (hin 3 (by decide) (by decide)) dL_law_462 ?_
  have h := pc_change (ids := idsX) (σ := σ) (ρ := ρ) (xs (x3 + (1 : Int32)).toNatClampNeg) (xs (x3 + (2 : Int32)).toNatClampNeg) (xs (x3 + (3 : Int32)).toNatClampNeg) hR
  refine x2_calli (va_runV (As := [.int (xs (x3 + (1 : Int32)).toNatClampNeg), .int (xs (x3 + (2 : Int32)).toNatClampNeg), .int (xs (x3 + (3 : Int32)).toNatClampNeg)]) (rest := []) ⟨hx, hb, hml, hown, hts⟩ (J_X11_change l hIX h) (cwV 3 hts gL_law_X11_change rfl rfl rfl hdV_X11_change ⟨Nat.le_of_ble_eq_true rfl, Nat.le_of_ble_eq_true rfl⟩) (x_preV (ci := 11) hK hZ hA hT.1 (hIX 0 (by decide)) lX_0 rfl) rfl rfl hl.1 rfl (lv_room (Nat.le_of_ble_eq_true rfl)) dL_law_463 ⟨by show _ ≤ 600000; omega, by show _ ≤ 7302250; omega⟩) hT.1 hA (fun r σ1 H1 locs1 h hk1 hWX => ?_)
  have hdis := hT.2.2
  try dsimp only at h
  have hWR := xW_other (lay := layX) (st := stX) hT.2.1 hk1 hT.2.2 hWX.2.2
  have hS := hWX.2.2
  refine lv_aload_n hx hb dL_law_466 rfl (lv_at hl 2 rfl) ?_
  refine lv_aload_n hx hb dL_law_467 rfl (lv_at hl 0 rfl) ?_
  refine lv_iload_n hx hb dL_law_468 rfl (lv_at hl 3 rfl) ?_
  refine lv_iconst (v := 1) hx hb dL_law_469 (by decide) ?_
  refine lv_iadd hx hb dL_law_470 ?_
  refine va_sld hx hb hX hbl hbA hS (hin 1 (by decide) (by decide)) dL_law_471 ?_
  refine lv_aload_n hx hb dL_law_472 rfl (lv_at hl 0 rfl) ?_
  refine lv_iload_n hx hb dL_law_473 rfl (lv_at hl 3 rfl) ?_
  refine lv_iconst (v := 2) hx hb dL_law_474 (by decide) ?_
  refine lv_iadd hx hb dL_law_475 ?_
  refine va_sld hx hb hX hbl hbA hS (hin 2 (by decide) (by decide)) dL_law_476 ?_
  refine lv_aload_n hx hb dL_law_477 rfl (lv_at hl 0 rfl) ?_
  refine lv_iload_n hx hb dL_law_478 rfl (lv_at hl 3 rfl) ?_
  refine lv_iconst (v := 3) hx hb dL_law_479 (by decide) ?_
  refine lv_iadd hx hb dL_law_480 ?_
  refine va_sld hx hb hX hbl hbA hS (hin 3 (by decide) (by decide)) dL_law_481 ?_
  refine x2_calli (va_runV (As := [.int (xs (x3 + (1 : Int32)).toNatClampNeg), .int (xs (x3 + (2 : Int32)).toNatClampNeg), .int (xs (x3 + (3 : Int32)).toNatClampNeg)]) (rest := [.int r]) ⟨hx, hb, hml, hown, hts⟩ (J_X12_change l hIR h) (cwV 3 hts gL_law_X12_change rfl rfl rfl hdV_X12_change ⟨Nat.le_of_ble_eq_true rfl, Nat.le_of_ble_eq_true rfl⟩) (x_preV (ci := 12) hK hZ hA hWR (hIR 0 (by decide)) lR_0 rfl) rfl rfl hl.1 rfl (lv_room (Nat.le_of_ble_eq_true rfl)) dL_law_482 ⟨by show _ ≤ 600000; omega, by show _ ≤ 7302250; omega⟩) hWR hA (fun r2 ρ1 H2 locs2 h hk2 hWR2 => ?_)
  try dsimp only at h
  obtain ⟨hrr, hR2⟩ := h
  subst hrr
  have hWX2 := xW_other (lay := layR) (st := stR) hWX hk2 (fun c hc o ho z => hdis o ho c hc z.symm) hWR2.2.2
  refine lv_icmp_eq (tgt := 1193) hx hb dL_law_485 (by decide) (fun _ => ?_) (fun hc => absurd rfl hc)
  refine W.widen (k := cells + 1) (n := slots + 13) (by omega) (by omega) ?_
  exact hk σ1 ρ1 adX idsX H2 locs2 ls ⟨hWX2, hWR2, hdis⟩ hR2 hl
set_option maxHeartbeats 4000000 in
set_option maxRecDepth 100000 in
theorem law_c8 {p : Program} {l : Launch} {e : Env} {s : State} {m : MethodId} {below : List Frame} {meth : Method} {c : Code} {b L : Nat} {xs : Nat → Int32} (C0 : lw_At p s m meth c b L xs) {D : va_G} {KA : Nat → ClassId} {zs : ZS} {adX adR : Nat → Nat} {idsX : List Nat} {σ ρ : St} {H : Heap} {locs : List Loc} (hK : xK D KA s) (hZ : xZ zs (fun q => s.heap.size ≤ q) s) (hT : tW D KA adX idsX adR σ ρ s H locs) (hR : Rel idsX σ ρ) {x3 : Int32} {cells slots : Nat} (hcs : cells + 1 ≤ 600000 ∧ slots + 13 ≤ 7302250) (hin : ∀ k : Nat, 1 ≤ k → k < 6 → vp_in (x3 + nI k) L) {ls : Array Slot} (hl : lv_has ls 4 [(0, .ref b), (1, .ref (adX 0)), (2, .ref (adR 0)), (3, .int x3)]) {Q : State → Prop} (hk : ∀ (σ1 ρ1 : St) (adX1 : Nat → Nat) (ids1 : List Nat) (H1 : Heap) (locs1 : List Loc) (ls1 : Array Slot), tW D KA adX1 ids1 adR σ1 ρ1 s H1 locs1 → Rel ids1 σ1 ρ1 → lv_has ls1 4 [(0, .ref b), (1, .ref (adX1 0)), (2, .ref (adR 0)), (3, .int x3)] → W p l e room_1 s m #[Value.ref b] below meth c H1 locs1 (cells + 1) (slots + 13) Q (F0 m 1193 ls1 [])) : W p l e room_1 s m #[Value.ref b] below meth c H locs cells slots Q (F0 m 490 ls []) := by
  obtain ⟨hx, hb, hr, hml, hown, hts0, hX, hbl, hlocks, hgv⟩ := id C0
  have hts : ∀ w ∈ wsL_law, w.before #[Value.ref b] s = true := fun w h => hts0 w (wsL_law_in w h)
  have hown : s.vm.findClass RL = some m.cls := hown
  have hA : ∀ q : Nat, s.heap.size ≤ q → (fun q : Nat => s.heap.size ≤ q) q := fun _ h => h
  have hbA : ¬ (fun q : Nat => s.heap.size ≤ q) b := Nat.not_le.mpr hbl
  have hIX : ∀ c, c < 52 ∧ ¬ c = 19 → c ∈ idsX := hR.1
  have hIR : ∀ c, c < 35 → c ∈ idsR := fun c h => List.mem_range.mpr h
  have hS := hT.1.2.2
  refine lv_aload_n hx hb dL_law_490 rfl (lv_at hl 1 rfl) ?_
  refine lv_aload_n hx hb dL_law_491 rfl (lv_at hl 0 rfl) ?_
  refine lv_iload_n hx hb dL_law_492 rfl (lv_at hl 3 rfl) ?_
  refine lv_iconst (v := 1) hx hb dL_law_493 (by decide) ?_
  refine lv_iadd hx hb dL_law_494 ?_
  refine va_sld hx hb hX hbl hbA hS (hin 1 (by decide) (by decide)) dL_law_495 ?_
  refine lv_aload_n hx hb dL_law_496 rfl (lv_at hl 0 rfl) ?_
  refine lv_iload_n hx hb dL_law_497 rfl (lv_at hl 3 rfl) ?_
  refine lv_iconst (v := 2) hx hb dL_law_498 (by decide) ?_
  refine lv_iadd hx hb dL_law_499 ?_
  refine va_sld hx hb hX hbl hbA hS (hin 2 (by decide) (by decide)) dL_law_500 ?_
  have h := pc_told (ids := idsX) (σ := σ) (ρ := ρ) (xs (x3 + (1 : Int32)).toNatClampNeg) (xs (x3 + (2 : Int32)).toNatClampNeg) hR
  refine x2_calli (va_runV (As := [.int (xs (x3 + (1 : Int32)).toNatClampNeg), .int (xs (x3 + (2 : Int32)).toNatClampNeg)]) (rest := []) ⟨hx, hb, hml, hown, hts⟩ (J_X11_told l hIX h) (cwV 2 hts gL_law_X11_told rfl rfl rfl hdV_X11_told ⟨Nat.le_of_ble_eq_true rfl, Nat.le_of_ble_eq_true rfl⟩) (x_preV (ci := 11) hK hZ hA hT.1 (hIX 0 (by decide)) lX_0 rfl) rfl rfl hl.1 rfl (lv_room (Nat.le_of_ble_eq_true rfl)) dL_law_501 ⟨by show _ ≤ 600000; omega, by show _ ≤ 7302250; omega⟩) hT.1 hA (fun r σ1 H1 locs1 h hk1 hWX => ?_)
  have hdis := hT.2.2
  try dsimp only at h
  have hWR := xW_other (lay := layX) (st := stX) hT.2.1 hk1 hT.2.2 hWX.2.2
  have hS := hWX.2.2
  refine lv_aload_n hx hb dL_law_504 rfl (lv_at hl 2 rfl) ?_
  refine lv_aload_n hx hb dL_law_505 rfl (lv_at hl 0 rfl) ?_
  refine lv_iload_n hx hb dL_law_506 rfl (lv_at hl 3 rfl) ?_
  refine lv_iconst (v := 1) hx hb dL_law_507 (by decide) ?_
  refine lv_iadd hx hb dL_law_508 ?_
  refine va_sld hx hb hX hbl hbA hS (hin 1 (by decide) (by decide)) dL_law_509 ?_
  refine lv_aload_n hx hb dL_law_510 rfl (lv_at hl 0 rfl) ?_
  refine lv_iload_n hx hb dL_law_511 rfl (lv_at hl 3 rfl) ?_
  refine lv_iconst (v := 2) hx hb dL_law_512 (by decide) ?_
  refine lv_iadd hx hb dL_law_513 ?_
  refine va_sld hx hb hX hbl hbA hS (hin 2 (by decide) (by decide)) dL_law_514 ?_
  refine x2_calli (va_runV (As := [.int (xs (x3 + (1 : Int32)).toNatClampNeg), .int (xs (x3 + (2 : Int32)).toNatClampNeg)]) (rest := [.int r]) ⟨hx, hb, hml, hown, hts⟩ (J_X12_told l hIR h) (cwV 2 hts gL_law_X12_told rfl rfl rfl hdV_X12_told ⟨Nat.le_of_ble_eq_true rfl, Nat.le_of_ble_eq_true rfl⟩) (x_preV (ci := 12) hK hZ hA hWR (hIR 0 (by decide)) lR_0 rfl) rfl rfl hl.1 rfl (lv_room (Nat.le_of_ble_eq_true rfl)) dL_law_515 ⟨by show _ ≤ 600000; omega, by show _ ≤ 7302250; omega⟩) hWR hA (fun r2 ρ1 H2 locs2 h hk2 hWR2 => ?_)
  try dsimp only at h
  obtain ⟨hrr, hR2⟩ := h
  subst hrr
  have hWX2 := xW_other (lay := layR) (st := stR) hWX hk2 (fun c hc o ho z => hdis o ho c hc z.symm) hWR2.2.2
  refine lv_icmp_eq (tgt := 1193) hx hb dL_law_518 (by decide) (fun _ => ?_) (fun hc => absurd rfl hc)
  refine W.widen (k := cells + 1) (n := slots + 13) (by omega) (by omega) ?_
  exact hk σ1 ρ1 adX idsX H2 locs2 ls ⟨hWX2, hWR2, hdis⟩ hR2 hl
set_option maxHeartbeats 4000000 in
set_option maxRecDepth 100000 in
theorem law_c9 {p : Program} {l : Launch} {e : Env} {s : State} {m : MethodId} {below : List Frame} {meth : Method} {c : Code} {b L : Nat} {xs : Nat → Int32} (C0 : lw_At p s m meth c b L xs) {D : va_G} {KA : Nat → ClassId} {zs : ZS} {adX adR : Nat → Nat} {idsX : List Nat} {σ ρ : St} {H : Heap} {locs : List Loc} (hK : xK D KA s) (hZ : xZ zs (fun q => s.heap.size ≤ q) s) (hT : tW D KA adX idsX adR σ ρ s H locs) (hR : Rel idsX σ ρ) {x3 : Int32} {cells slots : Nat} (hcs : cells + 1 ≤ 600000 ∧ slots + 13 ≤ 7302250) (hin : ∀ k : Nat, 1 ≤ k → k < 6 → vp_in (x3 + nI k) L) {ls : Array Slot} (hl : lv_has ls 4 [(0, .ref b), (1, .ref (adX 0)), (2, .ref (adR 0)), (3, .int x3)]) {Q : State → Prop} (hk : ∀ (σ1 ρ1 : St) (adX1 : Nat → Nat) (ids1 : List Nat) (H1 : Heap) (locs1 : List Loc) (ls1 : Array Slot), tW D KA adX1 ids1 adR σ1 ρ1 s H1 locs1 → Rel ids1 σ1 ρ1 → lv_has ls1 4 [(0, .ref b), (1, .ref (adX1 0)), (2, .ref (adR 0)), (3, .int x3)] → W p l e room_1 s m #[Value.ref b] below meth c H1 locs1 (cells + 1) (slots + 13) Q (F0 m 1193 ls1 [])) : W p l e room_1 s m #[Value.ref b] below meth c H locs cells slots Q (F0 m 523 ls []) := by
  obtain ⟨hx, hb, hr, hml, hown, hts0, hX, hbl, hlocks, hgv⟩ := id C0
  have hts : ∀ w ∈ wsL_law, w.before #[Value.ref b] s = true := fun w h => hts0 w (wsL_law_in w h)
  have hown : s.vm.findClass RL = some m.cls := hown
  have hA : ∀ q : Nat, s.heap.size ≤ q → (fun q : Nat => s.heap.size ≤ q) q := fun _ h => h
  have hbA : ¬ (fun q : Nat => s.heap.size ≤ q) b := Nat.not_le.mpr hbl
  have hIX : ∀ c, c < 52 ∧ ¬ c = 19 → c ∈ idsX := hR.1
  have hIR : ∀ c, c < 35 → c ∈ idsR := fun c h => List.mem_range.mpr h
  have hS := hT.1.2.2
  refine lv_aload_n hx hb dL_law_523 rfl (lv_at hl 1 rfl) ?_
  refine lv_aload_n hx hb dL_law_524 rfl (lv_at hl 0 rfl) ?_
  refine lv_iload_n hx hb dL_law_525 rfl (lv_at hl 3 rfl) ?_
  refine lv_iconst (v := 1) hx hb dL_law_526 (by decide) ?_
  refine lv_iadd hx hb dL_law_527 ?_
  refine va_sld hx hb hX hbl hbA hS (hin 1 (by decide) (by decide)) dL_law_528 ?_
  refine lv_aload_n hx hb dL_law_529 rfl (lv_at hl 0 rfl) ?_
  refine lv_iload_n hx hb dL_law_530 rfl (lv_at hl 3 rfl) ?_
  refine lv_iconst (v := 2) hx hb dL_law_531 (by decide) ?_
  refine lv_iadd hx hb dL_law_532 ?_
  refine va_sld hx hb hX hbl hbA hS (hin 2 (by decide) (by decide)) dL_law_533 ?_
  have h := pc_turns (ids := idsX) (σ := σ) (ρ := ρ) (xs (x3 + (1 : Int32)).toNatClampNeg) (xs (x3 + (2 : Int32)).toNatClampNeg) hR
  refine x2_calll (va_runV (As := [.int (xs (x3 + (1 : Int32)).toNatClampNeg), .int (xs (x3 + (2 : Int32)).toNatClampNeg)]) (rest := []) ⟨hx, hb, hml, hown, hts⟩ (J_X11_turns l hIX h) (cwV 2 hts gL_law_X11_turns rfl rfl rfl hdV_X11_turns ⟨Nat.le_of_ble_eq_true rfl, Nat.le_of_ble_eq_true rfl⟩) (x_preV (ci := 11) hK hZ hA hT.1 (hIX 0 (by decide)) lX_0 rfl) rfl rfl hl.1 rfl (lv_room (Nat.le_of_ble_eq_true rfl)) dL_law_534 ⟨by show _ ≤ 600000; omega, by show _ ≤ 7302250; omega⟩) hT.1 hA (fun r σ1 H1 locs1 h hk1 hWX => ?_)
  have hdis := hT.2.2
  try dsimp only at h
  have hWR := xW_other (lay := layX) (st := stX) hT.2.1 hk1 hT.2.2 hWX.2.2
  have hS := hWX.2.2
  refine lv_aload_n hx hb dL_law_537 rfl (lv_at hl 2 rfl) ?_
  refine lv_aload_n hx hb dL_law_538 rfl (lv_at hl 0 rfl) ?_
  refine lv_iload_n hx hb dL_law_539 rfl (lv_at hl 3 rfl) ?_
  refine lv_iconst (v := 1) hx hb dL_law_540 (by decide) ?_
  refine lv_iadd hx hb dL_law_541 ?_
  refine va_sld hx hb hX hbl hbA hS (hin 1 (by decide) (by decide)) dL_law_542 ?_
  refine lv_aload_n hx hb dL_law_543 rfl (lv_at hl 0 rfl) ?_
  refine lv_iload_n hx hb dL_law_544 rfl (lv_at hl 3 rfl) ?_
  refine lv_iconst (v := 2) hx hb dL_law_545 (by decide) ?_
  refine lv_iadd hx hb dL_law_546 ?_
  refine va_sld hx hb hX hbl hbA hS (hin 2 (by decide) (by decide)) dL_law_547 ?_
  refine x2_calll (va_runV (As := [.int (xs (x3 + (1 : Int32)).toNatClampNeg), .int (xs (x3 + (2 : Int32)).toNatClampNeg)]) (rest := [.long r]) ⟨hx, hb, hml, hown, hts⟩ (J_X12_turns l hIR h) (cwV 2 hts gL_law_X12_turns rfl rfl rfl hdV_X12_turns ⟨Nat.le_of_ble_eq_true rfl, Nat.le_of_ble_eq_true rfl⟩) (x_preV (ci := 12) hK hZ hA hWR (hIR 0 (by decide)) lR_0 rfl) rfl rfl hl.1 rfl (lv_room (Nat.le_of_ble_eq_true rfl)) dL_law_548 ⟨by show _ ≤ 600000; omega, by show _ ≤ 7302250; omega⟩) hWR hA (fun r2 ρ1 H2 locs2 h hk2 hWR2 => ?_)
  try dsimp only at h
  obtain ⟨hrr, hR2⟩ := h
  subst hrr
  have hWX2 := xW_other (lay := layR) (st := stR) hWX hk2 (fun c hc o ho z => hdis o ho c hc z.symm) hWR2.2.2
  refine W.lcmp hx hb dL_law_551 ?_
  refine lv_if_eq (tgt := 1193) hx hb dL_law_552 (by decide) (fun _ => ?_) (fun hc => absurd (lg_self r) hc)
  refine W.widen (k := cells + 1) (n := slots + 13) (by omega) (by omega) ?_
  exact hk σ1 ρ1 adX idsX H2 locs2 ls ⟨hWX2, hWR2, hdis⟩ hR2 hl
set_option maxHeartbeats 4000000 in
set_option maxRecDepth 100000 in
theorem law_c10 {p : Program} {l : Launch} {e : Env} {s : State} {m : MethodId} {below : List Frame} {meth : Method} {c : Code} {b L : Nat} {xs : Nat → Int32} (C0 : lw_At p s m meth c b L xs) {D : va_G} {KA : Nat → ClassId} {zs : ZS} {adX adR : Nat → Nat} {idsX : List Nat} {σ ρ : St} {H : Heap} {locs : List Loc} (hK : xK D KA s) (hZ : xZ zs (fun q => s.heap.size ≤ q) s) (hT : tW D KA adX idsX adR σ ρ s H locs) (hR : Rel idsX σ ρ) {x3 : Int32} {cells slots : Nat} (hcs : cells + 1 ≤ 600000 ∧ slots + 13 ≤ 7302250) (hin : ∀ k : Nat, 1 ≤ k → k < 6 → vp_in (x3 + nI k) L) {ls : Array Slot} (hl : lv_has ls 4 [(0, .ref b), (1, .ref (adX 0)), (2, .ref (adR 0)), (3, .int x3)]) {Q : State → Prop} (hk : ∀ (σ1 ρ1 : St) (adX1 : Nat → Nat) (ids1 : List Nat) (H1 : Heap) (locs1 : List Loc) (ls1 : Array Slot), tW D KA adX1 ids1 adR σ1 ρ1 s H1 locs1 → Rel ids1 σ1 ρ1 → lv_has ls1 4 [(0, .ref b), (1, .ref (adX1 0)), (2, .ref (adR 0)), (3, .int x3)] → W p l e room_1 s m #[Value.ref b] below meth c H1 locs1 (cells + 1) (slots + 13) Q (F0 m 1193 ls1 [])) : W p l e room_1 s m #[Value.ref b] below meth c H locs cells slots Q (F0 m 557 ls []) := by
  obtain ⟨hx, hb, hr, hml, hown, hts0, hX, hbl, hlocks, hgv⟩ := id C0
  have hts : ∀ w ∈ wsL_law, w.before #[Value.ref b] s = true := fun w h => hts0 w (wsL_law_in w h)
  have hown : s.vm.findClass RL = some m.cls := hown
  have hA : ∀ q : Nat, s.heap.size ≤ q → (fun q : Nat => s.heap.size ≤ q) q := fun _ h => h
  have hbA : ¬ (fun q : Nat => s.heap.size ≤ q) b := Nat.not_le.mpr hbl
  have hIX : ∀ c, c < 52 ∧ ¬ c = 19 → c ∈ idsX := hR.1
  have hIR : ∀ c, c < 35 → c ∈ idsR := fun c h => List.mem_range.mpr h
  have hS := hT.1.2.2
  refine lv_aload_n hx hb dL_law_557 rfl (lv_at hl 1 rfl) ?_
  refine lv_aload_n hx hb dL_law_558 rfl (lv_at hl 0 rfl) ?_
  refine lv_iload_n hx hb dL_law_559 rfl (lv_at hl 3 rfl) ?_
  refine lv_iconst (v := 1) hx hb dL_law_560 (by decide) ?_
  refine lv_iadd hx hb dL_law_561 ?_
  refine va_sld hx hb hX hbl hbA hS (hin 1 (by decide) (by decide)) dL_law_562 ?_
  have h := pc_runs (ids := idsX) (σ := σ) (ρ := ρ) (xs (x3 + (1 : Int32)).toNatClampNeg) hR
  refine x2_calli (va_runV (As := [.int (xs (x3 + (1 : Int32)).toNatClampNeg)]) (rest := []) ⟨hx, hb, hml, hown, hts⟩ (J_X11_runs l hIX h) (cwV 1 hts gL_law_X11_runs rfl rfl rfl hdV_X11_runs ⟨Nat.le_of_ble_eq_true rfl, Nat.le_of_ble_eq_true rfl⟩) (x_preV (ci := 11) hK hZ hA hT.1 (hIX 0 (by decide)) lX_0 rfl) rfl rfl hl.1 rfl (lv_room (Nat.le_of_ble_eq_true rfl)) dL_law_563 ⟨by show _ ≤ 600000; omega, by show _ ≤ 7302250; omega⟩) hT.1 hA (fun r σ1 H1 locs1 h hk1 hWX => ?_)
  have hdis := hT.2.2
  try dsimp only at h
  have hWR := xW_other (lay := layX) (st := stX) hT.2.1 hk1 hT.2.2 hWX.2.2
  have hS := hWX.2.2
  refine lv_aload_n hx hb dL_law_566 rfl (lv_at hl 2 rfl) ?_
  refine lv_aload_n hx hb dL_law_567 rfl (lv_at hl 0 rfl) ?_
  refine lv_iload_n hx hb dL_law_568 rfl (lv_at hl 3 rfl) ?_
  refine lv_iconst (v := 1) hx hb dL_law_569 (by decide) ?_
  refine lv_iadd hx hb dL_law_570 ?_
  refine va_sld hx hb hX hbl hbA hS (hin 1 (by decide) (by decide)) dL_law_571 ?_
  refine x2_calli (va_runV (As := [.int (xs (x3 + (1 : Int32)).toNatClampNeg)]) (rest := [.int r]) ⟨hx, hb, hml, hown, hts⟩ (J_X12_runs l hIR h) (cwV 1 hts gL_law_X12_runs rfl rfl rfl hdV_X12_runs ⟨Nat.le_of_ble_eq_true rfl, Nat.le_of_ble_eq_true rfl⟩) (x_preV (ci := 12) hK hZ hA hWR (hIR 0 (by decide)) lR_0 rfl) rfl rfl hl.1 rfl (lv_room (Nat.le_of_ble_eq_true rfl)) dL_law_572 ⟨by show _ ≤ 600000; omega, by show _ ≤ 7302250; omega⟩) hWR hA (fun r2 ρ1 H2 locs2 h hk2 hWR2 => ?_)
  try dsimp only at h
  obtain ⟨hrr, hR2⟩ := h
  subst hrr
  have hWX2 := xW_other (lay := layR) (st := stR) hWX hk2 (fun c hc o ho z => hdis o ho c hc z.symm) hWR2.2.2
  refine lv_icmp_eq (tgt := 1193) hx hb dL_law_575 (by decide) (fun _ => ?_) (fun hc => absurd rfl hc)
  refine W.widen (k := cells + 1) (n := slots + 13) (by omega) (by omega) ?_
  exact hk σ1 ρ1 adX idsX H2 locs2 ls ⟨hWX2, hWR2, hdis⟩ hR2 hl
set_option maxHeartbeats 4000000 in
set_option maxRecDepth 100000 in
theorem law_c11 {p : Program} {l : Launch} {e : Env} {s : State} {m : MethodId} {below : List Frame} {meth : Method} {c : Code} {b L : Nat} {xs : Nat → Int32} (C0 : lw_At p s m meth c b L xs) {D : va_G} {KA : Nat → ClassId} {zs : ZS} {adX adR : Nat → Nat} {idsX : List Nat} {σ ρ : St} {H : Heap} {locs : List Loc} (hK : xK D KA s) (hZ : xZ zs (fun q => s.heap.size ≤ q) s) (hT : tW D KA adX idsX adR σ ρ s H locs) (hR : Rel idsX σ ρ) {x3 : Int32} {cells slots : Nat} (hcs : cells + 1 ≤ 600000 ∧ slots + 13 ≤ 7302250) (hin : ∀ k : Nat, 1 ≤ k → k < 6 → vp_in (x3 + nI k) L) {ls : Array Slot} (hl : lv_has ls 4 [(0, .ref b), (1, .ref (adX 0)), (2, .ref (adR 0)), (3, .int x3)]) {Q : State → Prop} (hk : ∀ (σ1 ρ1 : St) (adX1 : Nat → Nat) (ids1 : List Nat) (H1 : Heap) (locs1 : List Loc) (ls1 : Array Slot), tW D KA adX1 ids1 adR σ1 ρ1 s H1 locs1 → Rel ids1 σ1 ρ1 → lv_has ls1 4 [(0, .ref b), (1, .ref (adX1 0)), (2, .ref (adR 0)), (3, .int x3)] → W p l e room_1 s m #[Value.ref b] below meth c H1 locs1 (cells + 1) (slots + 13) Q (F0 m 1193 ls1 [])) : W p l e room_1 s m #[Value.ref b] below meth c H locs cells slots Q (F0 m 580 ls []) := by
  obtain ⟨hx, hb, hr, hml, hown, hts0, hX, hbl, hlocks, hgv⟩ := id C0
  have hts : ∀ w ∈ wsL_law, w.before #[Value.ref b] s = true := fun w h => hts0 w (wsL_law_in w h)
  have hown : s.vm.findClass RL = some m.cls := hown
  have hA : ∀ q : Nat, s.heap.size ≤ q → (fun q : Nat => s.heap.size ≤ q) q := fun _ h => h
  have hbA : ¬ (fun q : Nat => s.heap.size ≤ q) b := Nat.not_le.mpr hbl
  have hIX : ∀ c, c < 52 ∧ ¬ c = 19 → c ∈ idsX := hR.1
  have hIR : ∀ c, c < 35 → c ∈ idsR := fun c h => List.mem_range.mpr h
  have hS := hT.1.2.2
  refine lv_aload_n hx hb dL_law_580 rfl (lv_at hl 1 rfl) ?_
  refine lv_aload_n hx hb dL_law_581 rfl (lv_at hl 0 rfl) ?_
  refine lv_iload_n hx hb dL_law_582 rfl (lv_at hl 3 rfl) ?_
  refine lv_iconst (v := 1) hx hb dL_law_583 (by decide) ?_
  refine lv_iadd hx hb dL_law_584 ?_
  refine va_sld hx hb hX hbl hbA hS (hin 1 (by decide) (by decide)) dL_law_585 ?_
  refine lv_aload_n hx hb dL_law_586 rfl (lv_at hl 0 rfl) ?_
  refine lv_iload_n hx hb dL_law_587 rfl (lv_at hl 3 rfl) ?_
  refine lv_iconst (v := 2) hx hb dL_law_588 (by decide) ?_
  refine lv_iadd hx hb dL_law_589 ?_
  refine va_sld hx hb hX hbl hbA hS (hin 2 (by decide) (by decide)) dL_law_590 ?_
  refine lv_i2l hx hb dL_law_591 rfl ?_
  refine lv_bipush (v := 32) hx hb dL_law_592 (by decide) ?_
  refine lv_lshl hx hb dL_law_594 rfl ?_
  refine lv_aload_n hx hb dL_law_595 rfl (lv_at hl 0 rfl) ?_
  refine lv_iload_n hx hb dL_law_596 rfl (lv_at hl 3 rfl) ?_
  refine lv_iconst (v := 3) hx hb dL_law_597 (by decide) ?_
  refine lv_iadd hx hb dL_law_598 ?_
  refine va_sld hx hb hX hbl hbA hS (hin 3 (by decide) (by decide)) dL_law_599 ?_
  refine lv_i2l hx hb dL_law_600 rfl ?_
  refine lv_ldc2 hx hb hown (hts _ (List.mem_append_left _ (List.mem_append_left _ (List.mem_append_left _ (List.mem_append_left _ (List.mem_append_left _ (List.mem_append_left _ (List.mem_append_left _ (List.mem_append_left _ (List.mem_append_left _ (List.mem_append_left _ (List.mem_append_left _ (List.mem_append_left _ (List.mem_append_left _ (List.mem_append_left _ (List.mem_append_left _ (List.mem_of_getElem? (i := 6) rfl))))))))))))))))) dL_law_601 ?_
  refine lv_land hx hb dL_law_604 ?_
  refine lv_lor hx hb dL_law_605 ?_
  have h := pc_feed (ids := idsX) (σ := σ) (ρ := ρ) (xs (x3 + (1 : Int32)).toNatClampNeg) (((xs (x3 + (2 : Int32)).toNatClampNeg).toInt64 <<< ((32 : Int32).toInt64 &&& 63)) ||| ((xs (x3 + (3 : Int32)).toNatClampNeg).toInt64 &&& (4294967295 : Int64))) hR
  refine x2_calli (va_runV (As := [.int (xs (x3 + (1 : Int32)).toNatClampNeg), .long (((xs (x3 + (2 : Int32)).toNatClampNeg).toInt64 <<< ((32 : Int32).toInt64 &&& 63)) ||| ((xs (x3 + (3 : Int32)).toNatClampNeg).toInt64 &&& (4294967295 : Int64)))]) (rest := []) ⟨hx, hb, hml, hown, hts⟩ (J_X11_feed l hIX h) (cwV 2 hts gL_law_X11_feed rfl rfl rfl hdV_X11_feed ⟨Nat.le_of_ble_eq_true rfl, Nat.le_of_ble_eq_true rfl⟩) (x_preV (ci := 11) hK hZ hA hT.1 (hIX 0 (by decide)) lX_0 rfl) rfl rfl hl.1 rfl (lv_room (Nat.le_of_ble_eq_true rfl)) dL_law_606 ⟨by show _ ≤ 600000; omega, by show _ ≤ 7302250; omega⟩) hT.1 hA (fun r σ1 H1 locs1 h hk1 hWX => ?_)
  have hdis := hT.2.2
  try dsimp only at h
  have hWR := xW_other (lay := layX) (st := stX) hT.2.1 hk1 hT.2.2 hWX.2.2
  have hS := hWX.2.2
  refine lv_aload_n hx hb dL_law_609 rfl (lv_at hl 2 rfl) ?_
  refine lv_aload_n hx hb dL_law_610 rfl (lv_at hl 0 rfl) ?_
  refine lv_iload_n hx hb dL_law_611 rfl (lv_at hl 3 rfl) ?_
  refine lv_iconst (v := 1) hx hb dL_law_612 (by decide) ?_
  refine lv_iadd hx hb dL_law_613 ?_
  refine va_sld hx hb hX hbl hbA hS (hin 1 (by decide) (by decide)) dL_law_614 ?_
  refine lv_aload_n hx hb dL_law_615 rfl (lv_at hl 0 rfl) ?_
  refine lv_iload_n hx hb dL_law_616 rfl (lv_at hl 3 rfl) ?_
  refine lv_iconst (v := 2) hx hb dL_law_617 (by decide) ?_
  refine lv_iadd hx hb dL_law_618 ?_
  refine va_sld hx hb hX hbl hbA hS (hin 2 (by decide) (by decide)) dL_law_619 ?_
  refine lv_i2l hx hb dL_law_620 rfl ?_
  refine lv_bipush (v := 32) hx hb dL_law_621 (by decide) ?_
  refine lv_lshl hx hb dL_law_623 rfl ?_
  refine lv_aload_n hx hb dL_law_624 rfl (lv_at hl 0 rfl) ?_
  refine lv_iload_n hx hb dL_law_625 rfl (lv_at hl 3 rfl) ?_
  refine lv_iconst (v := 3) hx hb dL_law_626 (by decide) ?_
  refine lv_iadd hx hb dL_law_627 ?_
  refine va_sld hx hb hX hbl hbA hS (hin 3 (by decide) (by decide)) dL_law_628 ?_
  refine lv_i2l hx hb dL_law_629 rfl ?_
  refine lv_ldc2 hx hb hown (hts _ (List.mem_append_left _ (List.mem_append_left _ (List.mem_append_left _ (List.mem_append_left _ (List.mem_append_left _ (List.mem_append_left _ (List.mem_append_left _ (List.mem_append_left _ (List.mem_append_left _ (List.mem_append_left _ (List.mem_append_left _ (List.mem_append_left _ (List.mem_append_left _ (List.mem_append_left _ (List.mem_append_left _ (List.mem_of_getElem? (i := 6) rfl))))))))))))))))) dL_law_630 ?_
  refine lv_land hx hb dL_law_633 ?_
  refine lv_lor hx hb dL_law_634 ?_
  refine x2_calli (va_runV (As := [.int (xs (x3 + (1 : Int32)).toNatClampNeg), .long (((xs (x3 + (2 : Int32)).toNatClampNeg).toInt64 <<< ((32 : Int32).toInt64 &&& 63)) ||| ((xs (x3 + (3 : Int32)).toNatClampNeg).toInt64 &&& (4294967295 : Int64)))]) (rest := [.int r]) ⟨hx, hb, hml, hown, hts⟩ (J_X12_feed l hIR h) (cwV 2 hts gL_law_X12_feed rfl rfl rfl hdV_X12_feed ⟨Nat.le_of_ble_eq_true rfl, Nat.le_of_ble_eq_true rfl⟩) (x_preV (ci := 12) hK hZ hA hWR (hIR 0 (by decide)) lR_0 rfl) rfl rfl hl.1 rfl (lv_room (Nat.le_of_ble_eq_true rfl)) dL_law_635 ⟨by show _ ≤ 600000; omega, by show _ ≤ 7302250; omega⟩) hWR hA (fun r2 ρ1 H2 locs2 h hk2 hWR2 => ?_)
  try dsimp only at h
  obtain ⟨hrr, hR2⟩ := h
  subst hrr
  have hWX2 := xW_other (lay := layR) (st := stR) hWX hk2 (fun c hc o ho z => hdis o ho c hc z.symm) hWR2.2.2
  refine lv_icmp_eq (tgt := 1193) hx hb dL_law_638 (by decide) (fun _ => ?_) (fun hc => absurd rfl hc)
  refine W.widen (k := cells + 1) (n := slots + 13) (by omega) (by omega) ?_
  exact hk σ1 ρ1 adX idsX H2 locs2 ls ⟨hWX2, hWR2, hdis⟩ hR2 hl
set_option maxHeartbeats 4000000 in
set_option maxRecDepth 100000 in
theorem law_c12 {p : Program} {l : Launch} {e : Env} {s : State} {m : MethodId} {below : List Frame} {meth : Method} {c : Code} {b L : Nat} {xs : Nat → Int32} (C0 : lw_At p s m meth c b L xs) {D : va_G} {KA : Nat → ClassId} {zs : ZS} {adX adR : Nat → Nat} {idsX : List Nat} {σ ρ : St} {H : Heap} {locs : List Loc} (hK : xK D KA s) (hZ : xZ zs (fun q => s.heap.size ≤ q) s) (hT : tW D KA adX idsX adR σ ρ s H locs) (hR : Rel idsX σ ρ) {x3 : Int32} {cells slots : Nat} (hcs : cells + 1 ≤ 600000 ∧ slots + 13 ≤ 7302250) (hin : ∀ k : Nat, 1 ≤ k → k < 6 → vp_in (x3 + nI k) L) {ls : Array Slot} (hl : lv_has ls 4 [(0, .ref b), (1, .ref (adX 0)), (2, .ref (adR 0)), (3, .int x3)]) {Q : State → Prop} (hk : ∀ (σ1 ρ1 : St) (adX1 : Nat → Nat) (ids1 : List Nat) (H1 : Heap) (locs1 : List Loc) (ls1 : Array Slot), tW D KA adX1 ids1 adR σ1 ρ1 s H1 locs1 → Rel ids1 σ1 ρ1 → lv_has ls1 4 [(0, .ref b), (1, .ref (adX1 0)), (2, .ref (adR 0)), (3, .int x3)] → W p l e room_1 s m #[Value.ref b] below meth c H1 locs1 (cells + 1) (slots + 13) Q (F0 m 1193 ls1 [])) : W p l e room_1 s m #[Value.ref b] below meth c H locs cells slots Q (F0 m 643 ls []) := by
  obtain ⟨hx, hb, hr, hml, hown, hts0, hX, hbl, hlocks, hgv⟩ := id C0
  have hts : ∀ w ∈ wsL_law, w.before #[Value.ref b] s = true := fun w h => hts0 w (wsL_law_in w h)
  have hown : s.vm.findClass RL = some m.cls := hown
  have hA : ∀ q : Nat, s.heap.size ≤ q → (fun q : Nat => s.heap.size ≤ q) q := fun _ h => h
  have hbA : ¬ (fun q : Nat => s.heap.size ≤ q) b := Nat.not_le.mpr hbl
  have hIX : ∀ c, c < 52 ∧ ¬ c = 19 → c ∈ idsX := hR.1
  have hIR : ∀ c, c < 35 → c ∈ idsR := fun c h => List.mem_range.mpr h
  have hS := hT.1.2.2
  refine lv_aload_n hx hb dL_law_643 rfl (lv_at hl 1 rfl) ?_
  have h := pc_text (ids := idsX) (σ := σ) (ρ := ρ)  hR
  refine x2_calli (va_runV (As := []) (rest := []) ⟨hx, hb, hml, hown, hts⟩ (J_X11_text l hIX h) (cwV 0 hts gL_law_X11_text rfl rfl rfl hdV_X11_text ⟨Nat.le_of_ble_eq_true rfl, Nat.le_of_ble_eq_true rfl⟩) (x_preV (ci := 11) hK hZ hA hT.1 (hIX 0 (by decide)) lX_0 rfl) rfl rfl hl.1 rfl (lv_room (Nat.le_of_ble_eq_true rfl)) dL_law_644 ⟨by show _ ≤ 600000; omega, by show _ ≤ 7302250; omega⟩) hT.1 hA (fun r σ1 H1 locs1 h hk1 hWX => ?_)
  have hdis := hT.2.2
  try dsimp only at h
  have hWR := xW_other (lay := layX) (st := stX) hT.2.1 hk1 hT.2.2 hWX.2.2
  have hS := hWX.2.2
  refine lv_aload_n hx hb dL_law_647 rfl (lv_at hl 2 rfl) ?_
  refine x2_calli (va_runV (As := []) (rest := [.int r]) ⟨hx, hb, hml, hown, hts⟩ (J_X12_text l hIR h) (cwV 0 hts gL_law_X12_text rfl rfl rfl hdV_X12_text ⟨Nat.le_of_ble_eq_true rfl, Nat.le_of_ble_eq_true rfl⟩) (x_preV (ci := 12) hK hZ hA hWR (hIR 0 (by decide)) lR_0 rfl) rfl rfl hl.1 rfl (lv_room (Nat.le_of_ble_eq_true rfl)) dL_law_648 ⟨by show _ ≤ 600000; omega, by show _ ≤ 7302250; omega⟩) hWR hA (fun r2 ρ1 H2 locs2 h hk2 hWR2 => ?_)
  try dsimp only at h
  obtain ⟨hrr, hR2⟩ := h
  subst hrr
  have hWX2 := xW_other (lay := layR) (st := stR) hWX hk2 (fun c hc o ho z => hdis o ho c hc z.symm) hWR2.2.2
  refine lv_icmp_eq (tgt := 1193) hx hb dL_law_651 (by decide) (fun _ => ?_) (fun hc => absurd rfl hc)
  refine W.widen (k := cells + 1) (n := slots + 13) (by omega) (by omega) ?_
  exact hk σ1 ρ1 adX idsX H2 locs2 ls ⟨hWX2, hWR2, hdis⟩ hR2 hl
set_option maxHeartbeats 4000000 in
set_option maxRecDepth 100000 in
theorem law_c13 {p : Program} {l : Launch} {e : Env} {s : State} {m : MethodId} {below : List Frame} {meth : Method} {c : Code} {b L : Nat} {xs : Nat → Int32} (C0 : lw_At p s m meth c b L xs) {D : va_G} {KA : Nat → ClassId} {zs : ZS} {adX adR : Nat → Nat} {idsX : List Nat} {σ ρ : St} {H : Heap} {locs : List Loc} (hK : xK D KA s) (hZ : xZ zs (fun q => s.heap.size ≤ q) s) (hT : tW D KA adX idsX adR σ ρ s H locs) (hR : Rel idsX σ ρ) {x3 : Int32} {cells slots : Nat} (hcs : cells + 1 ≤ 600000 ∧ slots + 13 ≤ 7302250) (hin : ∀ k : Nat, 1 ≤ k → k < 6 → vp_in (x3 + nI k) L) {ls : Array Slot} (hl : lv_has ls 4 [(0, .ref b), (1, .ref (adX 0)), (2, .ref (adR 0)), (3, .int x3)]) {Q : State → Prop} (hk : ∀ (σ1 ρ1 : St) (adX1 : Nat → Nat) (ids1 : List Nat) (H1 : Heap) (locs1 : List Loc) (ls1 : Array Slot), tW D KA adX1 ids1 adR σ1 ρ1 s H1 locs1 → Rel ids1 σ1 ρ1 → lv_has ls1 4 [(0, .ref b), (1, .ref (adX1 0)), (2, .ref (adR 0)), (3, .int x3)] → W p l e room_1 s m #[Value.ref b] below meth c H1 locs1 (cells + 1) (slots + 13) Q (F0 m 1193 ls1 [])) : W p l e room_1 s m #[Value.ref b] below meth c H locs cells slots Q (F0 m 656 ls []) := by
  obtain ⟨hx, hb, hr, hml, hown, hts0, hX, hbl, hlocks, hgv⟩ := id C0
  have hts : ∀ w ∈ wsL_law, w.before #[Value.ref b] s = true := fun w h => hts0 w (wsL_law_in w h)
  have hown : s.vm.findClass RL = some m.cls := hown
  have hA : ∀ q : Nat, s.heap.size ≤ q → (fun q : Nat => s.heap.size ≤ q) q := fun _ h => h
  have hbA : ¬ (fun q : Nat => s.heap.size ≤ q) b := Nat.not_le.mpr hbl
  have hIX : ∀ c, c < 52 ∧ ¬ c = 19 → c ∈ idsX := hR.1
  have hIR : ∀ c, c < 35 → c ∈ idsR := fun c h => List.mem_range.mpr h
  have hS := hT.1.2.2
  refine lv_aload_n hx hb dL_law_656 rfl (lv_at hl 1 rfl) ?_
  refine lv_aload_n hx hb dL_law_657 rfl (lv_at hl 0 rfl) ?_
  refine lv_iload_n hx hb dL_law_658 rfl (lv_at hl 3 rfl) ?_
  refine lv_iconst (v := 1) hx hb dL_law_659 (by decide) ?_
  refine lv_iadd hx hb dL_law_660 ?_
  refine va_sld hx hb hX hbl hbA hS (hin 1 (by decide) (by decide)) dL_law_661 ?_
  have h := pc_force (ids := idsX) (σ := σ) (ρ := ρ) (xs (x3 + (1 : Int32)).toNatClampNeg) hR
  refine x2_calli (va_runV (As := [.int (xs (x3 + (1 : Int32)).toNatClampNeg)]) (rest := []) ⟨hx, hb, hml, hown, hts⟩ (J_X11_force l hIX h) (cwV 1 hts gL_law_X11_force rfl rfl rfl hdV_X11_force ⟨Nat.le_of_ble_eq_true rfl, Nat.le_of_ble_eq_true rfl⟩) (x_preV (ci := 11) hK hZ hA hT.1 (hIX 0 (by decide)) lX_0 rfl) rfl rfl hl.1 rfl (lv_room (Nat.le_of_ble_eq_true rfl)) dL_law_662 ⟨by show _ ≤ 600000; omega, by show _ ≤ 7302250; omega⟩) hT.1 hA (fun r σ1 H1 locs1 h hk1 hWX => ?_)
  have hdis := hT.2.2
  try dsimp only at h
  have hWR := xW_other (lay := layX) (st := stX) hT.2.1 hk1 hT.2.2 hWX.2.2
  have hS := hWX.2.2
  refine lv_aload_n hx hb dL_law_665 rfl (lv_at hl 2 rfl) ?_
  refine lv_aload_n hx hb dL_law_666 rfl (lv_at hl 0 rfl) ?_
  refine lv_iload_n hx hb dL_law_667 rfl (lv_at hl 3 rfl) ?_
  refine lv_iconst (v := 1) hx hb dL_law_668 (by decide) ?_
  refine lv_iadd hx hb dL_law_669 ?_
  refine va_sld hx hb hX hbl hbA hS (hin 1 (by decide) (by decide)) dL_law_670 ?_
  refine x2_calli (va_runV (As := [.int (xs (x3 + (1 : Int32)).toNatClampNeg)]) (rest := [.int r]) ⟨hx, hb, hml, hown, hts⟩ (J_X12_force l hIR h) (cwV 1 hts gL_law_X12_force rfl rfl rfl hdV_X12_force ⟨Nat.le_of_ble_eq_true rfl, Nat.le_of_ble_eq_true rfl⟩) (x_preV (ci := 12) hK hZ hA hWR (hIR 0 (by decide)) lR_0 rfl) rfl rfl hl.1 rfl (lv_room (Nat.le_of_ble_eq_true rfl)) dL_law_671 ⟨by show _ ≤ 600000; omega, by show _ ≤ 7302250; omega⟩) hWR hA (fun r2 ρ1 H2 locs2 h hk2 hWR2 => ?_)
  try dsimp only at h
  obtain ⟨hrr, hR2⟩ := h
  subst hrr
  have hWX2 := xW_other (lay := layR) (st := stR) hWX hk2 (fun c hc o ho z => hdis o ho c hc z.symm) hWR2.2.2
  refine lv_icmp_eq (tgt := 1193) hx hb dL_law_674 (by decide) (fun _ => ?_) (fun hc => absurd rfl hc)
  refine W.widen (k := cells + 1) (n := slots + 13) (by omega) (by omega) ?_
  exact hk σ1 ρ1 adX idsX H2 locs2 ls ⟨hWX2, hWR2, hdis⟩ hR2 hl
set_option maxHeartbeats 4000000 in
set_option maxRecDepth 100000 in
theorem law_c14 {p : Program} {l : Launch} {e : Env} {s : State} {m : MethodId} {below : List Frame} {meth : Method} {c : Code} {b L : Nat} {xs : Nat → Int32} (C0 : lw_At p s m meth c b L xs) {D : va_G} {KA : Nat → ClassId} {zs : ZS} {adX adR : Nat → Nat} {idsX : List Nat} {σ ρ : St} {H : Heap} {locs : List Loc} (hK : xK D KA s) (hZ : xZ zs (fun q => s.heap.size ≤ q) s) (hT : tW D KA adX idsX adR σ ρ s H locs) (hR : Rel idsX σ ρ) {x3 : Int32} {cells slots : Nat} (hcs : cells + 1 ≤ 600000 ∧ slots + 13 ≤ 7302250) (hin : ∀ k : Nat, 1 ≤ k → k < 6 → vp_in (x3 + nI k) L) {ls : Array Slot} (hl : lv_has ls 4 [(0, .ref b), (1, .ref (adX 0)), (2, .ref (adR 0)), (3, .int x3)]) {Q : State → Prop} (hk : ∀ (σ1 ρ1 : St) (adX1 : Nat → Nat) (ids1 : List Nat) (H1 : Heap) (locs1 : List Loc) (ls1 : Array Slot), tW D KA adX1 ids1 adR σ1 ρ1 s H1 locs1 → Rel ids1 σ1 ρ1 → lv_has ls1 4 [(0, .ref b), (1, .ref (adX1 0)), (2, .ref (adR 0)), (3, .int x3)] → W p l e room_1 s m #[Value.ref b] below meth c H1 locs1 (cells + 1) (slots + 13) Q (F0 m 1193 ls1 [])) : W p l e room_1 s m #[Value.ref b] below meth c H locs cells slots Q (F0 m 679 ls []) := by
  obtain ⟨hx, hb, hr, hml, hown, hts0, hX, hbl, hlocks, hgv⟩ := id C0
  have hts : ∀ w ∈ wsL_law, w.before #[Value.ref b] s = true := fun w h => hts0 w (wsL_law_in w h)
  have hown : s.vm.findClass RL = some m.cls := hown
  have hA : ∀ q : Nat, s.heap.size ≤ q → (fun q : Nat => s.heap.size ≤ q) q := fun _ h => h
  have hbA : ¬ (fun q : Nat => s.heap.size ≤ q) b := Nat.not_le.mpr hbl
  have hIX : ∀ c, c < 52 ∧ ¬ c = 19 → c ∈ idsX := hR.1
  have hIR : ∀ c, c < 35 → c ∈ idsR := fun c h => List.mem_range.mpr h
  have hS := hT.1.2.2
  refine lv_aload_n hx hb dL_law_679 rfl (lv_at hl 1 rfl) ?_
  have h := pc_judge (ids := idsX) (σ := σ) (ρ := ρ)  hR
  refine x2_calli (va_runV (As := []) (rest := []) ⟨hx, hb, hml, hown, hts⟩ (J_X11_judge l hIX h) (cwV 0 hts gL_law_X11_judge rfl rfl rfl hdV_X11_judge ⟨Nat.le_of_ble_eq_true rfl, Nat.le_of_ble_eq_true rfl⟩) (x_preV (ci := 11) hK hZ hA hT.1 (hIX 0 (by decide)) lX_0 rfl) rfl rfl hl.1 rfl (lv_room (Nat.le_of_ble_eq_true rfl)) dL_law_680 ⟨by show _ ≤ 600000; omega, by show _ ≤ 7302250; omega⟩) hT.1 hA (fun r σ1 H1 locs1 h hk1 hWX => ?_)
  have hdis := hT.2.2
  try dsimp only at h
  have hWR := xW_other (lay := layX) (st := stX) hT.2.1 hk1 hT.2.2 hWX.2.2
  have hS := hWX.2.2
  refine lv_aload_n hx hb dL_law_683 rfl (lv_at hl 2 rfl) ?_
  refine x2_calli (va_runV (As := []) (rest := [.int r]) ⟨hx, hb, hml, hown, hts⟩ (J_X12_judge l hIR h) (cwV 0 hts gL_law_X12_judge rfl rfl rfl hdV_X12_judge ⟨Nat.le_of_ble_eq_true rfl, Nat.le_of_ble_eq_true rfl⟩) (x_preV (ci := 12) hK hZ hA hWR (hIR 0 (by decide)) lR_0 rfl) rfl rfl hl.1 rfl (lv_room (Nat.le_of_ble_eq_true rfl)) dL_law_684 ⟨by show _ ≤ 600000; omega, by show _ ≤ 7302250; omega⟩) hWR hA (fun r2 ρ1 H2 locs2 h hk2 hWR2 => ?_)
  try dsimp only at h
  obtain ⟨hrr, hR2⟩ := h
  subst hrr
  have hWX2 := xW_other (lay := layR) (st := stR) hWX hk2 (fun c hc o ho z => hdis o ho c hc z.symm) hWR2.2.2
  refine lv_icmp_eq (tgt := 1193) hx hb dL_law_687 (by decide) (fun _ => ?_) (fun hc => absurd rfl hc)
  refine W.widen (k := cells + 1) (n := slots + 13) (by omega) (by omega) ?_
  exact hk σ1 ρ1 adX idsX H2 locs2 ls ⟨hWX2, hWR2, hdis⟩ hR2 hl
set_option maxHeartbeats 4000000 in
set_option maxRecDepth 100000 in
theorem law_c15 {p : Program} {l : Launch} {e : Env} {s : State} {m : MethodId} {below : List Frame} {meth : Method} {c : Code} {b L : Nat} {xs : Nat → Int32} (C0 : lw_At p s m meth c b L xs) {D : va_G} {KA : Nat → ClassId} {zs : ZS} {adX adR : Nat → Nat} {idsX : List Nat} {σ ρ : St} {H : Heap} {locs : List Loc} (hK : xK D KA s) (hZ : xZ zs (fun q => s.heap.size ≤ q) s) (hT : tW D KA adX idsX adR σ ρ s H locs) (hR : Rel idsX σ ρ) {x3 : Int32} {cells slots : Nat} (hcs : cells + 1 ≤ 600000 ∧ slots + 13 ≤ 7302250) (hin : ∀ k : Nat, 1 ≤ k → k < 6 → vp_in (x3 + nI k) L) {ls : Array Slot} (hl : lv_has ls 4 [(0, .ref b), (1, .ref (adX 0)), (2, .ref (adR 0)), (3, .int x3)]) {Q : State → Prop} (hk : ∀ (σ1 ρ1 : St) (adX1 : Nat → Nat) (ids1 : List Nat) (H1 : Heap) (locs1 : List Loc) (ls1 : Array Slot), tW D KA adX1 ids1 adR σ1 ρ1 s H1 locs1 → Rel ids1 σ1 ρ1 → lv_has ls1 4 [(0, .ref b), (1, .ref (adX1 0)), (2, .ref (adR 0)), (3, .int x3)] → W p l e room_1 s m #[Value.ref b] below meth c H1 locs1 (cells + 1) (slots + 13) Q (F0 m 1193 ls1 [])) : W p l e room_1 s m #[Value.ref b] below meth c H locs cells slots Q (F0 m 692 ls []) := by
  obtain ⟨hx, hb, hr, hml, hown, hts0, hX, hbl, hlocks, hgv⟩ := id C0
  have hts : ∀ w ∈ wsL_law, w.before #[Value.ref b] s = true := fun w h => hts0 w (wsL_law_in w h)
  have hown : s.vm.findClass RL = some m.cls := hown
  have hA : ∀ q : Nat, s.heap.size ≤ q → (fun q : Nat => s.heap.size ≤ q) q := fun _ h => h
  have hbA : ¬ (fun q : Nat => s.heap.size ≤ q) b := Nat.not_le.mpr hbl
  have hIX : ∀ c, c < 52 ∧ ¬ c = 19 → c ∈ idsX := hR.1
  have hIR : ∀ c, c < 35 → c ∈ idsR := fun c h => List.mem_range.mpr h
  have hS := hT.1.2.2
  refine lv_aload_n hx hb dL_law_692 rfl (lv_at hl 1 rfl) ?_
  refine lv_aload_n hx hb dL_law_693 rfl (lv_at hl 0 rfl) ?_
  refine lv_iload_n hx hb dL_law_694 rfl (lv_at hl 3 rfl) ?_
  refine lv_iconst (v := 1) hx hb dL_law_695 (by decide) ?_
  refine lv_iadd hx hb dL_law_696 ?_
  refine va_sld hx hb hX hbl hbA hS (hin 1 (by decide) (by decide)) dL_law_697 ?_
  have h := pc_choose (ids := idsX) (σ := σ) (ρ := ρ) (xs (x3 + (1 : Int32)).toNatClampNeg) hR
  refine x2_calli (va_runV (As := [.int (xs (x3 + (1 : Int32)).toNatClampNeg)]) (rest := []) ⟨hx, hb, hml, hown, hts⟩ (J_X11_choose l hIX h) (cwV 1 hts gL_law_X11_choose rfl rfl rfl hdV_X11_choose ⟨Nat.le_of_ble_eq_true rfl, Nat.le_of_ble_eq_true rfl⟩) (x_preV (ci := 11) hK hZ hA hT.1 (hIX 0 (by decide)) lX_0 rfl) rfl rfl hl.1 rfl (lv_room (Nat.le_of_ble_eq_true rfl)) dL_law_698 ⟨by show _ ≤ 600000; omega, by show _ ≤ 7302250; omega⟩) hT.1 hA (fun r σ1 H1 locs1 h hk1 hWX => ?_)
  have hdis := hT.2.2
  try dsimp only at h
  have hWR := xW_other (lay := layX) (st := stX) hT.2.1 hk1 hT.2.2 hWX.2.2
  have hS := hWX.2.2
  refine lv_aload_n hx hb dL_law_701 rfl (lv_at hl 2 rfl) ?_
  refine lv_aload_n hx hb dL_law_702 rfl (lv_at hl 0 rfl) ?_
  refine lv_iload_n hx hb dL_law_703 rfl (lv_at hl 3 rfl) ?_
  refine lv_iconst (v := 1) hx hb dL_law_704 (by decide) ?_
  refine lv_iadd hx hb dL_law_705 ?_
  refine va_sld hx hb hX hbl hbA hS (hin 1 (by decide) (by decide)) dL_law_706 ?_
  refine x2_calli (va_runV (As := [.int (xs (x3 + (1 : Int32)).toNatClampNeg)]) (rest := [.int r]) ⟨hx, hb, hml, hown, hts⟩ (J_X12_choose l hIR h) (cwV 1 hts gL_law_X12_choose rfl rfl rfl hdV_X12_choose ⟨Nat.le_of_ble_eq_true rfl, Nat.le_of_ble_eq_true rfl⟩) (x_preV (ci := 12) hK hZ hA hWR (hIR 0 (by decide)) lR_0 rfl) rfl rfl hl.1 rfl (lv_room (Nat.le_of_ble_eq_true rfl)) dL_law_707 ⟨by show _ ≤ 600000; omega, by show _ ≤ 7302250; omega⟩) hWR hA (fun r2 ρ1 H2 locs2 h hk2 hWR2 => ?_)
  try dsimp only at h
  obtain ⟨hrr, hR2⟩ := h
  subst hrr
  have hWX2 := xW_other (lay := layR) (st := stR) hWX hk2 (fun c hc o ho z => hdis o ho c hc z.symm) hWR2.2.2
  refine lv_icmp_eq (tgt := 1193) hx hb dL_law_710 (by decide) (fun _ => ?_) (fun hc => absurd rfl hc)
  refine W.widen (k := cells + 1) (n := slots + 13) (by omega) (by omega) ?_
  exact hk σ1 ρ1 adX idsX H2 locs2 ls ⟨hWX2, hWR2, hdis⟩ hR2 hl
set_option maxHeartbeats 4000000 in
set_option maxRecDepth 100000 in
theorem law_c16 {p : Program} {l : Launch} {e : Env} {s : State} {m : MethodId} {below : List Frame} {meth : Method} {c : Code} {b L : Nat} {xs : Nat → Int32} (C0 : lw_At p s m meth c b L xs) {D : va_G} {KA : Nat → ClassId} {zs : ZS} {adX adR : Nat → Nat} {idsX : List Nat} {σ ρ : St} {H : Heap} {locs : List Loc} (hK : xK D KA s) (hZ : xZ zs (fun q => s.heap.size ≤ q) s) (hT : tW D KA adX idsX adR σ ρ s H locs) (hR : Rel idsX σ ρ) {x3 : Int32} {cells slots : Nat} (hcs : cells + 1 ≤ 600000 ∧ slots + 13 ≤ 7302250) (hin : ∀ k : Nat, 1 ≤ k → k < 6 → vp_in (x3 + nI k) L) {ls : Array Slot} (hl : lv_has ls 4 [(0, .ref b), (1, .ref (adX 0)), (2, .ref (adR 0)), (3, .int x3)]) {Q : State → Prop} (hk : ∀ (σ1 ρ1 : St) (adX1 : Nat → Nat) (ids1 : List Nat) (H1 : Heap) (locs1 : List Loc) (ls1 : Array Slot), tW D KA adX1 ids1 adR σ1 ρ1 s H1 locs1 → Rel ids1 σ1 ρ1 → lv_has ls1 4 [(0, .ref b), (1, .ref (adX1 0)), (2, .ref (adR 0)), (3, .int x3)] → W p l e room_1 s m #[Value.ref b] below meth c H1 locs1 (cells + 1) (slots + 13) Q (F0 m 1193 ls1 [])) : W p l e room_1 s m #[Value.ref b] below meth c H locs cells slots Q (F0 m 715 ls []) := by
  obtain ⟨hx, hb, hr, hml, hown, hts0, hX, hbl, hlocks, hgv⟩ := id C0
  have hts : ∀ w ∈ wsL_law, w.before #[Value.ref b] s = true := fun w h => hts0 w (wsL_law_in w h)
  have hown : s.vm.findClass RL = some m.cls := hown
  have hA : ∀ q : Nat, s.heap.size ≤ q → (fun q : Nat => s.heap.size ≤ q) q := fun _ h => h
  have hbA : ¬ (fun q : Nat => s.heap.size ≤ q) b := Nat.not_le.mpr hbl
  have hIX : ∀ c, c < 52 ∧ ¬ c = 19 → c ∈ idsX := hR.1
  have hIR : ∀ c, c < 35 → c ∈ idsR := fun c h => List.mem_range.mpr h
  have hS := hT.1.2.2
  refine lv_aload_n hx hb dL_law_715 rfl (lv_at hl 1 rfl) ?_
  have h := pc_lay (ids := idsX) (σ := σ) (ρ := ρ)  hR
  refine x2_calli (va_runV (As := []) (rest := []) ⟨hx, hb, hml, hown, hts⟩ (J_X11_lay l hIX h) (cwV 0 hts gL_law_X11_lay rfl rfl rfl hdV_X11_lay ⟨Nat.le_of_ble_eq_true rfl, Nat.le_of_ble_eq_true rfl⟩) (x_preV (ci := 11) hK hZ hA hT.1 (hIX 0 (by decide)) lX_0 rfl) rfl rfl hl.1 rfl (lv_room (Nat.le_of_ble_eq_true rfl)) dL_law_716 ⟨by show _ ≤ 600000; omega, by show _ ≤ 7302250; omega⟩) hT.1 hA (fun r σ1 H1 locs1 h hk1 hWX => ?_)
  have hdis := hT.2.2
  try dsimp only at h
  have hWR := xW_other (lay := layX) (st := stX) hT.2.1 hk1 hT.2.2 hWX.2.2
  have hS := hWX.2.2
  refine lv_aload_n hx hb dL_law_719 rfl (lv_at hl 2 rfl) ?_
  refine x2_calli (va_runV (As := []) (rest := [.int r]) ⟨hx, hb, hml, hown, hts⟩ (J_X12_lay l hIR h) (cwV 0 hts gL_law_X12_lay rfl rfl rfl hdV_X12_lay ⟨Nat.le_of_ble_eq_true rfl, Nat.le_of_ble_eq_true rfl⟩) (x_preV (ci := 12) hK hZ hA hWR (hIR 0 (by decide)) lR_0 rfl) rfl rfl hl.1 rfl (lv_room (Nat.le_of_ble_eq_true rfl)) dL_law_720 ⟨by show _ ≤ 600000; omega, by show _ ≤ 7302250; omega⟩) hWR hA (fun r2 ρ1 H2 locs2 h hk2 hWR2 => ?_)
  try dsimp only at h
  obtain ⟨hrr, hR2⟩ := h
  subst hrr
  have hWX2 := xW_other (lay := layR) (st := stR) hWX hk2 (fun c hc o ho z => hdis o ho c hc z.symm) hWR2.2.2
  refine lv_icmp_eq (tgt := 1193) hx hb dL_law_723 (by decide) (fun _ => ?_) (fun hc => absurd rfl hc)
  refine W.widen (k := cells + 1) (n := slots + 13) (by omega) (by omega) ?_
  exact hk σ1 ρ1 adX idsX H2 locs2 ls ⟨hWX2, hWR2, hdis⟩ hR2 hl
set_option maxHeartbeats 4000000 in
set_option maxRecDepth 100000 in
theorem law_c17 {p : Program} {l : Launch} {e : Env} {s : State} {m : MethodId} {below : List Frame} {meth : Method} {c : Code} {b L : Nat} {xs : Nat → Int32} (C0 : lw_At p s m meth c b L xs) {D : va_G} {KA : Nat → ClassId} {zs : ZS} {adX adR : Nat → Nat} {idsX : List Nat} {σ ρ : St} {H : Heap} {locs : List Loc} (hK : xK D KA s) (hZ : xZ zs (fun q => s.heap.size ≤ q) s) (hT : tW D KA adX idsX adR σ ρ s H locs) (hR : Rel idsX σ ρ) {x3 : Int32} {cells slots : Nat} (hcs : cells + 1 ≤ 600000 ∧ slots + 13 ≤ 7302250) (hin : ∀ k : Nat, 1 ≤ k → k < 6 → vp_in (x3 + nI k) L) {ls : Array Slot} (hl : lv_has ls 4 [(0, .ref b), (1, .ref (adX 0)), (2, .ref (adR 0)), (3, .int x3)]) {Q : State → Prop} (hk : ∀ (σ1 ρ1 : St) (adX1 : Nat → Nat) (ids1 : List Nat) (H1 : Heap) (locs1 : List Loc) (ls1 : Array Slot), tW D KA adX1 ids1 adR σ1 ρ1 s H1 locs1 → Rel ids1 σ1 ρ1 → lv_has ls1 4 [(0, .ref b), (1, .ref (adX1 0)), (2, .ref (adR 0)), (3, .int x3)] → W p l e room_1 s m #[Value.ref b] below meth c H1 locs1 (cells + 1) (slots + 13) Q (F0 m 1193 ls1 [])) : W p l e room_1 s m #[Value.ref b] below meth c H locs cells slots Q (F0 m 728 ls []) := by
  obtain ⟨hx, hb, hr, hml, hown, hts0, hX, hbl, hlocks, hgv⟩ := id C0
  have hts : ∀ w ∈ wsL_law, w.before #[Value.ref b] s = true := fun w h => hts0 w (wsL_law_in w h)
  have hown : s.vm.findClass RL = some m.cls := hown
  have hA : ∀ q : Nat, s.heap.size ≤ q → (fun q : Nat => s.heap.size ≤ q) q := fun _ h => h
  have hbA : ¬ (fun q : Nat => s.heap.size ≤ q) b := Nat.not_le.mpr hbl
  have hIX : ∀ c, c < 52 ∧ ¬ c = 19 → c ∈ idsX := hR.1
  have hIR : ∀ c, c < 35 → c ∈ idsR := fun c h => List.mem_range.mpr h
  have hS := hT.1.2.2
  refine lv_aload_n hx hb dL_law_728 rfl (lv_at hl 1 rfl) ?_
  refine lv_aload_n hx hb dL_law_729 rfl (lv_at hl 0 rfl) ?_
  refine lv_iload_n hx hb dL_law_730 rfl (lv_at hl 3 rfl) ?_
  refine lv_iconst (v := 1) hx hb dL_law_731 (by decide) ?_
  refine lv_iadd hx hb dL_law_732 ?_
  refine va_sld hx hb hX hbl hbA hS (hin 1 (by decide) (by decide)) dL_law_733 ?_
  refine lv_aload_n hx hb dL_law_734 rfl (lv_at hl 0 rfl) ?_
  refine lv_iload_n hx hb dL_law_735 rfl (lv_at hl 3 rfl) ?_
  refine lv_iconst (v := 2) hx hb dL_law_736 (by decide) ?_
  refine lv_iadd hx hb dL_law_737 ?_
  refine va_sld hx hb hX hbl hbA hS (hin 2 (by decide) (by decide)) dL_law_738 ?_
  have h := pc_cut (ids := idsX) (σ := σ) (ρ := ρ) (xs (x3 + (1 : Int32)).toNatClampNeg) (xs (x3 + (2 : Int32)).toNatClampNeg) hR
  refine x2_calli (va_runV (As := [.int (xs (x3 + (1 : Int32)).toNatClampNeg), .int (xs (x3 + (2 : Int32)).toNatClampNeg)]) (rest := []) ⟨hx, hb, hml, hown, hts⟩ (J_X11_cut l hIX h) (cwV 2 hts gL_law_X11_cut rfl rfl rfl hdV_X11_cut ⟨Nat.le_of_ble_eq_true rfl, Nat.le_of_ble_eq_true rfl⟩) (x_preV (ci := 11) hK hZ hA hT.1 (hIX 0 (by decide)) lX_0 rfl) rfl rfl hl.1 rfl (lv_room (Nat.le_of_ble_eq_true rfl)) dL_law_739 ⟨by show _ ≤ 600000; omega, by show _ ≤ 7302250; omega⟩) hT.1 hA (fun r σ1 H1 locs1 h hk1 hWX => ?_)
  have hdis := hT.2.2
  try dsimp only at h
  have hWR := xW_other (lay := layX) (st := stX) hT.2.1 hk1 hT.2.2 hWX.2.2
  have hS := hWX.2.2
  refine lv_aload_n hx hb dL_law_742 rfl (lv_at hl 2 rfl) ?_
  refine lv_aload_n hx hb dL_law_743 rfl (lv_at hl 0 rfl) ?_
  refine lv_iload_n hx hb dL_law_744 rfl (lv_at hl 3 rfl) ?_
  refine lv_iconst (v := 1) hx hb dL_law_745 (by decide) ?_
  refine lv_iadd hx hb dL_law_746 ?_
  refine va_sld hx hb hX hbl hbA hS (hin 1 (by decide) (by decide)) dL_law_747 ?_
  refine lv_aload_n hx hb dL_law_748 rfl (lv_at hl 0 rfl) ?_
  refine lv_iload_n hx hb dL_law_749 rfl (lv_at hl 3 rfl) ?_
  refine lv_iconst (v := 2) hx hb dL_law_750 (by decide) ?_
  refine lv_iadd hx hb dL_law_751 ?_
  refine va_sld hx hb hX hbl hbA hS (hin 2 (by decide) (by decide)) dL_law_752 ?_
  refine x2_calli (va_runV (As := [.int (xs (x3 + (1 : Int32)).toNatClampNeg), .int (xs (x3 + (2 : Int32)).toNatClampNeg)]) (rest := [.int r]) ⟨hx, hb, hml, hown, hts⟩ (J_X12_cut l hIR h) (cwV 2 hts gL_law_X12_cut rfl rfl rfl hdV_X12_cut ⟨Nat.le_of_ble_eq_true rfl, Nat.le_of_ble_eq_true rfl⟩) (x_preV (ci := 12) hK hZ hA hWR (hIR 0 (by decide)) lR_0 rfl) rfl rfl hl.1 rfl (lv_room (Nat.le_of_ble_eq_true rfl)) dL_law_753 ⟨by show _ ≤ 600000; omega, by show _ ≤ 7302250; omega⟩) hWR hA (fun r2 ρ1 H2 locs2 h hk2 hWR2 => ?_)
  try dsimp only at h
  obtain ⟨hrr, hR2⟩ := h
  subst hrr
  have hWX2 := xW_other (lay := layR) (st := stR) hWX hk2 (fun c hc o ho z => hdis o ho c hc z.symm) hWR2.2.2
  refine lv_icmp_eq (tgt := 1193) hx hb dL_law_756 (by decide) (fun _ => ?_) (fun hc => absurd rfl hc)
  refine W.widen (k := cells + 1) (n := slots + 13) (by omega) (by omega) ?_
  exact hk σ1 ρ1 adX idsX H2 locs2 ls ⟨hWX2, hWR2, hdis⟩ hR2 hl
set_option maxHeartbeats 4000000 in
set_option maxRecDepth 100000 in
theorem law_c18 {p : Program} {l : Launch} {e : Env} {s : State} {m : MethodId} {below : List Frame} {meth : Method} {c : Code} {b L : Nat} {xs : Nat → Int32} (C0 : lw_At p s m meth c b L xs) {D : va_G} {KA : Nat → ClassId} {zs : ZS} {adX adR : Nat → Nat} {idsX : List Nat} {σ ρ : St} {H : Heap} {locs : List Loc} (hK : xK D KA s) (hZ : xZ zs (fun q => s.heap.size ≤ q) s) (hT : tW D KA adX idsX adR σ ρ s H locs) (hR : Rel idsX σ ρ) {x3 : Int32} {cells slots : Nat} (hcs : cells + 1 ≤ 600000 ∧ slots + 13 ≤ 7302250) (hin : ∀ k : Nat, 1 ≤ k → k < 6 → vp_in (x3 + nI k) L) {ls : Array Slot} (hl : lv_has ls 4 [(0, .ref b), (1, .ref (adX 0)), (2, .ref (adR 0)), (3, .int x3)]) {Q : State → Prop} (hk : ∀ (σ1 ρ1 : St) (adX1 : Nat → Nat) (ids1 : List Nat) (H1 : Heap) (locs1 : List Loc) (ls1 : Array Slot), tW D KA adX1 ids1 adR σ1 ρ1 s H1 locs1 → Rel ids1 σ1 ρ1 → lv_has ls1 4 [(0, .ref b), (1, .ref (adX1 0)), (2, .ref (adR 0)), (3, .int x3)] → W p l e room_1 s m #[Value.ref b] below meth c H1 locs1 (cells + 1) (slots + 13) Q (F0 m 1193 ls1 [])) : W p l e room_1 s m #[Value.ref b] below meth c H locs cells slots Q (F0 m 761 ls []) := by
  obtain ⟨hx, hb, hr, hml, hown, hts0, hX, hbl, hlocks, hgv⟩ := id C0
  have hts : ∀ w ∈ wsL_law, w.before #[Value.ref b] s = true := fun w h => hts0 w (wsL_law_in w h)
  have hown : s.vm.findClass RL = some m.cls := hown
  have hA : ∀ q : Nat, s.heap.size ≤ q → (fun q : Nat => s.heap.size ≤ q) q := fun _ h => h
  have hbA : ¬ (fun q : Nat => s.heap.size ≤ q) b := Nat.not_le.mpr hbl
  have hIX : ∀ c, c < 52 ∧ ¬ c = 19 → c ∈ idsX := hR.1
  have hIR : ∀ c, c < 35 → c ∈ idsR := fun c h => List.mem_range.mpr h
  have hS := hT.1.2.2
  refine lv_aload_n hx hb dL_law_761 rfl (lv_at hl 1 rfl) ?_
  refine lv_aload_n hx hb dL_law_762 rfl (lv_at hl 0 rfl) ?_
  refine lv_iload_n hx hb dL_law_763 rfl (lv_at hl 3 rfl) ?_
  refine lv_iconst (v := 1) hx hb dL_law_764 (by decide) ?_
  refine lv_iadd hx hb dL_law_765 ?_
  refine va_sld hx hb hX hbl hbA hS (hin 1 (by decide) (by decide)) dL_law_766 ?_
  have h := pc_off (ids := idsX) (σ := σ) (ρ := ρ) (xs (x3 + (1 : Int32)).toNatClampNeg) hR
  refine x2_calli (va_runV (As := [.int (xs (x3 + (1 : Int32)).toNatClampNeg)]) (rest := []) ⟨hx, hb, hml, hown, hts⟩ (J_X11_off l hIX h) (cwV 1 hts gL_law_X11_off rfl rfl rfl hdV_X11_off ⟨Nat.le_of_ble_eq_true rfl, Nat.le_of_ble_eq_true rfl⟩) (x_preV (ci := 11) hK hZ hA hT.1 (hIX 0 (by decide)) lX_0 rfl) rfl rfl hl.1 rfl (lv_room (Nat.le_of_ble_eq_true rfl)) dL_law_767 ⟨by show _ ≤ 600000; omega, by show _ ≤ 7302250; omega⟩) hT.1 hA (fun r σ1 H1 locs1 h hk1 hWX => ?_)
  have hdis := hT.2.2
  try dsimp only at h
  have hWR := xW_other (lay := layX) (st := stX) hT.2.1 hk1 hT.2.2 hWX.2.2
  have hS := hWX.2.2
  refine lv_aload_n hx hb dL_law_770 rfl (lv_at hl 2 rfl) ?_
  refine lv_aload_n hx hb dL_law_771 rfl (lv_at hl 0 rfl) ?_
  refine lv_iload_n hx hb dL_law_772 rfl (lv_at hl 3 rfl) ?_
  refine lv_iconst (v := 1) hx hb dL_law_773 (by decide) ?_
  refine lv_iadd hx hb dL_law_774 ?_
  refine va_sld hx hb hX hbl hbA hS (hin 1 (by decide) (by decide)) dL_law_775 ?_
  refine x2_calli (va_runV (As := [.int (xs (x3 + (1 : Int32)).toNatClampNeg)]) (rest := [.int r]) ⟨hx, hb, hml, hown, hts⟩ (J_X12_off l hIR h) (cwV 1 hts gL_law_X12_off rfl rfl rfl hdV_X12_off ⟨Nat.le_of_ble_eq_true rfl, Nat.le_of_ble_eq_true rfl⟩) (x_preV (ci := 12) hK hZ hA hWR (hIR 0 (by decide)) lR_0 rfl) rfl rfl hl.1 rfl (lv_room (Nat.le_of_ble_eq_true rfl)) dL_law_776 ⟨by show _ ≤ 600000; omega, by show _ ≤ 7302250; omega⟩) hWR hA (fun r2 ρ1 H2 locs2 h hk2 hWR2 => ?_)
  try dsimp only at h
  obtain ⟨hrr, hR2⟩ := h
  subst hrr
  have hWX2 := xW_other (lay := layR) (st := stR) hWX hk2 (fun c hc o ho z => hdis o ho c hc z.symm) hWR2.2.2
  refine lv_icmp_eq (tgt := 1193) hx hb dL_law_779 (by decide) (fun _ => ?_) (fun hc => absurd rfl hc)
  refine W.widen (k := cells + 1) (n := slots + 13) (by omega) (by omega) ?_
  exact hk σ1 ρ1 adX idsX H2 locs2 ls ⟨hWX2, hWR2, hdis⟩ hR2 hl
set_option maxHeartbeats 4000000 in
set_option maxRecDepth 100000 in
theorem law_c19 {p : Program} {l : Launch} {e : Env} {s : State} {m : MethodId} {below : List Frame} {meth : Method} {c : Code} {b L : Nat} {xs : Nat → Int32} (C0 : lw_At p s m meth c b L xs) {D : va_G} {KA : Nat → ClassId} {zs : ZS} {adX adR : Nat → Nat} {idsX : List Nat} {σ ρ : St} {H : Heap} {locs : List Loc} (hK : xK D KA s) (hZ : xZ zs (fun q => s.heap.size ≤ q) s) (hT : tW D KA adX idsX adR σ ρ s H locs) (hR : Rel idsX σ ρ) {x3 : Int32} {cells slots : Nat} (hcs : cells + 1 ≤ 600000 ∧ slots + 13 ≤ 7302250) (hin : ∀ k : Nat, 1 ≤ k → k < 6 → vp_in (x3 + nI k) L) {ls : Array Slot} (hl : lv_has ls 4 [(0, .ref b), (1, .ref (adX 0)), (2, .ref (adR 0)), (3, .int x3)]) {Q : State → Prop} (hk : ∀ (σ1 ρ1 : St) (adX1 : Nat → Nat) (ids1 : List Nat) (H1 : Heap) (locs1 : List Loc) (ls1 : Array Slot), tW D KA adX1 ids1 adR σ1 ρ1 s H1 locs1 → Rel ids1 σ1 ρ1 → lv_has ls1 4 [(0, .ref b), (1, .ref (adX1 0)), (2, .ref (adR 0)), (3, .int x3)] → W p l e room_1 s m #[Value.ref b] below meth c H1 locs1 (cells + 1) (slots + 13) Q (F0 m 1193 ls1 [])) : W p l e room_1 s m #[Value.ref b] below meth c H locs cells slots Q (F0 m 784 ls []) := by
  obtain ⟨hx, hb, hr, hml, hown, hts0, hX, hbl, hlocks, hgv⟩ := id C0
  have hts : ∀ w ∈ wsL_law, w.before #[Value.ref b] s = true := fun w h => hts0 w (wsL_law_in w h)
  have hown : s.vm.findClass RL = some m.cls := hown
  have hA : ∀ q : Nat, s.heap.size ≤ q → (fun q : Nat => s.heap.size ≤ q) q := fun _ h => h
  have hbA : ¬ (fun q : Nat => s.heap.size ≤ q) b := Nat.not_le.mpr hbl
  have hIX : ∀ c, c < 52 ∧ ¬ c = 19 → c ∈ idsX := hR.1
  have hIR : ∀ c, c < 35 → c ∈ idsR := fun c h => List.mem_range.mpr h
  have hS := hT.1.2.2
  refine lv_aload_n hx hb dL_law_784 rfl (lv_at hl 1 rfl) ?_
  have h := pc_hangs (ids := idsX) (σ := σ) (ρ := ρ)  hR
  refine x2_calli (va_runV (As := []) (rest := []) ⟨hx, hb, hml, hown, hts⟩ (J_X11_hangs l hIX h) (cwV 0 hts gL_law_X11_hangs rfl rfl rfl hdV_X11_hangs ⟨Nat.le_of_ble_eq_true rfl, Nat.le_of_ble_eq_true rfl⟩) (x_preV (ci := 11) hK hZ hA hT.1 (hIX 0 (by decide)) lX_0 rfl) rfl rfl hl.1 rfl (lv_room (Nat.le_of_ble_eq_true rfl)) dL_law_785 ⟨by show _ ≤ 600000; omega, by show _ ≤ 7302250; omega⟩) hT.1 hA (fun r σ1 H1 locs1 h hk1 hWX => ?_)
  have hdis := hT.2.2
  try dsimp only at h
  have hWR := xW_other (lay := layX) (st := stX) hT.2.1 hk1 hT.2.2 hWX.2.2
  have hS := hWX.2.2
  refine lv_aload_n hx hb dL_law_788 rfl (lv_at hl 2 rfl) ?_
  refine x2_calli (va_runV (As := []) (rest := [.int r]) ⟨hx, hb, hml, hown, hts⟩ (J_X12_hangs l hIR h) (cwV 0 hts gL_law_X12_hangs rfl rfl rfl hdV_X12_hangs ⟨Nat.le_of_ble_eq_true rfl, Nat.le_of_ble_eq_true rfl⟩) (x_preV (ci := 12) hK hZ hA hWR (hIR 0 (by decide)) lR_0 rfl) rfl rfl hl.1 rfl (lv_room (Nat.le_of_ble_eq_true rfl)) dL_law_789 ⟨by show _ ≤ 600000; omega, by show _ ≤ 7302250; omega⟩) hWR hA (fun r2 ρ1 H2 locs2 h hk2 hWR2 => ?_)
  try dsimp only at h
  obtain ⟨hrr, hR2⟩ := h
  subst hrr
  have hWX2 := xW_other (lay := layR) (st := stR) hWX hk2 (fun c hc o ho z => hdis o ho c hc z.symm) hWR2.2.2
  refine lv_icmp_eq (tgt := 1193) hx hb dL_law_792 (by decide) (fun _ => ?_) (fun hc => absurd rfl hc)
  refine W.widen (k := cells + 1) (n := slots + 13) (by omega) (by omega) ?_
  exact hk σ1 ρ1 adX idsX H2 locs2 ls ⟨hWX2, hWR2, hdis⟩ hR2 hl
set_option maxHeartbeats 4000000 in
set_option maxRecDepth 100000 in
theorem law_c20 {p : Program} {l : Launch} {e : Env} {s : State} {m : MethodId} {below : List Frame} {meth : Method} {c : Code} {b L : Nat} {xs : Nat → Int32} (C0 : lw_At p s m meth c b L xs) {D : va_G} {KA : Nat → ClassId} {zs : ZS} {adX adR : Nat → Nat} {idsX : List Nat} {σ ρ : St} {H : Heap} {locs : List Loc} (hK : xK D KA s) (hZ : xZ zs (fun q => s.heap.size ≤ q) s) (hT : tW D KA adX idsX adR σ ρ s H locs) (hR : Rel idsX σ ρ) {x3 : Int32} {cells slots : Nat} (hcs : cells + 1 ≤ 600000 ∧ slots + 13 ≤ 7302250) (hin : ∀ k : Nat, 1 ≤ k → k < 6 → vp_in (x3 + nI k) L) {ls : Array Slot} (hl : lv_has ls 4 [(0, .ref b), (1, .ref (adX 0)), (2, .ref (adR 0)), (3, .int x3)]) {Q : State → Prop} (hk : ∀ (σ1 ρ1 : St) (adX1 : Nat → Nat) (ids1 : List Nat) (H1 : Heap) (locs1 : List Loc) (ls1 : Array Slot), tW D KA adX1 ids1 adR σ1 ρ1 s H1 locs1 → Rel ids1 σ1 ρ1 → lv_has ls1 4 [(0, .ref b), (1, .ref (adX1 0)), (2, .ref (adR 0)), (3, .int x3)] → W p l e room_1 s m #[Value.ref b] below meth c H1 locs1 (cells + 1) (slots + 13) Q (F0 m 1193 ls1 [])) : W p l e room_1 s m #[Value.ref b] below meth c H locs cells slots Q (F0 m 797 ls []) := by
  obtain ⟨hx, hb, hr, hml, hown, hts0, hX, hbl, hlocks, hgv⟩ := id C0
  have hts : ∀ w ∈ wsL_law, w.before #[Value.ref b] s = true := fun w h => hts0 w (wsL_law_in w h)
  have hown : s.vm.findClass RL = some m.cls := hown
  have hA : ∀ q : Nat, s.heap.size ≤ q → (fun q : Nat => s.heap.size ≤ q) q := fun _ h => h
  have hbA : ¬ (fun q : Nat => s.heap.size ≤ q) b := Nat.not_le.mpr hbl
  have hIX : ∀ c, c < 52 ∧ ¬ c = 19 → c ∈ idsX := hR.1
  have hIR : ∀ c, c < 35 → c ∈ idsR := fun c h => List.mem_range.mpr h
  have hS := hT.1.2.2
  refine lv_aload_n hx hb dL_law_797 rfl (lv_at hl 1 rfl) ?_
  refine lv_aload_n hx hb dL_law_798 rfl (lv_at hl 0 rfl) ?_
  refine lv_iload_n hx hb dL_law_799 rfl (lv_at hl 3 rfl) ?_
  refine lv_iconst (v := 1) hx hb dL_law_800 (by decide) ?_
  refine lv_iadd hx hb dL_law_801 ?_
  refine va_sld hx hb hX hbl hbA hS (hin 1 (by decide) (by decide)) dL_law_802 ?_
  refine lv_aload_n hx hb dL_law_803 rfl (lv_at hl 0 rfl) ?_
  refine lv_iload_n hx hb dL_law_804 rfl (lv_at hl 3 rfl) ?_
  refine lv_iconst (v := 2) hx hb dL_law_805 (by decide) ?_
  refine lv_iadd hx hb dL_law_806 ?_
  refine va_sld hx hb hX hbl hbA hS (hin 2 (by decide) (by decide)) dL_law_807 ?_
  have h := pc_bite (ids := idsX) (σ := σ) (ρ := ρ) (xs (x3 + (1 : Int32)).toNatClampNeg) (xs (x3 + (2 : Int32)).toNatClampNeg) hR
  refine x2_calli (va_runV (As := [.int (xs (x3 + (1 : Int32)).toNatClampNeg), .int (xs (x3 + (2 : Int32)).toNatClampNeg)]) (rest := []) ⟨hx, hb, hml, hown, hts⟩ (J_X11_bite l hIX h) (cwV 2 hts gL_law_X11_bite rfl rfl rfl hdV_X11_bite ⟨Nat.le_of_ble_eq_true rfl, Nat.le_of_ble_eq_true rfl⟩) (x_preV (ci := 11) hK hZ hA hT.1 (hIX 0 (by decide)) lX_0 rfl) rfl rfl hl.1 rfl (lv_room (Nat.le_of_ble_eq_true rfl)) dL_law_808 ⟨by show _ ≤ 600000; omega, by show _ ≤ 7302250; omega⟩) hT.1 hA (fun r σ1 H1 locs1 h hk1 hWX => ?_)
  have hdis := hT.2.2
  try dsimp only at h
  have hWR := xW_other (lay := layX) (st := stX) hT.2.1 hk1 hT.2.2 hWX.2.2
  have hS := hWX.2.2
  refine lv_aload_n hx hb dL_law_811 rfl (lv_at hl 2 rfl) ?_
  refine lv_aload_n hx hb dL_law_812 rfl (lv_at hl 0 rfl) ?_
  refine lv_iload_n hx hb dL_law_813 rfl (lv_at hl 3 rfl) ?_
  refine lv_iconst (v := 1) hx hb dL_law_814 (by decide) ?_
  refine lv_iadd hx hb dL_law_815 ?_
  refine va_sld hx hb hX hbl hbA hS (hin 1 (by decide) (by decide)) dL_law_816 ?_
  refine lv_aload_n hx hb dL_law_817 rfl (lv_at hl 0 rfl) ?_
  refine lv_iload_n hx hb dL_law_818 rfl (lv_at hl 3 rfl) ?_
  refine lv_iconst (v := 2) hx hb dL_law_819 (by decide) ?_
  refine lv_iadd hx hb dL_law_820 ?_
  refine va_sld hx hb hX hbl hbA hS (hin 2 (by decide) (by decide)) dL_law_821 ?_
  refine x2_calli (va_runV (As := [.int (xs (x3 + (1 : Int32)).toNatClampNeg), .int (xs (x3 + (2 : Int32)).toNatClampNeg)]) (rest := [.int r]) ⟨hx, hb, hml, hown, hts⟩ (J_X12_bite l hIR h) (cwV 2 hts gL_law_X12_bite rfl rfl rfl hdV_X12_bite ⟨Nat.le_of_ble_eq_true rfl, Nat.le_of_ble_eq_true rfl⟩) (x_preV (ci := 12) hK hZ hA hWR (hIR 0 (by decide)) lR_0 rfl) rfl rfl hl.1 rfl (lv_room (Nat.le_of_ble_eq_true rfl)) dL_law_822 ⟨by show _ ≤ 600000; omega, by show _ ≤ 7302250; omega⟩) hWR hA (fun r2 ρ1 H2 locs2 h hk2 hWR2 => ?_)
  try dsimp only at h
  obtain ⟨hrr, hR2⟩ := h
  subst hrr
  have hWX2 := xW_other (lay := layR) (st := stR) hWX hk2 (fun c hc o ho z => hdis o ho c hc z.symm) hWR2.2.2
  refine lv_icmp_eq (tgt := 1193) hx hb dL_law_825 (by decide) (fun _ => ?_) (fun hc => absurd rfl hc)
  refine W.widen (k := cells + 1) (n := slots + 13) (by omega) (by omega) ?_
  exact hk σ1 ρ1 adX idsX H2 locs2 ls ⟨hWX2, hWR2, hdis⟩ hR2 hl
set_option maxHeartbeats 4000000 in
set_option maxRecDepth 100000 in
theorem law_c21 {p : Program} {l : Launch} {e : Env} {s : State} {m : MethodId} {below : List Frame} {meth : Method} {c : Code} {b L : Nat} {xs : Nat → Int32} (C0 : lw_At p s m meth c b L xs) {D : va_G} {KA : Nat → ClassId} {zs : ZS} {adX adR : Nat → Nat} {idsX : List Nat} {σ ρ : St} {H : Heap} {locs : List Loc} (hK : xK D KA s) (hZ : xZ zs (fun q => s.heap.size ≤ q) s) (hT : tW D KA adX idsX adR σ ρ s H locs) (hR : Rel idsX σ ρ) {x3 : Int32} {cells slots : Nat} (hcs : cells + 1 ≤ 600000 ∧ slots + 13 ≤ 7302250) (hin : ∀ k : Nat, 1 ≤ k → k < 6 → vp_in (x3 + nI k) L) {ls : Array Slot} (hl : lv_has ls 4 [(0, .ref b), (1, .ref (adX 0)), (2, .ref (adR 0)), (3, .int x3)]) {Q : State → Prop} (hk : ∀ (σ1 ρ1 : St) (adX1 : Nat → Nat) (ids1 : List Nat) (H1 : Heap) (locs1 : List Loc) (ls1 : Array Slot), tW D KA adX1 ids1 adR σ1 ρ1 s H1 locs1 → Rel ids1 σ1 ρ1 → lv_has ls1 4 [(0, .ref b), (1, .ref (adX1 0)), (2, .ref (adR 0)), (3, .int x3)] → W p l e room_1 s m #[Value.ref b] below meth c H1 locs1 (cells + 1) (slots + 13) Q (F0 m 1193 ls1 [])) : W p l e room_1 s m #[Value.ref b] below meth c H locs cells slots Q (F0 m 830 ls []) := by
  obtain ⟨hx, hb, hr, hml, hown, hts0, hX, hbl, hlocks, hgv⟩ := id C0
  have hts : ∀ w ∈ wsL_law, w.before #[Value.ref b] s = true := fun w h => hts0 w (wsL_law_in w h)
  have hown : s.vm.findClass RL = some m.cls := hown
  have hA : ∀ q : Nat, s.heap.size ≤ q → (fun q : Nat => s.heap.size ≤ q) q := fun _ h => h
  have hbA : ¬ (fun q : Nat => s.heap.size ≤ q) b := Nat.not_le.mpr hbl
  have hIX : ∀ c, c < 52 ∧ ¬ c = 19 → c ∈ idsX := hR.1
  have hIR : ∀ c, c < 35 → c ∈ idsR := fun c h => List.mem_range.mpr h
  have hS := hT.1.2.2
  refine lv_aload_n hx hb dL_law_830 rfl (lv_at hl 1 rfl) ?_
  refine lv_aload_n hx hb dL_law_831 rfl (lv_at hl 0 rfl) ?_
  refine lv_iload_n hx hb dL_law_832 rfl (lv_at hl 3 rfl) ?_
  refine lv_iconst (v := 1) hx hb dL_law_833 (by decide) ?_
  refine lv_iadd hx hb dL_law_834 ?_
  refine va_sld hx hb hX hbl hbA hS (hin 1 (by decide) (by decide)) dL_law_835 ?_
  refine lv_aload_n hx hb dL_law_836 rfl (lv_at hl 0 rfl) ?_
  refine lv_iload_n hx hb dL_law_837 rfl (lv_at hl 3 rfl) ?_
  refine lv_iconst (v := 2) hx hb dL_law_838 (by decide) ?_
  refine lv_iadd hx hb dL_law_839 ?_
  refine va_sld hx hb hX hbl hbA hS (hin 2 (by decide) (by decide)) dL_law_840 ?_
  refine lv_aload_n hx hb dL_law_841 rfl (lv_at hl 0 rfl) ?_
  refine lv_iload_n hx hb dL_law_842 rfl (lv_at hl 3 rfl) ?_
  refine lv_iconst (v := 3) hx hb dL_law_843 (by decide) ?_
  refine lv_iadd hx hb dL_law_844 ?_
  refine va_sld hx hb hX hbl hbA hS (hin 3 (by decide) (by decide)) dL_law_845 ?_
  have h := pc_years (ids := idsX) (σ := σ) (ρ := ρ) (xs (x3 + (1 : Int32)).toNatClampNeg) (xs (x3 + (2 : Int32)).toNatClampNeg) (xs (x3 + (3 : Int32)).toNatClampNeg) hR
  refine x2_calli (va_runV (As := [.int (xs (x3 + (1 : Int32)).toNatClampNeg), .int (xs (x3 + (2 : Int32)).toNatClampNeg), .int (xs (x3 + (3 : Int32)).toNatClampNeg)]) (rest := []) ⟨hx, hb, hml, hown, hts⟩ (J_X11_years l hIX h) (cwV 3 hts gL_law_X11_years rfl rfl rfl hdV_X11_years ⟨Nat.le_of_ble_eq_true rfl, Nat.le_of_ble_eq_true rfl⟩) (x_preV (ci := 11) hK hZ hA hT.1 (hIX 0 (by decide)) lX_0 rfl) rfl rfl hl.1 rfl (lv_room (Nat.le_of_ble_eq_true rfl)) dL_law_846 ⟨by show _ ≤ 600000; omega, by show _ ≤ 7302250; omega⟩) hT.1 hA (fun r σ1 H1 locs1 h hk1 hWX => ?_)
  have hdis := hT.2.2
  try dsimp only at h
  have hWR := xW_other (lay := layX) (st := stX) hT.2.1 hk1 hT.2.2 hWX.2.2
  have hS := hWX.2.2
  refine lv_aload_n hx hb dL_law_849 rfl (lv_at hl 2 rfl) ?_
  refine lv_aload_n hx hb dL_law_850 rfl (lv_at hl 0 rfl) ?_
  refine lv_iload_n hx hb dL_law_851 rfl (lv_at hl 3 rfl) ?_
  refine lv_iconst (v := 1) hx hb dL_law_852 (by decide) ?_
  refine lv_iadd hx hb dL_law_853 ?_
  refine va_sld hx hb hX hbl hbA hS (hin 1 (by decide) (by decide)) dL_law_854 ?_
  refine lv_aload_n hx hb dL_law_855 rfl (lv_at hl 0 rfl) ?_
  refine lv_iload_n hx hb dL_law_856 rfl (lv_at hl 3 rfl) ?_
  refine lv_iconst (v := 2) hx hb dL_law_857 (by decide) ?_
  refine lv_iadd hx hb dL_law_858 ?_
  refine va_sld hx hb hX hbl hbA hS (hin 2 (by decide) (by decide)) dL_law_859 ?_
  refine lv_aload_n hx hb dL_law_860 rfl (lv_at hl 0 rfl) ?_
  refine lv_iload_n hx hb dL_law_861 rfl (lv_at hl 3 rfl) ?_
  refine lv_iconst (v := 3) hx hb dL_law_862 (by decide) ?_
  refine lv_iadd hx hb dL_law_863 ?_
  refine va_sld hx hb hX hbl hbA hS (hin 3 (by decide) (by decide)) dL_law_864 ?_
  refine x2_calli (va_runV (As := [.int (xs (x3 + (1 : Int32)).toNatClampNeg), .int (xs (x3 + (2 : Int32)).toNatClampNeg), .int (xs (x3 + (3 : Int32)).toNatClampNeg)]) (rest := [.int r]) ⟨hx, hb, hml, hown, hts⟩ (J_X12_years l hIR h) (cwV 3 hts gL_law_X12_years rfl rfl rfl hdV_X12_years ⟨Nat.le_of_ble_eq_true rfl, Nat.le_of_ble_eq_true rfl⟩) (x_preV (ci := 12) hK hZ hA hWR (hIR 0 (by decide)) lR_0 rfl) rfl rfl hl.1 rfl (lv_room (Nat.le_of_ble_eq_true rfl)) dL_law_865 ⟨by show _ ≤ 600000; omega, by show _ ≤ 7302250; omega⟩) hWR hA (fun r2 ρ1 H2 locs2 h hk2 hWR2 => ?_)
  try dsimp only at h
  obtain ⟨hrr, hR2⟩ := h
  subst hrr
  have hWX2 := xW_other (lay := layR) (st := stR) hWX hk2 (fun c hc o ho z => hdis o ho c hc z.symm) hWR2.2.2
  refine lv_icmp_eq (tgt := 1193) hx hb dL_law_868 (by decide) (fun _ => ?_) (fun hc => absurd rfl hc)
  refine W.widen (k := cells + 1) (n := slots + 13) (by omega) (by omega) ?_
  exact hk σ1 ρ1 adX idsX H2 locs2 ls ⟨hWX2, hWR2, hdis⟩ hR2 hl
set_option maxHeartbeats 4000000 in
set_option maxRecDepth 100000 in
theorem law_c22 {p : Program} {l : Launch} {e : Env} {s : State} {m : MethodId} {below : List Frame} {meth : Method} {c : Code} {b L : Nat} {xs : Nat → Int32} (C0 : lw_At p s m meth c b L xs) {D : va_G} {KA : Nat → ClassId} {zs : ZS} {adX adR : Nat → Nat} {idsX : List Nat} {σ ρ : St} {H : Heap} {locs : List Loc} (hK : xK D KA s) (hZ : xZ zs (fun q => s.heap.size ≤ q) s) (hT : tW D KA adX idsX adR σ ρ s H locs) (hR : Rel idsX σ ρ) {x3 : Int32} {cells slots : Nat} (hcs : cells + 1 ≤ 600000 ∧ slots + 13 ≤ 7302250) (hin : ∀ k : Nat, 1 ≤ k → k < 6 → vp_in (x3 + nI k) L) {ls : Array Slot} (hl : lv_has ls 4 [(0, .ref b), (1, .ref (adX 0)), (2, .ref (adR 0)), (3, .int x3)]) {Q : State → Prop} (hk : ∀ (σ1 ρ1 : St) (adX1 : Nat → Nat) (ids1 : List Nat) (H1 : Heap) (locs1 : List Loc) (ls1 : Array Slot), tW D KA adX1 ids1 adR σ1 ρ1 s H1 locs1 → Rel ids1 σ1 ρ1 → lv_has ls1 4 [(0, .ref b), (1, .ref (adX1 0)), (2, .ref (adR 0)), (3, .int x3)] → W p l e room_1 s m #[Value.ref b] below meth c H1 locs1 (cells + 1) (slots + 13) Q (F0 m 1193 ls1 [])) : W p l e room_1 s m #[Value.ref b] below meth c H locs cells slots Q (F0 m 873 ls []) := by
  obtain ⟨hx, hb, hr, hml, hown, hts0, hX, hbl, hlocks, hgv⟩ := id C0
  have hts : ∀ w ∈ wsL_law, w.before #[Value.ref b] s = true := fun w h => hts0 w (wsL_law_in w h)
  have hown : s.vm.findClass RL = some m.cls := hown
  have hA : ∀ q : Nat, s.heap.size ≤ q → (fun q : Nat => s.heap.size ≤ q) q := fun _ h => h
  have hbA : ¬ (fun q : Nat => s.heap.size ≤ q) b := Nat.not_le.mpr hbl
  have hIX : ∀ c, c < 52 ∧ ¬ c = 19 → c ∈ idsX := hR.1
  have hIR : ∀ c, c < 35 → c ∈ idsR := fun c h => List.mem_range.mpr h
  have hS := hT.1.2.2
  refine lv_aload_n hx hb dL_law_873 rfl (lv_at hl 1 rfl) ?_
  refine lv_aload_n hx hb dL_law_874 rfl (lv_at hl 0 rfl) ?_
  refine lv_iload_n hx hb dL_law_875 rfl (lv_at hl 3 rfl) ?_
  refine lv_iconst (v := 1) hx hb dL_law_876 (by decide) ?_
  refine lv_iadd hx hb dL_law_877 ?_
  refine va_sld hx hb hX hbl hbA hS (hin 1 (by decide) (by decide)) dL_law_878 ?_
  have h := pc_start (ids := idsX) (σ := σ) (ρ := ρ) (xs (x3 + (1 : Int32)).toNatClampNeg) hR
  refine x2_calli (va_runV (As := [.int (xs (x3 + (1 : Int32)).toNatClampNeg)]) (rest := []) ⟨hx, hb, hml, hown, hts⟩ (J_X11_start l hIX h) (cwV 1 hts gL_law_X11_start rfl rfl rfl hdV_X11_start ⟨Nat.le_of_ble_eq_true rfl, Nat.le_of_ble_eq_true rfl⟩) (x_preV (ci := 11) hK hZ hA hT.1 (hIX 0 (by decide)) lX_0 rfl) rfl rfl hl.1 rfl (lv_room (Nat.le_of_ble_eq_true rfl)) dL_law_879 ⟨by show _ ≤ 600000; omega, by show _ ≤ 7302250; omega⟩) hT.1 hA (fun r σ1 H1 locs1 h hk1 hWX => ?_)
  have hdis := hT.2.2
  try dsimp only at h
  have hWR := xW_other (lay := layX) (st := stX) hT.2.1 hk1 hT.2.2 hWX.2.2
  have hS := hWX.2.2
  refine lv_aload_n hx hb dL_law_882 rfl (lv_at hl 2 rfl) ?_
  refine lv_aload_n hx hb dL_law_883 rfl (lv_at hl 0 rfl) ?_
  refine lv_iload_n hx hb dL_law_884 rfl (lv_at hl 3 rfl) ?_
  refine lv_iconst (v := 1) hx hb dL_law_885 (by decide) ?_
  refine lv_iadd hx hb dL_law_886 ?_
  refine va_sld hx hb hX hbl hbA hS (hin 1 (by decide) (by decide)) dL_law_887 ?_
  refine x2_calli (va_runV (As := [.int (xs (x3 + (1 : Int32)).toNatClampNeg)]) (rest := [.int r]) ⟨hx, hb, hml, hown, hts⟩ (J_X12_start l hIR h) (cwV 1 hts gL_law_X12_start rfl rfl rfl hdV_X12_start ⟨Nat.le_of_ble_eq_true rfl, Nat.le_of_ble_eq_true rfl⟩) (x_preV (ci := 12) hK hZ hA hWR (hIR 0 (by decide)) lR_0 rfl) rfl rfl hl.1 rfl (lv_room (Nat.le_of_ble_eq_true rfl)) dL_law_888 ⟨by show _ ≤ 600000; omega, by show _ ≤ 7302250; omega⟩) hWR hA (fun r2 ρ1 H2 locs2 h hk2 hWR2 => ?_)
  try dsimp only at h
  obtain ⟨hrr, hR2⟩ := h
  subst hrr
  have hWX2 := xW_other (lay := layR) (st := stR) hWX hk2 (fun c hc o ho z => hdis o ho c hc z.symm) hWR2.2.2
  refine lv_icmp_eq (tgt := 1193) hx hb dL_law_891 (by decide) (fun _ => ?_) (fun hc => absurd rfl hc)
  refine W.widen (k := cells + 1) (n := slots + 13) (by omega) (by omega) ?_
  exact hk σ1 ρ1 adX idsX H2 locs2 ls ⟨hWX2, hWR2, hdis⟩ hR2 hl
set_option maxHeartbeats 4000000 in
set_option maxRecDepth 100000 in
theorem law_c23 {p : Program} {l : Launch} {e : Env} {s : State} {m : MethodId} {below : List Frame} {meth : Method} {c : Code} {b L : Nat} {xs : Nat → Int32} (C0 : lw_At p s m meth c b L xs) {D : va_G} {KA : Nat → ClassId} {zs : ZS} {adX adR : Nat → Nat} {idsX : List Nat} {σ ρ : St} {H : Heap} {locs : List Loc} (hK : xK D KA s) (hZ : xZ zs (fun q => s.heap.size ≤ q) s) (hT : tW D KA adX idsX adR σ ρ s H locs) (hR : Rel idsX σ ρ) {x3 : Int32} {cells slots : Nat} (hcs : cells + 1 ≤ 600000 ∧ slots + 13 ≤ 7302250) (hin : ∀ k : Nat, 1 ≤ k → k < 6 → vp_in (x3 + nI k) L) {ls : Array Slot} (hl : lv_has ls 4 [(0, .ref b), (1, .ref (adX 0)), (2, .ref (adR 0)), (3, .int x3)]) {Q : State → Prop} (hk : ∀ (σ1 ρ1 : St) (adX1 : Nat → Nat) (ids1 : List Nat) (H1 : Heap) (locs1 : List Loc) (ls1 : Array Slot), tW D KA adX1 ids1 adR σ1 ρ1 s H1 locs1 → Rel ids1 σ1 ρ1 → lv_has ls1 4 [(0, .ref b), (1, .ref (adX1 0)), (2, .ref (adR 0)), (3, .int x3)] → W p l e room_1 s m #[Value.ref b] below meth c H1 locs1 (cells + 1) (slots + 13) Q (F0 m 1193 ls1 [])) : W p l e room_1 s m #[Value.ref b] below meth c H locs cells slots Q (F0 m 896 ls []) := by
  obtain ⟨hx, hb, hr, hml, hown, hts0, hX, hbl, hlocks, hgv⟩ := id C0
  have hts : ∀ w ∈ wsL_law, w.before #[Value.ref b] s = true := fun w h => hts0 w (wsL_law_in w h)
  have hown : s.vm.findClass RL = some m.cls := hown
  have hA : ∀ q : Nat, s.heap.size ≤ q → (fun q : Nat => s.heap.size ≤ q) q := fun _ h => h
  have hbA : ¬ (fun q : Nat => s.heap.size ≤ q) b := Nat.not_le.mpr hbl
  have hIX : ∀ c, c < 52 ∧ ¬ c = 19 → c ∈ idsX := hR.1
  have hIR : ∀ c, c < 35 → c ∈ idsR := fun c h => List.mem_range.mpr h
  have hS := hT.1.2.2
  refine lv_aload_n hx hb dL_law_896 rfl (lv_at hl 1 rfl) ?_
  have h := pc_save (ids := idsX) (σ := σ) (ρ := ρ)  hR
  refine x2_calli (va_runV (As := []) (rest := []) ⟨hx, hb, hml, hown, hts⟩ (J_X11_save l hIX h) (cwV 0 hts gL_law_X11_save rfl rfl rfl hdV_X11_save ⟨Nat.le_of_ble_eq_true rfl, Nat.le_of_ble_eq_true rfl⟩) (x_preV (ci := 11) hK hZ hA hT.1 (hIX 0 (by decide)) lX_0 rfl) rfl rfl hl.1 rfl (lv_room (Nat.le_of_ble_eq_true rfl)) dL_law_897 ⟨by show _ ≤ 600000; omega, by show _ ≤ 7302250; omega⟩) hT.1 hA (fun r σ1 H1 locs1 h hk1 hWX => ?_)
  have hdis := hT.2.2
  try dsimp only at h
  have hWR := xW_other (lay := layX) (st := stX) hT.2.1 hk1 hT.2.2 hWX.2.2
  have hS := hWX.2.2
  refine lv_aload_n hx hb dL_law_900 rfl (lv_at hl 2 rfl) ?_
  refine x2_calli (va_runV (As := []) (rest := [.int r]) ⟨hx, hb, hml, hown, hts⟩ (J_X12_save l hIR h) (cwV 0 hts gL_law_X12_save rfl rfl rfl hdV_X12_save ⟨Nat.le_of_ble_eq_true rfl, Nat.le_of_ble_eq_true rfl⟩) (x_preV (ci := 12) hK hZ hA hWR (hIR 0 (by decide)) lR_0 rfl) rfl rfl hl.1 rfl (lv_room (Nat.le_of_ble_eq_true rfl)) dL_law_901 ⟨by show _ ≤ 600000; omega, by show _ ≤ 7302250; omega⟩) hWR hA (fun r2 ρ1 H2 locs2 h hk2 hWR2 => ?_)
  try dsimp only at h
  obtain ⟨hrr, hR2⟩ := h
  subst hrr
  have hWX2 := xW_other (lay := layR) (st := stR) hWX hk2 (fun c hc o ho z => hdis o ho c hc z.symm) hWR2.2.2
  refine lv_icmp_eq (tgt := 1193) hx hb dL_law_904 (by decide) (fun _ => ?_) (fun hc => absurd rfl hc)
  refine W.widen (k := cells + 1) (n := slots + 13) (by omega) (by omega) ?_
  exact hk σ1 ρ1 adX idsX H2 locs2 ls ⟨hWX2, hWR2, hdis⟩ hR2 hl
set_option maxHeartbeats 4000000 in
set_option maxRecDepth 100000 in
theorem law_c24 {p : Program} {l : Launch} {e : Env} {s : State} {m : MethodId} {below : List Frame} {meth : Method} {c : Code} {b L : Nat} {xs : Nat → Int32} (C0 : lw_At p s m meth c b L xs) {D : va_G} {KA : Nat → ClassId} {zs : ZS} {adX adR : Nat → Nat} {idsX : List Nat} {σ ρ : St} {H : Heap} {locs : List Loc} (hK : xK D KA s) (hZ : xZ zs (fun q => s.heap.size ≤ q) s) (hT : tW D KA adX idsX adR σ ρ s H locs) (hR : Rel idsX σ ρ) {x3 : Int32} {cells slots : Nat} (hcs : cells + 1 ≤ 600000 ∧ slots + 13 ≤ 7302250) (hin : ∀ k : Nat, 1 ≤ k → k < 6 → vp_in (x3 + nI k) L) {ls : Array Slot} (hl : lv_has ls 4 [(0, .ref b), (1, .ref (adX 0)), (2, .ref (adR 0)), (3, .int x3)]) {Q : State → Prop} (hk : ∀ (σ1 ρ1 : St) (adX1 : Nat → Nat) (ids1 : List Nat) (H1 : Heap) (locs1 : List Loc) (ls1 : Array Slot), tW D KA adX1 ids1 adR σ1 ρ1 s H1 locs1 → Rel ids1 σ1 ρ1 → lv_has ls1 4 [(0, .ref b), (1, .ref (adX1 0)), (2, .ref (adR 0)), (3, .int x3)] → W p l e room_1 s m #[Value.ref b] below meth c H1 locs1 (cells + 1) (slots + 13) Q (F0 m 1193 ls1 [])) : W p l e room_1 s m #[Value.ref b] below meth c H locs cells slots Q (F0 m 909 ls []) := by
  obtain ⟨hx, hb, hr, hml, hown, hts0, hX, hbl, hlocks, hgv⟩ := id C0
  have hts : ∀ w ∈ wsL_law, w.before #[Value.ref b] s = true := fun w h => hts0 w (wsL_law_in w h)
  have hown : s.vm.findClass RL = some m.cls := hown
  have hA : ∀ q : Nat, s.heap.size ≤ q → (fun q : Nat => s.heap.size ≤ q) q := fun _ h => h
  have hbA : ¬ (fun q : Nat => s.heap.size ≤ q) b := Nat.not_le.mpr hbl
  have hIX : ∀ c, c < 52 ∧ ¬ c = 19 → c ∈ idsX := hR.1
  have hIR : ∀ c, c < 35 → c ∈ idsR := fun c h => List.mem_range.mpr h
  have hS := hT.1.2.2
  refine lv_aload_n hx hb dL_law_909 rfl (lv_at hl 1 rfl) ?_
  have h := pc_image (ids := idsX) (σ := σ) (ρ := ρ)  hR
  refine x2_calli (va_runV (As := []) (rest := []) ⟨hx, hb, hml, hown, hts⟩ (J_X11_image l hIX h) (cwV 0 hts gL_law_X11_image rfl rfl rfl hdV_X11_image ⟨Nat.le_of_ble_eq_true rfl, Nat.le_of_ble_eq_true rfl⟩) (x_preV (ci := 11) hK hZ hA hT.1 (hIX 0 (by decide)) lX_0 rfl) rfl rfl hl.1 rfl (lv_room (Nat.le_of_ble_eq_true rfl)) dL_law_910 ⟨by show _ ≤ 600000; omega, by show _ ≤ 7302250; omega⟩) hT.1 hA (fun r σ1 H1 locs1 h hk1 hWX => ?_)
  have hdis := hT.2.2
  try dsimp only at h
  have hWR := xW_other (lay := layX) (st := stX) hT.2.1 hk1 hT.2.2 hWX.2.2
  have hS := hWX.2.2
  refine lv_aload_n hx hb dL_law_913 rfl (lv_at hl 2 rfl) ?_
  refine x2_calli (va_runV (As := []) (rest := [.int r]) ⟨hx, hb, hml, hown, hts⟩ (J_X12_image l hIR h) (cwV 0 hts gL_law_X12_image rfl rfl rfl hdV_X12_image ⟨Nat.le_of_ble_eq_true rfl, Nat.le_of_ble_eq_true rfl⟩) (x_preV (ci := 12) hK hZ hA hWR (hIR 0 (by decide)) lR_0 rfl) rfl rfl hl.1 rfl (lv_room (Nat.le_of_ble_eq_true rfl)) dL_law_914 ⟨by show _ ≤ 600000; omega, by show _ ≤ 7302250; omega⟩) hWR hA (fun r2 ρ1 H2 locs2 h hk2 hWR2 => ?_)
  try dsimp only at h
  obtain ⟨hrr, hR2⟩ := h
  subst hrr
  have hWX2 := xW_other (lay := layR) (st := stR) hWX hk2 (fun c hc o ho z => hdis o ho c hc z.symm) hWR2.2.2
  refine lv_icmp_eq (tgt := 1193) hx hb dL_law_917 (by decide) (fun _ => ?_) (fun hc => absurd rfl hc)
  refine W.widen (k := cells + 1) (n := slots + 13) (by omega) (by omega) ?_
  exact hk σ1 ρ1 adX idsX H2 locs2 ls ⟨hWX2, hWR2, hdis⟩ hR2 hl
set_option maxHeartbeats 4000000 in
set_option maxRecDepth 100000 in
theorem law_c25 {p : Program} {l : Launch} {e : Env} {s : State} {m : MethodId} {below : List Frame} {meth : Method} {c : Code} {b L : Nat} {xs : Nat → Int32} (C0 : lw_At p s m meth c b L xs) {D : va_G} {KA : Nat → ClassId} {zs : ZS} {adX adR : Nat → Nat} {idsX : List Nat} {σ ρ : St} {H : Heap} {locs : List Loc} (hK : xK D KA s) (hZ : xZ zs (fun q => s.heap.size ≤ q) s) (hT : tW D KA adX idsX adR σ ρ s H locs) (hR : Rel idsX σ ρ) {x3 : Int32} {cells slots : Nat} (hcs : cells + 1 ≤ 600000 ∧ slots + 13 ≤ 7302250) (hin : ∀ k : Nat, 1 ≤ k → k < 6 → vp_in (x3 + nI k) L) {ls : Array Slot} (hl : lv_has ls 4 [(0, .ref b), (1, .ref (adX 0)), (2, .ref (adR 0)), (3, .int x3)]) {Q : State → Prop} (hk : ∀ (σ1 ρ1 : St) (adX1 : Nat → Nat) (ids1 : List Nat) (H1 : Heap) (locs1 : List Loc) (ls1 : Array Slot), tW D KA adX1 ids1 adR σ1 ρ1 s H1 locs1 → Rel ids1 σ1 ρ1 → lv_has ls1 4 [(0, .ref b), (1, .ref (adX1 0)), (2, .ref (adR 0)), (3, .int x3)] → W p l e room_1 s m #[Value.ref b] below meth c H1 locs1 (cells + 1) (slots + 13) Q (F0 m 1193 ls1 [])) : W p l e room_1 s m #[Value.ref b] below meth c H locs cells slots Q (F0 m 922 ls []) := by
  obtain ⟨hx, hb, hr, hml, hown, hts0, hX, hbl, hlocks, hgv⟩ := id C0
  have hts : ∀ w ∈ wsL_law, w.before #[Value.ref b] s = true := fun w h => hts0 w (wsL_law_in w h)
  have hown : s.vm.findClass RL = some m.cls := hown
  have hA : ∀ q : Nat, s.heap.size ≤ q → (fun q : Nat => s.heap.size ≤ q) q := fun _ h => h
  have hbA : ¬ (fun q : Nat => s.heap.size ≤ q) b := Nat.not_le.mpr hbl
  have hIX : ∀ c, c < 52 ∧ ¬ c = 19 → c ∈ idsX := hR.1
  have hIR : ∀ c, c < 35 → c ∈ idsR := fun c h => List.mem_range.mpr h
  have hS := hT.1.2.2
  refine lv_aload_n hx hb dL_law_922 rfl (lv_at hl 1 rfl) ?_
  have h := pc_back (ids := idsX) (σ := σ) (ρ := ρ)  hR
  refine x2_calli (va_runV (As := []) (rest := []) ⟨hx, hb, hml, hown, hts⟩ (J_X11_back l hIX h) (cwV 0 hts gL_law_X11_back rfl rfl rfl hdV_X11_back ⟨Nat.le_of_ble_eq_true rfl, Nat.le_of_ble_eq_true rfl⟩) (x_preV (ci := 11) hK hZ hA hT.1 (hIX 0 (by decide)) lX_0 rfl) rfl rfl hl.1 rfl (lv_room (Nat.le_of_ble_eq_true rfl)) dL_law_923 ⟨by show _ ≤ 600000; omega, by show _ ≤ 7302250; omega⟩) hT.1 hA (fun r σ1 H1 locs1 h hk1 hWX => ?_)
  have hdis := hT.2.2
  try dsimp only at h
  have hWR := xW_other (lay := layX) (st := stX) hT.2.1 hk1 hT.2.2 hWX.2.2
  have hS := hWX.2.2
  refine lv_aload_n hx hb dL_law_926 rfl (lv_at hl 2 rfl) ?_
  refine x2_calli (va_runV (As := []) (rest := [.int r]) ⟨hx, hb, hml, hown, hts⟩ (J_X12_back l hIR h) (cwV 0 hts gL_law_X12_back rfl rfl rfl hdV_X12_back ⟨Nat.le_of_ble_eq_true rfl, Nat.le_of_ble_eq_true rfl⟩) (x_preV (ci := 12) hK hZ hA hWR (hIR 0 (by decide)) lR_0 rfl) rfl rfl hl.1 rfl (lv_room (Nat.le_of_ble_eq_true rfl)) dL_law_927 ⟨by show _ ≤ 600000; omega, by show _ ≤ 7302250; omega⟩) hWR hA (fun r2 ρ1 H2 locs2 h hk2 hWR2 => ?_)
  try dsimp only at h
  obtain ⟨hrr, hR2⟩ := h
  subst hrr
  have hWX2 := xW_other (lay := layR) (st := stR) hWX hk2 (fun c hc o ho z => hdis o ho c hc z.symm) hWR2.2.2
  refine lv_icmp_eq (tgt := 1193) hx hb dL_law_930 (by decide) (fun _ => ?_) (fun hc => absurd rfl hc)
  refine W.widen (k := cells + 1) (n := slots + 13) (by omega) (by omega) ?_
  exact hk σ1 ρ1 adX idsX H2 locs2 ls ⟨hWX2, hWR2, hdis⟩ hR2 hl
set_option maxHeartbeats 4000000 in
set_option maxRecDepth 100000 in
theorem law_c26 {p : Program} {l : Launch} {e : Env} {s : State} {m : MethodId} {below : List Frame} {meth : Method} {c : Code} {b L : Nat} {xs : Nat → Int32} (C0 : lw_At p s m meth c b L xs) {D : va_G} {KA : Nat → ClassId} {zs : ZS} {adX adR : Nat → Nat} {idsX : List Nat} {σ ρ : St} {H : Heap} {locs : List Loc} (hK : xK D KA s) (hZ : xZ zs (fun q => s.heap.size ≤ q) s) (hT : tW D KA adX idsX adR σ ρ s H locs) (hR : Rel idsX σ ρ) {x3 : Int32} {cells slots : Nat} (hcs : cells + 1 ≤ 600000 ∧ slots + 13 ≤ 7302250) (hin : ∀ k : Nat, 1 ≤ k → k < 6 → vp_in (x3 + nI k) L) {ls : Array Slot} (hl : lv_has ls 4 [(0, .ref b), (1, .ref (adX 0)), (2, .ref (adR 0)), (3, .int x3)]) {Q : State → Prop} (hk : ∀ (σ1 ρ1 : St) (adX1 : Nat → Nat) (ids1 : List Nat) (H1 : Heap) (locs1 : List Loc) (ls1 : Array Slot), tW D KA adX1 ids1 adR σ1 ρ1 s H1 locs1 → Rel ids1 σ1 ρ1 → lv_has ls1 4 [(0, .ref b), (1, .ref (adX1 0)), (2, .ref (adR 0)), (3, .int x3)] → W p l e room_1 s m #[Value.ref b] below meth c H1 locs1 (cells + 1) (slots + 13) Q (F0 m 1193 ls1 [])) : W p l e room_1 s m #[Value.ref b] below meth c H locs cells slots Q (F0 m 935 ls []) := by
  obtain ⟨hx, hb, hr, hml, hown, hts0, hX, hbl, hlocks, hgv⟩ := id C0
  have hts : ∀ w ∈ wsL_law, w.before #[Value.ref b] s = true := fun w h => hts0 w (wsL_law_in w h)
  have hown : s.vm.findClass RL = some m.cls := hown
  have hA : ∀ q : Nat, s.heap.size ≤ q → (fun q : Nat => s.heap.size ≤ q) q := fun _ h => h
  have hbA : ¬ (fun q : Nat => s.heap.size ≤ q) b := Nat.not_le.mpr hbl
  have hIX : ∀ c, c < 52 ∧ ¬ c = 19 → c ∈ idsX := hR.1
  have hIR : ∀ c, c < 35 → c ∈ idsR := fun c h => List.mem_range.mpr h
  have hS := hT.1.2.2
  refine lv_aload_n hx hb dL_law_935 rfl (lv_at hl 1 rfl) ?_
  refine lv_aload_n hx hb dL_law_936 rfl (lv_at hl 0 rfl) ?_
  refine lv_iload_n hx hb dL_law_937 rfl (lv_at hl 3 rfl) ?_
  refine lv_iconst (v := 1) hx hb dL_law_938 (by decide) ?_
  refine lv_iadd hx hb dL_law_939 ?_
  refine va_sld hx hb hX hbl hbA hS (hin 1 (by decide) (by decide)) dL_law_940 ?_
  have h := pc_count (ids := idsX) (σ := σ) (ρ := ρ) (xs (x3 + (1 : Int32)).toNatClampNeg) hR
  refine x2_calli (va_runV (As := [.int (xs (x3 + (1 : Int32)).toNatClampNeg)]) (rest := []) ⟨hx, hb, hml, hown, hts⟩ (J_X11_count l hIX h) (cwV 1 hts gL_law_X11_count rfl rfl rfl hdV_X11_count ⟨Nat.le_of_ble_eq_true rfl, Nat.le_of_ble_eq_true rfl⟩) (x_preV (ci := 11) hK hZ hA hT.1 (hIX 0 (by decide)) lX_0 rfl) rfl rfl hl.1 rfl (lv_room (Nat.le_of_ble_eq_true rfl)) dL_law_941 ⟨by show _ ≤ 600000; omega, by show _ ≤ 7302250; omega⟩) hT.1 hA (fun r σ1 H1 locs1 h hk1 hWX => ?_)
  have hdis := hT.2.2
  try dsimp only at h
  have hWR := xW_other (lay := layX) (st := stX) hT.2.1 hk1 hT.2.2 hWX.2.2
  have hS := hWX.2.2
  refine lv_aload_n hx hb dL_law_944 rfl (lv_at hl 2 rfl) ?_
  refine lv_aload_n hx hb dL_law_945 rfl (lv_at hl 0 rfl) ?_
  refine lv_iload_n hx hb dL_law_946 rfl (lv_at hl 3 rfl) ?_
  refine lv_iconst (v := 1) hx hb dL_law_947 (by decide) ?_
  refine lv_iadd hx hb dL_law_948 ?_
  refine va_sld hx hb hX hbl hbA hS (hin 1 (by decide) (by decide)) dL_law_949 ?_
  refine x2_calli (va_runV (As := [.int (xs (x3 + (1 : Int32)).toNatClampNeg)]) (rest := [.int r]) ⟨hx, hb, hml, hown, hts⟩ (J_X12_count l hIR h) (cwV 1 hts gL_law_X12_count rfl rfl rfl hdV_X12_count ⟨Nat.le_of_ble_eq_true rfl, Nat.le_of_ble_eq_true rfl⟩) (x_preV (ci := 12) hK hZ hA hWR (hIR 0 (by decide)) lR_0 rfl) rfl rfl hl.1 rfl (lv_room (Nat.le_of_ble_eq_true rfl)) dL_law_950 ⟨by show _ ≤ 600000; omega, by show _ ≤ 7302250; omega⟩) hWR hA (fun r2 ρ1 H2 locs2 h hk2 hWR2 => ?_)
  try dsimp only at h
  obtain ⟨hrr, hR2⟩ := h
  subst hrr
  have hWX2 := xW_other (lay := layR) (st := stR) hWX hk2 (fun c hc o ho z => hdis o ho c hc z.symm) hWR2.2.2
  refine lv_icmp_eq (tgt := 1193) hx hb dL_law_953 (by decide) (fun _ => ?_) (fun hc => absurd rfl hc)
  refine W.widen (k := cells + 1) (n := slots + 13) (by omega) (by omega) ?_
  exact hk σ1 ρ1 adX idsX H2 locs2 ls ⟨hWX2, hWR2, hdis⟩ hR2 hl
set_option maxHeartbeats 4000000 in
set_option maxRecDepth 100000 in
theorem law_c27 {p : Program} {l : Launch} {e : Env} {s : State} {m : MethodId} {below : List Frame} {meth : Method} {c : Code} {b L : Nat} {xs : Nat → Int32} (C0 : lw_At p s m meth c b L xs) {D : va_G} {KA : Nat → ClassId} {zs : ZS} {adX adR : Nat → Nat} {idsX : List Nat} {σ ρ : St} {H : Heap} {locs : List Loc} (hK : xK D KA s) (hZ : xZ zs (fun q => s.heap.size ≤ q) s) (hT : tW D KA adX idsX adR σ ρ s H locs) (hR : Rel idsX σ ρ) {x3 : Int32} {cells slots : Nat} (hcs : cells + 1 ≤ 600000 ∧ slots + 13 ≤ 7302250) (hin : ∀ k : Nat, 1 ≤ k → k < 6 → vp_in (x3 + nI k) L) {ls : Array Slot} (hl : lv_has ls 4 [(0, .ref b), (1, .ref (adX 0)), (2, .ref (adR 0)), (3, .int x3)]) {Q : State → Prop} (hk : ∀ (σ1 ρ1 : St) (adX1 : Nat → Nat) (ids1 : List Nat) (H1 : Heap) (locs1 : List Loc) (ls1 : Array Slot), tW D KA adX1 ids1 adR σ1 ρ1 s H1 locs1 → Rel ids1 σ1 ρ1 → lv_has ls1 4 [(0, .ref b), (1, .ref (adX1 0)), (2, .ref (adR 0)), (3, .int x3)] → W p l e room_1 s m #[Value.ref b] below meth c H1 locs1 (cells + 1) (slots + 13) Q (F0 m 1193 ls1 [])) : W p l e room_1 s m #[Value.ref b] below meth c H locs cells slots Q (F0 m 958 ls []) := by
  obtain ⟨hx, hb, hr, hml, hown, hts0, hX, hbl, hlocks, hgv⟩ := id C0
  have hts : ∀ w ∈ wsL_law, w.before #[Value.ref b] s = true := fun w h => hts0 w (wsL_law_in w h)
  have hown : s.vm.findClass RL = some m.cls := hown
  have hA : ∀ q : Nat, s.heap.size ≤ q → (fun q : Nat => s.heap.size ≤ q) q := fun _ h => h
  have hbA : ¬ (fun q : Nat => s.heap.size ≤ q) b := Nat.not_le.mpr hbl
  have hIX : ∀ c, c < 52 ∧ ¬ c = 19 → c ∈ idsX := hR.1
  have hIR : ∀ c, c < 35 → c ∈ idsR := fun c h => List.mem_range.mpr h
  have hS := hT.1.2.2
  refine lv_aload_n hx hb dL_law_958 rfl (lv_at hl 1 rfl) ?_
  refine lv_aload_n hx hb dL_law_959 rfl (lv_at hl 0 rfl) ?_
  refine lv_iload_n hx hb dL_law_960 rfl (lv_at hl 3 rfl) ?_
  refine lv_iconst (v := 1) hx hb dL_law_961 (by decide) ?_
  refine lv_iadd hx hb dL_law_962 ?_
  refine va_sld hx hb hX hbl hbA hS (hin 1 (by decide) (by decide)) dL_law_963 ?_
  refine lv_aload_n hx hb dL_law_964 rfl (lv_at hl 0 rfl) ?_
  refine lv_iload_n hx hb dL_law_965 rfl (lv_at hl 3 rfl) ?_
  refine lv_iconst (v := 2) hx hb dL_law_966 (by decide) ?_
  refine lv_iadd hx hb dL_law_967 ?_
  refine va_sld hx hb hX hbl hbA hS (hin 2 (by decide) (by decide)) dL_law_968 ?_
  refine lv_aload_n hx hb dL_law_969 rfl (lv_at hl 0 rfl) ?_
  refine lv_iload_n hx hb dL_law_970 rfl (lv_at hl 3 rfl) ?_
  refine lv_iconst (v := 3) hx hb dL_law_971 (by decide) ?_
  refine lv_iadd hx hb dL_law_972 ?_
  refine va_sld hx hb hX hbl hbA hS (hin 3 (by decide) (by decide)) dL_law_973 ?_
  have h := pc_sheet (ids := idsX) (σ := σ) (ρ := ρ) (xs (x3 + (1 : Int32)).toNatClampNeg) (xs (x3 + (2 : Int32)).toNatClampNeg) (xs (x3 + (3 : Int32)).toNatClampNeg) hR
  refine x2_calli (va_runV (As := [.int (xs (x3 + (1 : Int32)).toNatClampNeg), .int (xs (x3 + (2 : Int32)).toNatClampNeg), .int (xs (x3 + (3 : Int32)).toNatClampNeg)]) (rest := []) ⟨hx, hb, hml, hown, hts⟩ (J_X11_sheet l hIX h) (cwV 3 hts gL_law_X11_sheet rfl rfl rfl hdV_X11_sheet ⟨Nat.le_of_ble_eq_true rfl, Nat.le_of_ble_eq_true rfl⟩) (x_preV (ci := 11) hK hZ hA hT.1 (hIX 0 (by decide)) lX_0 rfl) rfl rfl hl.1 rfl (lv_room (Nat.le_of_ble_eq_true rfl)) dL_law_974 ⟨by show _ ≤ 600000; omega, by show _ ≤ 7302250; omega⟩) hT.1 hA (fun r σ1 H1 locs1 h hk1 hWX => ?_)
  have hdis := hT.2.2
  try dsimp only at h
  have hWR := xW_other (lay := layX) (st := stX) hT.2.1 hk1 hT.2.2 hWX.2.2
  have hS := hWX.2.2
  refine lv_aload_n hx hb dL_law_977 rfl (lv_at hl 2 rfl) ?_
  refine lv_aload_n hx hb dL_law_978 rfl (lv_at hl 0 rfl) ?_
  refine lv_iload_n hx hb dL_law_979 rfl (lv_at hl 3 rfl) ?_
  refine lv_iconst (v := 1) hx hb dL_law_980 (by decide) ?_
  refine lv_iadd hx hb dL_law_981 ?_
  refine va_sld hx hb hX hbl hbA hS (hin 1 (by decide) (by decide)) dL_law_982 ?_
  refine lv_aload_n hx hb dL_law_983 rfl (lv_at hl 0 rfl) ?_
  refine lv_iload_n hx hb dL_law_984 rfl (lv_at hl 3 rfl) ?_
  refine lv_iconst (v := 2) hx hb dL_law_985 (by decide) ?_
  refine lv_iadd hx hb dL_law_986 ?_
  refine va_sld hx hb hX hbl hbA hS (hin 2 (by decide) (by decide)) dL_law_987 ?_
  refine lv_aload_n hx hb dL_law_988 rfl (lv_at hl 0 rfl) ?_
  refine lv_iload_n hx hb dL_law_989 rfl (lv_at hl 3 rfl) ?_
  refine lv_iconst (v := 3) hx hb dL_law_990 (by decide) ?_
  refine lv_iadd hx hb dL_law_991 ?_
  refine va_sld hx hb hX hbl hbA hS (hin 3 (by decide) (by decide)) dL_law_992 ?_
  refine x2_calli (va_runV (As := [.int (xs (x3 + (1 : Int32)).toNatClampNeg), .int (xs (x3 + (2 : Int32)).toNatClampNeg), .int (xs (x3 + (3 : Int32)).toNatClampNeg)]) (rest := [.int r]) ⟨hx, hb, hml, hown, hts⟩ (J_X12_sheet l hIR h) (cwV 3 hts gL_law_X12_sheet rfl rfl rfl hdV_X12_sheet ⟨Nat.le_of_ble_eq_true rfl, Nat.le_of_ble_eq_true rfl⟩) (x_preV (ci := 12) hK hZ hA hWR (hIR 0 (by decide)) lR_0 rfl) rfl rfl hl.1 rfl (lv_room (Nat.le_of_ble_eq_true rfl)) dL_law_993 ⟨by show _ ≤ 600000; omega, by show _ ≤ 7302250; omega⟩) hWR hA (fun r2 ρ1 H2 locs2 h hk2 hWR2 => ?_)
  try dsimp only at h
  obtain ⟨hrr, hR2⟩ := h
  subst hrr
  have hWX2 := xW_other (lay := layR) (st := stR) hWX hk2 (fun c hc o ho z => hdis o ho c hc z.symm) hWR2.2.2
  refine lv_icmp_eq (tgt := 1193) hx hb dL_law_996 (by decide) (fun _ => ?_) (fun hc => absurd rfl hc)
  refine W.widen (k := cells + 1) (n := slots + 13) (by omega) (by omega) ?_
  exact hk σ1 ρ1 adX idsX H2 locs2 ls ⟨hWX2, hWR2, hdis⟩ hR2 hl
set_option maxHeartbeats 4000000 in
set_option maxRecDepth 100000 in
theorem law_c28 {p : Program} {l : Launch} {e : Env} {s : State} {m : MethodId} {below : List Frame} {meth : Method} {c : Code} {b L : Nat} {xs : Nat → Int32} (C0 : lw_At p s m meth c b L xs) {D : va_G} {KA : Nat → ClassId} {zs : ZS} {adX adR : Nat → Nat} {idsX : List Nat} {σ ρ : St} {H : Heap} {locs : List Loc} (hK : xK D KA s) (hZ : xZ zs (fun q => s.heap.size ≤ q) s) (hT : tW D KA adX idsX adR σ ρ s H locs) (hR : Rel idsX σ ρ) {x3 : Int32} {cells slots : Nat} (hcs : cells + 1 ≤ 600000 ∧ slots + 13 ≤ 7302250) (hin : ∀ k : Nat, 1 ≤ k → k < 6 → vp_in (x3 + nI k) L) {ls : Array Slot} (hl : lv_has ls 4 [(0, .ref b), (1, .ref (adX 0)), (2, .ref (adR 0)), (3, .int x3)]) {Q : State → Prop} (hk : ∀ (σ1 ρ1 : St) (adX1 : Nat → Nat) (ids1 : List Nat) (H1 : Heap) (locs1 : List Loc) (ls1 : Array Slot), tW D KA adX1 ids1 adR σ1 ρ1 s H1 locs1 → Rel ids1 σ1 ρ1 → lv_has ls1 4 [(0, .ref b), (1, .ref (adX1 0)), (2, .ref (adR 0)), (3, .int x3)] → W p l e room_1 s m #[Value.ref b] below meth c H1 locs1 (cells + 1) (slots + 13) Q (F0 m 1193 ls1 [])) : W p l e room_1 s m #[Value.ref b] below meth c H locs cells slots Q (F0 m 1001 ls []) := by
  obtain ⟨hx, hb, hr, hml, hown, hts0, hX, hbl, hlocks, hgv⟩ := id C0
  have hts : ∀ w ∈ wsL_law, w.before #[Value.ref b] s = true := fun w h => hts0 w (wsL_law_in w h)
  have hown : s.vm.findClass RL = some m.cls := hown
  have hA : ∀ q : Nat, s.heap.size ≤ q → (fun q : Nat => s.heap.size ≤ q) q := fun _ h => h
  have hbA : ¬ (fun q : Nat => s.heap.size ≤ q) b := Nat.not_le.mpr hbl
  have hIX : ∀ c, c < 52 ∧ ¬ c = 19 → c ∈ idsX := hR.1
  have hIR : ∀ c, c < 35 → c ∈ idsR := fun c h => List.mem_range.mpr h
  have hS := hT.1.2.2
  refine lv_aload_n hx hb dL_law_1001 rfl (lv_at hl 1 rfl) ?_
  refine lv_aload_n hx hb dL_law_1002 rfl (lv_at hl 0 rfl) ?_
  refine lv_iload_n hx hb dL_law_1003 rfl (lv_at hl 3 rfl) ?_
  refine lv_iconst (v := 1) hx hb dL_law_1004 (by decide) ?_
  refine lv_iadd hx hb dL_law_1005 ?_
  refine va_sld hx hb hX hbl hbA hS (hin 1 (by decide) (by decide)) dL_law_1006 ?_
  refine lv_aload_n hx hb dL_law_1007 rfl (lv_at hl 0 rfl) ?_
  refine lv_iload_n hx hb dL_law_1008 rfl (lv_at hl 3 rfl) ?_
  refine lv_iconst (v := 2) hx hb dL_law_1009 (by decide) ?_
  refine lv_iadd hx hb dL_law_1010 ?_
  refine va_sld hx hb hX hbl hbA hS (hin 2 (by decide) (by decide)) dL_law_1011 ?_
  refine lv_aload_n hx hb dL_law_1012 rfl (lv_at hl 0 rfl) ?_
  refine lv_iload_n hx hb dL_law_1013 rfl (lv_at hl 3 rfl) ?_
  refine lv_iconst (v := 3) hx hb dL_law_1014 (by decide) ?_
  refine lv_iadd hx hb dL_law_1015 ?_
  refine va_sld hx hb hX hbl hbA hS (hin 3 (by decide) (by decide)) dL_law_1016 ?_
  have h := pc_cell (ids := idsX) (σ := σ) (ρ := ρ) (xs (x3 + (1 : Int32)).toNatClampNeg) (xs (x3 + (2 : Int32)).toNatClampNeg) (xs (x3 + (3 : Int32)).toNatClampNeg) hR
  refine x2_calli (va_runV (As := [.int (xs (x3 + (1 : Int32)).toNatClampNeg), .int (xs (x3 + (2 : Int32)).toNatClampNeg), .int (xs (x3 + (3 : Int32)).toNatClampNeg)]) (rest := []) ⟨hx, hb, hml, hown, hts⟩ (J_X11_cell l hIX h) (cwV 3 hts gL_law_X11_cell rfl rfl rfl hdV_X11_cell ⟨Nat.le_of_ble_eq_true rfl, Nat.le_of_ble_eq_true rfl⟩) (x_preV (ci := 11) hK hZ hA hT.1 (hIX 0 (by decide)) lX_0 rfl) rfl rfl hl.1 rfl (lv_room (Nat.le_of_ble_eq_true rfl)) dL_law_1017 ⟨by show _ ≤ 600000; omega, by show _ ≤ 7302250; omega⟩) hT.1 hA (fun r σ1 H1 locs1 h hk1 hWX => ?_)
  have hdis := hT.2.2
  try dsimp only at h
  have hWR := xW_other (lay := layX) (st := stX) hT.2.1 hk1 hT.2.2 hWX.2.2
  have hS := hWX.2.2
  refine lv_aload_n hx hb dL_law_1020 rfl (lv_at hl 2 rfl) ?_
  refine lv_aload_n hx hb dL_law_1021 rfl (lv_at hl 0 rfl) ?_
  refine lv_iload_n hx hb dL_law_1022 rfl (lv_at hl 3 rfl) ?_
  refine lv_iconst (v := 1) hx hb dL_law_1023 (by decide) ?_
  refine lv_iadd hx hb dL_law_1024 ?_
  refine va_sld hx hb hX hbl hbA hS (hin 1 (by decide) (by decide)) dL_law_1025 ?_
  refine lv_aload_n hx hb dL_law_1026 rfl (lv_at hl 0 rfl) ?_
  refine lv_iload_n hx hb dL_law_1027 rfl (lv_at hl 3 rfl) ?_
  refine lv_iconst (v := 2) hx hb dL_law_1028 (by decide) ?_
  refine lv_iadd hx hb dL_law_1029 ?_
  refine va_sld hx hb hX hbl hbA hS (hin 2 (by decide) (by decide)) dL_law_1030 ?_
  refine lv_aload_n hx hb dL_law_1031 rfl (lv_at hl 0 rfl) ?_
  refine lv_iload_n hx hb dL_law_1032 rfl (lv_at hl 3 rfl) ?_
  refine lv_iconst (v := 3) hx hb dL_law_1033 (by decide) ?_
  refine lv_iadd hx hb dL_law_1034 ?_
  refine va_sld hx hb hX hbl hbA hS (hin 3 (by decide) (by decide)) dL_law_1035 ?_
  refine x2_calli (va_runV (As := [.int (xs (x3 + (1 : Int32)).toNatClampNeg), .int (xs (x3 + (2 : Int32)).toNatClampNeg), .int (xs (x3 + (3 : Int32)).toNatClampNeg)]) (rest := [.int r]) ⟨hx, hb, hml, hown, hts⟩ (J_X12_cell l hIR h) (cwV 3 hts gL_law_X12_cell rfl rfl rfl hdV_X12_cell ⟨Nat.le_of_ble_eq_true rfl, Nat.le_of_ble_eq_true rfl⟩) (x_preV (ci := 12) hK hZ hA hWR (hIR 0 (by decide)) lR_0 rfl) rfl rfl hl.1 rfl (lv_room (Nat.le_of_ble_eq_true rfl)) dL_law_1036 ⟨by show _ ≤ 600000; omega, by show _ ≤ 7302250; omega⟩) hWR hA (fun r2 ρ1 H2 locs2 h hk2 hWR2 => ?_)
  try dsimp only at h
  obtain ⟨hrr, hR2⟩ := h
  subst hrr
  have hWX2 := xW_other (lay := layR) (st := stR) hWX hk2 (fun c hc o ho z => hdis o ho c hc z.symm) hWR2.2.2
  refine lv_icmp_eq (tgt := 1193) hx hb dL_law_1039 (by decide) (fun _ => ?_) (fun hc => absurd rfl hc)
  refine W.widen (k := cells + 1) (n := slots + 13) (by omega) (by omega) ?_
  exact hk σ1 ρ1 adX idsX H2 locs2 ls ⟨hWX2, hWR2, hdis⟩ hR2 hl
set_option maxHeartbeats 4000000 in
set_option maxRecDepth 100000 in
theorem law_c29 {p : Program} {l : Launch} {e : Env} {s : State} {m : MethodId} {below : List Frame} {meth : Method} {c : Code} {b L : Nat} {xs : Nat → Int32} (C0 : lw_At p s m meth c b L xs) {D : va_G} {KA : Nat → ClassId} {zs : ZS} {adX adR : Nat → Nat} {idsX : List Nat} {σ ρ : St} {H : Heap} {locs : List Loc} (hK : xK D KA s) (hZ : xZ zs (fun q => s.heap.size ≤ q) s) (hT : tW D KA adX idsX adR σ ρ s H locs) (hR : Rel idsX σ ρ) {x3 : Int32} {cells slots : Nat} (hcs : cells + 1 ≤ 600000 ∧ slots + 13 ≤ 7302250) (hin : ∀ k : Nat, 1 ≤ k → k < 6 → vp_in (x3 + nI k) L) {ls : Array Slot} (hl : lv_has ls 4 [(0, .ref b), (1, .ref (adX 0)), (2, .ref (adR 0)), (3, .int x3)]) {Q : State → Prop} (hk : ∀ (σ1 ρ1 : St) (adX1 : Nat → Nat) (ids1 : List Nat) (H1 : Heap) (locs1 : List Loc) (ls1 : Array Slot), tW D KA adX1 ids1 adR σ1 ρ1 s H1 locs1 → Rel ids1 σ1 ρ1 → lv_has ls1 4 [(0, .ref b), (1, .ref (adX1 0)), (2, .ref (adR 0)), (3, .int x3)] → W p l e room_1 s m #[Value.ref b] below meth c H1 locs1 (cells + 1) (slots + 13) Q (F0 m 1193 ls1 [])) : W p l e room_1 s m #[Value.ref b] below meth c H locs cells slots Q (F0 m 1044 ls []) := by
  obtain ⟨hx, hb, hr, hml, hown, hts0, hX, hbl, hlocks, hgv⟩ := id C0
  have hts : ∀ w ∈ wsL_law, w.before #[Value.ref b] s = true := fun w h => hts0 w (wsL_law_in w h)
  have hown : s.vm.findClass RL = some m.cls := hown
  have hA : ∀ q : Nat, s.heap.size ≤ q → (fun q : Nat => s.heap.size ≤ q) q := fun _ h => h
  have hbA : ¬ (fun q : Nat => s.heap.size ≤ q) b := Nat.not_le.mpr hbl
  have hIX : ∀ c, c < 52 ∧ ¬ c = 19 → c ∈ idsX := hR.1
  have hIR : ∀ c, c < 35 → c ∈ idsR := fun c h => List.mem_range.mpr h
  have hS := hT.1.2.2
  refine lv_aload_n hx hb dL_law_1044 rfl (lv_at hl 1 rfl) ?_
  refine lv_aload_n hx hb dL_law_1045 rfl (lv_at hl 0 rfl) ?_
  refine lv_iload_n hx hb dL_law_1046 rfl (lv_at hl 3 rfl) ?_
  refine lv_iconst (v := 1) hx hb dL_law_1047 (by decide) ?_
  refine lv_iadd hx hb dL_law_1048 ?_
  refine va_sld hx hb hX hbl hbA hS (hin 1 (by decide) (by decide)) dL_law_1049 ?_
  refine lv_aload_n hx hb dL_law_1050 rfl (lv_at hl 0 rfl) ?_
  refine lv_iload_n hx hb dL_law_1051 rfl (lv_at hl 3 rfl) ?_
  refine lv_iconst (v := 2) hx hb dL_law_1052 (by decide) ?_
  refine lv_iadd hx hb dL_law_1053 ?_
  refine va_sld hx hb hX hbl hbA hS (hin 2 (by decide) (by decide)) dL_law_1054 ?_
  refine lv_aload_n hx hb dL_law_1055 rfl (lv_at hl 0 rfl) ?_
  refine lv_iload_n hx hb dL_law_1056 rfl (lv_at hl 3 rfl) ?_
  refine lv_iconst (v := 3) hx hb dL_law_1057 (by decide) ?_
  refine lv_iadd hx hb dL_law_1058 ?_
  refine va_sld hx hb hX hbl hbA hS (hin 3 (by decide) (by decide)) dL_law_1059 ?_
  refine lv_aload_n hx hb dL_law_1060 rfl (lv_at hl 0 rfl) ?_
  refine lv_iload_n hx hb dL_law_1061 rfl (lv_at hl 3 rfl) ?_
  refine lv_iconst (v := 4) hx hb dL_law_1062 (by decide) ?_
  refine lv_iadd hx hb dL_law_1063 ?_
  refine va_sld hx hb hX hbl hbA hS (hin 4 (by decide) (by decide)) dL_law_1064 ?_
  refine lv_aload_n hx hb dL_law_1065 rfl (lv_at hl 0 rfl) ?_
  refine lv_iload_n hx hb dL_law_1066 rfl (lv_at hl 3 rfl) ?_
  refine lv_iconst (v := 5) hx hb dL_law_1067 (by decide) ?_
  refine lv_iadd hx hb dL_law_1068 ?_
  refine va_sld hx hb hX hbl hbA hS (hin 5 (by decide) (by decide)) dL_law_1069 ?_
  have h := pc_copy (ids := idsX) (σ := σ) (ρ := ρ) (xs (x3 + (1 : Int32)).toNatClampNeg) (xs (x3 + (2 : Int32)).toNatClampNeg) (xs (x3 + (3 : Int32)).toNatClampNeg) (xs (x3 + (4 : Int32)).toNatClampNeg) (xs (x3 + (5 : Int32)).toNatClampNeg) hR
  refine x2_calli (va_runV (As := [.int (xs (x3 + (1 : Int32)).toNatClampNeg), .int (xs (x3 + (2 : Int32)).toNatClampNeg), .int (xs (x3 + (3 : Int32)).toNatClampNeg), .int (xs (x3 + (4 : Int32)).toNatClampNeg), .int (xs (x3 + (5 : Int32)).toNatClampNeg)]) (rest := []) ⟨hx, hb, hml, hown, hts⟩ (J_X11_copy l hIX h) (cwV 5 hts gL_law_X11_copy rfl rfl rfl hdV_X11_copy ⟨Nat.le_of_ble_eq_true rfl, Nat.le_of_ble_eq_true rfl⟩) (x_preV (ci := 11) hK hZ hA hT.1 (hIX 0 (by decide)) lX_0 rfl) rfl rfl hl.1 rfl (lv_room (Nat.le_of_ble_eq_true rfl)) dL_law_1070 ⟨by show _ ≤ 600000; omega, by show _ ≤ 7302250; omega⟩) hT.1 hA (fun r σ1 H1 locs1 h hk1 hWX => ?_)
  have hdis := hT.2.2
  try dsimp only at h
  have hWR := xW_other (lay := layX) (st := stX) hT.2.1 hk1 hT.2.2 hWX.2.2
  have hS := hWX.2.2
  refine lv_aload_n hx hb dL_law_1073 rfl (lv_at hl 2 rfl) ?_
  refine lv_aload_n hx hb dL_law_1074 rfl (lv_at hl 0 rfl) ?_
  refine lv_iload_n hx hb dL_law_1075 rfl (lv_at hl 3 rfl) ?_
  refine lv_iconst (v := 1) hx hb dL_law_1076 (by decide) ?_
  refine lv_iadd hx hb dL_law_1077 ?_
  refine va_sld hx hb hX hbl hbA hS (hin 1 (by decide) (by decide)) dL_law_1078 ?_
  refine lv_aload_n hx hb dL_law_1079 rfl (lv_at hl 0 rfl) ?_
  refine lv_iload_n hx hb dL_law_1080 rfl (lv_at hl 3 rfl) ?_
  refine lv_iconst (v := 2) hx hb dL_law_1081 (by decide) ?_
  refine lv_iadd hx hb dL_law_1082 ?_
  refine va_sld hx hb hX hbl hbA hS (hin 2 (by decide) (by decide)) dL_law_1083 ?_
  refine lv_aload_n hx hb dL_law_1084 rfl (lv_at hl 0 rfl) ?_
  refine lv_iload_n hx hb dL_law_1085 rfl (lv_at hl 3 rfl) ?_
  refine lv_iconst (v := 3) hx hb dL_law_1086 (by decide) ?_
  refine lv_iadd hx hb dL_law_1087 ?_
  refine va_sld hx hb hX hbl hbA hS (hin 3 (by decide) (by decide)) dL_law_1088 ?_
  refine lv_aload_n hx hb dL_law_1089 rfl (lv_at hl 0 rfl) ?_
  refine lv_iload_n hx hb dL_law_1090 rfl (lv_at hl 3 rfl) ?_
  refine lv_iconst (v := 4) hx hb dL_law_1091 (by decide) ?_
  refine lv_iadd hx hb dL_law_1092 ?_
  refine va_sld hx hb hX hbl hbA hS (hin 4 (by decide) (by decide)) dL_law_1093 ?_
  refine lv_aload_n hx hb dL_law_1094 rfl (lv_at hl 0 rfl) ?_
  refine lv_iload_n hx hb dL_law_1095 rfl (lv_at hl 3 rfl) ?_
  refine lv_iconst (v := 5) hx hb dL_law_1096 (by decide) ?_
  refine lv_iadd hx hb dL_law_1097 ?_
  refine va_sld hx hb hX hbl hbA hS (hin 5 (by decide) (by decide)) dL_law_1098 ?_
  refine x2_calli (va_runV (As := [.int (xs (x3 + (1 : Int32)).toNatClampNeg), .int (xs (x3 + (2 : Int32)).toNatClampNeg), .int (xs (x3 + (3 : Int32)).toNatClampNeg), .int (xs (x3 + (4 : Int32)).toNatClampNeg), .int (xs (x3 + (5 : Int32)).toNatClampNeg)]) (rest := [.int r]) ⟨hx, hb, hml, hown, hts⟩ (J_X12_copy l hIR h) (cwV 5 hts gL_law_X12_copy rfl rfl rfl hdV_X12_copy ⟨Nat.le_of_ble_eq_true rfl, Nat.le_of_ble_eq_true rfl⟩) (x_preV (ci := 12) hK hZ hA hWR (hIR 0 (by decide)) lR_0 rfl) rfl rfl hl.1 rfl (lv_room (Nat.le_of_ble_eq_true rfl)) dL_law_1099 ⟨by show _ ≤ 600000; omega, by show _ ≤ 7302250; omega⟩) hWR hA (fun r2 ρ1 H2 locs2 h hk2 hWR2 => ?_)
  try dsimp only at h
  obtain ⟨hrr, hR2⟩ := h
  subst hrr
  have hWX2 := xW_other (lay := layR) (st := stR) hWX hk2 (fun c hc o ho z => hdis o ho c hc z.symm) hWR2.2.2
  refine lv_icmp_eq (tgt := 1193) hx hb dL_law_1102 (by decide) (fun _ => ?_) (fun hc => absurd rfl hc)
  refine W.widen (k := cells + 1) (n := slots + 13) (by omega) (by omega) ?_
  exact hk σ1 ρ1 adX idsX H2 locs2 ls ⟨hWX2, hWR2, hdis⟩ hR2 hl
set_option maxHeartbeats 4000000 in
set_option maxRecDepth 100000 in
theorem law_c30 {p : Program} {l : Launch} {e : Env} {s : State} {m : MethodId} {below : List Frame} {meth : Method} {c : Code} {b L : Nat} {xs : Nat → Int32} (C0 : lw_At p s m meth c b L xs) {D : va_G} {KA : Nat → ClassId} {zs : ZS} {adX adR : Nat → Nat} {idsX : List Nat} {σ ρ : St} {H : Heap} {locs : List Loc} (hK : xK D KA s) (hZ : xZ zs (fun q => s.heap.size ≤ q) s) (hT : tW D KA adX idsX adR σ ρ s H locs) (hR : Rel idsX σ ρ) {x3 : Int32} {cells slots : Nat} (hcs : cells + 1 ≤ 600000 ∧ slots + 13 ≤ 7302250) (hin : ∀ k : Nat, 1 ≤ k → k < 6 → vp_in (x3 + nI k) L) {ls : Array Slot} (hl : lv_has ls 4 [(0, .ref b), (1, .ref (adX 0)), (2, .ref (adR 0)), (3, .int x3)]) {Q : State → Prop} (hk : ∀ (σ1 ρ1 : St) (adX1 : Nat → Nat) (ids1 : List Nat) (H1 : Heap) (locs1 : List Loc) (ls1 : Array Slot), tW D KA adX1 ids1 adR σ1 ρ1 s H1 locs1 → Rel ids1 σ1 ρ1 → lv_has ls1 4 [(0, .ref b), (1, .ref (adX1 0)), (2, .ref (adR 0)), (3, .int x3)] → W p l e room_1 s m #[Value.ref b] below meth c H1 locs1 (cells + 1) (slots + 13) Q (F0 m 1193 ls1 [])) : W p l e room_1 s m #[Value.ref b] below meth c H locs cells slots Q (F0 m 1107 ls []) := by
  obtain ⟨hx, hb, hr, hml, hown, hts0, hX, hbl, hlocks, hgv⟩ := id C0
  have hts : ∀ w ∈ wsL_law, w.before #[Value.ref b] s = true := fun w h => hts0 w (wsL_law_in w h)
  have hown : s.vm.findClass RL = some m.cls := hown
  have hA : ∀ q : Nat, s.heap.size ≤ q → (fun q : Nat => s.heap.size ≤ q) q := fun _ h => h
  have hbA : ¬ (fun q : Nat => s.heap.size ≤ q) b := Nat.not_le.mpr hbl
  have hIX : ∀ c, c < 52 ∧ ¬ c = 19 → c ∈ idsX := hR.1
  have hIR : ∀ c, c < 35 → c ∈ idsR := fun c h => List.mem_range.mpr h
  have hS := hT.1.2.2
  refine lv_aload_n hx hb dL_law_1107 rfl (lv_at hl 1 rfl) ?_
  refine lv_aload_n hx hb dL_law_1108 rfl (lv_at hl 0 rfl) ?_
  refine lv_iload_n hx hb dL_law_1109 rfl (lv_at hl 3 rfl) ?_
  refine lv_iconst (v := 1) hx hb dL_law_1110 (by decide) ?_
  refine lv_iadd hx hb dL_law_1111 ?_
  refine va_sld hx hb hX hbl hbA hS (hin 1 (by decide) (by decide)) dL_law_1112 ?_
  refine lv_aload_n hx hb dL_law_1113 rfl (lv_at hl 0 rfl) ?_
  refine lv_iload_n hx hb dL_law_1114 rfl (lv_at hl 3 rfl) ?_
  refine lv_iconst (v := 2) hx hb dL_law_1115 (by decide) ?_
  refine lv_iadd hx hb dL_law_1116 ?_
  refine va_sld hx hb hX hbl hbA hS (hin 2 (by decide) (by decide)) dL_law_1117 ?_
  refine lv_aload_n hx hb dL_law_1118 rfl (lv_at hl 0 rfl) ?_
  refine lv_iload_n hx hb dL_law_1119 rfl (lv_at hl 3 rfl) ?_
  refine lv_iconst (v := 3) hx hb dL_law_1120 (by decide) ?_
  refine lv_iadd hx hb dL_law_1121 ?_
  refine va_sld hx hb hX hbl hbA hS (hin 3 (by decide) (by decide)) dL_law_1122 ?_
  refine lv_aload_n hx hb dL_law_1123 rfl (lv_at hl 0 rfl) ?_
  refine lv_iload_n hx hb dL_law_1124 rfl (lv_at hl 3 rfl) ?_
  refine lv_iconst (v := 4) hx hb dL_law_1125 (by decide) ?_
  refine lv_iadd hx hb dL_law_1126 ?_
  refine va_sld hx hb hX hbl hbA hS (hin 4 (by decide) (by decide)) dL_law_1127 ?_
  have h := pc_drums (ids := idsX) (σ := σ) (ρ := ρ) (xs (x3 + (1 : Int32)).toNatClampNeg) (xs (x3 + (2 : Int32)).toNatClampNeg) (xs (x3 + (3 : Int32)).toNatClampNeg) (xs (x3 + (4 : Int32)).toNatClampNeg) hR
  refine x2_calli (va_runV (As := [.int (xs (x3 + (1 : Int32)).toNatClampNeg), .int (xs (x3 + (2 : Int32)).toNatClampNeg), .int (xs (x3 + (3 : Int32)).toNatClampNeg), .int (xs (x3 + (4 : Int32)).toNatClampNeg)]) (rest := []) ⟨hx, hb, hml, hown, hts⟩ (J_X11_drums l hIX h) (cwV 4 hts gL_law_X11_drums rfl rfl rfl hdV_X11_drums ⟨Nat.le_of_ble_eq_true rfl, Nat.le_of_ble_eq_true rfl⟩) (x_preV (ci := 11) hK hZ hA hT.1 (hIX 0 (by decide)) lX_0 rfl) rfl rfl hl.1 rfl (lv_room (Nat.le_of_ble_eq_true rfl)) dL_law_1128 ⟨by show _ ≤ 600000; omega, by show _ ≤ 7302250; omega⟩) hT.1 hA (fun r σ1 H1 locs1 h hk1 hWX => ?_)
  have hdis := hT.2.2
  try dsimp only at h
  have hWR := xW_other (lay := layX) (st := stX) hT.2.1 hk1 hT.2.2 hWX.2.2
  have hS := hWX.2.2
  refine lv_aload_n hx hb dL_law_1131 rfl (lv_at hl 2 rfl) ?_
  refine lv_aload_n hx hb dL_law_1132 rfl (lv_at hl 0 rfl) ?_
  refine lv_iload_n hx hb dL_law_1133 rfl (lv_at hl 3 rfl) ?_
  refine lv_iconst (v := 1) hx hb dL_law_1134 (by decide) ?_
  refine lv_iadd hx hb dL_law_1135 ?_
  refine va_sld hx hb hX hbl hbA hS (hin 1 (by decide) (by decide)) dL_law_1136 ?_
  refine lv_aload_n hx hb dL_law_1137 rfl (lv_at hl 0 rfl) ?_
  refine lv_iload_n hx hb dL_law_1138 rfl (lv_at hl 3 rfl) ?_
  refine lv_iconst (v := 2) hx hb dL_law_1139 (by decide) ?_
  refine lv_iadd hx hb dL_law_1140 ?_
  refine va_sld hx hb hX hbl hbA hS (hin 2 (by decide) (by decide)) dL_law_1141 ?_
  refine lv_aload_n hx hb dL_law_1142 rfl (lv_at hl 0 rfl) ?_
  refine lv_iload_n hx hb dL_law_1143 rfl (lv_at hl 3 rfl) ?_
  refine lv_iconst (v := 3) hx hb dL_law_1144 (by decide) ?_
  refine lv_iadd hx hb dL_law_1145 ?_
  refine va_sld hx hb hX hbl hbA hS (hin 3 (by decide) (by decide)) dL_law_1146 ?_
  refine lv_aload_n hx hb dL_law_1147 rfl (lv_at hl 0 rfl) ?_
  refine lv_iload_n hx hb dL_law_1148 rfl (lv_at hl 3 rfl) ?_
  refine lv_iconst (v := 4) hx hb dL_law_1149 (by decide) ?_
  refine lv_iadd hx hb dL_law_1150 ?_
  refine va_sld hx hb hX hbl hbA hS (hin 4 (by decide) (by decide)) dL_law_1151 ?_
  refine x2_calli (va_runV (As := [.int (xs (x3 + (1 : Int32)).toNatClampNeg), .int (xs (x3 + (2 : Int32)).toNatClampNeg), .int (xs (x3 + (3 : Int32)).toNatClampNeg), .int (xs (x3 + (4 : Int32)).toNatClampNeg)]) (rest := [.int r]) ⟨hx, hb, hml, hown, hts⟩ (J_X12_drums l hIR h) (cwV 4 hts gL_law_X12_drums rfl rfl rfl hdV_X12_drums ⟨Nat.le_of_ble_eq_true rfl, Nat.le_of_ble_eq_true rfl⟩) (x_preV (ci := 12) hK hZ hA hWR (hIR 0 (by decide)) lR_0 rfl) rfl rfl hl.1 rfl (lv_room (Nat.le_of_ble_eq_true rfl)) dL_law_1152 ⟨by show _ ≤ 600000; omega, by show _ ≤ 7302250; omega⟩) hWR hA (fun r2 ρ1 H2 locs2 h hk2 hWR2 => ?_)
  try dsimp only at h
  obtain ⟨hrr, hR2⟩ := h
  subst hrr
  have hWX2 := xW_other (lay := layR) (st := stR) hWX hk2 (fun c hc o ho z => hdis o ho c hc z.symm) hWR2.2.2
  refine lv_icmp_eq (tgt := 1193) hx hb dL_law_1155 (by decide) (fun _ => ?_) (fun hc => absurd rfl hc)
  refine W.widen (k := cells + 1) (n := slots + 13) (by omega) (by omega) ?_
  exact hk σ1 ρ1 adX idsX H2 locs2 ls ⟨hWX2, hWR2, hdis⟩ hR2 hl
set_option maxHeartbeats 4000000 in
set_option maxRecDepth 100000 in
theorem law_c31 {p : Program} {l : Launch} {e : Env} {s : State} {m : MethodId} {below : List Frame} {meth : Method} {c : Code} {b L : Nat} {xs : Nat → Int32} (C0 : lw_At p s m meth c b L xs) {D : va_G} {KA : Nat → ClassId} {zs : ZS} {adX adR : Nat → Nat} {idsX : List Nat} {σ ρ : St} {H : Heap} {locs : List Loc} (hK : xK D KA s) (hZ : xZ zs (fun q => s.heap.size ≤ q) s) (hT : tW D KA adX idsX adR σ ρ s H locs) (hR : Rel idsX σ ρ) {x3 : Int32} {cells slots : Nat} (hcs : cells + 1 ≤ 600000 ∧ slots + 13 ≤ 7302250) (hin : ∀ k : Nat, 1 ≤ k → k < 6 → vp_in (x3 + nI k) L) {ls : Array Slot} (hl : lv_has ls 4 [(0, .ref b), (1, .ref (adX 0)), (2, .ref (adR 0)), (3, .int x3)]) {Q : State → Prop} (hk : ∀ (σ1 ρ1 : St) (adX1 : Nat → Nat) (ids1 : List Nat) (H1 : Heap) (locs1 : List Loc) (ls1 : Array Slot), tW D KA adX1 ids1 adR σ1 ρ1 s H1 locs1 → Rel ids1 σ1 ρ1 → lv_has ls1 4 [(0, .ref b), (1, .ref (adX1 0)), (2, .ref (adR 0)), (3, .int x3)] → W p l e room_1 s m #[Value.ref b] below meth c H1 locs1 (cells + 1) (slots + 13) Q (F0 m 1193 ls1 [])) : W p l e room_1 s m #[Value.ref b] below meth c H locs cells slots Q (F0 m 1160 ls []) := by
  obtain ⟨hx, hb, hr, hml, hown, hts0, hX, hbl, hlocks, hgv⟩ := id C0
  have hts : ∀ w ∈ wsL_law, w.before #[Value.ref b] s = true := fun w h => hts0 w (wsL_law_in w h)
  have hown : s.vm.findClass RL = some m.cls := hown
  have hA : ∀ q : Nat, s.heap.size ≤ q → (fun q : Nat => s.heap.size ≤ q) q := fun _ h => h
  have hbA : ¬ (fun q : Nat => s.heap.size ≤ q) b := Nat.not_le.mpr hbl
  have hIX : ∀ c, c < 52 ∧ ¬ c = 19 → c ∈ idsX := hR.1
  have hIR : ∀ c, c < 35 → c ∈ idsR := fun c h => List.mem_range.mpr h
  have hS := hT.1.2.2
  refine lv_aload_n hx hb dL_law_1160 rfl (lv_at hl 1 rfl) ?_
  refine lv_aload_n hx hb dL_law_1161 rfl (lv_at hl 0 rfl) ?_
  refine lv_iload_n hx hb dL_law_1162 rfl (lv_at hl 3 rfl) ?_
  refine lv_iconst (v := 1) hx hb dL_law_1163 (by decide) ?_
  refine lv_iadd hx hb dL_law_1164 ?_
  refine va_sld hx hb hX hbl hbA hS (hin 1 (by decide) (by decide)) dL_law_1165 ?_
  refine lv_aload_n hx hb dL_law_1166 rfl (lv_at hl 0 rfl) ?_
  refine lv_iload_n hx hb dL_law_1167 rfl (lv_at hl 3 rfl) ?_
  refine lv_iconst (v := 2) hx hb dL_law_1168 (by decide) ?_
  refine lv_iadd hx hb dL_law_1169 ?_
  refine va_sld hx hb hX hbl hbA hS (hin 2 (by decide) (by decide)) dL_law_1170 ?_
  have h := pc_taken (ids := idsX) (σ := σ) (ρ := ρ) (xs (x3 + (1 : Int32)).toNatClampNeg) (xs (x3 + (2 : Int32)).toNatClampNeg) hR
  refine x2_calli (va_runV (As := [.int (xs (x3 + (1 : Int32)).toNatClampNeg), .int (xs (x3 + (2 : Int32)).toNatClampNeg)]) (rest := []) ⟨hx, hb, hml, hown, hts⟩ (J_X11_taken l hIX h) (cwV 2 hts gL_law_X11_taken rfl rfl rfl hdV_X11_taken ⟨Nat.le_of_ble_eq_true rfl, Nat.le_of_ble_eq_true rfl⟩) (x_preV (ci := 11) hK hZ hA hT.1 (hIX 0 (by decide)) lX_0 rfl) rfl rfl hl.1 rfl (lv_room (Nat.le_of_ble_eq_true rfl)) dL_law_1171 ⟨by show _ ≤ 600000; omega, by show _ ≤ 7302250; omega⟩) hT.1 hA (fun r σ1 H1 locs1 h hk1 hWX => ?_)
  have hdis := hT.2.2
  try dsimp only at h
  have hWR := xW_other (lay := layX) (st := stX) hT.2.1 hk1 hT.2.2 hWX.2.2
  have hS := hWX.2.2
  refine lv_aload_n hx hb dL_law_1174 rfl (lv_at hl 2 rfl) ?_
  refine lv_aload_n hx hb dL_law_1175 rfl (lv_at hl 0 rfl) ?_
  refine lv_iload_n hx hb dL_law_1176 rfl (lv_at hl 3 rfl) ?_
  refine lv_iconst (v := 1) hx hb dL_law_1177 (by decide) ?_
  refine lv_iadd hx hb dL_law_1178 ?_
  refine va_sld hx hb hX hbl hbA hS (hin 1 (by decide) (by decide)) dL_law_1179 ?_
  refine lv_aload_n hx hb dL_law_1180 rfl (lv_at hl 0 rfl) ?_
  refine lv_iload_n hx hb dL_law_1181 rfl (lv_at hl 3 rfl) ?_
  refine lv_iconst (v := 2) hx hb dL_law_1182 (by decide) ?_
  refine lv_iadd hx hb dL_law_1183 ?_
  refine va_sld hx hb hX hbl hbA hS (hin 2 (by decide) (by decide)) dL_law_1184 ?_
  refine x2_calli (va_runV (As := [.int (xs (x3 + (1 : Int32)).toNatClampNeg), .int (xs (x3 + (2 : Int32)).toNatClampNeg)]) (rest := [.int r]) ⟨hx, hb, hml, hown, hts⟩ (J_X12_taken l hIR h) (cwV 2 hts gL_law_X12_taken rfl rfl rfl hdV_X12_taken ⟨Nat.le_of_ble_eq_true rfl, Nat.le_of_ble_eq_true rfl⟩) (x_preV (ci := 12) hK hZ hA hWR (hIR 0 (by decide)) lR_0 rfl) rfl rfl hl.1 rfl (lv_room (Nat.le_of_ble_eq_true rfl)) dL_law_1185 ⟨by show _ ≤ 600000; omega, by show _ ≤ 7302250; omega⟩) hWR hA (fun r2 ρ1 H2 locs2 h hk2 hWR2 => ?_)
  try dsimp only at h
  obtain ⟨hrr, hR2⟩ := h
  subst hrr
  have hWX2 := xW_other (lay := layR) (st := stR) hWX hk2 (fun c hc o ho z => hdis o ho c hc z.symm) hWR2.2.2
  refine lv_icmp_eq (tgt := 1193) hx hb dL_law_1188 (by decide) (fun _ => ?_) (fun hc => absurd rfl hc)
  refine W.widen (k := cells + 1) (n := slots + 13) (by omega) (by omega) ?_
  exact hk σ1 ρ1 adX idsX H2 locs2 ls ⟨hWX2, hWR2, hdis⟩ hR2 hl
