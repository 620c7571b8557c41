theorem hdI_X0_init : yX0_init.cls ≠ "java/lang/invoke/MethodHandle" ∧ yX0_init.cls ≠ "java/lang/invoke/VarHandle" ∧ (parseMethodDescriptor yX0_init.desc).map (fun d => d.parameters.length) = some 4 := by decide +kernel
theorem hdI_X10_init : yX10_init.cls ≠ "java/lang/invoke/MethodHandle" ∧ yX10_init.cls ≠ "java/lang/invoke/VarHandle" ∧ (parseMethodDescriptor yX10_init.desc).map (fun d => d.parameters.length) = some 4 := by decide +kernel
theorem hdI_X1_init : yX1_init.cls ≠ "java/lang/invoke/MethodHandle" ∧ yX1_init.cls ≠ "java/lang/invoke/VarHandle" ∧ (parseMethodDescriptor yX1_init.desc).map (fun d => d.parameters.length) = some 4 := by decide +kernel
theorem hdI_X2_init : yX2_init.cls ≠ "java/lang/invoke/MethodHandle" ∧ yX2_init.cls ≠ "java/lang/invoke/VarHandle" ∧ (parseMethodDescriptor yX2_init.desc).map (fun d => d.parameters.length) = some 4 := by decide +kernel
theorem hdI_X3_init : yX3_init.cls ≠ "java/lang/invoke/MethodHandle" ∧ yX3_init.cls ≠ "java/lang/invoke/VarHandle" ∧ (parseMethodDescriptor yX3_init.desc).map (fun d => d.parameters.length) = some 4 := by decide +kernel
theorem hdI_X4_init : yX4_init.cls ≠ "java/lang/invoke/MethodHandle" ∧ yX4_init.cls ≠ "java/lang/invoke/VarHandle" ∧ (parseMethodDescriptor yX4_init.desc).map (fun d => d.parameters.length) = some 4 := by decide +kernel
theorem hdI_X5_init : yX5_init.cls ≠ "java/lang/invoke/MethodHandle" ∧ yX5_init.cls ≠ "java/lang/invoke/VarHandle" ∧ (parseMethodDescriptor yX5_init.desc).map (fun d => d.parameters.length) = some 3 := by decide +kernel
theorem hdI_X6_init : yX6_init.cls ≠ "java/lang/invoke/MethodHandle" ∧ yX6_init.cls ≠ "java/lang/invoke/VarHandle" ∧ (parseMethodDescriptor yX6_init.desc).map (fun d => d.parameters.length) = some 0 := by decide +kernel
theorem hdI_X7_init : yX7_init.cls ≠ "java/lang/invoke/MethodHandle" ∧ yX7_init.cls ≠ "java/lang/invoke/VarHandle" ∧ (parseMethodDescriptor yX7_init.desc).map (fun d => d.parameters.length) = some 0 := by decide +kernel
theorem hdI_X8_init : yX8_init.cls ≠ "java/lang/invoke/MethodHandle" ∧ yX8_init.cls ≠ "java/lang/invoke/VarHandle" ∧ (parseMethodDescriptor yX8_init.desc).map (fun d => d.parameters.length) = some 0 := by decide +kernel
theorem hdI_X9_init : yX9_init.cls ≠ "java/lang/invoke/MethodHandle" ∧ yX9_init.cls ≠ "java/lang/invoke/VarHandle" ∧ (parseMethodDescriptor yX9_init.desc).map (fun d => d.parameters.length) = some 0 := by decide +kernel
theorem hdS_J6_bitCount_0f7a4 : yJ6_bitCount_0f7a4.cls ≠ "java/lang/invoke/MethodHandle" ∧ yJ6_bitCount_0f7a4.cls ≠ "java/lang/invoke/VarHandle" ∧ (parseMethodDescriptor yJ6_bitCount_0f7a4.desc).map (fun d => d.parameters.length) = some 1 := by decide +kernel
theorem hdS_J7_fill_53178 : yJ7_fill_53178.cls ≠ "java/lang/invoke/MethodHandle" ∧ yJ7_fill_53178.cls ≠ "java/lang/invoke/VarHandle" ∧ (parseMethodDescriptor yJ7_fill_53178.desc).map (fun d => d.parameters.length) = some 2 := by decide +kernel
theorem hdS_X11_asBit : yX11_asBit.cls ≠ "java/lang/invoke/MethodHandle" ∧ yX11_asBit.cls ≠ "java/lang/invoke/VarHandle" ∧ (parseMethodDescriptor yX11_asBit.desc).map (fun d => d.parameters.length) = some 1 := by decide +kernel
theorem hdS_X11_isKind : yX11_isKind.cls ≠ "java/lang/invoke/MethodHandle" ∧ yX11_isKind.cls ≠ "java/lang/invoke/VarHandle" ∧ (parseMethodDescriptor yX11_isKind.desc).map (fun d => d.parameters.length) = some 1 := by decide +kernel
theorem hdS_X11_isOfKind : yX11_isOfKind.cls ≠ "java/lang/invoke/MethodHandle" ∧ yX11_isOfKind.cls ≠ "java/lang/invoke/VarHandle" ∧ (parseMethodDescriptor yX11_isOfKind.desc).map (fun d => d.parameters.length) = some 2 := by decide +kernel
theorem hdS_X11_isSheet : yX11_isSheet.cls ≠ "java/lang/invoke/MethodHandle" ∧ yX11_isSheet.cls ≠ "java/lang/invoke/VarHandle" ∧ (parseMethodDescriptor yX11_isSheet.desc).map (fun d => d.parameters.length) = some 1 := by decide +kernel
theorem hdS_X11_isSort : yX11_isSort.cls ≠ "java/lang/invoke/MethodHandle" ∧ yX11_isSort.cls ≠ "java/lang/invoke/VarHandle" ∧ (parseMethodDescriptor yX11_isSort.desc).map (fun d => d.parameters.length) = some 1 := by decide +kernel
theorem hdS_X11_lowestBit : yX11_lowestBit.cls ≠ "java/lang/invoke/MethodHandle" ∧ yX11_lowestBit.cls ≠ "java/lang/invoke/VarHandle" ∧ (parseMethodDescriptor yX11_lowestBit.desc).map (fun d => d.parameters.length) = some 1 := by decide +kernel
theorem hdS_X11_newBelt : yX11_newBelt.cls ≠ "java/lang/invoke/MethodHandle" ∧ yX11_newBelt.cls ≠ "java/lang/invoke/VarHandle" ∧ (parseMethodDescriptor yX11_newBelt.desc).map (fun d => d.parameters.length) = some 4 := by decide +kernel
theorem hdS_X11_within : yX11_within.cls ≠ "java/lang/invoke/MethodHandle" ∧ yX11_within.cls ≠ "java/lang/invoke/VarHandle" ∧ (parseMethodDescriptor yX11_within.desc).map (fun d => d.parameters.length) = some 3 := by decide +kernel
theorem hdS_X12_common : yX12_common.cls ≠ "java/lang/invoke/MethodHandle" ∧ yX12_common.cls ≠ "java/lang/invoke/VarHandle" ∧ (parseMethodDescriptor yX12_common.desc).map (fun d => d.parameters.length) = some 2 := by decide +kernel
theorem hdS_X12_in : yX12_in.cls ≠ "java/lang/invoke/MethodHandle" ∧ yX12_in.cls ≠ "java/lang/invoke/VarHandle" ∧ (parseMethodDescriptor yX12_in.desc).map (fun d => d.parameters.length) = some 3 := by decide +kernel
theorem hdS_X12_isSheet : yX12_isSheet.cls ≠ "java/lang/invoke/MethodHandle" ∧ yX12_isSheet.cls ≠ "java/lang/invoke/VarHandle" ∧ (parseMethodDescriptor yX12_isSheet.desc).map (fun d => d.parameters.length) = some 1 := by decide +kernel
theorem hdS_X12_over : yX12_over.cls ≠ "java/lang/invoke/MethodHandle" ∧ yX12_over.cls ≠ "java/lang/invoke/VarHandle" ∧ (parseMethodDescriptor yX12_over.desc).map (fun d => d.parameters.length) = some 1 := by decide +kernel
theorem hdS_X12_within : yX12_within.cls ≠ "java/lang/invoke/MethodHandle" ∧ yX12_within.cls ≠ "java/lang/invoke/VarHandle" ∧ (parseMethodDescriptor yX12_within.desc).map (fun d => d.parameters.length) = some 3 := by decide +kernel
theorem hdS_X7_isDigit : yX7_isDigit.cls ≠ "java/lang/invoke/MethodHandle" ∧ yX7_isDigit.cls ≠ "java/lang/invoke/VarHandle" ∧ (parseMethodDescriptor yX7_isDigit.desc).map (fun d => d.parameters.length) = some 1 := by decide +kernel
theorem hdS_X7_isLetter : yX7_isLetter.cls ≠ "java/lang/invoke/MethodHandle" ∧ yX7_isLetter.cls ≠ "java/lang/invoke/VarHandle" ∧ (parseMethodDescriptor yX7_isLetter.desc).map (fun d => d.parameters.length) = some 1 := by decide +kernel
theorem hdS_X9_joined : yX9_joined.cls ≠ "java/lang/invoke/MethodHandle" ∧ yX9_joined.cls ≠ "java/lang/invoke/VarHandle" ∧ (parseMethodDescriptor yX9_joined.desc).map (fun d => d.parameters.length) = some 3 := by decide +kernel
theorem hdSU_X0_wrap : yX0_wrap.name ≠ "<init>" ∧ (parseMethodDescriptor yX0_wrap.desc).map (fun d => d.parameters.length) = some 0 := by decide +kernel
theorem hdSU_X2_way : yX2_way.name ≠ "<init>" ∧ (parseMethodDescriptor yX2_way.desc).map (fun d => d.parameters.length) = some 0 := by decide +kernel
theorem hdSU_X2_wrap : yX2_wrap.name ≠ "<init>" ∧ (parseMethodDescriptor yX2_wrap.desc).map (fun d => d.parameters.length) = some 0 := by decide +kernel
theorem hdSU_X3_wrap : yX3_wrap.name ≠ "<init>" ∧ (parseMethodDescriptor yX3_wrap.desc).map (fun d => d.parameters.length) = some 0 := by decide +kernel
theorem hdV_X0_above : yX0_above.cls = RX0 ∧ yX0_above.cls ≠ "java/lang/invoke/MethodHandle" ∧ yX0_above.cls ≠ "java/lang/invoke/VarHandle" ∧ (parseMethodDescriptor yX0_above.desc).map (fun d => d.parameters.length) = some 0 := by decide +kernel
theorem hdV_X0_below : yX0_below.cls = RX0 ∧ yX0_below.cls ≠ "java/lang/invoke/MethodHandle" ∧ yX0_below.cls ≠ "java/lang/invoke/VarHandle" ∧ (parseMethodDescriptor yX0_below.desc).map (fun d => d.parameters.length) = some 0 := by decide +kernel
theorem hdV_X0_keep : yX0_keep.cls = RX0 ∧ yX0_keep.cls ≠ "java/lang/invoke/MethodHandle" ∧ yX0_keep.cls ≠ "java/lang/invoke/VarHandle" ∧ (parseMethodDescriptor yX0_keep.desc).map (fun d => d.parameters.length) = some 0 := by decide +kernel
theorem hdV_X0_length : yX0_length.cls = RX0 ∧ yX0_length.cls ≠ "java/lang/invoke/MethodHandle" ∧ yX0_length.cls ≠ "java/lang/invoke/VarHandle" ∧ (parseMethodDescriptor yX0_length.desc).map (fun d => d.parameters.length) = some 1 := by decide +kernel
theorem hdV_X0_plainLength : yX0_plainLength.cls = RX0 ∧ yX0_plainLength.cls ≠ "java/lang/invoke/MethodHandle" ∧ yX0_plainLength.cls ≠ "java/lang/invoke/VarHandle" ∧ (parseMethodDescriptor yX0_plainLength.desc).map (fun d => d.parameters.length) = some 1 := by decide +kernel
theorem hdV_X0_way : yX0_way.cls = RX0 ∧ yX0_way.cls ≠ "java/lang/invoke/MethodHandle" ∧ yX0_way.cls ≠ "java/lang/invoke/VarHandle" ∧ (parseMethodDescriptor yX0_way.desc).map (fun d => d.parameters.length) = some 0 := by decide +kernel
theorem hdV_X0_wrap : yX0_wrap.cls = RX0 ∧ yX0_wrap.cls ≠ "java/lang/invoke/MethodHandle" ∧ yX0_wrap.cls ≠ "java/lang/invoke/VarHandle" ∧ (parseMethodDescriptor yX0_wrap.desc).map (fun d => d.parameters.length) = some 0 := by decide +kernel
theorem hdV_X11_cost : yX11_cost.cls = RX11 ∧ yX11_cost.cls ≠ "java/lang/invoke/MethodHandle" ∧ yX11_cost.cls ≠ "java/lang/invoke/VarHandle" ∧ (parseMethodDescriptor yX11_cost.desc).map (fun d => d.parameters.length) = some 1 := by decide +kernel
theorem hdV_X11_days : yX11_days.cls = RX11 ∧ yX11_days.cls ≠ "java/lang/invoke/MethodHandle" ∧ yX11_days.cls ≠ "java/lang/invoke/VarHandle" ∧ (parseMethodDescriptor yX11_days.desc).map (fun d => d.parameters.length) = some 2 := by decide +kernel
theorem hdV_X11_drum : yX11_drum.cls = RX11 ∧ yX11_drum.cls ≠ "java/lang/invoke/MethodHandle" ∧ yX11_drum.cls ≠ "java/lang/invoke/VarHandle" ∧ (parseMethodDescriptor yX11_drum.desc).map (fun d => d.parameters.length) = some 1 := by decide +kernel
theorem hdV_X11_findChosen : yX11_findChosen.cls = RX11 ∧ yX11_findChosen.cls ≠ "java/lang/invoke/MethodHandle" ∧ yX11_findChosen.cls ≠ "java/lang/invoke/VarHandle" ∧ (parseMethodDescriptor yX11_findChosen.desc).map (fun d => d.parameters.length) = some 0 := by decide +kernel
theorem hdV_X11_firstOnTurning : yX11_firstOnTurning.cls = RX11 ∧ yX11_firstOnTurning.cls ≠ "java/lang/invoke/MethodHandle" ∧ yX11_firstOnTurning.cls ≠ "java/lang/invoke/VarHandle" ∧ (parseMethodDescriptor yX11_firstOnTurning.desc).map (fun d => d.parameters.length) = some 2 := by decide +kernel
theorem hdV_X11_firstOrder : yX11_firstOrder.cls = RX11 ∧ yX11_firstOrder.cls ≠ "java/lang/invoke/MethodHandle" ∧ yX11_firstOrder.cls ≠ "java/lang/invoke/VarHandle" ∧ (parseMethodDescriptor yX11_firstOrder.desc).map (fun d => d.parameters.length) = some 0 := by decide +kernel
theorem hdV_X11_firstWorn : yX11_firstWorn.cls = RX11 ∧ yX11_firstWorn.cls ≠ "java/lang/invoke/MethodHandle" ∧ yX11_firstWorn.cls ≠ "java/lang/invoke/VarHandle" ∧ (parseMethodDescriptor yX11_firstWorn.desc).map (fun d => d.parameters.length) = some 1 := by decide +kernel
theorem hdV_X11_freeBelts : yX11_freeBelts.cls = RX11 ∧ yX11_freeBelts.cls ≠ "java/lang/invoke/MethodHandle" ∧ yX11_freeBelts.cls ≠ "java/lang/invoke/VarHandle" ∧ (parseMethodDescriptor yX11_freeBelts.desc).map (fun d => d.parameters.length) = some 0 := by decide +kernel
theorem hdV_X11_isBelt : yX11_isBelt.cls = RX11 ∧ yX11_isBelt.cls ≠ "java/lang/invoke/MethodHandle" ∧ yX11_isBelt.cls ≠ "java/lang/invoke/VarHandle" ∧ (parseMethodDescriptor yX11_isBelt.desc).map (fun d => d.parameters.length) = some 1 := by decide +kernel
theorem hdV_X11_isDrum : yX11_isDrum.cls = RX11 ∧ yX11_isDrum.cls ≠ "java/lang/invoke/MethodHandle" ∧ yX11_isDrum.cls ≠ "java/lang/invoke/VarHandle" ∧ (parseMethodDescriptor yX11_isDrum.desc).map (fun d => d.parameters.length) = some 1 := by decide +kernel
theorem hdV_X11_isMachine : yX11_isMachine.cls = RX11 ∧ yX11_isMachine.cls ≠ "java/lang/invoke/MethodHandle" ∧ yX11_isMachine.cls ≠ "java/lang/invoke/VarHandle" ∧ (parseMethodDescriptor yX11_isMachine.desc).map (fun d => d.parameters.length) = some 1 := by decide +kernel
theorem hdV_X11_isShaft : yX11_isShaft.cls = RX11 ∧ yX11_isShaft.cls ≠ "java/lang/invoke/MethodHandle" ∧ yX11_isShaft.cls ≠ "java/lang/invoke/VarHandle" ∧ (parseMethodDescriptor yX11_isShaft.desc).map (fun d => d.parameters.length) = some 1 := by decide +kernel
theorem hdV_X11_minding : yX11_minding.cls = RX11 ∧ yX11_minding.cls ≠ "java/lang/invoke/MethodHandle" ∧ yX11_minding.cls ≠ "java/lang/invoke/VarHandle" ∧ (parseMethodDescriptor yX11_minding.desc).map (fun d => d.parameters.length) = some 1 := by decide +kernel
theorem hdV_X11_minds : yX11_minds.cls = RX11 ∧ yX11_minds.cls ≠ "java/lang/invoke/MethodHandle" ∧ yX11_minds.cls ≠ "java/lang/invoke/VarHandle" ∧ (parseMethodDescriptor yX11_minds.desc).map (fun d => d.parameters.length) = some 2 := by decide +kernel
theorem hdV_X11_mostJerk : yX11_mostJerk.cls = RX11 ∧ yX11_mostJerk.cls ≠ "java/lang/invoke/MethodHandle" ∧ yX11_mostJerk.cls ≠ "java/lang/invoke/VarHandle" ∧ (parseMethodDescriptor yX11_mostJerk.desc).map (fun d => d.parameters.length) = some 0 := by decide +kernel
theorem hdV_X11_stayingDrums : yX11_stayingDrums.cls = RX11 ∧ yX11_stayingDrums.cls ≠ "java/lang/invoke/MethodHandle" ∧ yX11_stayingDrums.cls ≠ "java/lang/invoke/VarHandle" ∧ (parseMethodDescriptor yX11_stayingDrums.desc).map (fun d => d.parameters.length) = some 0 := by decide +kernel
theorem hdV_X11_stoppedBy : yX11_stoppedBy.cls = RX11 ∧ yX11_stoppedBy.cls ≠ "java/lang/invoke/MethodHandle" ∧ yX11_stoppedBy.cls ≠ "java/lang/invoke/VarHandle" ∧ (parseMethodDescriptor yX11_stoppedBy.desc).map (fun d => d.parameters.length) = some 1 := by decide +kernel
theorem hdV_X11_tryDrums : yX11_tryDrums.cls = RX11 ∧ yX11_tryDrums.cls ≠ "java/lang/invoke/MethodHandle" ∧ yX11_tryDrums.cls ≠ "java/lang/invoke/VarHandle" ∧ (parseMethodDescriptor yX11_tryDrums.desc).map (fun d => d.parameters.length) = some 3 := by decide +kernel
theorem hdV_X11_wear : yX11_wear.cls = RX11 ∧ yX11_wear.cls ≠ "java/lang/invoke/MethodHandle" ∧ yX11_wear.cls ≠ "java/lang/invoke/VarHandle" ∧ (parseMethodDescriptor yX11_wear.desc).map (fun d => d.parameters.length) = some 1 := by decide +kernel
theorem hdV_X11_weigh : yX11_weigh.cls = RX11 ∧ yX11_weigh.cls ≠ "java/lang/invoke/MethodHandle" ∧ yX11_weigh.cls ≠ "java/lang/invoke/VarHandle" ∧ (parseMethodDescriptor yX11_weigh.desc).map (fun d => d.parameters.length) = some 1 := by decide +kernel
theorem hdV_X12_added : yX12_added.cls = RX12 ∧ yX12_added.cls ≠ "java/lang/invoke/MethodHandle" ∧ yX12_added.cls ≠ "java/lang/invoke/VarHandle" ∧ (parseMethodDescriptor yX12_added.desc).map (fun d => d.parameters.length) = some 0 := by decide +kernel
theorem hdV_X12_allLoaded : yX12_allLoaded.cls = RX12 ∧ yX12_allLoaded.cls ≠ "java/lang/invoke/MethodHandle" ∧ yX12_allLoaded.cls ≠ "java/lang/invoke/VarHandle" ∧ (parseMethodDescriptor yX12_allLoaded.desc).map (fun d => d.parameters.length) = some 0 := by decide +kernel
theorem hdV_X12_anyTwice : yX12_anyTwice.cls = RX12 ∧ yX12_anyTwice.cls ≠ "java/lang/invoke/MethodHandle" ∧ yX12_anyTwice.cls ≠ "java/lang/invoke/VarHandle" ∧ (parseMethodDescriptor yX12_anyTwice.desc).map (fun d => d.parameters.length) = some 0 := by decide +kernel
theorem hdV_X12_both : yX12_both.cls = RX12 ∧ yX12_both.cls ≠ "java/lang/invoke/MethodHandle" ∧ yX12_both.cls ≠ "java/lang/invoke/VarHandle" ∧ (parseMethodDescriptor yX12_both.desc).map (fun d => d.parameters.length) = some 0 := by decide +kernel
theorem hdV_X12_byteAt : yX12_byteAt.cls = RX12 ∧ yX12_byteAt.cls ≠ "java/lang/invoke/MethodHandle" ∧ yX12_byteAt.cls ≠ "java/lang/invoke/VarHandle" ∧ (parseMethodDescriptor yX12_byteAt.desc).map (fun d => d.parameters.length) = some 1 := by decide +kernel
theorem hdV_X12_chooses : yX12_chooses.cls = RX12 ∧ yX12_chooses.cls ≠ "java/lang/invoke/MethodHandle" ∧ yX12_chooses.cls ≠ "java/lang/invoke/VarHandle" ∧ (parseMethodDescriptor yX12_chooses.desc).map (fun d => d.parameters.length) = some 0 := by decide +kernel
theorem hdV_X12_chosen : yX12_chosen.cls = RX12 ∧ yX12_chosen.cls ≠ "java/lang/invoke/MethodHandle" ∧ yX12_chosen.cls ≠ "java/lang/invoke/VarHandle" ∧ (parseMethodDescriptor yX12_chosen.desc).map (fun d => d.parameters.length) = some 0 := by decide +kernel
theorem hdV_X12_cutTurns : yX12_cutTurns.cls = RX12 ∧ yX12_cutTurns.cls ≠ "java/lang/invoke/MethodHandle" ∧ yX12_cutTurns.cls ≠ "java/lang/invoke/VarHandle" ∧ (parseMethodDescriptor yX12_cutTurns.desc).map (fun d => d.parameters.length) = some 1 := by decide +kernel
theorem hdV_X12_daysOf : yX12_daysOf.cls = RX12 ∧ yX12_daysOf.cls ≠ "java/lang/invoke/MethodHandle" ∧ yX12_daysOf.cls ≠ "java/lang/invoke/VarHandle" ∧ (parseMethodDescriptor yX12_daysOf.desc).map (fun d => d.parameters.length) = some 2 := by decide +kernel
theorem hdV_X12_drum : yX12_drum.cls = RX12 ∧ yX12_drum.cls ≠ "java/lang/invoke/MethodHandle" ∧ yX12_drum.cls ≠ "java/lang/invoke/VarHandle" ∧ (parseMethodDescriptor yX12_drum.desc).map (fun d => d.parameters.length) = some 1 := by decide +kernel
theorem hdV_X12_either : yX12_either.cls = RX12 ∧ yX12_either.cls ≠ "java/lang/invoke/MethodHandle" ∧ yX12_either.cls ≠ "java/lang/invoke/VarHandle" ∧ (parseMethodDescriptor yX12_either.desc).map (fun d => d.parameters.length) = some 0 := by decide +kernel
theorem hdV_X12_fail : yX12_fail.cls = RX12 ∧ yX12_fail.cls ≠ "java/lang/invoke/MethodHandle" ∧ yX12_fail.cls ≠ "java/lang/invoke/VarHandle" ∧ (parseMethodDescriptor yX12_fail.desc).map (fun d => d.parameters.length) = some 0 := by decide +kernel
theorem hdV_X12_from : yX12_from.cls = RX12 ∧ yX12_from.cls ≠ "java/lang/invoke/MethodHandle" ∧ yX12_from.cls ≠ "java/lang/invoke/VarHandle" ∧ (parseMethodDescriptor yX12_from.desc).map (fun d => d.parameters.length) = some 1 := by decide +kernel
theorem hdV_X12_isBehind : yX12_isBehind.cls = RX12 ∧ yX12_isBehind.cls ≠ "java/lang/invoke/MethodHandle" ∧ yX12_isBehind.cls ≠ "java/lang/invoke/VarHandle" ∧ (parseMethodDescriptor yX12_isBehind.desc).map (fun d => d.parameters.length) = some 2 := by decide +kernel
theorem hdV_X12_isBelt : yX12_isBelt.cls = RX12 ∧ yX12_isBelt.cls ≠ "java/lang/invoke/MethodHandle" ∧ yX12_isBelt.cls ≠ "java/lang/invoke/VarHandle" ∧ (parseMethodDescriptor yX12_isBelt.desc).map (fun d => d.parameters.length) = some 1 := by decide +kernel
theorem hdV_X12_isDrum : yX12_isDrum.cls = RX12 ∧ yX12_isDrum.cls ≠ "java/lang/invoke/MethodHandle" ∧ yX12_isDrum.cls ≠ "java/lang/invoke/VarHandle" ∧ (parseMethodDescriptor yX12_isDrum.desc).map (fun d => d.parameters.length) = some 1 := by decide +kernel
theorem hdV_X12_isMachine : yX12_isMachine.cls = RX12 ∧ yX12_isMachine.cls ≠ "java/lang/invoke/MethodHandle" ∧ yX12_isMachine.cls ≠ "java/lang/invoke/VarHandle" ∧ (parseMethodDescriptor yX12_isMachine.desc).map (fun d => d.parameters.length) = some 1 := by decide +kernel
theorem hdV_X12_isShaft : yX12_isShaft.cls = RX12 ∧ yX12_isShaft.cls ≠ "java/lang/invoke/MethodHandle" ∧ yX12_isShaft.cls ≠ "java/lang/invoke/VarHandle" ∧ (parseMethodDescriptor yX12_isShaft.desc).map (fun d => d.parameters.length) = some 1 := by decide +kernel
theorem hdV_X12_isSign : yX12_isSign.cls = RX12 ∧ yX12_isSign.cls ≠ "java/lang/invoke/MethodHandle" ∧ yX12_isSign.cls ≠ "java/lang/invoke/VarHandle" ∧ (parseMethodDescriptor yX12_isSign.desc).map (fun d => d.parameters.length) = some 1 := by decide +kernel
theorem hdV_X12_isTwice : yX12_isTwice.cls = RX12 ∧ yX12_isTwice.cls ≠ "java/lang/invoke/MethodHandle" ∧ yX12_isTwice.cls ≠ "java/lang/invoke/VarHandle" ∧ (parseMethodDescriptor yX12_isTwice.desc).map (fun d => d.parameters.length) = some 1 := by decide +kernel
theorem hdV_X12_isWord : yX12_isWord.cls = RX12 ∧ yX12_isWord.cls ≠ "java/lang/invoke/MethodHandle" ∧ yX12_isWord.cls ≠ "java/lang/invoke/VarHandle" ∧ (parseMethodDescriptor yX12_isWord.desc).map (fun d => d.parameters.length) = some 1 := by decide +kernel
theorem hdV_X12_lays : yX12_lays.cls = RX12 ∧ yX12_lays.cls ≠ "java/lang/invoke/MethodHandle" ∧ yX12_lays.cls ≠ "java/lang/invoke/VarHandle" ∧ (parseMethodDescriptor yX12_lays.desc).map (fun d => d.parameters.length) = some 0 := by decide +kernel
theorem hdV_X12_loaded : yX12_loaded.cls = RX12 ∧ yX12_loaded.cls ≠ "java/lang/invoke/MethodHandle" ∧ yX12_loaded.cls ≠ "java/lang/invoke/VarHandle" ∧ (parseMethodDescriptor yX12_loaded.desc).map (fun d => d.parameters.length) = some 1 := by decide +kernel
theorem hdV_X12_longOf : yX12_longOf.cls = RX12 ∧ yX12_longOf.cls ≠ "java/lang/invoke/MethodHandle" ∧ yX12_longOf.cls ≠ "java/lang/invoke/VarHandle" ∧ (parseMethodDescriptor yX12_longOf.desc).map (fun d => d.parameters.length) = some 1 := by decide +kernel
theorem hdV_X12_name : yX12_name.cls = RX12 ∧ yX12_name.cls ≠ "java/lang/invoke/MethodHandle" ∧ yX12_name.cls ≠ "java/lang/invoke/VarHandle" ∧ (parseMethodDescriptor yX12_name.desc).map (fun d => d.parameters.length) = some 0 := by decide +kernel
theorem hdV_X12_next : yX12_next.cls = RX12 ∧ yX12_next.cls ≠ "java/lang/invoke/MethodHandle" ∧ yX12_next.cls ≠ "java/lang/invoke/VarHandle" ∧ (parseMethodDescriptor yX12_next.desc).map (fun d => d.parameters.length) = some 0 := by decide +kernel
theorem hdV_X12_nextOn : yX12_nextOn.cls = RX12 ∧ yX12_nextOn.cls ≠ "java/lang/invoke/MethodHandle" ∧ yX12_nextOn.cls ≠ "java/lang/invoke/VarHandle" ∧ (parseMethodDescriptor yX12_nextOn.desc).map (fun d => d.parameters.length) = some 0 := by decide +kernel
theorem hdV_X12_not : yX12_not.cls = RX12 ∧ yX12_not.cls ≠ "java/lang/invoke/MethodHandle" ∧ yX12_not.cls ≠ "java/lang/invoke/VarHandle" ∧ (parseMethodDescriptor yX12_not.desc).map (fun d => d.parameters.length) = some 0 := by decide +kernel
theorem hdV_X12_one : yX12_one.cls = RX12 ∧ yX12_one.cls ≠ "java/lang/invoke/MethodHandle" ∧ yX12_one.cls ≠ "java/lang/invoke/VarHandle" ∧ (parseMethodDescriptor yX12_one.desc).map (fun d => d.parameters.length) = some 0 := by decide +kernel
theorem hdV_X12_opens : yX12_opens.cls = RX12 ∧ yX12_opens.cls ≠ "java/lang/invoke/MethodHandle" ∧ yX12_opens.cls ≠ "java/lang/invoke/VarHandle" ∧ (parseMethodDescriptor yX12_opens.desc).map (fun d => d.parameters.length) = some 0 := by decide +kernel
theorem hdV_X12_part : yX12_part.cls = RX12 ∧ yX12_part.cls ≠ "java/lang/invoke/MethodHandle" ∧ yX12_part.cls ≠ "java/lang/invoke/VarHandle" ∧ (parseMethodDescriptor yX12_part.desc).map (fun d => d.parameters.length) = some 1 := by decide +kernel
theorem hdV_X12_pullOf : yX12_pullOf.cls = RX12 ∧ yX12_pullOf.cls ≠ "java/lang/invoke/MethodHandle" ∧ yX12_pullOf.cls ≠ "java/lang/invoke/VarHandle" ∧ (parseMethodDescriptor yX12_pullOf.desc).map (fun d => d.parameters.length) = some 1 := by decide +kernel
theorem hdV_X12_pullsAt : yX12_pullsAt.cls = RX12 ∧ yX12_pullsAt.cls ≠ "java/lang/invoke/MethodHandle" ∧ yX12_pullsAt.cls ≠ "java/lang/invoke/VarHandle" ∧ (parseMethodDescriptor yX12_pullsAt.desc).map (fun d => d.parameters.length) = some 1 := by decide +kernel
theorem hdV_X12_read : yX12_read.cls = RX12 ∧ yX12_read.cls ≠ "java/lang/invoke/MethodHandle" ∧ yX12_read.cls ≠ "java/lang/invoke/VarHandle" ∧ (parseMethodDescriptor yX12_read.desc).map (fun d => d.parameters.length) = some 8 := by decide +kernel
theorem hdV_X12_runsWell : yX12_runsWell.cls = RX12 ∧ yX12_runsWell.cls ≠ "java/lang/invoke/MethodHandle" ∧ yX12_runsWell.cls ≠ "java/lang/invoke/VarHandle" ∧ (parseMethodDescriptor yX12_runsWell.desc).map (fun d => d.parameters.length) = some 1 := by decide +kernel
theorem hdV_X12_sizeA : yX12_sizeA.cls = RX12 ∧ yX12_sizeA.cls ≠ "java/lang/invoke/MethodHandle" ∧ yX12_sizeA.cls ≠ "java/lang/invoke/VarHandle" ∧ (parseMethodDescriptor yX12_sizeA.desc).map (fun d => d.parameters.length) = some 1 := by decide +kernel
theorem hdV_X12_sizeB : yX12_sizeB.cls = RX12 ∧ yX12_sizeB.cls ≠ "java/lang/invoke/MethodHandle" ∧ yX12_sizeB.cls ≠ "java/lang/invoke/VarHandle" ∧ (parseMethodDescriptor yX12_sizeB.desc).map (fun d => d.parameters.length) = some 1 := by decide +kernel
theorem hdV_X12_slips : yX12_slips.cls = RX12 ∧ yX12_slips.cls ≠ "java/lang/invoke/MethodHandle" ∧ yX12_slips.cls ≠ "java/lang/invoke/VarHandle" ∧ (parseMethodDescriptor yX12_slips.desc).map (fun d => d.parameters.length) = some 1 := by decide +kernel
theorem hdV_X12_spell : yX12_spell.cls = RX12 ∧ yX12_spell.cls ≠ "java/lang/invoke/MethodHandle" ∧ yX12_spell.cls ≠ "java/lang/invoke/VarHandle" ∧ (parseMethodDescriptor yX12_spell.desc).map (fun d => d.parameters.length) = some 2 := by decide +kernel
theorem hdV_X12_standsBy : yX12_standsBy.cls = RX12 ∧ yX12_standsBy.cls ≠ "java/lang/invoke/MethodHandle" ∧ yX12_standsBy.cls ≠ "java/lang/invoke/VarHandle" ∧ (parseMethodDescriptor yX12_standsBy.desc).map (fun d => d.parameters.length) = some 1 := by decide +kernel
theorem hdV_X12_term : yX12_term.cls = RX12 ∧ yX12_term.cls ≠ "java/lang/invoke/MethodHandle" ∧ yX12_term.cls ≠ "java/lang/invoke/VarHandle" ∧ (parseMethodDescriptor yX12_term.desc).map (fun d => d.parameters.length) = some 0 := by decide +kernel
theorem hdV_X12_turning : yX12_turning.cls = RX12 ∧ yX12_turning.cls ≠ "java/lang/invoke/MethodHandle" ∧ yX12_turning.cls ≠ "java/lang/invoke/VarHandle" ∧ (parseMethodDescriptor yX12_turning.desc).map (fun d => d.parameters.length) = some 0 := by decide +kernel
theorem hdV_X12_wantOf : yX12_wantOf.cls = RX12 ∧ yX12_wantOf.cls ≠ "java/lang/invoke/MethodHandle" ∧ yX12_wantOf.cls ≠ "java/lang/invoke/VarHandle" ∧ (parseMethodDescriptor yX12_wantOf.desc).map (fun d => d.parameters.length) = some 1 := by decide +kernel
theorem hdV_X12_wearOf : yX12_wearOf.cls = RX12 ∧ yX12_wearOf.cls ≠ "java/lang/invoke/MethodHandle" ∧ yX12_wearOf.cls ≠ "java/lang/invoke/VarHandle" ∧ (parseMethodDescriptor yX12_wearOf.desc).map (fun d => d.parameters.length) = some 1 := by decide +kernel
theorem hdV_X12_wells : yX12_wells.cls = RX12 ∧ yX12_wells.cls ≠ "java/lang/invoke/MethodHandle" ∧ yX12_wells.cls ≠ "java/lang/invoke/VarHandle" ∧ (parseMethodDescriptor yX12_wells.desc).map (fun d => d.parameters.length) = some 0 := by decide +kernel
theorem hdV_X12_wrapOf : yX12_wrapOf.cls = RX12 ∧ yX12_wrapOf.cls ≠ "java/lang/invoke/MethodHandle" ∧ yX12_wrapOf.cls ≠ "java/lang/invoke/VarHandle" ∧ (parseMethodDescriptor yX12_wrapOf.desc).map (fun d => d.parameters.length) = some 1 := by decide +kernel
theorem hdV_X5_keep : yX5_keep.cls = RX5 ∧ yX5_keep.cls ≠ "java/lang/invoke/MethodHandle" ∧ yX5_keep.cls ≠ "java/lang/invoke/VarHandle" ∧ (parseMethodDescriptor yX5_keep.desc).map (fun d => d.parameters.length) = some 0 := by decide +kernel
theorem hdV_X5_restore : yX5_restore.cls = RX5 ∧ yX5_restore.cls ≠ "java/lang/invoke/MethodHandle" ∧ yX5_restore.cls ≠ "java/lang/invoke/VarHandle" ∧ (parseMethodDescriptor yX5_restore.desc).map (fun d => d.parameters.length) = some 0 := by decide +kernel
theorem hdV_X5_wants : yX5_wants.cls = RX5 ∧ yX5_wants.cls ≠ "java/lang/invoke/MethodHandle" ∧ yX5_wants.cls ≠ "java/lang/invoke/VarHandle" ∧ (parseMethodDescriptor yX5_wants.desc).map (fun d => d.parameters.length) = some 2 := by decide +kernel
theorem hdV_X6_addBelt : yX6_addBelt.cls = RX6 ∧ yX6_addBelt.cls ≠ "java/lang/invoke/MethodHandle" ∧ yX6_addBelt.cls ≠ "java/lang/invoke/VarHandle" ∧ (parseMethodDescriptor yX6_addBelt.desc).map (fun d => d.parameters.length) = some 1 := by decide +kernel
theorem hdV_X6_addDrum : yX6_addDrum.cls = RX6 ∧ yX6_addDrum.cls ≠ "java/lang/invoke/MethodHandle" ∧ yX6_addDrum.cls ≠ "java/lang/invoke/VarHandle" ∧ (parseMethodDescriptor yX6_addDrum.desc).map (fun d => d.parameters.length) = some 1 := by decide +kernel
theorem hdV_X6_addMachine : yX6_addMachine.cls = RX6 ∧ yX6_addMachine.cls ≠ "java/lang/invoke/MethodHandle" ∧ yX6_addMachine.cls ≠ "java/lang/invoke/VarHandle" ∧ (parseMethodDescriptor yX6_addMachine.desc).map (fun d => d.parameters.length) = some 1 := by decide +kernel
theorem hdV_X6_addShaft : yX6_addShaft.cls = RX6 ∧ yX6_addShaft.cls ≠ "java/lang/invoke/MethodHandle" ∧ yX6_addShaft.cls ≠ "java/lang/invoke/VarHandle" ∧ (parseMethodDescriptor yX6_addShaft.desc).map (fun d => d.parameters.length) = some 2 := by decide +kernel
theorem hdV_X6_apart : yX6_apart.cls = RX6 ∧ yX6_apart.cls ≠ "java/lang/invoke/MethodHandle" ∧ yX6_apart.cls ≠ "java/lang/invoke/VarHandle" ∧ (parseMethodDescriptor yX6_apart.desc).map (fun d => d.parameters.length) = some 1 := by decide +kernel
theorem hdV_X6_beltsOn : yX6_beltsOn.cls = RX6 ∧ yX6_beltsOn.cls ≠ "java/lang/invoke/MethodHandle" ∧ yX6_beltsOn.cls ≠ "java/lang/invoke/VarHandle" ∧ (parseMethodDescriptor yX6_beltsOn.desc).map (fun d => d.parameters.length) = some 0 := by decide +kernel
theorem hdV_X6_commonDivisor : yX6_commonDivisor.cls = RX6 ∧ yX6_commonDivisor.cls ≠ "java/lang/invoke/MethodHandle" ∧ yX6_commonDivisor.cls ≠ "java/lang/invoke/VarHandle" ∧ (parseMethodDescriptor yX6_commonDivisor.desc).map (fun d => d.parameters.length) = some 1 := by decide +kernel
theorem hdV_X6_cutTurns : yX6_cutTurns.cls = RX6 ∧ yX6_cutTurns.cls ≠ "java/lang/invoke/MethodHandle" ∧ yX6_cutTurns.cls ≠ "java/lang/invoke/VarHandle" ∧ (parseMethodDescriptor yX6_cutTurns.desc).map (fun d => d.parameters.length) = some 1 := by decide +kernel
theorem hdV_X6_drives : yX6_drives.cls = RX6 ∧ yX6_drives.cls ≠ "java/lang/invoke/MethodHandle" ∧ yX6_drives.cls ≠ "java/lang/invoke/VarHandle" ∧ (parseMethodDescriptor yX6_drives.desc).map (fun d => d.parameters.length) = some 2 := by decide +kernel
theorem hdV_X6_firstBent : yX6_firstBent.cls = RX6 ∧ yX6_firstBent.cls ≠ "java/lang/invoke/MethodHandle" ∧ yX6_firstBent.cls ≠ "java/lang/invoke/VarHandle" ∧ (parseMethodDescriptor yX6_firstBent.desc).map (fun d => d.parameters.length) = some 0 := by decide +kernel
theorem hdV_X6_firstSharedDrum : yX6_firstSharedDrum.cls = RX6 ∧ yX6_firstSharedDrum.cls ≠ "java/lang/invoke/MethodHandle" ∧ yX6_firstSharedDrum.cls ≠ "java/lang/invoke/VarHandle" ∧ (parseMethodDescriptor yX6_firstSharedDrum.desc).map (fun d => d.parameters.length) = some 0 := by decide +kernel
theorem hdV_X6_firstSlipping : yX6_firstSlipping.cls = RX6 ∧ yX6_firstSlipping.cls ≠ "java/lang/invoke/MethodHandle" ∧ yX6_firstSlipping.cls ≠ "java/lang/invoke/VarHandle" ∧ (parseMethodDescriptor yX6_firstSlipping.desc).map (fun d => d.parameters.length) = some 0 := by decide +kernel
theorem hdV_X6_isBent : yX6_isBent.cls = RX6 ∧ yX6_isBent.cls ≠ "java/lang/invoke/MethodHandle" ∧ yX6_isBent.cls ≠ "java/lang/invoke/VarHandle" ∧ (parseMethodDescriptor yX6_isBent.desc).map (fun d => d.parameters.length) = some 1 := by decide +kernel
theorem hdV_X6_keep : yX6_keep.cls = RX6 ∧ yX6_keep.cls ≠ "java/lang/invoke/MethodHandle" ∧ yX6_keep.cls ≠ "java/lang/invoke/VarHandle" ∧ (parseMethodDescriptor yX6_keep.desc).map (fun d => d.parameters.length) = some 0 := by decide +kernel
theorem hdV_X6_loadedInAll : yX6_loadedInAll.cls = RX6 ∧ yX6_loadedInAll.cls ≠ "java/lang/invoke/MethodHandle" ∧ yX6_loadedInAll.cls ≠ "java/lang/invoke/VarHandle" ∧ (parseMethodDescriptor yX6_loadedInAll.desc).map (fun d => d.parameters.length) = some 0 := by decide +kernel
theorem hdV_X6_loadedOn : yX6_loadedOn.cls = RX6 ∧ yX6_loadedOn.cls ≠ "java/lang/invoke/MethodHandle" ∧ yX6_loadedOn.cls ≠ "java/lang/invoke/VarHandle" ∧ (parseMethodDescriptor yX6_loadedOn.desc).map (fun d => d.parameters.length) = some 1 := by decide +kernel
theorem hdV_X6_machinesOn : yX6_machinesOn.cls = RX6 ∧ yX6_machinesOn.cls ≠ "java/lang/invoke/MethodHandle" ∧ yX6_machinesOn.cls ≠ "java/lang/invoke/VarHandle" ∧ (parseMethodDescriptor yX6_machinesOn.desc).map (fun d => d.parameters.length) = some 1 := by decide +kernel
theorem hdV_X6_mostHours : yX6_mostHours.cls = RX6 ∧ yX6_mostHours.cls ≠ "java/lang/invoke/MethodHandle" ∧ yX6_mostHours.cls ≠ "java/lang/invoke/VarHandle" ∧ (parseMethodDescriptor yX6_mostHours.desc).map (fun d => d.parameters.length) = some 1 := by decide +kernel
theorem hdV_X6_orderBelts : yX6_orderBelts.cls = RX6 ∧ yX6_orderBelts.cls ≠ "java/lang/invoke/MethodHandle" ∧ yX6_orderBelts.cls ≠ "java/lang/invoke/VarHandle" ∧ (parseMethodDescriptor yX6_orderBelts.desc).map (fun d => d.parameters.length) = some 0 := by decide +kernel
theorem hdV_X6_pull : yX6_pull.cls = RX6 ∧ yX6_pull.cls ≠ "java/lang/invoke/MethodHandle" ∧ yX6_pull.cls ≠ "java/lang/invoke/VarHandle" ∧ (parseMethodDescriptor yX6_pull.desc).map (fun d => d.parameters.length) = some 1 := by decide +kernel
theorem hdV_X6_pulls : yX6_pulls.cls = RX6 ∧ yX6_pulls.cls ≠ "java/lang/invoke/MethodHandle" ∧ yX6_pulls.cls ≠ "java/lang/invoke/VarHandle" ∧ (parseMethodDescriptor yX6_pulls.desc).map (fun d => d.parameters.length) = some 1 := by decide +kernel
theorem hdV_X6_putDrum : yX6_putDrum.cls = RX6 ∧ yX6_putDrum.cls ≠ "java/lang/invoke/MethodHandle" ∧ yX6_putDrum.cls ≠ "java/lang/invoke/VarHandle" ∧ (parseMethodDescriptor yX6_putDrum.desc).map (fun d => d.parameters.length) = some 3 := by decide +kernel
theorem hdV_X6_restore : yX6_restore.cls = RX6 ∧ yX6_restore.cls ≠ "java/lang/invoke/MethodHandle" ∧ yX6_restore.cls ≠ "java/lang/invoke/VarHandle" ∧ (parseMethodDescriptor yX6_restore.desc).map (fun d => d.parameters.length) = some 0 := by decide +kernel
theorem hdV_X6_restoreBelt : yX6_restoreBelt.cls = RX6 ∧ yX6_restoreBelt.cls ≠ "java/lang/invoke/MethodHandle" ∧ yX6_restoreBelt.cls ≠ "java/lang/invoke/VarHandle" ∧ (parseMethodDescriptor yX6_restoreBelt.desc).map (fun d => d.parameters.length) = some 1 := by decide +kernel
theorem hdV_X6_shaftsFrom : yX6_shaftsFrom.cls = RX6 ∧ yX6_shaftsFrom.cls ≠ "java/lang/invoke/MethodHandle" ∧ yX6_shaftsFrom.cls ≠ "java/lang/invoke/VarHandle" ∧ (parseMethodDescriptor yX6_shaftsFrom.desc).map (fun d => d.parameters.length) = some 1 := by decide +kernel
theorem hdV_X6_slips : yX6_slips.cls = RX6 ∧ yX6_slips.cls ≠ "java/lang/invoke/MethodHandle" ∧ yX6_slips.cls ≠ "java/lang/invoke/VarHandle" ∧ (parseMethodDescriptor yX6_slips.desc).map (fun d => d.parameters.length) = some 1 := by decide +kernel
theorem hdV_X6_spin : yX6_spin.cls = RX6 ∧ yX6_spin.cls ≠ "java/lang/invoke/MethodHandle" ∧ yX6_spin.cls ≠ "java/lang/invoke/VarHandle" ∧ (parseMethodDescriptor yX6_spin.desc).map (fun d => d.parameters.length) = some 0 := by decide +kernel
theorem hdV_X6_switchedOn : yX6_switchedOn.cls = RX6 ∧ yX6_switchedOn.cls ≠ "java/lang/invoke/MethodHandle" ∧ yX6_switchedOn.cls ≠ "java/lang/invoke/VarHandle" ∧ (parseMethodDescriptor yX6_switchedOn.desc).map (fun d => d.parameters.length) = some 0 := by decide +kernel
theorem hdV_X6_turning : yX6_turning.cls = RX6 ∧ yX6_turning.cls ≠ "java/lang/invoke/MethodHandle" ∧ yX6_turning.cls ≠ "java/lang/invoke/VarHandle" ∧ (parseMethodDescriptor yX6_turning.desc).map (fun d => d.parameters.length) = some 0 := by decide +kernel
theorem hdV_X6_wellRunning : yX6_wellRunning.cls = RX6 ∧ yX6_wellRunning.cls ≠ "java/lang/invoke/MethodHandle" ∧ yX6_wellRunning.cls ≠ "java/lang/invoke/VarHandle" ∧ (parseMethodDescriptor yX6_wellRunning.desc).map (fun d => d.parameters.length) = some 0 := by decide +kernel
theorem hdV_X7_isWord : yX7_isWord.cls = RX7 ∧ yX7_isWord.cls ≠ "java/lang/invoke/MethodHandle" ∧ yX7_isWord.cls ≠ "java/lang/invoke/VarHandle" ∧ (parseMethodDescriptor yX7_isWord.desc).map (fun d => d.parameters.length) = some 1 := by decide +kernel
theorem hdV_X7_next : yX7_next.cls = RX7 ∧ yX7_next.cls ≠ "java/lang/invoke/MethodHandle" ∧ yX7_next.cls ≠ "java/lang/invoke/VarHandle" ∧ (parseMethodDescriptor yX7_next.desc).map (fun d => d.parameters.length) = some 0 := by decide +kernel
theorem hdV_X7_nextNumber : yX7_nextNumber.cls = RX7 ∧ yX7_nextNumber.cls ≠ "java/lang/invoke/MethodHandle" ∧ yX7_nextNumber.cls ≠ "java/lang/invoke/VarHandle" ∧ (parseMethodDescriptor yX7_nextNumber.desc).map (fun d => d.parameters.length) = some 0 := by decide +kernel
theorem hdV_X7_nextWord : yX7_nextWord.cls = RX7 ∧ yX7_nextWord.cls ≠ "java/lang/invoke/MethodHandle" ∧ yX7_nextWord.cls ≠ "java/lang/invoke/VarHandle" ∧ (parseMethodDescriptor yX7_nextWord.desc).map (fun d => d.parameters.length) = some 0 := by decide +kernel
theorem hdV_X7_readBoth : yX7_readBoth.cls = RX7 ∧ yX7_readBoth.cls ≠ "java/lang/invoke/MethodHandle" ∧ yX7_readBoth.cls ≠ "java/lang/invoke/VarHandle" ∧ (parseMethodDescriptor yX7_readBoth.desc).map (fun d => d.parameters.length) = some 1 := by decide +kernel
theorem hdV_X7_readBracketed : yX7_readBracketed.cls = RX7 ∧ yX7_readBracketed.cls ≠ "java/lang/invoke/MethodHandle" ∧ yX7_readBracketed.cls ≠ "java/lang/invoke/VarHandle" ∧ (parseMethodDescriptor yX7_readBracketed.desc).map (fun d => d.parameters.length) = some 1 := by decide +kernel
theorem hdV_X7_readCompared : yX7_readCompared.cls = RX7 ∧ yX7_readCompared.cls ≠ "java/lang/invoke/MethodHandle" ∧ yX7_readCompared.cls ≠ "java/lang/invoke/VarHandle" ∧ (parseMethodDescriptor yX7_readCompared.desc).map (fun d => d.parameters.length) = some 1 := by decide +kernel
theorem hdV_X7_readEither : yX7_readEither.cls = RX7 ∧ yX7_readEither.cls ≠ "java/lang/invoke/MethodHandle" ∧ yX7_readEither.cls ≠ "java/lang/invoke/VarHandle" ∧ (parseMethodDescriptor yX7_readEither.desc).map (fun d => d.parameters.length) = some 1 := by decide +kernel
theorem hdV_X7_readInto : yX7_readInto.cls = RX7 ∧ yX7_readInto.cls ≠ "java/lang/invoke/MethodHandle" ∧ yX7_readInto.cls ≠ "java/lang/invoke/VarHandle" ∧ (parseMethodDescriptor yX7_readInto.desc).map (fun d => d.parameters.length) = some 1 := by decide +kernel
theorem hdV_X7_readNegated : yX7_readNegated.cls = RX7 ∧ yX7_readNegated.cls ≠ "java/lang/invoke/MethodHandle" ∧ yX7_readNegated.cls ≠ "java/lang/invoke/VarHandle" ∧ (parseMethodDescriptor yX7_readNegated.desc).map (fun d => d.parameters.length) = some 1 := by decide +kernel
theorem hdV_X7_readNot : yX7_readNot.cls = RX7 ∧ yX7_readNot.cls ≠ "java/lang/invoke/MethodHandle" ∧ yX7_readNot.cls ≠ "java/lang/invoke/VarHandle" ∧ (parseMethodDescriptor yX7_readNot.desc).map (fun d => d.parameters.length) = some 1 := by decide +kernel
theorem hdV_X7_readOne : yX7_readOne.cls = RX7 ∧ yX7_readOne.cls ≠ "java/lang/invoke/MethodHandle" ∧ yX7_readOne.cls ≠ "java/lang/invoke/VarHandle" ∧ (parseMethodDescriptor yX7_readOne.desc).map (fun d => d.parameters.length) = some 1 := by decide +kernel
theorem hdV_X7_readPart : yX7_readPart.cls = RX7 ∧ yX7_readPart.cls ≠ "java/lang/invoke/MethodHandle" ∧ yX7_readPart.cls ≠ "java/lang/invoke/VarHandle" ∧ (parseMethodDescriptor yX7_readPart.desc).map (fun d => d.parameters.length) = some 1 := by decide +kernel
theorem hdV_X7_readSum : yX7_readSum.cls = RX7 ∧ yX7_readSum.cls ≠ "java/lang/invoke/MethodHandle" ∧ yX7_readSum.cls ≠ "java/lang/invoke/VarHandle" ∧ (parseMethodDescriptor yX7_readSum.desc).map (fun d => d.parameters.length) = some 1 := by decide +kernel
theorem hdV_X7_readTerm : yX7_readTerm.cls = RX7 ∧ yX7_readTerm.cls ≠ "java/lang/invoke/MethodHandle" ∧ yX7_readTerm.cls ≠ "java/lang/invoke/VarHandle" ∧ (parseMethodDescriptor yX7_readTerm.desc).map (fun d => d.parameters.length) = some 1 := by decide +kernel
theorem hdV_X7_take : yX7_take.cls = RX7 ∧ yX7_take.cls ≠ "java/lang/invoke/MethodHandle" ∧ yX7_take.cls ≠ "java/lang/invoke/VarHandle" ∧ (parseMethodDescriptor yX7_take.desc).map (fun d => d.parameters.length) = some 1 := by decide +kernel
theorem hdV_X8_become : yX8_become.cls = RX8 ∧ yX8_become.cls ≠ "java/lang/invoke/MethodHandle" ∧ yX8_become.cls ≠ "java/lang/invoke/VarHandle" ∧ (parseMethodDescriptor yX8_become.desc).map (fun d => d.parameters.length) = some 2 := by decide +kernel
theorem hdV_X8_holds : yX8_holds.cls = RX8 ∧ yX8_holds.cls ≠ "java/lang/invoke/MethodHandle" ∧ yX8_holds.cls ≠ "java/lang/invoke/VarHandle" ∧ (parseMethodDescriptor yX8_holds.desc).map (fun d => d.parameters.length) = some 2 := by decide +kernel
theorem hdV_X8_put : yX8_put.cls = RX8 ∧ yX8_put.cls ≠ "java/lang/invoke/MethodHandle" ∧ yX8_put.cls ≠ "java/lang/invoke/VarHandle" ∧ (parseMethodDescriptor yX8_put.desc).map (fun d => d.parameters.length) = some 2 := by decide +kernel
theorem hdV_X9_add : yX9_add.cls = RX9 ∧ yX9_add.cls ≠ "java/lang/invoke/MethodHandle" ∧ yX9_add.cls ≠ "java/lang/invoke/VarHandle" ∧ (parseMethodDescriptor yX9_add.desc).map (fun d => d.parameters.length) = some 1 := by decide +kernel
theorem hdV_X9_addName : yX9_addName.cls = RX9 ∧ yX9_addName.cls ≠ "java/lang/invoke/MethodHandle" ∧ yX9_addName.cls ≠ "java/lang/invoke/VarHandle" ∧ (parseMethodDescriptor yX9_addName.desc).map (fun d => d.parameters.length) = some 1 := by decide +kernel
theorem hdV_X9_addNumber : yX9_addNumber.cls = RX9 ∧ yX9_addNumber.cls ≠ "java/lang/invoke/MethodHandle" ∧ yX9_addNumber.cls ≠ "java/lang/invoke/VarHandle" ∧ (parseMethodDescriptor yX9_addNumber.desc).map (fun d => d.parameters.length) = some 1 := by decide +kernel
theorem hdV_X9_addSign : yX9_addSign.cls = RX9 ∧ yX9_addSign.cls ≠ "java/lang/invoke/MethodHandle" ∧ yX9_addSign.cls ≠ "java/lang/invoke/VarHandle" ∧ (parseMethodDescriptor yX9_addSign.desc).map (fun d => d.parameters.length) = some 1 := by decide +kernel
theorem hdV_X9_clear : yX9_clear.cls = RX9 ∧ yX9_clear.cls ≠ "java/lang/invoke/MethodHandle" ∧ yX9_clear.cls ≠ "java/lang/invoke/VarHandle" ∧ (parseMethodDescriptor yX9_clear.desc).map (fun d => d.parameters.length) = some 0 := by decide +kernel
theorem hdV_X9_endPart : yX9_endPart.cls = RX9 ∧ yX9_endPart.cls ≠ "java/lang/invoke/MethodHandle" ∧ yX9_endPart.cls ≠ "java/lang/invoke/VarHandle" ∧ (parseMethodDescriptor yX9_endPart.desc).map (fun d => d.parameters.length) = some 1 := by decide +kernel
theorem hdV_X9_pop : yX9_pop.cls = RX9 ∧ yX9_pop.cls ≠ "java/lang/invoke/MethodHandle" ∧ yX9_pop.cls ≠ "java/lang/invoke/VarHandle" ∧ (parseMethodDescriptor yX9_pop.desc).map (fun d => d.parameters.length) = some 0 := by decide +kernel
theorem hdV_X9_push : yX9_push.cls = RX9 ∧ yX9_push.cls ≠ "java/lang/invoke/MethodHandle" ∧ yX9_push.cls ≠ "java/lang/invoke/VarHandle" ∧ (parseMethodDescriptor yX9_push.desc).map (fun d => d.parameters.length) = some 1 := by decide +kernel
theorem hdV_X9_says : yX9_says.cls = RX9 ∧ yX9_says.cls ≠ "java/lang/invoke/MethodHandle" ∧ yX9_says.cls ≠ "java/lang/invoke/VarHandle" ∧ (parseMethodDescriptor yX9_says.desc).map (fun d => d.parameters.length) = some 2 := by decide +kernel
theorem hdV_X9_work : yX9_work.cls = RX9 ∧ yX9_work.cls ≠ "java/lang/invoke/MethodHandle" ∧ yX9_work.cls ≠ "java/lang/invoke/VarHandle" ∧ (parseMethodDescriptor yX9_work.desc).map (fun d => d.parameters.length) = some 1 := by decide +kernel
def rmJ6_bitCount_0f7a4 : Room := { frames := 1, cells := 0, slots := 0, locals := 40 }
def rmJ7_fill_53178 : Room := { frames := 1, cells := 0, slots := 0, locals := 40 }
def rmX0_above : Room := { frames := 1, cells := 0, slots := 0, locals := 40 }
def rmX0_below : Room := { frames := 1, cells := 0, slots := 0, locals := 40 }
def rmX0_init : Room := { frames := 1, cells := 0, slots := 0, locals := 40 }
def rmX0_keep : Room := { frames := 1, cells := 0, slots := 0, locals := 40 }
def rmX0_plainLength : Room := { frames := 1, cells := 0, slots := 0, locals := 40 }
def rmX0_length : Room := { frames := 2, cells := 0, slots := 0, locals := 61 }
def rmX0_way : Room := { frames := 1, cells := 0, slots := 0, locals := 40 }
def rmX0_wrap : Room := { frames := 1, cells := 0, slots := 0, locals := 40 }
def rmX2_init : Room := { frames := 2, cells := 0, slots := 0, locals := 64 }
def rmX10_init : Room := { frames := 3, cells := 0, slots := 0, locals := 88 }
def rmX2_way : Room := { frames := 1, cells := 0, slots := 0, locals := 40 }
def rmX10_way : Room := { frames := 2, cells := 0, slots := 0, locals := 60 }
def rmX2_wrap : Room := { frames := 2, cells := 0, slots := 0, locals := 60 }
def rmX10_wrap : Room := { frames := 3, cells := 0, slots := 0, locals := 80 }
def rmX11_asBit : Room := { frames := 1, cells := 0, slots := 0, locals := 40 }
def rmX5_restore : Room := { frames := 1, cells := 0, slots := 0, locals := 40 }
def rmX6_putDrum : Room := { frames := 1, cells := 0, slots := 0, locals := 40 }
def rmX6_restoreBelt : Room := { frames := 2, cells := 0, slots := 0, locals := 63 }
def rmX6_restore : Room := { frames := 3, cells := 0, slots := 0, locals := 84 }
def rmX11_back : Room := { frames := 4, cells := 0, slots := 0, locals := 105 }
def rmX11_within : Room := { frames := 1, cells := 0, slots := 0, locals := 40 }
def rmX11_isDrum : Room := { frames := 2, cells := 0, slots := 0, locals := 62 }
def rmX11_isKind : Room := { frames := 2, cells := 0, slots := 0, locals := 62 }
def rmX11_isShaft : Room := { frames := 2, cells := 0, slots := 0, locals := 62 }
def rmX1_init : Room := { frames := 2, cells := 0, slots := 0, locals := 64 }
def rmX3_init : Room := { frames := 2, cells := 0, slots := 0, locals := 64 }
def rmX4_init : Room := { frames := 3, cells := 0, slots := 0, locals := 88 }
def rmX11_newBelt : Room := { frames := 4, cells := 1, slots := 13, locals := 112 }
def rmX6_orderBelts : Room := { frames := 1, cells := 0, slots := 0, locals := 40 }
def rmX6_addBelt : Room := { frames := 2, cells := 0, slots := 0, locals := 66 }
def rmX6_drives : Room := { frames := 1, cells := 0, slots := 0, locals := 40 }
def rmX11_belt : Room := { frames := 5, cells := 1, slots := 13, locals := 135 }
def rmX11_isMachine : Room := { frames := 2, cells := 0, slots := 0, locals := 62 }
def rmX6_cutTurns : Room := { frames := 1, cells := 0, slots := 0, locals := 40 }
def rmX9_pop : Room := { frames := 1, cells := 0, slots := 0, locals := 40 }
def rmX9_push : Room := { frames := 1, cells := 0, slots := 0, locals := 40 }
def rmX9_joined : Room := { frames := 1, cells := 0, slots := 0, locals := 40 }
def rmX9_work : Room := { frames := 2, cells := 0, slots := 0, locals := 62 }
def rmX9_says : Room := { frames := 3, cells := 0, slots := 0, locals := 84 }
def rmX11_minds : Room := { frames := 4, cells := 0, slots := 0, locals := 108 }
def rmX6_machinesOn : Room := { frames := 1, cells := 0, slots := 0, locals := 40 }
def rmX6_switchedOn : Room := { frames := 2, cells := 0, slots := 0, locals := 63 }
def rmX6_turning : Room := { frames := 1, cells := 0, slots := 0, locals := 40 }
def rmX11_minding : Room := { frames := 5, cells := 0, slots := 0, locals := 130 }
def rmX6_loadedOn : Room := { frames := 2, cells := 0, slots := 0, locals := 63 }
def rmX6_loadedInAll : Room := { frames := 3, cells := 0, slots := 0, locals := 87 }
def rmX1_above : Room := { frames := 1, cells := 0, slots := 0, locals := 40 }
def rmX6_spin : Room := { frames := 3, cells := 0, slots := 0, locals := 80 }
def rmX11_bite : Room := { frames := 6, cells := 0, slots := 0, locals := 158 }
def rmX11_isSheet : Room := { frames := 2, cells := 0, slots := 0, locals := 62 }
def rmX8_put : Room := { frames := 1, cells := 0, slots := 0, locals := 40 }
def rmX11_cell : Room := { frames := 3, cells := 0, slots := 0, locals := 82 }
def rmX11_isBelt : Room := { frames := 2, cells := 0, slots := 0, locals := 62 }
def rmX11_change : Room := { frames := 3, cells := 0, slots := 0, locals := 83 }
def rmX11_freeBelts : Room := { frames := 1, cells := 0, slots := 0, locals := 40 }
def rmX11_stayingDrums : Room := { frames := 1, cells := 0, slots := 0, locals := 40 }
def rmX5_wants : Room := { frames := 1, cells := 0, slots := 0, locals := 40 }
def rmX6_wellRunning : Room := { frames := 2, cells := 0, slots := 0, locals := 64 }
def rmX11_weigh : Room := { frames := 4, cells := 0, slots := 0, locals := 102 }
def rmX11_findChosen : Room := { frames := 16, cells := 0, slots := 0, locals := 549 }
def rmX11_choose : Room := { frames := 17, cells := 0, slots := 0, locals := 571 }
def rmX8_holds : Room := { frames := 1, cells := 0, slots := 0, locals := 40 }
def rmX11_copy : Room := { frames := 3, cells := 0, slots := 0, locals := 82 }
def rmX11_cost : Room := { frames := 4, cells := 0, slots := 0, locals := 108 }
def rmX11_count : Room := { frames := 1, cells := 0, slots := 0, locals := 40 }
def rmX11_cut : Room := { frames := 5, cells := 0, slots := 0, locals := 129 }
def rmX3_wrap : Room := { frames := 2, cells := 0, slots := 0, locals := 60 }
def rmX4_wrap : Room := { frames := 3, cells := 0, slots := 0, locals := 80 }
def rmX6_shaftsFrom : Room := { frames := 1, cells := 0, slots := 0, locals := 40 }
def rmX6_mostHours : Room := { frames := 2, cells := 0, slots := 0, locals := 64 }
def rmX6_pull : Room := { frames := 3, cells := 0, slots := 0, locals := 87 }
def rmX11_wear : Room := { frames := 4, cells := 0, slots := 0, locals := 108 }
def rmX11_days : Room := { frames := 5, cells := 0, slots := 0, locals := 129 }
def rmX6_addDrum : Room := { frames := 1, cells := 0, slots := 0, locals := 40 }
def rmX11_drum : Room := { frames := 2, cells := 0, slots := 0, locals := 62 }
def rmX11_isSort : Room := { frames := 2, cells := 0, slots := 0, locals := 62 }
def rmX11_drums : Room := { frames := 3, cells := 0, slots := 0, locals := 83 }
def rmX11_engine : Room := { frames := 2, cells := 0, slots := 0, locals := 62 }
def rmX7_take : Room := { frames := 1, cells := 0, slots := 0, locals := 40 }
def rmX11_feed : Room := { frames := 2, cells := 0, slots := 0, locals := 62 }
def rmX11_firstOnTurning : Room := { frames := 1, cells := 0, slots := 0, locals := 40 }
def rmX6_beltsOn : Room := { frames := 1, cells := 0, slots := 0, locals := 40 }
def rmX11_firstOrder : Room := { frames := 2, cells := 0, slots := 0, locals := 64 }
def rmX11_firstWorn : Room := { frames := 6, cells := 0, slots := 0, locals := 152 }
def rmX11_force : Room := { frames := 2, cells := 0, slots := 0, locals := 62 }
def rmX11_stoppedBy : Room := { frames := 4, cells := 0, slots := 0, locals := 102 }
def rmX11_hangs : Room := { frames := 5, cells := 0, slots := 0, locals := 126 }
def rmX5_keep : Room := { frames := 1, cells := 0, slots := 0, locals := 40 }
def rmX6_keep : Room := { frames := 2, cells := 0, slots := 0, locals := 60 }
def rmX11_image : Room := { frames := 3, cells := 0, slots := 0, locals := 81 }
def rmX6_init : Room := { frames := 1, cells := 10, slots := 84, locals := 40 }
def rmX7_init : Room := { frames := 1, cells := 1, slots := 160, locals := 40 }
def rmX7_isDigit : Room := { frames := 1, cells := 0, slots := 0, locals := 40 }
def rmX7_isLetter : Room := { frames := 1, cells := 0, slots := 0, locals := 40 }
def rmX7_nextNumber : Room := { frames := 2, cells := 0, slots := 0, locals := 60 }
def rmX7_isWord : Room := { frames := 11, cells := 0, slots := 0, locals := 525 }
def rmX7_nextWord : Room := { frames := 12, cells := 0, slots := 0, locals := 549 }
def rmX7_next : Room := { frames := 13, cells := 0, slots := 0, locals := 570 }
def rmX9_add : Room := { frames := 1, cells := 0, slots := 0, locals := 40 }
def rmX9_addSign : Room := { frames := 2, cells := 0, slots := 0, locals := 61 }
def rmX9_addName : Room := { frames := 2, cells := 0, slots := 0, locals := 61 }
def rmX9_addNumber : Room := { frames := 2, cells := 0, slots := 0, locals := 61 }
def rmX9_endPart : Room := { frames := 1, cells := 0, slots := 0, locals := 40 }
def rmX7_readPart : Room := { frames := 115, cells := 0, slots := 0, locals := 4613 }
def rmX9_clear : Room := { frames := 1, cells := 0, slots := 0, locals := 40 }
def rmX7_readInto : Room := { frames := 116, cells := 0, slots := 0, locals := 4634 }
def rmX8_init : Room := { frames := 1, cells := 1, slots := 40, locals := 40 }
def rmX9_init : Room := { frames := 1, cells := 3, slots := 243, locals := 40 }
def rmX11_init : Room := { frames := 117, cells := 50, slots := 1953, locals := 4657 }
def rmX11_isOfKind : Room := { frames := 1, cells := 0, slots := 0, locals := 40 }
def rmX11_lowestBit : Room := { frames := 1, cells := 0, slots := 0, locals := 40 }
def rmX6_pulls : Room := { frames := 4, cells := 0, slots := 0, locals := 108 }
def rmX6_isBent : Room := { frames := 5, cells := 0, slots := 0, locals := 131 }
def rmX6_firstBent : Room := { frames := 6, cells := 0, slots := 0, locals := 152 }
def rmX6_firstSharedDrum : Room := { frames := 2, cells := 0, slots := 0, locals := 61 }
def rmX6_slips : Room := { frames := 4, cells := 0, slots := 0, locals := 108 }
def rmX6_firstSlipping : Room := { frames := 5, cells := 0, slots := 0, locals := 129 }
def rmX11_judge : Room := { frames := 7, cells := 0, slots := 0, locals := 173 }
def rmX11_lay : Room := { frames := 17, cells := 0, slots := 0, locals := 571 }
def rmX5_init : Room := { frames := 1, cells := 0, slots := 0, locals := 40 }
def rmX6_addMachine : Room := { frames := 1, cells := 0, slots := 0, locals := 40 }
def rmX11_machine : Room := { frames := 3, cells := 1, slots := 9, locals := 83 }
def rmX11_mostJerk : Room := { frames := 3, cells := 0, slots := 0, locals := 87 }
def rmX11_off : Room := { frames := 5, cells := 0, slots := 0, locals := 126 }
def rmX11_runs : Room := { frames := 4, cells := 0, slots := 0, locals := 107 }
def rmX11_save : Room := { frames := 4, cells := 0, slots := 0, locals := 102 }
def rmX11_set : Room := { frames := 3, cells := 0, slots := 0, locals := 83 }
def rmX6_addShaft : Room := { frames := 1, cells := 0, slots := 0, locals := 40 }
def rmX11_shaft : Room := { frames := 2, cells := 0, slots := 0, locals := 62 }
def rmX8_become : Room := { frames := 2, cells := 0, slots := 0, locals := 63 }
def rmX11_sheet : Room := { frames := 3, cells := 0, slots := 0, locals := 85 }
def rmX11_start : Room := { frames := 4, cells := 0, slots := 0, locals := 110 }
def rmX11_taken : Room := { frames := 3, cells := 0, slots := 0, locals := 83 }
def rmX11_text : Room := { frames := 117, cells := 0, slots := 0, locals := 4657 }
def rmX11_throwsOn : Room := { frames := 3, cells := 0, slots := 0, locals := 83 }
def rmX2_length : Room := { frames := 2, cells := 0, slots := 0, locals := 61 }
def rmX3_length : Room := { frames := 2, cells := 0, slots := 0, locals := 61 }
def rmX4_length : Room := { frames := 2, cells := 0, slots := 0, locals := 61 }
def rmX6_apart : Room := { frames := 1, cells := 0, slots := 0, locals := 40 }
def rmX11_told : Room := { frames := 5, cells := 0, slots := 0, locals := 129 }
def rmX6_commonDivisor : Room := { frames := 1, cells := 0, slots := 0, locals := 40 }
def rmX11_turns : Room := { frames := 6, cells := 0, slots := 0, locals := 152 }
def rmX11_years : Room := { frames := 7, cells := 0, slots := 0, locals := 177 }
def rmX12_isSign : Room := { frames := 1, cells := 0, slots := 0, locals := 40 }
def rmX12_byteAt : Room := { frames := 1, cells := 0, slots := 0, locals := 40 }
def rmX12_in : Room := { frames := 1, cells := 0, slots := 0, locals := 40 }
def rmX12_next : Room := { frames := 2, cells := 0, slots := 0, locals := 65 }
def rmX12_isWord : Room := { frames := 1, cells := 0, slots := 0, locals := 40 }
def rmX12_fail : Room := { frames := 1, cells := 0, slots := 0, locals := 40 }
def rmX12_opens : Room := { frames := 3, cells := 0, slots := 0, locals := 87 }
def rmX12_name : Room := { frames := 2, cells := 0, slots := 0, locals := 62 }
def rmX12_cutTurns : Room := { frames := 1, cells := 0, slots := 0, locals := 40 }
def rmX12_loaded : Room := { frames := 2, cells := 0, slots := 0, locals := 61 }
def rmX12_allLoaded : Room := { frames := 3, cells := 0, slots := 0, locals := 82 }
def rmX12_isTwice : Room := { frames := 1, cells := 0, slots := 0, locals := 40 }
def rmX12_anyTwice : Room := { frames := 2, cells := 0, slots := 0, locals := 63 }
def rmX12_back : Room := { frames := 1, cells := 0, slots := 0, locals := 40 }
def rmX12_isBehind : Room := { frames := 1, cells := 0, slots := 0, locals := 40 }
def rmX12_isDrum : Room := { frames := 2, cells := 0, slots := 0, locals := 65 }
def rmX12_isShaft : Room := { frames := 2, cells := 0, slots := 0, locals := 65 }
def rmX12_belt : Room := { frames := 3, cells := 0, slots := 0, locals := 86 }
def rmX12_isMachine : Room := { frames := 2, cells := 0, slots := 0, locals := 65 }
def rmX12_common : Room := { frames := 1, cells := 0, slots := 0, locals := 40 }
def rmX12_sizeA : Room := { frames := 1, cells := 0, slots := 0, locals := 40 }
def rmX12_sizeB : Room := { frames := 1, cells := 0, slots := 0, locals := 40 }
def rmX12_lays : Room := { frames := 2, cells := 0, slots := 0, locals := 69 }
def rmX12_part : Room := { frames := 105, cells := 0, slots := 0, locals := 4129 }
def rmX12_read : Room := { frames := 106, cells := 0, slots := 0, locals := 4152 }
def rmX12_bite : Room := { frames := 107, cells := 0, slots := 0, locals := 4183 }
def rmX12_isSheet : Room := { frames := 2, cells := 0, slots := 0, locals := 65 }
def rmX12_cell : Room := { frames := 3, cells := 0, slots := 0, locals := 85 }
def rmX12_isBelt : Room := { frames := 2, cells := 0, slots := 0, locals := 65 }
def rmX12_change : Room := { frames := 3, cells := 0, slots := 0, locals := 86 }
def rmX12_chosen : Room := { frames := 1, cells := 0, slots := 0, locals := 40 }
def rmX12_runsWell : Room := { frames := 1, cells := 0, slots := 0, locals := 40 }
def rmX12_wells : Room := { frames := 3, cells := 0, slots := 0, locals := 97 }
def rmX12_chooses : Room := { frames := 4, cells := 0, slots := 0, locals := 119 }
def rmX12_choose : Room := { frames := 5, cells := 0, slots := 0, locals := 146 }
def rmX12_copy : Room := { frames := 3, cells := 0, slots := 0, locals := 85 }
def rmX12_count : Room := { frames := 1, cells := 0, slots := 0, locals := 40 }
def rmX12_within : Room := { frames := 1, cells := 0, slots := 0, locals := 40 }
def rmX12_wantOf : Room := { frames := 107, cells := 0, slots := 0, locals := 4183 }
def rmX12_cut : Room := { frames := 108, cells := 0, slots := 0, locals := 4204 }
def rmX12_from : Room := { frames := 1, cells := 0, slots := 0, locals := 40 }
def rmX12_pullOf : Room := { frames := 3, cells := 0, slots := 0, locals := 82 }
def rmX12_wrapOf : Room := { frames := 2, cells := 0, slots := 0, locals := 61 }
def rmX12_wearOf : Room := { frames := 107, cells := 0, slots := 0, locals := 4183 }
def rmX12_daysOf : Room := { frames := 108, cells := 0, slots := 0, locals := 4207 }
def rmX12_drum : Room := { frames := 2, cells := 0, slots := 0, locals := 65 }
def rmX12_drums : Room := { frames := 3, cells := 0, slots := 0, locals := 86 }
def rmX12_engine : Room := { frames := 2, cells := 0, slots := 0, locals := 65 }
def rmX12_feed : Room := { frames := 2, cells := 0, slots := 0, locals := 65 }
def rmX12_force : Room := { frames := 2, cells := 0, slots := 0, locals := 65 }
def rmX12_turning : Room := { frames := 3, cells := 0, slots := 0, locals := 97 }
def rmX12_standsBy : Room := { frames := 4, cells := 0, slots := 0, locals := 119 }
def rmX12_hangs : Room := { frames := 5, cells := 0, slots := 0, locals := 143 }
def rmX12_image : Room := { frames := 1, cells := 0, slots := 0, locals := 40 }
def rmX12_spell : Room := { frames := 1, cells := 0, slots := 0, locals := 40 }
def rmX12_init : Room := { frames := 2, cells := 34, slots := 1515, locals := 64 }
def rmX12_pullsAt : Room := { frames := 4, cells := 0, slots := 0, locals := 106 }
def rmX12_slips : Room := { frames := 4, cells := 0, slots := 0, locals := 106 }
def rmX12_judge : Room := { frames := 5, cells := 0, slots := 0, locals := 129 }
def rmX12_lay : Room := { frames := 5, cells := 0, slots := 0, locals := 146 }
def rmX12_longOf : Room := { frames := 2, cells := 0, slots := 0, locals := 61 }
def rmX12_machine : Room := { frames := 3, cells := 0, slots := 0, locals := 86 }
def rmX12_nextOn : Room := { frames := 1, cells := 0, slots := 0, locals := 40 }
def rmX12_off : Room := { frames := 5, cells := 0, slots := 0, locals := 143 }
def rmX12_over : Room := { frames := 1, cells := 0, slots := 0, locals := 40 }
def rmX12_runs : Room := { frames := 4, cells := 0, slots := 0, locals := 104 }
def rmX12_save : Room := { frames := 3, cells := 0, slots := 0, locals := 97 }
def rmX12_set : Room := { frames := 3, cells := 0, slots := 0, locals := 86 }
def rmX12_shaft : Room := { frames := 2, cells := 0, slots := 0, locals := 65 }
def rmX12_sheet : Room := { frames := 3, cells := 0, slots := 0, locals := 85 }
def rmX12_start : Room := { frames := 4, cells := 0, slots := 0, locals := 104 }
def rmX12_taken : Room := { frames := 3, cells := 0, slots := 0, locals := 86 }
def rmX12_text : Room := { frames := 107, cells := 0, slots := 0, locals := 4183 }
def rmX12_throwsOn : Room := { frames := 3, cells := 0, slots := 0, locals := 86 }
def rmX12_told : Room := { frames := 108, cells := 0, slots := 0, locals := 4207 }
def rmX12_turns : Room := { frames := 5, cells := 0, slots := 0, locals := 129 }
def rmX12_years : Room := { frames := 109, cells := 0, slots := 0, locals := 4230 }
def rmgR (d : Nat) : Room := { frames := 4 + d, cells := 0, slots := 0, locals := 107 + 40 * d }
theorem rmgR_f (d : Nat) : (rmgR d).frames + 1 ≤ (rmgR (d + 1)).frames := Nat.le_of_eq (by unfold rmgR; dsimp only; omega)
theorem rmgR_l (d : Nat) {n : Nat} (h : n ≤ 20) : 8 + (n + 11) + (rmgR d).locals ≤ (rmgR (d + 1)).locals := by unfold rmgR; dsimp only; omega
theorem rmgR_of (d : Nat) {f : Nat} (h : f ≤ 4) : f ≤ (rmgR (d + 1)).frames := by unfold rmgR; dsimp only; omega
theorem rmgR_ol (d : Nat) {f : Nat} (h : f ≤ 107) : f ≤ (rmgR (d + 1)).locals := by unfold rmgR; dsimp only; omega
def rmgT (d : Nat) : Room := { frames := 5 + d, cells := 0, slots := 0, locals := 124 + 40 * d }
theorem rmgT_f (d : Nat) : (rmgT d).frames + 1 ≤ (rmgT (d + 1)).frames := Nat.le_of_eq (by unfold rmgT; dsimp only; omega)
theorem rmgT_l (d : Nat) {n : Nat} (h : n ≤ 20) : 8 + (n + 11) + (rmgT d).locals ≤ (rmgT (d + 1)).locals := by unfold rmgT; dsimp only; omega
theorem rmgT_of (d : Nat) {f : Nat} (h : f ≤ 5) : f ≤ (rmgT (d + 1)).frames := by unfold rmgT; dsimp only; omega
theorem rmgT_ol (d : Nat) {f : Nat} (h : f ≤ 124) : f ≤ (rmgT (d + 1)).locals := by unfold rmgT; dsimp only; omega
def rmgX (d : Nat) : Room := { frames := 14 + d, cells := 0, slots := 0, locals := 590 + 40 * d }
theorem rmgX_f (d : Nat) : (rmgX d).frames + 1 ≤ (rmgX (d + 1)).frames := Nat.le_of_eq (by unfold rmgX; dsimp only; omega)
theorem rmgX_l (d : Nat) {n : Nat} (h : n ≤ 20) : 8 + (n + 11) + (rmgX d).locals ≤ (rmgX (d + 1)).locals := by unfold rmgX; dsimp only; omega
theorem rmgX_of (d : Nat) {f : Nat} (h : f ≤ 14) : f ≤ (rmgX (d + 1)).frames := by unfold rmgX; dsimp only; omega
theorem rmgX_ol (d : Nat) {f : Nat} (h : f ≤ 590) : f ≤ (rmgX (d + 1)).locals := by unfold rmgX; dsimp only; omega
theorem hwJ6_bitCount_0f7a4_0 : (.constant RJ6 265 (1431655765) : Cond) ∈ wsJ6_bitCount_0f7a4 := (List.mem_cons_of_mem _ (List.mem_of_getElem? (i := 0) rfl))
theorem hwJ6_bitCount_0f7a4_1 : (.constant RJ6 266 (858993459) : Cond) ∈ wsJ6_bitCount_0f7a4 := (List.mem_cons_of_mem _ (List.mem_of_getElem? (i := 1) rfl))
theorem hwJ6_bitCount_0f7a4_2 : (.constant RJ6 267 (252645135) : Cond) ∈ wsJ6_bitCount_0f7a4 := (List.mem_cons_of_mem _ (List.mem_of_getElem? (i := 2) rfl))
set_option maxHeartbeats 4000000 in
set_option maxRecDepth 100000 in
theorem J_J6_bitCount_0f7a4 {D : va_G} {KA : Nat → ClassId} {zs : ZS} {ad : Nat → Nat} {ids : List Nat} {sz : Nat} (l : Launch) (hI : ∀ c, c < 52 ∧ ¬ c = 19 → c ∈ ids) {a0 : Int32}  {σ : St} {post : Int32 → St → Prop} (h : wJ6_bitCount_0f7a4 ids a0 σ post) : Met l yJ6_bitCount_0f7a4 wsJ6_bitCount_0f7a4 rmJ6_bitCount_0f7a4 (va_Pc [.int a0] (xIn D KA zs layX stX ad ids sz σ)) (va_Qi post (xOut D KA layX stX ad ids) (xA ad ids sz)) 0 0 (xA ad ids sz) := by
  refine Met.ofW (cc := cJ6_bitCount_0f7a4) (maxL := 1) (ret := (some .int)) (by decide) rfl ?_
  intro p e s m args below meth c s₁ B hml hv
  obtain ⟨hav, hsz, hK, hZ, hP, hD⟩ := hv
  have hx := B.exec
  have hb := B.bytes
  have hr := B.returns
  have hts := atoms_spec (ws := wsJ6_bitCount_0f7a4) B.pre
  have hown : s.vm.findClass RJ6 = some m.cls := findClass_of_methodNamed B.named
  have hlocks := B.notSynchronized
  subst hsz
  have hA : ∀ q : Nat, s.heap.size ≤ q → xA ad ids s.heap.size q := fun q h => Or.inr h
  have hW : xW D KA layX stX ad ids (xA ad ids s.heap.size) s.heap σ s.heap [] := ⟨hP, xA_D (D := D) hD, va_S.rf⟩
  have kr : ∀ (v : Int32) (σ : St) (H : Heap) (locs : List Loc) (ls : Array Slot) (pc : Nat), xW D KA layX stX ad ids (xA ad ids s.heap.size) s.heap σ H locs → post v σ → decode cJ6_bitCount_0f7a4 pc = .ok (.ireturn, 1) → W p l e rmJ6_bitCount_0f7a4 s m args below meth c H locs 0 0 (MQ below (va_Qi post (xOut D KA layX stX ad ids) (xA ad ids s.heap.size)) args s 0 0 (xA ad ids s.heap.size)) (F0 m pc ls [.int v]) := fun v σ H locs ls pc hW h hd => x_iret hx hb hr hlocks hW h hd
  have hl := lv_entry ([.int a0]) (n := 1) (Nat.le_of_ble_eq_true rfl)
  rw [show entryFrame m args 1 = entryFrame m ([.int a0] : List Value).toArray 1 from by rw [hav]]
  rw [lg_entry_eq]
  generalize (lg_sl ([.int a0]) ++ List.replicate (1 - (lg_sl ([.int a0])).length) Slot.unset).toArray = ls at hl ⊢
  have hl : lv_has ls 1 [(0, .int a0)] := hl
  show W p l e rmJ6_bitCount_0f7a4 s m args below meth c s.heap [] 0 0 _ _
  generalize MQ below (va_Qi post (xOut D KA layX stX ad ids) (xA ad ids s.heap.size)) args s 0 0 (xA ad ids s.heap.size) = Q at kr ⊢
  have main : ∀ (H : Heap) (locs : List Loc) (ls : Array Slot), xW D KA layX stX ad ids (xA ad ids s.heap.size) s.heap σ H locs → lv_has ls 1 [(0, .int a0)] → W p l e rmJ6_bitCount_0f7a4 s m args below meth c H locs 0 0 Q (F0 m 0 ls []) := by
    intro H locs ls hW hl
    unfold wJ6_bitCount_0f7a4 at h
    refine lv_iload_n hx hb dJ6_bitCount_0f7a4_0 rfl (lv_at hl 0 rfl) ?_
    refine lv_iload_n hx hb dJ6_bitCount_0f7a4_1 rfl (lv_at hl 0 rfl) ?_
    refine lv_iconst (v := 1) hx hb dJ6_bitCount_0f7a4_2 (by decide) ?_
    refine lv_iushr hx hb dJ6_bitCount_0f7a4_3 rfl ?_
    refine lv_ldcw hx hb hown (hts _ hwJ6_bitCount_0f7a4_0) dJ6_bitCount_0f7a4_4 ?_
    refine lv_iand hx hb dJ6_bitCount_0f7a4_7 ?_
    refine lv_isub hx hb dJ6_bitCount_0f7a4_8 ?_
    refine lv_topi (fun v1001 hv1001 => ?_)
    have h := h v1001 hv1001
    refine lv_istore_n (lv' := [(0, .int v1001)]) hx hb dJ6_bitCount_0f7a4_9 rfl hl (by decide) rfl (fun ls hl => ?_)
    refine lv_iload_n hx hb dJ6_bitCount_0f7a4_10 rfl (lv_at hl 0 rfl) ?_
    refine lv_ldcw hx hb hown (hts _ hwJ6_bitCount_0f7a4_1) dJ6_bitCount_0f7a4_11 ?_
    refine lv_iand hx hb dJ6_bitCount_0f7a4_14 ?_
    refine lv_iload_n hx hb dJ6_bitCount_0f7a4_15 rfl (lv_at hl 0 rfl) ?_
    refine lv_iconst (v := 2) hx hb dJ6_bitCount_0f7a4_16 (by decide) ?_
    refine lv_iushr hx hb dJ6_bitCount_0f7a4_17 rfl ?_
    refine lv_ldcw hx hb hown (hts _ hwJ6_bitCount_0f7a4_1) dJ6_bitCount_0f7a4_18 ?_
    refine lv_iand hx hb dJ6_bitCount_0f7a4_21 ?_
    refine lv_iadd hx hb dJ6_bitCount_0f7a4_22 ?_
    refine lv_topi (fun v1002 hv1002 => ?_)
    have h := h v1002 hv1002
    refine lv_istore_n (lv' := [(0, .int v1002)]) hx hb dJ6_bitCount_0f7a4_23 rfl hl (by decide) rfl (fun ls hl => ?_)
    refine lv_iload_n hx hb dJ6_bitCount_0f7a4_24 rfl (lv_at hl 0 rfl) ?_
    refine lv_iload_n hx hb dJ6_bitCount_0f7a4_25 rfl (lv_at hl 0 rfl) ?_
    refine lv_iconst (v := 4) hx hb dJ6_bitCount_0f7a4_26 (by decide) ?_
    refine lv_iushr hx hb dJ6_bitCount_0f7a4_27 rfl ?_
    refine lv_iadd hx hb dJ6_bitCount_0f7a4_28 ?_
    refine lv_ldcw hx hb hown (hts _ hwJ6_bitCount_0f7a4_2) dJ6_bitCount_0f7a4_29 ?_
    refine lv_iand hx hb dJ6_bitCount_0f7a4_32 ?_
    refine lv_topi (fun v1003 hv1003 => ?_)
    have h := h v1003 hv1003
    refine lv_istore_n (lv' := [(0, .int v1003)]) hx hb dJ6_bitCount_0f7a4_33 rfl hl (by decide) rfl (fun ls hl => ?_)
    refine lv_iload_n hx hb dJ6_bitCount_0f7a4_34 rfl (lv_at hl 0 rfl) ?_
    refine lv_iload_n hx hb dJ6_bitCount_0f7a4_35 rfl (lv_at hl 0 rfl) ?_
    refine lv_bipush (v := 8) hx hb dJ6_bitCount_0f7a4_36 (by decide) ?_
    refine lv_iushr hx hb dJ6_bitCount_0f7a4_38 rfl ?_
    refine lv_iadd hx hb dJ6_bitCount_0f7a4_39 ?_
    refine lv_topi (fun v1004 hv1004 => ?_)
    have h := h v1004 hv1004
    refine lv_istore_n (lv' := [(0, .int v1004)]) hx hb dJ6_bitCount_0f7a4_40 rfl hl (by decide) rfl (fun ls hl => ?_)
    refine lv_iload_n hx hb dJ6_bitCount_0f7a4_41 rfl (lv_at hl 0 rfl) ?_
    refine lv_iload_n hx hb dJ6_bitCount_0f7a4_42 rfl (lv_at hl 0 rfl) ?_
    refine lv_bipush (v := 16) hx hb dJ6_bitCount_0f7a4_43 (by decide) ?_
    refine lv_iushr hx hb dJ6_bitCount_0f7a4_45 rfl ?_
    refine lv_iadd hx hb dJ6_bitCount_0f7a4_46 ?_
    refine lv_topi (fun v1005 hv1005 => ?_)
    have h := h v1005 hv1005
    refine lv_istore_n (lv' := [(0, .int v1005)]) hx hb dJ6_bitCount_0f7a4_47 rfl hl (by decide) rfl (fun ls hl => ?_)
    refine lv_iload_n hx hb dJ6_bitCount_0f7a4_48 rfl (lv_at hl 0 rfl) ?_
    refine lv_bipush (v := 63) hx hb dJ6_bitCount_0f7a4_49 (by decide) ?_
    refine lv_iand hx hb dJ6_bitCount_0f7a4_51 ?_
    exact kr _ _ _ _ _ _ hW h dJ6_bitCount_0f7a4_52
  exact main _ _ _ hW hl
set_option maxHeartbeats 4000000 in
set_option maxRecDepth 100000 in
theorem J_J7_fill_53178 {D : va_G} {KA : Nat → ClassId} {zs : ZS} {ad : Nat → Nat} {ids : List Nat} {sz : Nat} (l : Launch) (hI : ∀ c, c < 52 ∧ ¬ c = 19 → c ∈ ids) {a0 : Nat} {n0 : Nat} {a1 : Int32} (hm_a0 : a0 ∈ ids) (hl_a0 : layX a0 = (1, n0)) {σ : St} {post : St → Prop} (h : wJ7_fill_53178 ids a0 n0 a1 σ post) : Met l yJ7_fill_53178 wsJ7_fill_53178 rmJ7_fill_53178 (va_Pc [.ref (ad a0), .int a1] (xIn D KA zs layX stX ad ids sz σ)) (va_Qv post (xOut D KA layX stX ad ids) (xA ad ids sz)) 0 0 (xA ad ids sz) := by
  refine Met.ofW (cc := cJ7_fill_53178) (maxL := 4) (ret := none) (by decide) rfl ?_
  intro p e s m args below meth c s₁ B hml hv
  obtain ⟨hav, hsz, hK, hZ, hP, hD⟩ := hv
  have hx := B.exec
  have hb := B.bytes
  have hr := B.returns
  have hts := atoms_spec (ws := wsJ7_fill_53178) B.pre
  have hown : s.vm.findClass RJ7 = some m.cls := findClass_of_methodNamed B.named
  have hlocks := B.notSynchronized
  subst hsz
  have hA : ∀ q : Nat, s.heap.size ≤ q → xA ad ids s.heap.size q := fun q h => Or.inr h
  have hW : xW D KA layX stX ad ids (xA ad ids s.heap.size) s.heap σ s.heap [] := ⟨hP, xA_D (D := D) hD, va_S.rf⟩
  have kr : ∀ (σ : St) (H : Heap) (locs : List Loc) (ls : Array Slot) (pc : Nat), xW D KA layX stX ad ids (xA ad ids s.heap.size) s.heap σ H locs → post σ → decode cJ7_fill_53178 pc = .ok (.return_, 1) → W p l e rmJ7_fill_53178 s m args below meth c H locs 0 0 (MQ below (va_Qv post (xOut D KA layX stX ad ids) (xA ad ids s.heap.size)) args s 0 0 (xA ad ids s.heap.size)) (F0 m pc ls []) := fun σ H locs ls pc hW h hd => x_vret hx hb hr hlocks hW h hd
  have hl := lv_entry ([.ref (ad a0), .int a1]) (n := 4) (Nat.le_of_ble_eq_true rfl)
  rw [show entryFrame m args 4 = entryFrame m ([.ref (ad a0), .int a1] : List Value).toArray 4 from by rw [hav]]
  rw [lg_entry_eq]
  generalize (lg_sl ([.ref (ad a0), .int a1]) ++ List.replicate (4 - (lg_sl ([.ref (ad a0), .int a1])).length) Slot.unset).toArray = ls at hl ⊢
  have hl : lv_has ls 4 [(0, .ref (ad a0)), (1, .int a1)] := hl
  show W p l e rmJ7_fill_53178 s m args below meth c s.heap [] 0 0 _ _
  generalize MQ below (va_Qv post (xOut D KA layX stX ad ids) (xA ad ids s.heap.size)) args s 0 0 (xA ad ids s.heap.size) = Q at kr ⊢
  have blk5 : ∀ (x1 : Int32) (x3 : Int32) (n : Nat) (x2 : Int32) (σ : St) (H : Heap) (locs : List Loc) (ls : Array Slot), xW D KA layX stX ad ids (xA ad ids s.heap.size) s.heap σ H locs → lv_has ls 4 [(0, .ref (ad a0)), (1, .int x1), (2, .int x2), (3, .int x3)] → wJ7_fill_53178_5 ids a0 n0 post x1 x3 n x2 σ → W p l e rmJ7_fill_53178 s m args below meth c H locs 0 0 Q (F0 m 5 ls []) := by
    intro   x1 x3 n
    induction n with
    | zero => intro x2 σ H locs ls hW hl h; exact (h : False).elim
    | succ n ih =>
      intro x2 σ H locs ls hW hl h
      have hk5 : ∀ (x2 : Int32) (σ : St) (H : Heap) (locs : List Loc) (ls : Array Slot), xW D KA layX stX ad ids (xA ad ids s.heap.size) s.heap σ H locs → lv_has ls 4 [(0, .ref (ad a0)), (1, .int x1), (2, .int x2), (3, .int x3)] → (wJ7_fill_53178_5 ids a0 n0 post x1 x3 n) x2 σ → W p l e rmJ7_fill_53178 s m args below meth c H locs 0 0 Q (F0 m 5 ls []) := fun x2 σ H locs ls hW hl h => ih x2 σ H locs ls hW hl h
      rw [wJ7_fill_53178_5_s] at h
      try dsimp only at h
      generalize wJ7_fill_53178_5 ids a0 n0 post x1 x3 n = k5 at h hk5
      refine lv_iload_n hx hb dJ7_fill_53178_5 rfl (lv_at hl 2 rfl) ?_
      refine lv_iload_n hx hb dJ7_fill_53178_6 rfl (lv_at hl 3 rfl) ?_
      refine lv_icmp_ge (tgt := 20) hx hb dJ7_fill_53178_7 (by decide) (fun c1 => ?_) (fun c1 => ?_)
      · have h := h.1 c1
        exact kr _ _ _ _ _ hW h dJ7_fill_53178_20
      · have h := h.2 c1
        refine lv_aload_n hx hb dJ7_fill_53178_10 rfl (lv_at hl 0 rfl) ?_
        refine lv_iload_n hx hb dJ7_fill_53178_11 rfl (lv_at hl 2 rfl) ?_
        refine lv_iload_n hx hb dJ7_fill_53178_12 rfl (lv_at hl 1 rfl) ?_
        obtain ⟨hi2, h⟩ := h
        refine x_iast hx hb hK hW a0 hm_a0 hl_a0 hi2 dJ7_fill_53178_13 (fun σ3 H locs hσ3 hW => ?_)
        have h := h σ3 hσ3
        obtain ⟨v4, hv4⟩ : ∃ y : Int32, y = x2 + (1 : Int32) := ⟨_, rfl⟩
        have h := h v4 hv4
        refine lv_iinc (v := v4) (lv' := [(2, .int v4), (0, .ref (ad a0)), (1, .int x1), (3, .int x3)]) hx hb dJ7_fill_53178_14 hl (k := 2) rfl (by rw [hv4]; rfl) (by decide) rfl (fun ls hl => ?_)
        refine lv_goto (tgt := 5) hx hb dJ7_fill_53178_17 (by decide) ?_
        exact hk5 v4 _ _ _ _ hW (lv_sub hl [1, 2, 0, 3] rfl) h
  have main : ∀ (H : Heap) (locs : List Loc) (ls : Array Slot), xW D KA layX stX ad ids (xA ad ids s.heap.size) s.heap σ H locs → lv_has ls 4 [(0, .ref (ad a0)), (1, .int a1)] → W p l e rmJ7_fill_53178 s m args below meth c H locs 0 0 Q (F0 m 0 ls []) := by
    intro H locs ls hW hl
    unfold wJ7_fill_53178 at h
    refine lv_iconst (v := 0) hx hb dJ7_fill_53178_0 (by decide) ?_
    refine lv_istore_n (lv' := [(2, .int (0 : Int32)), (0, .ref (ad a0)), (1, .int a1)]) hx hb dJ7_fill_53178_1 rfl hl (by decide) rfl (fun ls hl => ?_)
    refine lv_aload_n hx hb dJ7_fill_53178_2 rfl (lv_at hl 1 rfl) ?_
    refine x_alen hx hb hK hW a0 hm_a0 hl_a0 dJ7_fill_53178_3 ?_
    refine lv_topi (fun v1001 hv1001 => ?_)
    have h := h v1001 hv1001
    refine lv_istore_n (lv' := [(3, .int v1001), (2, .int (0 : Int32)), (0, .ref (ad a0)), (1, .int a1)]) hx hb dJ7_fill_53178_4 rfl hl (by decide) rfl (fun ls hl => ?_)
    obtain ⟨n, h⟩ := h
    exact blk5   a1 v1001 n (0 : Int32) _ _ _ _ hW (lv_sub hl [2, 3, 1, 0] rfl) h
  exact main _ _ _ hW hl
theorem hwX0_above_0 : (.fieldLink RX0 26 "FortyBelts$Belt" "a" "I" : Cond) ∈ wsX0_above := (List.mem_cons_of_mem _ (List.mem_append_left _ (List.mem_append_left _ (List.mem_append_left _ (List.mem_append_left _ (List.mem_append_left _ (List.mem_append_left _ (List.mem_of_getElem? (i := 0) rfl))))))))
theorem hcX0_above_X0 : ∀ w ∈ wsX00, w ∈ wsX0_above := fun _ h => (List.mem_cons_of_mem _ (List.mem_append_left _ (List.mem_append_left _ (List.mem_append_left _ (List.mem_append_left _ (List.mem_append_left _ (List.mem_append_right _ h)))))))
theorem hcX0_above_X1 : ∀ w ∈ wsX10, w ∈ wsX0_above := fun _ h => (List.mem_cons_of_mem _ (List.mem_append_left _ (List.mem_append_left _ (List.mem_append_left _ (List.mem_append_left _ (List.mem_append_right _ h))))))
theorem hcX0_above_X2 : ∀ w ∈ wsX20, w ∈ wsX0_above := fun _ h => (List.mem_cons_of_mem _ (List.mem_append_left _ (List.mem_append_left _ (List.mem_append_left _ (List.mem_append_right _ h)))))
theorem hcX0_above_X3 : ∀ w ∈ wsX30, w ∈ wsX0_above := fun _ h => (List.mem_cons_of_mem _ (List.mem_append_left _ (List.mem_append_left _ (List.mem_append_right _ h))))
theorem hcX0_above_X4 : ∀ w ∈ wsX40, w ∈ wsX0_above := fun _ h => (List.mem_cons_of_mem _ (List.mem_append_left _ (List.mem_append_right _ h)))
theorem hcX0_above_X10 : ∀ w ∈ wsX100, w ∈ wsX0_above := fun _ h => (List.mem_cons_of_mem _ (List.mem_append_right _ h))
theorem hBX0_above : xHB wsX0_above := ⟨hcX0_above_X0, hcX0_above_X1, hcX0_above_X2, hcX0_above_X3, hcX0_above_X4, hcX0_above_X10⟩
set_option maxHeartbeats 4000000 in
set_option maxRecDepth 100000 in
theorem J_X0_above {D : va_G} {KA : Nat → ClassId} {zs : ZS} {ad : Nat → Nat} {ids : List Nat} {sz : Nat} (l : Launch) (hI : ∀ c, c < 52 ∧ ¬ c = 19 → c ∈ ids) {a0 : Nat} (ok_a0 : okB ids a0) {σ : St} {post : Int32 → St → Prop} (h : wX0_above ids a0 σ post) : Met l yX0_above wsX0_above rmX0_above (va_Pc [.ref (ad a0)] (xIn D KA zs layX stX ad ids sz σ)) (va_Qi post (xOut D KA layX stX ad ids) (xA ad ids sz)) 0 0 (xA ad ids sz) := by
  refine Met.ofW (cc := cX0_above) (maxL := 1) (ret := (some .int)) (by decide) rfl ?_
  intro p e s m args below meth c s₁ B hml hv
  obtain ⟨hav, hsz, hK, hZ, hP, hD⟩ := hv
  have hx := B.exec
  have hb := B.bytes
  have hr := B.returns
  have hts := atoms_spec (ws := wsX0_above) B.pre
  have hown : s.vm.findClass RX0 = some m.cls := findClass_of_methodNamed B.named
  have hlocks := B.notSynchronized
  subst hsz
  have hA : ∀ q : Nat, s.heap.size ≤ q → xA ad ids s.heap.size q := fun q h => Or.inr h
  have hW : xW D KA layX stX ad ids (xA ad ids s.heap.size) s.heap σ s.heap [] := ⟨hP, xA_D (D := D) hD, va_S.rf⟩
  have kr : ∀ (v : Int32) (σ : St) (H : Heap) (locs : List Loc) (ls : Array Slot) (pc : Nat), xW D KA layX stX ad ids (xA ad ids s.heap.size) s.heap σ H locs → post v σ → decode cX0_above pc = .ok (.ireturn, 1) → W p l e rmX0_above s m args below meth c H locs 0 0 (MQ below (va_Qi post (xOut D KA layX stX ad ids) (xA ad ids s.heap.size)) args s 0 0 (xA ad ids s.heap.size)) (F0 m pc ls [.int v]) := fun v σ H locs ls pc hW h hd => x_iret hx hb hr hlocks hW h hd
  have hl := lv_entry ([.ref (ad a0)]) (n := 1) (Nat.le_of_ble_eq_true rfl)
  rw [show entryFrame m args 1 = entryFrame m ([.ref (ad a0)] : List Value).toArray 1 from by rw [hav]]
  rw [lg_entry_eq]
  generalize (lg_sl ([.ref (ad a0)]) ++ List.replicate (1 - (lg_sl ([.ref (ad a0)])).length) Slot.unset).toArray = ls at hl ⊢
  have hl : lv_has ls 1 [(0, .ref (ad a0))] := hl
  show W p l e rmX0_above s m args below meth c s.heap [] 0 0 _ _
  generalize MQ below (va_Qi post (xOut D KA layX stX ad ids) (xA ad ids s.heap.size)) args s 0 0 (xA ad ids s.heap.size) = Q at kr ⊢
  have main : ∀ (H : Heap) (locs : List Loc) (ls : Array Slot), xW D KA layX stX ad ids (xA ad ids s.heap.size) s.heap σ H locs → lv_has ls 1 [(0, .ref (ad a0))] → W p l e rmX0_above s m args below meth c H locs 0 0 Q (F0 m 0 ls []) := by
    intro H locs ls hW hl
    unfold wX0_above at h
    refine lv_aload_n hx hb dX0_above_0 rfl (lv_at hl 0 rfl) ?_
    refine xgB_6 hx hb hts hown hK hW a0 hBX0_above ok_a0 (hts _ hwX0_above_0) (fun _ h => h) dX0_above_1 ?_
    exact kr _ _ _ _ _ _ hW h dX0_above_4
  exact main _ _ _ hW hl
theorem hwX0_below_0 : (.fieldLink RX0 29 "FortyBelts$Belt" "b" "I" : Cond) ∈ wsX0_below := (List.mem_cons_of_mem _ (List.mem_append_left _ (List.mem_append_left _ (List.mem_append_left _ (List.mem_append_left _ (List.mem_append_left _ (List.mem_append_left _ (List.mem_of_getElem? (i := 0) rfl))))))))
theorem hcX0_below_X0 : ∀ w ∈ wsX00, w ∈ wsX0_below := fun _ h => (List.mem_cons_of_mem _ (List.mem_append_left _ (List.mem_append_left _ (List.mem_append_left _ (List.mem_append_left _ (List.mem_append_left _ (List.mem_append_right _ h)))))))
theorem hcX0_below_X1 : ∀ w ∈ wsX10, w ∈ wsX0_below := fun _ h => (List.mem_cons_of_mem _ (List.mem_append_left _ (List.mem_append_left _ (List.mem_append_left _ (List.mem_append_left _ (List.mem_append_right _ h))))))
theorem hcX0_below_X2 : ∀ w ∈ wsX20, w ∈ wsX0_below := fun _ h => (List.mem_cons_of_mem _ (List.mem_append_left _ (List.mem_append_left _ (List.mem_append_left _ (List.mem_append_right _ h)))))
theorem hcX0_below_X3 : ∀ w ∈ wsX30, w ∈ wsX0_below := fun _ h => (List.mem_cons_of_mem _ (List.mem_append_left _ (List.mem_append_left _ (List.mem_append_right _ h))))
theorem hcX0_below_X4 : ∀ w ∈ wsX40, w ∈ wsX0_below := fun _ h => (List.mem_cons_of_mem _ (List.mem_append_left _ (List.mem_append_right _ h)))
theorem hcX0_below_X10 : ∀ w ∈ wsX100, w ∈ wsX0_below := fun _ h => (List.mem_cons_of_mem _ (List.mem_append_right _ h))
theorem hBX0_below : xHB wsX0_below := ⟨hcX0_below_X0, hcX0_below_X1, hcX0_below_X2, hcX0_below_X3, hcX0_below_X4, hcX0_below_X10⟩
set_option maxHeartbeats 4000000 in
set_option maxRecDepth 100000 in
theorem J_X0_below {D : va_G} {KA : Nat → ClassId} {zs : ZS} {ad : Nat → Nat} {ids : List Nat} {sz : Nat} (l : Launch) (hI : ∀ c, c < 52 ∧ ¬ c = 19 → c ∈ ids) {a0 : Nat} (ok_a0 : okB ids a0) {σ : St} {post : Int32 → St → Prop} (h : wX0_below ids a0 σ post) : Met l yX0_below wsX0_below rmX0_below (va_Pc [.ref (ad a0)] (xIn D KA zs layX stX ad ids sz σ)) (va_Qi post (xOut D KA layX stX ad ids) (xA ad ids sz)) 0 0 (xA ad ids sz) := by
  refine Met.ofW (cc := cX0_below) (maxL := 1) (ret := (some .int)) (by decide) rfl ?_
  intro p e s m args below meth c s₁ B hml hv
  obtain ⟨hav, hsz, hK, hZ, hP, hD⟩ := hv
  have hx := B.exec
  have hb := B.bytes
  have hr := B.returns
  have hts := atoms_spec (ws := wsX0_below) B.pre
  have hown : s.vm.findClass RX0 = some m.cls := findClass_of_methodNamed B.named
  have hlocks := B.notSynchronized
  subst hsz
  have hA : ∀ q : Nat, s.heap.size ≤ q → xA ad ids s.heap.size q := fun q h => Or.inr h
  have hW : xW D KA layX stX ad ids (xA ad ids s.heap.size) s.heap σ s.heap [] := ⟨hP, xA_D (D := D) hD, va_S.rf⟩
  have kr : ∀ (v : Int32) (σ : St) (H : Heap) (locs : List Loc) (ls : Array Slot) (pc : Nat), xW D KA layX stX ad ids (xA ad ids s.heap.size) s.heap σ H locs → post v σ → decode cX0_below pc = .ok (.ireturn, 1) → W p l e rmX0_below s m args below meth c H locs 0 0 (MQ below (va_Qi post (xOut D KA layX stX ad ids) (xA ad ids s.heap.size)) args s 0 0 (xA ad ids s.heap.size)) (F0 m pc ls [.int v]) := fun v σ H locs ls pc hW h hd => x_iret hx hb hr hlocks hW h hd
  have hl := lv_entry ([.ref (ad a0)]) (n := 1) (Nat.le_of_ble_eq_true rfl)
  rw [show entryFrame m args 1 = entryFrame m ([.ref (ad a0)] : List Value).toArray 1 from by rw [hav]]
  rw [lg_entry_eq]
  generalize (lg_sl ([.ref (ad a0)]) ++ List.replicate (1 - (lg_sl ([.ref (ad a0)])).length) Slot.unset).toArray = ls at hl ⊢
  have hl : lv_has ls 1 [(0, .ref (ad a0))] := hl
  show W p l e rmX0_below s m args below meth c s.heap [] 0 0 _ _
  generalize MQ below (va_Qi post (xOut D KA layX stX ad ids) (xA ad ids s.heap.size)) args s 0 0 (xA ad ids s.heap.size) = Q at kr ⊢
  have main : ∀ (H : Heap) (locs : List Loc) (ls : Array Slot), xW D KA layX stX ad ids (xA ad ids s.heap.size) s.heap σ H locs → lv_has ls 1 [(0, .ref (ad a0))] → W p l e rmX0_below s m args below meth c H locs 0 0 Q (F0 m 0 ls []) := by
    intro H locs ls hW hl
    unfold wX0_below at h
    refine lv_aload_n hx hb dX0_below_0 rfl (lv_at hl 0 rfl) ?_
    refine xgB_7 hx hb hts hown hK hW a0 hBX0_below ok_a0 (hts _ hwX0_below_0) (fun _ h => h) dX0_below_1 ?_
    exact kr _ _ _ _ _ _ hW h dX0_below_4
  exact main _ _ _ hW hl
theorem hwX0_init_0 : (.methodLink RX0 1 objectInit : Cond) ∈ wsX0_init := (List.mem_cons_of_mem _ (List.mem_append_left _ (List.mem_append_left _ (List.mem_append_left _ (List.mem_append_left _ (List.mem_append_left _ (List.mem_append_left _ (List.mem_of_getElem? (i := 0) rfl))))))))
theorem hwX0_init_1 : (.instanceMethod objectInit : Cond) ∈ wsX0_init := (List.mem_cons_of_mem _ (List.mem_append_left _ (List.mem_append_left _ (List.mem_append_left _ (List.mem_append_left _ (List.mem_append_left _ (List.mem_append_left _ (List.mem_of_getElem? (i := 1) rfl))))))))
theorem hwX0_init_2 : (.code objectInit ⟨#[0xb1]⟩ 1 none : Cond) ∈ wsX0_init := (List.mem_cons_of_mem _ (List.mem_append_left _ (List.mem_append_left _ (List.mem_append_left _ (List.mem_append_left _ (List.mem_append_left _ (List.mem_append_left _ (List.mem_of_getElem? (i := 2) rfl))))))))
theorem hwX0_init_3 : (.fieldLink RX0 7 "FortyBelts$Belt" "on" "Z" : Cond) ∈ wsX0_init := (List.mem_cons_of_mem _ (List.mem_append_left _ (List.mem_append_left _ (List.mem_append_left _ (List.mem_append_left _ (List.mem_append_left _ (List.mem_append_left _ (List.mem_of_getElem? (i := 3) rfl))))))))
theorem hwX0_init_4 : (.fieldLink RX0 13 "FortyBelts$Belt" "kind" "I" : Cond) ∈ wsX0_init := (List.mem_cons_of_mem _ (List.mem_append_left _ (List.mem_append_left _ (List.mem_append_left _ (List.mem_append_left _ (List.mem_append_left _ (List.mem_append_left _ (List.mem_of_getElem? (i := 4) rfl))))))))
theorem hwX0_init_5 : (.fieldLink RX0 17 "FortyBelts$Belt" "driver" "I" : Cond) ∈ wsX0_init := (List.mem_cons_of_mem _ (List.mem_append_left _ (List.mem_append_left _ (List.mem_append_left _ (List.mem_append_left _ (List.mem_append_left _ (List.mem_append_left _ (List.mem_of_getElem? (i := 5) rfl))))))))
theorem hwX0_init_6 : (.fieldLink RX0 20 "FortyBelts$Belt" "driven" "I" : Cond) ∈ wsX0_init := (List.mem_cons_of_mem _ (List.mem_append_left _ (List.mem_append_left _ (List.mem_append_left _ (List.mem_append_left _ (List.mem_append_left _ (List.mem_append_left _ (List.mem_of_getElem? (i := 6) rfl))))))))
theorem hwX0_init_7 : (.fieldLink RX0 23 "FortyBelts$Belt" "grip" "I" : Cond) ∈ wsX0_init := (List.mem_cons_of_mem _ (List.mem_append_left _ (List.mem_append_left _ (List.mem_append_left _ (List.mem_append_left _ (List.mem_append_left _ (List.mem_append_left _ (List.mem_of_getElem? (i := 7) rfl))))))))
theorem hcX0_init_X0 : ∀ w ∈ wsX00, w ∈ wsX0_init := fun _ h => (List.mem_cons_of_mem _ (List.mem_append_left _ (List.mem_append_left _ (List.mem_append_left _ (List.mem_append_left _ (List.mem_append_left _ (List.mem_append_right _ h)))))))
theorem hcX0_init_X1 : ∀ w ∈ wsX10, w ∈ wsX0_init := fun _ h => (List.mem_cons_of_mem _ (List.mem_append_left _ (List.mem_append_left _ (List.mem_append_left _ (List.mem_append_left _ (List.mem_append_right _ h))))))
theorem hcX0_init_X2 : ∀ w ∈ wsX20, w ∈ wsX0_init := fun _ h => (List.mem_cons_of_mem _ (List.mem_append_left _ (List.mem_append_left _ (List.mem_append_left _ (List.mem_append_right _ h)))))
theorem hcX0_init_X3 : ∀ w ∈ wsX30, w ∈ wsX0_init := fun _ h => (List.mem_cons_of_mem _ (List.mem_append_left _ (List.mem_append_left _ (List.mem_append_right _ h))))
theorem hcX0_init_X4 : ∀ w ∈ wsX40, w ∈ wsX0_init := fun _ h => (List.mem_cons_of_mem _ (List.mem_append_left _ (List.mem_append_right _ h)))
theorem hcX0_init_X10 : ∀ w ∈ wsX100, w ∈ wsX0_init := fun _ h => (List.mem_cons_of_mem _ (List.mem_append_right _ h))
theorem hBX0_init : xHB wsX0_init := ⟨hcX0_init_X0, hcX0_init_X1, hcX0_init_X2, hcX0_init_X3, hcX0_init_X4, hcX0_init_X10⟩
set_option maxHeartbeats 4000000 in
set_option maxRecDepth 100000 in
theorem J_X0_init {D : va_G} {KA : Nat → ClassId} {zs : ZS} {ad : Nat → Nat} {ids : List Nat} {sz : Nat} (l : Launch) (hI : ∀ c, c < 52 ∧ ¬ c = 19 → c ∈ ids) {a0 : Nat} {a1 : Int32} {a2 : Int32} {a3 : Int32} {a4 : Int32} (ok_a0 : okB ids a0) {σ : St} {post : St → Prop} (h : wX0_init ids a0 a1 a2 a3 a4 σ post) : Met l yX0_init wsX0_init rmX0_init (va_Pc [.ref (ad a0), .int a1, .int a2, .int a3, .int a4] (xIn D KA zs layX stX ad ids sz σ)) (va_Qv post (xOut D KA layX stX ad ids) (xA ad ids sz)) 0 0 (xA ad ids sz) := by
  refine Met.ofW (cc := cX0_init) (maxL := 5) (ret := none) (by decide) rfl ?_
  intro p e s m args below meth c s₁ B hml hv
  obtain ⟨hav, hsz, hK, hZ, hP, hD⟩ := hv
  have hx := B.exec
  have hb := B.bytes
  have hr := B.returns
  have hts := atoms_spec (ws := wsX0_init) B.pre
  have hown : s.vm.findClass RX0 = some m.cls := findClass_of_methodNamed B.named
  have hlocks := B.notSynchronized
  have hin2 : meth.name = "<init>" := (name_of_methodNamed B.named B.method).1
  subst hsz
  have hA : ∀ q : Nat, s.heap.size ≤ q → xA ad ids s.heap.size q := fun q h => Or.inr h
  have hW : xW D KA layX stX ad ids (xA ad ids s.heap.size) s.heap σ s.heap [] := ⟨hP, xA_D (D := D) hD, va_S.rf⟩
  have kr : ∀ (σ : St) (H : Heap) (locs : List Loc) (ls : Array Slot) (pc : Nat), xW D KA layX stX ad ids (xA ad ids s.heap.size) s.heap σ H locs → post σ → decode cX0_init pc = .ok (.return_, 1) → W p l e rmX0_init s m args below meth c H locs 0 0 (MQ below (va_Qv post (xOut D KA layX stX ad ids) (xA ad ids s.heap.size)) args s 0 0 (xA ad ids s.heap.size)) (F0 m pc ls []) := fun σ H locs ls pc hW h hd => x_vret hx hb hr hlocks hW h hd
  have hl := lv_entry ([.ref (ad a0), .int a1, .int a2, .int a3, .int a4]) (n := 5) (Nat.le_of_ble_eq_true rfl)
  rw [show entryFrame m args 5 = entryFrame m ([.ref (ad a0), .int a1, .int a2, .int a3, .int a4] : List Value).toArray 5 from by rw [hav]]
  rw [lg_entry_eq]
  generalize (lg_sl ([.ref (ad a0), .int a1, .int a2, .int a3, .int a4]) ++ List.replicate (5 - (lg_sl ([.ref (ad a0), .int a1, .int a2, .int a3, .int a4])).length) Slot.unset).toArray = ls at hl ⊢
  have hl : lv_has ls 5 [(0, .ref (ad a0)), (1, .int a1), (2, .int a2), (3, .int a3), (4, .int a4)] := hl
  show W p l e rmX0_init s m args below meth c s.heap [] 0 0 _ _
  generalize MQ below (va_Qv post (xOut D KA layX stX ad ids) (xA ad ids s.heap.size)) args s 0 0 (xA ad ids s.heap.size) = Q at kr ⊢
  have main : ∀ (H : Heap) (locs : List Loc) (ls : Array Slot), xW D KA layX stX ad ids (xA ad ids s.heap.size) s.heap σ H locs → lv_has ls 5 [(0, .ref (ad a0)), (1, .int a1), (2, .int a2), (3, .int a3), (4, .int a4)] → W p l e rmX0_init s m args below meth c H locs 0 0 Q (F0 m 0 ls []) := by
    intro H locs ls hW hl
    unfold wX0_init at h
    refine lv_aload_n hx hb dX0_init_0 rfl (lv_at hl 0 rfl) ?_
    refine W.objInit hx hb hown (hts _ hwX0_init_0) (hts _ hwX0_init_1) (hts _ hwX0_init_2) rfl (by rw [hml]; exact hl.1) rfl dX0_init_1 (Nat.le_of_ble_eq_true rfl) (Nat.le_of_ble_eq_true rfl) ?_
    refine W.eq (g2 := F0 m 4 ls []) rfl ?_
    refine lv_aload_n hx hb dX0_init_4 rfl (lv_at hl 0 rfl) ?_
    refine lv_iconst (v := 1) hx hb dX0_init_5 (by decide) ?_
    refine xpB_8 hx hb hts hown hK hW a0 hBX0_init ok_a0 (hts _ hwX0_init_3) isB_1 dX0_init_6 (fun σ1001 H locs hσ1001 hW => ?_)
    have h := h σ1001 hσ1001
    refine lv_aload_n hx hb dX0_init_9 rfl (lv_at hl 0 rfl) ?_
    refine lv_iload_n hx hb dX0_init_10 rfl (lv_at hl 1 rfl) ?_
    refine xfB_0 hx hb hts hown hK hW a0 hBX0_init ok_a0 (hts _ hwX0_init_4) hin2 rfl dX0_init_11 (fun σ1002 H locs hσ1002 hW => ?_)
    have h := h σ1002 hσ1002
    refine lv_aload_n hx hb dX0_init_14 rfl (lv_at hl 0 rfl) ?_
    refine lv_iload_n hx hb dX0_init_15 rfl (lv_at hl 2 rfl) ?_
    refine xfB_1 hx hb hts hown hK hW a0 hBX0_init ok_a0 (hts _ hwX0_init_5) hin2 rfl dX0_init_16 (fun σ1003 H locs hσ1003 hW => ?_)
    have h := h σ1003 hσ1003
    refine lv_aload_n hx hb dX0_init_19 rfl (lv_at hl 0 rfl) ?_
    refine lv_iload_n hx hb dX0_init_20 rfl (lv_at hl 3 rfl) ?_
    refine xfB_2 hx hb hts hown hK hW a0 hBX0_init ok_a0 (hts _ hwX0_init_6) hin2 rfl dX0_init_21 (fun σ1004 H locs hσ1004 hW => ?_)
    have h := h σ1004 hσ1004
    refine lv_aload_n hx hb dX0_init_24 rfl (lv_at hl 0 rfl) ?_
    refine lv_iload hx hb dX0_init_25 (lv_at hl 4 rfl) ?_
    refine xfB_3 hx hb hts hown hK hW a0 hBX0_init ok_a0 (hts _ hwX0_init_7) hin2 rfl dX0_init_27 (fun σ1005 H locs hσ1005 hW => ?_)
    have h := h σ1005 hσ1005
    exact kr _ _ _ _ _ hW h dX0_init_30
  exact main _ _ _ hW hl
theorem hwX0_keep_0 : (.fieldLink RX0 45 "FortyBelts$Belt" "isKept" "Z" : Cond) ∈ wsX0_keep := (List.mem_cons_of_mem _ (List.mem_append_left _ (List.mem_append_left _ (List.mem_append_left _ (List.mem_append_left _ (List.mem_append_left _ (List.mem_append_left _ (List.mem_of_getElem? (i := 0) rfl))))))))
theorem hwX0_keep_1 : (.fieldLink RX0 7 "FortyBelts$Belt" "on" "Z" : Cond) ∈ wsX0_keep := (List.mem_cons_of_mem _ (List.mem_append_left _ (List.mem_append_left _ (List.mem_append_left _ (List.mem_append_left _ (List.mem_append_left _ (List.mem_append_left _ (List.mem_of_getElem? (i := 1) rfl))))))))
theorem hwX0_keep_2 : (.fieldLink RX0 48 "FortyBelts$Belt" "keptOn" "Z" : Cond) ∈ wsX0_keep := (List.mem_cons_of_mem _ (List.mem_append_left _ (List.mem_append_left _ (List.mem_append_left _ (List.mem_append_left _ (List.mem_append_left _ (List.mem_append_left _ (List.mem_of_getElem? (i := 2) rfl))))))))
theorem hwX0_keep_3 : (.fieldLink RX0 51 "FortyBelts$Belt" "driverDrum" "I" : Cond) ∈ wsX0_keep := (List.mem_cons_of_mem _ (List.mem_append_left _ (List.mem_append_left _ (List.mem_append_left _ (List.mem_append_left _ (List.mem_append_left _ (List.mem_append_left _ (List.mem_of_getElem? (i := 3) rfl))))))))
theorem hwX0_keep_4 : (.fieldLink RX0 54 "FortyBelts$Belt" "keptDriverDrum" "I" : Cond) ∈ wsX0_keep := (List.mem_cons_of_mem _ (List.mem_append_left _ (List.mem_append_left _ (List.mem_append_left _ (List.mem_append_left _ (List.mem_append_left _ (List.mem_append_left _ (List.mem_of_getElem? (i := 4) rfl))))))))
theorem hwX0_keep_5 : (.fieldLink RX0 57 "FortyBelts$Belt" "drivenDrum" "I" : Cond) ∈ wsX0_keep := (List.mem_cons_of_mem _ (List.mem_append_left _ (List.mem_append_left _ (List.mem_append_left _ (List.mem_append_left _ (List.mem_append_left _ (List.mem_append_left _ (List.mem_of_getElem? (i := 5) rfl))))))))
theorem hwX0_keep_6 : (.fieldLink RX0 60 "FortyBelts$Belt" "keptDrivenDrum" "I" : Cond) ∈ wsX0_keep := (List.mem_cons_of_mem _ (List.mem_append_left _ (List.mem_append_left _ (List.mem_append_left _ (List.mem_append_left _ (List.mem_append_left _ (List.mem_append_left _ (List.mem_of_getElem? (i := 6) rfl))))))))
theorem hcX0_keep_X0 : ∀ w ∈ wsX00, w ∈ wsX0_keep := fun _ h => (List.mem_cons_of_mem _ (List.mem_append_left _ (List.mem_append_left _ (List.mem_append_left _ (List.mem_append_left _ (List.mem_append_left _ (List.mem_append_right _ h)))))))
theorem hcX0_keep_X1 : ∀ w ∈ wsX10, w ∈ wsX0_keep := fun _ h => (List.mem_cons_of_mem _ (List.mem_append_left _ (List.mem_append_left _ (List.mem_append_left _ (List.mem_append_left _ (List.mem_append_right _ h))))))
theorem hcX0_keep_X2 : ∀ w ∈ wsX20, w ∈ wsX0_keep := fun _ h => (List.mem_cons_of_mem _ (List.mem_append_left _ (List.mem_append_left _ (List.mem_append_left _ (List.mem_append_right _ h)))))
theorem hcX0_keep_X3 : ∀ w ∈ wsX30, w ∈ wsX0_keep := fun _ h => (List.mem_cons_of_mem _ (List.mem_append_left _ (List.mem_append_left _ (List.mem_append_right _ h))))
theorem hcX0_keep_X4 : ∀ w ∈ wsX40, w ∈ wsX0_keep := fun _ h => (List.mem_cons_of_mem _ (List.mem_append_left _ (List.mem_append_right _ h)))
theorem hcX0_keep_X10 : ∀ w ∈ wsX100, w ∈ wsX0_keep := fun _ h => (List.mem_cons_of_mem _ (List.mem_append_right _ h))
theorem hBX0_keep : xHB wsX0_keep := ⟨hcX0_keep_X0, hcX0_keep_X1, hcX0_keep_X2, hcX0_keep_X3, hcX0_keep_X4, hcX0_keep_X10⟩
set_option maxHeartbeats 4000000 in
set_option maxRecDepth 100000 in
theorem J_X0_keep {D : va_G} {KA : Nat → ClassId} {zs : ZS} {ad : Nat → Nat} {ids : List Nat} {sz : Nat} (l : Launch) (hI : ∀ c, c < 52 ∧ ¬ c = 19 → c ∈ ids) {a0 : Nat} (ok_a0 : okB ids a0) {σ : St} {post : St → Prop} (h : wX0_keep ids a0 σ post) : Met l yX0_keep wsX0_keep rmX0_keep (va_Pc [.ref (ad a0)] (xIn D KA zs layX stX ad ids sz σ)) (va_Qv post (xOut D KA layX stX ad ids) (xA ad ids sz)) 0 0 (xA ad ids sz) := by
  refine Met.ofW (cc := cX0_keep) (maxL := 1) (ret := none) (by decide) rfl ?_
  intro p e s m args below meth c s₁ B hml hv
  obtain ⟨hav, hsz, hK, hZ, hP, hD⟩ := hv
  have hx := B.exec
  have hb := B.bytes
  have hr := B.returns
  have hts := atoms_spec (ws := wsX0_keep) B.pre
  have hown : s.vm.findClass RX0 = some m.cls := findClass_of_methodNamed B.named
  have hlocks := B.notSynchronized
  subst hsz
  have hA : ∀ q : Nat, s.heap.size ≤ q → xA ad ids s.heap.size q := fun q h => Or.inr h
  have hW : xW D KA layX stX ad ids (xA ad ids s.heap.size) s.heap σ s.heap [] := ⟨hP, xA_D (D := D) hD, va_S.rf⟩
  have kr : ∀ (σ : St) (H : Heap) (locs : List Loc) (ls : Array Slot) (pc : Nat), xW D KA layX stX ad ids (xA ad ids s.heap.size) s.heap σ H locs → post σ → decode cX0_keep pc = .ok (.return_, 1) → W p l e rmX0_keep s m args below meth c H locs 0 0 (MQ below (va_Qv post (xOut D KA layX stX ad ids) (xA ad ids s.heap.size)) args s 0 0 (xA ad ids s.heap.size)) (F0 m pc ls []) := fun σ H locs ls pc hW h hd => x_vret hx hb hr hlocks hW h hd
  have hl := lv_entry ([.ref (ad a0)]) (n := 1) (Nat.le_of_ble_eq_true rfl)
  rw [show entryFrame m args 1 = entryFrame m ([.ref (ad a0)] : List Value).toArray 1 from by rw [hav]]
  rw [lg_entry_eq]
  generalize (lg_sl ([.ref (ad a0)]) ++ List.replicate (1 - (lg_sl ([.ref (ad a0)])).length) Slot.unset).toArray = ls at hl ⊢
  have hl : lv_has ls 1 [(0, .ref (ad a0))] := hl
  show W p l e rmX0_keep s m args below meth c s.heap [] 0 0 _ _
  generalize MQ below (va_Qv post (xOut D KA layX stX ad ids) (xA ad ids s.heap.size)) args s 0 0 (xA ad ids s.heap.size) = Q at kr ⊢
  have main : ∀ (H : Heap) (locs : List Loc) (ls : Array Slot), xW D KA layX stX ad ids (xA ad ids s.heap.size) s.heap σ H locs → lv_has ls 1 [(0, .ref (ad a0))] → W p l e rmX0_keep s m args below meth c H locs 0 0 Q (F0 m 0 ls []) := by
    intro H locs ls hW hl
    unfold wX0_keep at h
    refine lv_aload_n hx hb dX0_keep_0 rfl (lv_at hl 0 rfl) ?_
    refine lv_iconst (v := 1) hx hb dX0_keep_1 (by decide) ?_
    refine xpB_9 hx hb hts hown hK hW a0 hBX0_keep ok_a0 (hts _ hwX0_keep_0) isB_1 dX0_keep_2 (fun σ1001 H locs hσ1001 hW => ?_)
    have h := h σ1001 hσ1001
    refine lv_aload_n hx hb dX0_keep_5 rfl (lv_at hl 0 rfl) ?_
    refine lv_aload_n hx hb dX0_keep_6 rfl (lv_at hl 0 rfl) ?_
    refine xgB_8 hx hb hts hown hK hW a0 hBX0_keep ok_a0 (hts _ hwX0_keep_1) (fun _ h => h) dX0_keep_7 ?_
    obtain ⟨hz1002, h⟩ := h
    refine xpB_10 hx hb hts hown hK hW a0 hBX0_keep ok_a0 (hts _ hwX0_keep_2) hz1002 dX0_keep_10 (fun σ1003 H locs hσ1003 hW => ?_)
    have h := h σ1003 hσ1003
    refine lv_aload_n hx hb dX0_keep_13 rfl (lv_at hl 0 rfl) ?_
    refine lv_aload_n hx hb dX0_keep_14 rfl (lv_at hl 0 rfl) ?_
    refine xgB_4 hx hb hts hown hK hW a0 hBX0_keep ok_a0 (hts _ hwX0_keep_3) (fun _ h => h) dX0_keep_15 ?_
    refine xpB_11 hx hb hts hown hK hW a0 hBX0_keep ok_a0 (hts _ hwX0_keep_4) dX0_keep_18 (fun σ1004 H locs hσ1004 hW => ?_)
    have h := h σ1004 hσ1004
    refine lv_aload_n hx hb dX0_keep_21 rfl (lv_at hl 0 rfl) ?_
    refine lv_aload_n hx hb dX0_keep_22 rfl (lv_at hl 0 rfl) ?_
    refine xgB_5 hx hb hts hown hK hW a0 hBX0_keep ok_a0 (hts _ hwX0_keep_5) (fun _ h => h) dX0_keep_23 ?_
    refine xpB_12 hx hb hts hown hK hW a0 hBX0_keep ok_a0 (hts _ hwX0_keep_6) dX0_keep_26 (fun σ1005 H locs hσ1005 hW => ?_)
    have h := h σ1005 hσ1005
    exact kr _ _ _ _ _ hW h dX0_keep_29
  exact main _ _ _ hW hl
theorem hwX0_plainLength_0 : (.fieldLink RX0 26 "FortyBelts$Belt" "a" "I" : Cond) ∈ wsX0_plainLength := (List.mem_cons_of_mem _ (List.mem_append_left _ (List.mem_append_left _ (List.mem_append_left _ (List.mem_append_left _ (List.mem_append_left _ (List.mem_append_left _ (List.mem_of_getElem? (i := 0) rfl))))))))
theorem hwX0_plainLength_1 : (.fieldLink RX0 29 "FortyBelts$Belt" "b" "I" : Cond) ∈ wsX0_plainLength := (List.mem_cons_of_mem _ (List.mem_append_left _ (List.mem_append_left _ (List.mem_append_left _ (List.mem_append_left _ (List.mem_append_left _ (List.mem_append_left _ (List.mem_of_getElem? (i := 1) rfl))))))))
theorem hcX0_plainLength_X0 : ∀ w ∈ wsX00, w ∈ wsX0_plainLength := fun _ h => (List.mem_cons_of_mem _ (List.mem_append_left _ (List.mem_append_left _ (List.mem_append_left _ (List.mem_append_left _ (List.mem_append_left _ (List.mem_append_right _ h)))))))
theorem hcX0_plainLength_X1 : ∀ w ∈ wsX10, w ∈ wsX0_plainLength := fun _ h => (List.mem_cons_of_mem _ (List.mem_append_left _ (List.mem_append_left _ (List.mem_append_left _ (List.mem_append_left _ (List.mem_append_right _ h))))))
theorem hcX0_plainLength_X2 : ∀ w ∈ wsX20, w ∈ wsX0_plainLength := fun _ h => (List.mem_cons_of_mem _ (List.mem_append_left _ (List.mem_append_left _ (List.mem_append_left _ (List.mem_append_right _ h)))))
theorem hcX0_plainLength_X3 : ∀ w ∈ wsX30, w ∈ wsX0_plainLength := fun _ h => (List.mem_cons_of_mem _ (List.mem_append_left _ (List.mem_append_left _ (List.mem_append_right _ h))))
theorem hcX0_plainLength_X4 : ∀ w ∈ wsX40, w ∈ wsX0_plainLength := fun _ h => (List.mem_cons_of_mem _ (List.mem_append_left _ (List.mem_append_right _ h)))
theorem hcX0_plainLength_X10 : ∀ w ∈ wsX100, w ∈ wsX0_plainLength := fun _ h => (List.mem_cons_of_mem _ (List.mem_append_right _ h))
theorem hBX0_plainLength : xHB wsX0_plainLength := ⟨hcX0_plainLength_X0, hcX0_plainLength_X1, hcX0_plainLength_X2, hcX0_plainLength_X3, hcX0_plainLength_X4, hcX0_plainLength_X10⟩
set_option maxHeartbeats 4000000 in
set_option maxRecDepth 100000 in
theorem J_X0_plainLength {D : va_G} {KA : Nat → ClassId} {zs : ZS} {ad : Nat → Nat} {ids : List Nat} {sz : Nat} (l : Launch) (hI : ∀ c, c < 52 ∧ ¬ c = 19 → c ∈ ids) {a0 : Nat} {a1 : Int32} (ok_a0 : okB ids a0) {σ : St} {post : Int32 → St → Prop} (h : wX0_plainLength ids a0 a1 σ post) : Met l yX0_plainLength wsX0_plainLength rmX0_plainLength (va_Pc [.ref (ad a0), .int a1] (xIn D KA zs layX stX ad ids sz σ)) (va_Qi post (xOut D KA layX stX ad ids) (xA ad ids sz)) 0 0 (xA ad ids sz) := by
  refine Met.ofW (cc := cX0_plainLength) (maxL := 2) (ret := (some .int)) (by decide) rfl ?_
  intro p e s m args below meth c s₁ B hml hv
  obtain ⟨hav, hsz, hK, hZ, hP, hD⟩ := hv
  have hx := B.exec
  have hb := B.bytes
  have hr := B.returns
  have hts := atoms_spec (ws := wsX0_plainLength) B.pre
  have hown : s.vm.findClass RX0 = some m.cls := findClass_of_methodNamed B.named
  have hlocks := B.notSynchronized
  subst hsz
  have hA : ∀ q : Nat, s.heap.size ≤ q → xA ad ids s.heap.size q := fun q h => Or.inr h
  have hW : xW D KA layX stX ad ids (xA ad ids s.heap.size) s.heap σ s.heap [] := ⟨hP, xA_D (D := D) hD, va_S.rf⟩
  have kr : ∀ (v : Int32) (σ : St) (H : Heap) (locs : List Loc) (ls : Array Slot) (pc : Nat), xW D KA layX stX ad ids (xA ad ids s.heap.size) s.heap σ H locs → post v σ → decode cX0_plainLength pc = .ok (.ireturn, 1) → W p l e rmX0_plainLength s m args below meth c H locs 0 0 (MQ below (va_Qi post (xOut D KA layX stX ad ids) (xA ad ids s.heap.size)) args s 0 0 (xA ad ids s.heap.size)) (F0 m pc ls [.int v]) := fun v σ H locs ls pc hW h hd => x_iret hx hb hr hlocks hW h hd
  have hl := lv_entry ([.ref (ad a0), .int a1]) (n := 2) (Nat.le_of_ble_eq_true rfl)
  rw [show entryFrame m args 2 = entryFrame m ([.ref (ad a0), .int a1] : List Value).toArray 2 from by rw [hav]]
  rw [lg_entry_eq]
  generalize (lg_sl ([.ref (ad a0), .int a1]) ++ List.replicate (2 - (lg_sl ([.ref (ad a0), .int a1])).length) Slot.unset).toArray = ls at hl ⊢
  have hl : lv_has ls 2 [(0, .ref (ad a0)), (1, .int a1)] := hl
  show W p l e rmX0_plainLength s m args below meth c s.heap [] 0 0 _ _
  generalize MQ below (va_Qi post (xOut D KA layX stX ad ids) (xA ad ids s.heap.size)) args s 0 0 (xA ad ids s.heap.size) = Q at kr ⊢
  have main : ∀ (H : Heap) (locs : List Loc) (ls : Array Slot), xW D KA layX stX ad ids (xA ad ids s.heap.size) s.heap σ H locs → lv_has ls 2 [(0, .ref (ad a0)), (1, .int a1)] → W p l e rmX0_plainLength s m args below meth c H locs 0 0 Q (F0 m 0 ls []) := by
    intro H locs ls hW hl
    unfold wX0_plainLength at h
    refine lv_iconst (v := 2) hx hb dX0_plainLength_0 (by decide) ?_
    refine lv_iload_n hx hb dX0_plainLength_1 rfl (lv_at hl 1 rfl) ?_
    refine lv_imul hx hb dX0_plainLength_2 ?_
    refine lv_iconst (v := 3) hx hb dX0_plainLength_3 (by decide) ?_
    refine lv_aload_n hx hb dX0_plainLength_4 rfl (lv_at hl 0 rfl) ?_
    refine xgB_6 hx hb hts hown hK hW a0 hBX0_plainLength ok_a0 (hts _ hwX0_plainLength_0) (fun _ h => h) dX0_plainLength_5 ?_
    refine lv_aload_n hx hb dX0_plainLength_8 rfl (lv_at hl 0 rfl) ?_
    refine xgB_7 hx hb hts hown hK hW a0 hBX0_plainLength ok_a0 (hts _ hwX0_plainLength_1) (fun _ h => h) dX0_plainLength_9 ?_
    refine lv_iadd hx hb dX0_plainLength_12 ?_
    refine lv_imul hx hb dX0_plainLength_13 ?_
    refine lv_iconst (v := 2) hx hb dX0_plainLength_14 (by decide) ?_
    refine lv_idiv hx hb dX0_plainLength_15 (by decide) ?_
    refine lv_iadd hx hb dX0_plainLength_16 ?_
    exact kr _ _ _ _ _ _ hW h dX0_plainLength_17
  exact main _ _ _ hW hl
set_option maxHeartbeats 4000000 in
set_option maxRecDepth 100000 in
theorem J_X0_length {D : va_G} {KA : Nat → ClassId} {zs : ZS} {ad : Nat → Nat} {ids : List Nat} {sz : Nat} (l : Launch) (hI : ∀ c, c < 52 ∧ ¬ c = 19 → c ∈ ids) {a0 : Nat} {a1 : Int32} (ok_a0 : okB ids a0) (hkap : a0 % 8 = 0 ∨ a0 % 8 = 3) {σ : St} {post : Int32 → St → Prop} (h : wX0_length ids a0 a1 σ post) : Met l yX0_length wsX0_length rmX0_length (va_Pc [.ref (ad a0), .int a1] (xIn D KA zs layX stX ad ids sz σ)) (va_Qi post (xOut D KA layX stX ad ids) (xA ad ids sz)) 0 0 (xA ad ids sz) := by
  refine Met.ofW (cc := cX0_length) (maxL := 2) (ret := (some .int)) (by decide) rfl ?_
  intro p e s m args below meth c s₁ B hml hv
  obtain ⟨hav, hsz, hK, hZ, hP, hD⟩ := hv
  have hx := B.exec
  have hb := B.bytes
  have hr := B.returns
  have hts := atoms_spec (ws := wsX0_length) B.pre
  have hown : s.vm.findClass RX0 = some m.cls := findClass_of_methodNamed B.named
  have hlocks := B.notSynchronized
  subst hsz
  have hA : ∀ q : Nat, s.heap.size ≤ q → xA ad ids s.heap.size q := fun q h => Or.inr h
  have hW : xW D KA layX stX ad ids (xA ad ids s.heap.size) s.heap σ s.heap [] := ⟨hP, xA_D (D := D) hD, va_S.rf⟩
  have kr : ∀ (v : Int32) (σ : St) (H : Heap) (locs : List Loc) (ls : Array Slot) (pc : Nat), xW D KA layX stX ad ids (xA ad ids s.heap.size) s.heap σ H locs → post v σ → decode cX0_length pc = .ok (.ireturn, 1) → W p l e rmX0_length s m args below meth c H locs 0 0 (MQ below (va_Qi post (xOut D KA layX stX ad ids) (xA ad ids s.heap.size)) args s 0 0 (xA ad ids s.heap.size)) (F0 m pc ls [.int v]) := fun v σ H locs ls pc hW h hd => x_iret hx hb hr hlocks hW h hd
  have hl := lv_entry ([.ref (ad a0), .int a1]) (n := 2) (Nat.le_of_ble_eq_true rfl)
  rw [show entryFrame m args 2 = entryFrame m ([.ref (ad a0), .int a1] : List Value).toArray 2 from by rw [hav]]
  rw [lg_entry_eq]
  generalize (lg_sl ([.ref (ad a0), .int a1]) ++ List.replicate (2 - (lg_sl ([.ref (ad a0), .int a1])).length) Slot.unset).toArray = ls at hl ⊢
  have hl : lv_has ls 2 [(0, .ref (ad a0)), (1, .int a1)] := hl
  show W p l e rmX0_length s m args below meth c s.heap [] 0 0 _ _
  generalize MQ below (va_Qi post (xOut D KA layX stX ad ids) (xA ad ids s.heap.size)) args s 0 0 (xA ad ids s.heap.size) = Q at kr ⊢
  have main : ∀ (H : Heap) (locs : List Loc) (ls : Array Slot), xW D KA layX stX ad ids (xA ad ids s.heap.size) s.heap σ H locs → lv_has ls 2 [(0, .ref (ad a0)), (1, .int a1)] → W p l e rmX0_length s m args below meth c H locs 0 0 Q (F0 m 0 ls []) := by
    intro H locs ls hW hl
    unfold wX0_length at h
    refine lv_aload_n hx hb dX0_length_0 rfl (lv_at hl 0 rfl) ?_
    refine lv_iload_n hx hb dX0_length_1 rfl (lv_at hl 1 rfl) ?_
    have hr1001 : ∀ post : Int32 → St → Prop, wX0_plainLength ids a0 a1 σ post → va_Run p l e rmX0_length s m args below meth c H locs 0 0 0 0 (F0 m 2 ls ([.int a1].reverse ++ .ref (ad a0) :: [])) [] (va_Qi post (xOut D KA layX stX ad ids) (xA ad ids H.size) (Value.ref (ad a0) :: [.int a1]).toArray) (xA ad ids H.size) := by
      intro post h
      rcases hkap with hq | hq
      · exact va_runV (As := [.int a1]) (rest := []) ⟨hx, hb, hml, hown, hts⟩ (J_X0_plainLength l hI ok_a0 h) (cwV 1 hts gX0_length_X0_plainLength rfl rfl rfl hdV_X0_plainLength ⟨Nat.le_of_ble_eq_true rfl, Nat.le_of_ble_eq_true rfl⟩) (x_preV (ci := 0) hK hZ hA hW ok_a0.1 (lay_okB0 ok_a0 hq) rfl) rfl rfl hl.1 rfl (lv_room (Nat.le_of_ble_eq_true rfl)) dX0_length_2 ⟨Nat.zero_le _, Nat.zero_le _⟩
      · exact va_runU (As := [.int a1]) (rest := []) ⟨hx, hb, hml, hown, hts⟩ (J_X0_plainLength l hI ok_a0 h) (va_cwU 1 hts gX0_length_X0_plainLength_u42X1 rfl rfl rfl rfl (by decide +kernel) ⟨Nat.le_of_ble_eq_true rfl, Nat.le_of_ble_eq_true rfl⟩) (x_preV (ci := 1) hK hZ hA hW ok_a0.1 (lay_okB3 ok_a0 hq) rfl) rfl rfl hl.1 rfl (lv_room (Nat.le_of_ble_eq_true rfl)) dX0_length_2 ⟨Nat.zero_le _, Nat.zero_le _⟩
    refine x_calli (hr1001 _ h) hW hA (fun r1003 σ1002 H locs h hW => ?_)
    try dsimp only at h
    exact kr _ _ _ _ _ _ hW h dX0_length_5
  exact main _ _ _ hW hl
set_option maxHeartbeats 4000000 in
set_option maxRecDepth 100000 in
theorem J_X0_way {D : va_G} {KA : Nat → ClassId} {zs : ZS} {ad : Nat → Nat} {ids : List Nat} {sz : Nat} (l : Launch) (hI : ∀ c, c < 52 ∧ ¬ c = 19 → c ∈ ids) {a0 : Nat} (ok_a0 : okB ids a0) {σ : St} {post : Int32 → St → Prop} (h : wX0_way ids a0 σ post) : Met l yX0_way wsX0_way rmX0_way (va_Pc [.ref (ad a0)] (xIn D KA zs layX stX ad ids sz σ)) (va_Qi post (xOut D KA layX stX ad ids) (xA ad ids sz)) 0 0 (xA ad ids sz) := by
  refine Met.ofW (cc := cX0_way) (maxL := 1) (ret := (some .int)) (by decide) rfl ?_
  intro p e s m args below meth c s₁ B hml hv
  obtain ⟨hav, hsz, hK, hZ, hP, hD⟩ := hv
  have hx := B.exec
  have hb := B.bytes
  have hr := B.returns
  have hts := atoms_spec (ws := wsX0_way) B.pre
  have hown : s.vm.findClass RX0 = some m.cls := findClass_of_methodNamed B.named
  have hlocks := B.notSynchronized
  subst hsz
  have hA : ∀ q : Nat, s.heap.size ≤ q → xA ad ids s.heap.size q := fun q h => Or.inr h
  have hW : xW D KA layX stX ad ids (xA ad ids s.heap.size) s.heap σ s.heap [] := ⟨hP, xA_D (D := D) hD, va_S.rf⟩
  have kr : ∀ (v : Int32) (σ : St) (H : Heap) (locs : List Loc) (ls : Array Slot) (pc : Nat), xW D KA layX stX ad ids (xA ad ids s.heap.size) s.heap σ H locs → post v σ → decode cX0_way pc = .ok (.ireturn, 1) → W p l e rmX0_way s m args below meth c H locs 0 0 (MQ below (va_Qi post (xOut D KA layX stX ad ids) (xA ad ids s.heap.size)) args s 0 0 (xA ad ids s.heap.size)) (F0 m pc ls [.int v]) := fun v σ H locs ls pc hW h hd => x_iret hx hb hr hlocks hW h hd
  have hl := lv_entry ([.ref (ad a0)]) (n := 1) (Nat.le_of_ble_eq_true rfl)
  rw [show entryFrame m args 1 = entryFrame m ([.ref (ad a0)] : List Value).toArray 1 from by rw [hav]]
  rw [lg_entry_eq]
  generalize (lg_sl ([.ref (ad a0)]) ++ List.replicate (1 - (lg_sl ([.ref (ad a0)])).length) Slot.unset).toArray = ls at hl ⊢
  have hl : lv_has ls 1 [(0, .ref (ad a0))] := hl
  show W p l e rmX0_way s m args below meth c s.heap [] 0 0 _ _
  generalize MQ below (va_Qi post (xOut D KA layX stX ad ids) (xA ad ids s.heap.size)) args s 0 0 (xA ad ids s.heap.size) = Q at kr ⊢
  have main : ∀ (H : Heap) (locs : List Loc) (ls : Array Slot), xW D KA layX stX ad ids (xA ad ids s.heap.size) s.heap σ H locs → lv_has ls 1 [(0, .ref (ad a0))] → W p l e rmX0_way s m args below meth c H locs 0 0 Q (F0 m 0 ls []) := by
    intro H locs ls hW hl
    unfold wX0_way at h
    refine lv_iconst (v := 1) hx hb dX0_way_0 (by decide) ?_
    exact kr _ _ _ _ _ _ hW h dX0_way_1
  exact main _ _ _ hW hl
theorem hwX0_wrap_0 : (.fieldLink RX0 29 "FortyBelts$Belt" "b" "I" : Cond) ∈ wsX0_wrap := (List.mem_cons_of_mem _ (List.mem_append_left _ (List.mem_append_left _ (List.mem_append_left _ (List.mem_append_left _ (List.mem_append_left _ (List.mem_append_left _ (List.mem_of_getElem? (i := 0) rfl))))))))
theorem hwX0_wrap_1 : (.fieldLink RX0 26 "FortyBelts$Belt" "a" "I" : Cond) ∈ wsX0_wrap := (List.mem_cons_of_mem _ (List.mem_append_left _ (List.mem_append_left _ (List.mem_append_left _ (List.mem_append_left _ (List.mem_append_left _ (List.mem_append_left _ (List.mem_of_getElem? (i := 1) rfl))))))))
theorem hwX0_wrap_2 : (.methodLink RX0 32 Lib.Math.abs.name : Cond) ∈ wsX0_wrap := (List.mem_cons_of_mem _ (List.mem_append_left _ (List.mem_append_left _ (List.mem_append_left _ (List.mem_append_left _ (List.mem_append_left _ (List.mem_append_left _ (List.mem_of_getElem? (i := 2) rfl))))))))
theorem hwX0_wrap_3 : (.static Lib.Math.abs.name : Cond) ∈ wsX0_wrap := (List.mem_cons_of_mem _ (List.mem_append_left _ (List.mem_append_left _ (List.mem_append_left _ (List.mem_append_left _ (List.mem_append_left _ (List.mem_append_left _ (List.mem_of_getElem? (i := 3) rfl))))))))
theorem hwX0_wrap_4 : (.initialized "java/lang/Math" : Cond) ∈ wsX0_wrap := (List.mem_cons_of_mem _ (List.mem_append_left _ (List.mem_append_left _ (List.mem_append_left _ (List.mem_append_left _ (List.mem_append_left _ (List.mem_append_left _ (List.mem_of_getElem? (i := 4) rfl))))))))
theorem hwX0_wrap_5 : (.code Lib.Math.abs.name Lib.Math.abs.code 1 (some .int) : Cond) ∈ wsX0_wrap := (List.mem_cons_of_mem _ (List.mem_append_left _ (List.mem_append_left _ (List.mem_append_left _ (List.mem_append_left _ (List.mem_append_left _ (List.mem_append_left _ (List.mem_of_getElem? (i := 5) rfl))))))))
theorem hwX0_wrap_6 : (.methodLink RX0 38 Lib.Math.max.name : Cond) ∈ wsX0_wrap := (List.mem_cons_of_mem _ (List.mem_append_left _ (List.mem_append_left _ (List.mem_append_left _ (List.mem_append_left _ (List.mem_append_left _ (List.mem_append_left _ (List.mem_of_getElem? (i := 6) rfl))))))))
theorem hwX0_wrap_7 : (.static Lib.Math.max.name : Cond) ∈ wsX0_wrap := (List.mem_cons_of_mem _ (List.mem_append_left _ (List.mem_append_left _ (List.mem_append_left _ (List.mem_append_left _ (List.mem_append_left _ (List.mem_append_left _ (List.mem_of_getElem? (i := 7) rfl))))))))
theorem hwX0_wrap_8 : (.code Lib.Math.max.name Lib.Math.max.code 2 (some .int) : Cond) ∈ wsX0_wrap := (List.mem_cons_of_mem _ (List.mem_append_left _ (List.mem_append_left _ (List.mem_append_left _ (List.mem_append_left _ (List.mem_append_left _ (List.mem_append_left _ (List.mem_of_getElem? (i := 8) rfl))))))))
theorem hcX0_wrap_X0 : ∀ w ∈ wsX00, w ∈ wsX0_wrap := fun _ h => (List.mem_cons_of_mem _ (List.mem_append_left _ (List.mem_append_left _ (List.mem_append_left _ (List.mem_append_left _ (List.mem_append_left _ (List.mem_append_right _ h)))))))
theorem hcX0_wrap_X1 : ∀ w ∈ wsX10, w ∈ wsX0_wrap := fun _ h => (List.mem_cons_of_mem _ (List.mem_append_left _ (List.mem_append_left _ (List.mem_append_left _ (List.mem_append_left _ (List.mem_append_right _ h))))))
theorem hcX0_wrap_X2 : ∀ w ∈ wsX20, w ∈ wsX0_wrap := fun _ h => (List.mem_cons_of_mem _ (List.mem_append_left _ (List.mem_append_left _ (List.mem_append_left _ (List.mem_append_right _ h)))))
theorem hcX0_wrap_X3 : ∀ w ∈ wsX30, w ∈ wsX0_wrap := fun _ h => (List.mem_cons_of_mem _ (List.mem_append_left _ (List.mem_append_left _ (List.mem_append_right _ h))))
theorem hcX0_wrap_X4 : ∀ w ∈ wsX40, w ∈ wsX0_wrap := fun _ h => (List.mem_cons_of_mem _ (List.mem_append_left _ (List.mem_append_right _ h)))
theorem hcX0_wrap_X10 : ∀ w ∈ wsX100, w ∈ wsX0_wrap := fun _ h => (List.mem_cons_of_mem _ (List.mem_append_right _ h))
theorem hBX0_wrap : xHB wsX0_wrap := ⟨hcX0_wrap_X0, hcX0_wrap_X1, hcX0_wrap_X2, hcX0_wrap_X3, hcX0_wrap_X4, hcX0_wrap_X10⟩
set_option maxHeartbeats 4000000 in
set_option maxRecDepth 100000 in
theorem J_X0_wrap {D : va_G} {KA : Nat → ClassId} {zs : ZS} {ad : Nat → Nat} {ids : List Nat} {sz : Nat} (l : Launch) (hI : ∀ c, c < 52 ∧ ¬ c = 19 → c ∈ ids) {a0 : Nat} (ok_a0 : okB ids a0) {σ : St} {post : Int32 → St → Prop} (h : wX0_wrap ids a0 σ post) : Met l yX0_wrap wsX0_wrap rmX0_wrap (va_Pc [.ref (ad a0)] (xIn D KA zs layX stX ad ids sz σ)) (va_Qi post (xOut D KA layX stX ad ids) (xA ad ids sz)) 0 0 (xA ad ids sz) := by
  refine Met.ofW (cc := cX0_wrap) (maxL := 1) (ret := (some .int)) (by decide) rfl ?_
  intro p e s m args below meth c s₁ B hml hv
  obtain ⟨hav, hsz, hK, hZ, hP, hD⟩ := hv
  have hx := B.exec
  have hb := B.bytes
  have hr := B.returns
  have hts := atoms_spec (ws := wsX0_wrap) B.pre
  have hown : s.vm.findClass RX0 = some m.cls := findClass_of_methodNamed B.named
  have hlocks := B.notSynchronized
  subst hsz
  have hA : ∀ q : Nat, s.heap.size ≤ q → xA ad ids s.heap.size q := fun q h => Or.inr h
  have hW : xW D KA layX stX ad ids (xA ad ids s.heap.size) s.heap σ s.heap [] := ⟨hP, xA_D (D := D) hD, va_S.rf⟩
  have kr : ∀ (v : Int32) (σ : St) (H : Heap) (locs : List Loc) (ls : Array Slot) (pc : Nat), xW D KA layX stX ad ids (xA ad ids s.heap.size) s.heap σ H locs → post v σ → decode cX0_wrap pc = .ok (.ireturn, 1) → W p l e rmX0_wrap s m args below meth c H locs 0 0 (MQ below (va_Qi post (xOut D KA layX stX ad ids) (xA ad ids s.heap.size)) args s 0 0 (xA ad ids s.heap.size)) (F0 m pc ls [.int v]) := fun v σ H locs ls pc hW h hd => x_iret hx hb hr hlocks hW h hd
  have hl := lv_entry ([.ref (ad a0)]) (n := 1) (Nat.le_of_ble_eq_true rfl)
  rw [show entryFrame m args 1 = entryFrame m ([.ref (ad a0)] : List Value).toArray 1 from by rw [hav]]
  rw [lg_entry_eq]
  generalize (lg_sl ([.ref (ad a0)]) ++ List.replicate (1 - (lg_sl ([.ref (ad a0)])).length) Slot.unset).toArray = ls at hl ⊢
  have hl : lv_has ls 1 [(0, .ref (ad a0))] := hl
  show W p l e rmX0_wrap s m args below meth c s.heap [] 0 0 _ _
  generalize MQ below (va_Qi post (xOut D KA layX stX ad ids) (xA ad ids s.heap.size)) args s 0 0 (xA ad ids s.heap.size) = Q at kr ⊢
  have main : ∀ (H : Heap) (locs : List Loc) (ls : Array Slot), xW D KA layX stX ad ids (xA ad ids s.heap.size) s.heap σ H locs → lv_has ls 1 [(0, .ref (ad a0))] → W p l e rmX0_wrap s m args below meth c H locs 0 0 Q (F0 m 0 ls []) := by
    intro H locs ls hW hl
    unfold wX0_wrap at h
    refine lv_bipush (v := 10) hx hb dX0_wrap_0 (by decide) ?_
    refine lv_bipush (v := 50) hx hb dX0_wrap_2 (by decide) ?_
    refine lv_aload_n hx hb dX0_wrap_4 rfl (lv_at hl 0 rfl) ?_
    refine xgB_7 hx hb hts hown hK hW a0 hBX0_wrap ok_a0 (hts _ hwX0_wrap_0) (fun _ h => h) dX0_wrap_5 ?_
    refine lv_aload_n hx hb dX0_wrap_8 rfl (lv_at hl 0 rfl) ?_
    refine xgB_6 hx hb hts hown hK hW a0 hBX0_wrap ok_a0 (hts _ hwX0_wrap_1) (fun _ h => h) dX0_wrap_9 ?_
    refine lv_isub hx hb dX0_wrap_12 ?_
    refine va_mabs hx hb (hml.trans hl.1.symm) hown (hts _ hwX0_wrap_2) (hts _ hwX0_wrap_3) (hts _ hwX0_wrap_4) (hts _ hwX0_wrap_5) (Nat.le_of_ble_eq_true rfl) (Nat.le_of_ble_eq_true rfl) (Nat.le_of_ble_eq_true rfl) (Nat.le_of_ble_eq_true rfl) dX0_wrap_13 ?_
    refine lv_isub hx hb dX0_wrap_16 ?_
    refine va_mmax hx hb (hml.trans hl.1.symm) hown (hts _ hwX0_wrap_6) (hts _ hwX0_wrap_7) (hts _ hwX0_wrap_4) (hts _ hwX0_wrap_8) (Nat.le_of_ble_eq_true rfl) (Nat.le_of_ble_eq_true rfl) (Nat.le_of_ble_eq_true rfl) (Nat.le_of_ble_eq_true rfl) dX0_wrap_17 ?_
    exact kr _ _ _ _ _ _ hW h dX0_wrap_20
  exact main _ _ _ hW hl
theorem hwX2_init_0 : (.initialized RX0 : Cond) ∈ wsX2_init := (List.mem_cons_of_mem _ (List.mem_append_left _ (List.mem_append_left _ (List.mem_append_left _ (List.mem_append_left _ (List.mem_append_left _ (List.mem_append_left _ (List.mem_of_getElem? (i := 2) rfl))))))))
theorem hwX2_init_1 : (.methodLink RX2 1 yX0_init : Cond) ∈ wsX2_init := (List.mem_cons_of_mem _ (List.mem_append_left _ (List.mem_append_left _ (List.mem_append_left _ (List.mem_append_left _ (List.mem_append_left _ (List.mem_append_left _ (List.mem_of_getElem? (i := 0) rfl))))))))
theorem hwX2_init_2 : (.instanceMethod yX0_init : Cond) ∈ wsX2_init := (List.mem_cons_of_mem _ (List.mem_append_left _ (List.mem_append_left _ (List.mem_append_left _ (List.mem_append_left _ (List.mem_append_left _ (List.mem_append_left _ (List.mem_of_getElem? (i := 1) rfl))))))))
set_option maxHeartbeats 4000000 in
set_option maxRecDepth 100000 in
theorem J_X2_init {D : va_G} {KA : Nat → ClassId} {zs : ZS} {ad : Nat → Nat} {ids : List Nat} {sz : Nat} (l : Launch) (hI : ∀ c, c < 52 ∧ ¬ c = 19 → c ∈ ids) {a0 : Nat} {a1 : Int32} {a2 : Int32} {a3 : Int32} {a4 : Int32} (ok_a0 : okB ids a0) {σ : St} {post : St → Prop} (h : wX2_init ids a0 a1 a2 a3 a4 σ post) : Met l yX2_init wsX2_init rmX2_init (va_Pc [.ref (ad a0), .int a1, .int a2, .int a3, .int a4] (xIn D KA zs layX stX ad ids sz σ)) (va_Qv post (xOut D KA layX stX ad ids) (xA ad ids sz)) 0 0 (xA ad ids sz) := by
  refine Met.ofW (cc := cX2_init) (maxL := 5) (ret := none) (by decide) rfl ?_
  intro p e s m args below meth c s₁ B hml hv
  obtain ⟨hav, hsz, hK, hZ, hP, hD⟩ := hv
  have hx := B.exec
  have hb := B.bytes
  have hr := B.returns
  have hts := atoms_spec (ws := wsX2_init) B.pre
  have hown : s.vm.findClass RX2 = some m.cls := findClass_of_methodNamed B.named
  have hlocks := B.notSynchronized
  have hin2 : meth.name = "<init>" := (name_of_methodNamed B.named B.method).1
  subst hsz
  have hA : ∀ q : Nat, s.heap.size ≤ q → xA ad ids s.heap.size q := fun q h => Or.inr h
  have hW : xW D KA layX stX ad ids (xA ad ids s.heap.size) s.heap σ s.heap [] := ⟨hP, xA_D (D := D) hD, va_S.rf⟩
  have kr : ∀ (σ : St) (H : Heap) (locs : List Loc) (ls : Array Slot) (pc : Nat), xW D KA layX stX ad ids (xA ad ids s.heap.size) s.heap σ H locs → post σ → decode cX2_init pc = .ok (.return_, 1) → W p l e rmX2_init s m args below meth c H locs 0 0 (MQ below (va_Qv post (xOut D KA layX stX ad ids) (xA ad ids s.heap.size)) args s 0 0 (xA ad ids s.heap.size)) (F0 m pc ls []) := fun σ H locs ls pc hW h hd => x_vret hx hb hr hlocks hW h hd
  have hl := lv_entry ([.ref (ad a0), .int a1, .int a2, .int a3, .int a4]) (n := 5) (Nat.le_of_ble_eq_true rfl)
  rw [show entryFrame m args 5 = entryFrame m ([.ref (ad a0), .int a1, .int a2, .int a3, .int a4] : List Value).toArray 5 from by rw [hav]]
  rw [lg_entry_eq]
  generalize (lg_sl ([.ref (ad a0), .int a1, .int a2, .int a3, .int a4]) ++ List.replicate (5 - (lg_sl ([.ref (ad a0), .int a1, .int a2, .int a3, .int a4])).length) Slot.unset).toArray = ls at hl ⊢
  have hl : lv_has ls 5 [(0, .ref (ad a0)), (1, .int a1), (2, .int a2), (3, .int a3), (4, .int a4)] := hl
  show W p l e rmX2_init s m args below meth c s.heap [] 0 0 _ _
  generalize MQ below (va_Qv post (xOut D KA layX stX ad ids) (xA ad ids s.heap.size)) args s 0 0 (xA ad ids s.heap.size) = Q at kr ⊢
  have main : ∀ (H : Heap) (locs : List Loc) (ls : Array Slot), xW D KA layX stX ad ids (xA ad ids s.heap.size) s.heap σ H locs → lv_has ls 5 [(0, .ref (ad a0)), (1, .int a1), (2, .int a2), (3, .int a3), (4, .int a4)] → W p l e rmX2_init s m args below meth c H locs 0 0 Q (F0 m 0 ls []) := by
    intro H locs ls hW hl
    unfold wX2_init at h
    refine lv_aload_n hx hb dX2_init_0 rfl (lv_at hl 0 rfl) ?_
    refine lv_iload_n hx hb dX2_init_1 rfl (lv_at hl 1 rfl) ?_
    refine lv_iload_n hx hb dX2_init_2 rfl (lv_at hl 2 rfl) ?_
    refine lv_iload_n hx hb dX2_init_3 rfl (lv_at hl 3 rfl) ?_
    refine lv_iload hx hb dX2_init_4 (lv_at hl 4 rfl) ?_
    refine x_callv (va_runI (As := [.int a1, .int a2, .int a3, .int a4]) (rest := []) ⟨hx, hb, hml, hown, hts⟩ (J_X0_init l hI ok_a0 h) (cwI 4 hts gX2_init_X0_init rfl rfl rfl (hts _ hwX2_init_0) (hts _ hwX2_init_1) (hts _ hwX2_init_2) rfl hdI_X0_init ⟨Nat.le_of_ble_eq_true rfl, Nat.le_of_ble_eq_true rfl⟩) (x_preS hK hZ hA hW) rfl rfl hl.1 rfl (lv_room (Nat.le_of_ble_eq_true rfl)) dX2_init_6 ⟨Nat.zero_le _, Nat.zero_le _⟩) hW hA (fun σ1001 H locs h hW => ?_)
    try dsimp only at h
    exact kr _ _ _ _ _ hW h dX2_init_9
  exact main _ _ _ hW hl
theorem hwX10_init_0 : (.initialized RX2 : Cond) ∈ wsX10_init := (List.mem_cons_of_mem _ (List.mem_append_left _ (List.mem_append_left _ (List.mem_append_left _ (List.mem_append_left _ (List.mem_append_left _ (List.mem_append_left _ (List.mem_of_getElem? (i := 2) rfl))))))))
theorem hwX10_init_1 : (.methodLink RX10 1 yX2_init : Cond) ∈ wsX10_init := (List.mem_cons_of_mem _ (List.mem_append_left _ (List.mem_append_left _ (List.mem_append_left _ (List.mem_append_left _ (List.mem_append_left _ (List.mem_append_left _ (List.mem_of_getElem? (i := 0) rfl))))))))
theorem hwX10_init_2 : (.instanceMethod yX2_init : Cond) ∈ wsX10_init := (List.mem_cons_of_mem _ (List.mem_append_left _ (List.mem_append_left _ (List.mem_append_left _ (List.mem_append_left _ (List.mem_append_left _ (List.mem_append_left _ (List.mem_of_getElem? (i := 1) rfl))))))))
set_option maxHeartbeats 4000000 in
set_option maxRecDepth 100000 in
theorem J_X10_init {D : va_G} {KA : Nat → ClassId} {zs : ZS} {ad : Nat → Nat} {ids : List Nat} {sz : Nat} (l : Launch) (hI : ∀ c, c < 52 ∧ ¬ c = 19 → c ∈ ids) {a0 : Nat} {a1 : Int32} {a2 : Int32} {a3 : Int32} {a4 : Int32} (ok_a0 : okB ids a0) {σ : St} {post : St → Prop} (h : wX10_init ids a0 a1 a2 a3 a4 σ post) : Met l yX10_init wsX10_init rmX10_init (va_Pc [.ref (ad a0), .int a1, .int a2, .int a3, .int a4] (xIn D KA zs layX stX ad ids sz σ)) (va_Qv post (xOut D KA layX stX ad ids) (xA ad ids sz)) 0 0 (xA ad ids sz) := by
  refine Met.ofW (cc := cX10_init) (maxL := 5) (ret := none) (by decide) rfl ?_
  intro p e s m args below meth c s₁ B hml hv
  obtain ⟨hav, hsz, hK, hZ, hP, hD⟩ := hv
  have hx := B.exec
  have hb := B.bytes
  have hr := B.returns
  have hts := atoms_spec (ws := wsX10_init) B.pre
  have hown : s.vm.findClass RX10 = some m.cls := findClass_of_methodNamed B.named
  have hlocks := B.notSynchronized
  have hin2 : meth.name = "<init>" := (name_of_methodNamed B.named B.method).1
  subst hsz
  have hA : ∀ q : Nat, s.heap.size ≤ q → xA ad ids s.heap.size q := fun q h => Or.inr h
  have hW : xW D KA layX stX ad ids (xA ad ids s.heap.size) s.heap σ s.heap [] := ⟨hP, xA_D (D := D) hD, va_S.rf⟩
  have kr : ∀ (σ : St) (H : Heap) (locs : List Loc) (ls : Array Slot) (pc : Nat), xW D KA layX stX ad ids (xA ad ids s.heap.size) s.heap σ H locs → post σ → decode cX10_init pc = .ok (.return_, 1) → W p l e rmX10_init s m args below meth c H locs 0 0 (MQ below (va_Qv post (xOut D KA layX stX ad ids) (xA ad ids s.heap.size)) args s 0 0 (xA ad ids s.heap.size)) (F0 m pc ls []) := fun σ H locs ls pc hW h hd => x_vret hx hb hr hlocks hW h hd
  have hl := lv_entry ([.ref (ad a0), .int a1, .int a2, .int a3, .int a4]) (n := 5) (Nat.le_of_ble_eq_true rfl)
  rw [show entryFrame m args 5 = entryFrame m ([.ref (ad a0), .int a1, .int a2, .int a3, .int a4] : List Value).toArray 5 from by rw [hav]]
  rw [lg_entry_eq]
  generalize (lg_sl ([.ref (ad a0), .int a1, .int a2, .int a3, .int a4]) ++ List.replicate (5 - (lg_sl ([.ref (ad a0), .int a1, .int a2, .int a3, .int a4])).length) Slot.unset).toArray = ls at hl ⊢
  have hl : lv_has ls 5 [(0, .ref (ad a0)), (1, .int a1), (2, .int a2), (3, .int a3), (4, .int a4)] := hl
  show W p l e rmX10_init s m args below meth c s.heap [] 0 0 _ _
  generalize MQ below (va_Qv post (xOut D KA layX stX ad ids) (xA ad ids s.heap.size)) args s 0 0 (xA ad ids s.heap.size) = Q at kr ⊢
  have main : ∀ (H : Heap) (locs : List Loc) (ls : Array Slot), xW D KA layX stX ad ids (xA ad ids s.heap.size) s.heap σ H locs → lv_has ls 5 [(0, .ref (ad a0)), (1, .int a1), (2, .int a2), (3, .int a3), (4, .int a4)] → W p l e rmX10_init s m args below meth c H locs 0 0 Q (F0 m 0 ls []) := by
    intro H locs ls hW hl
    unfold wX10_init at h
    refine lv_aload_n hx hb dX10_init_0 rfl (lv_at hl 0 rfl) ?_
    refine lv_iload_n hx hb dX10_init_1 rfl (lv_at hl 1 rfl) ?_
    refine lv_iload_n hx hb dX10_init_2 rfl (lv_at hl 2 rfl) ?_
    refine lv_iload_n hx hb dX10_init_3 rfl (lv_at hl 3 rfl) ?_
    refine lv_iload hx hb dX10_init_4 (lv_at hl 4 rfl) ?_
    refine x_callv (va_runI (As := [.int a1, .int a2, .int a3, .int a4]) (rest := []) ⟨hx, hb, hml, hown, hts⟩ (J_X2_init l hI ok_a0 h) (cwI 4 hts gX10_init_X2_init rfl rfl rfl (hts _ hwX10_init_0) (hts _ hwX10_init_1) (hts _ hwX10_init_2) rfl hdI_X2_init ⟨Nat.le_of_ble_eq_true rfl, Nat.le_of_ble_eq_true rfl⟩) (x_preS hK hZ hA hW) rfl rfl hl.1 rfl (lv_room (Nat.le_of_ble_eq_true rfl)) dX10_init_6 ⟨Nat.zero_le _, Nat.zero_le _⟩) hW hA (fun σ1001 H locs h hW => ?_)
    try dsimp only at h
    exact kr _ _ _ _ _ hW h dX10_init_9
  exact main _ _ _ hW hl
set_option maxHeartbeats 4000000 in
set_option maxRecDepth 100000 in
theorem J_X2_way {D : va_G} {KA : Nat → ClassId} {zs : ZS} {ad : Nat → Nat} {ids : List Nat} {sz : Nat} (l : Launch) (hI : ∀ c, c < 52 ∧ ¬ c = 19 → c ∈ ids) {a0 : Nat} (ok_a0 : okB ids a0) {σ : St} {post : Int32 → St → Prop} (h : wX2_way ids a0 σ post) : Met l yX2_way wsX2_way rmX2_way (va_Pc [.ref (ad a0)] (xIn D KA zs layX stX ad ids sz σ)) (va_Qi post (xOut D KA layX stX ad ids) (xA ad ids sz)) 0 0 (xA ad ids sz) := by
  refine Met.ofW (cc := cX2_way) (maxL := 1) (ret := (some .int)) (by decide) rfl ?_
  intro p e s m args below meth c s₁ B hml hv
  obtain ⟨hav, hsz, hK, hZ, hP, hD⟩ := hv
  have hx := B.exec
  have hb := B.bytes
  have hr := B.returns
  have hts := atoms_spec (ws := wsX2_way) B.pre
  have hown : s.vm.findClass RX2 = some m.cls := findClass_of_methodNamed B.named
  have hlocks := B.notSynchronized
  subst hsz
  have hA : ∀ q : Nat, s.heap.size ≤ q → xA ad ids s.heap.size q := fun q h => Or.inr h
  have hW : xW D KA layX stX ad ids (xA ad ids s.heap.size) s.heap σ s.heap [] := ⟨hP, xA_D (D := D) hD, va_S.rf⟩
  have kr : ∀ (v : Int32) (σ : St) (H : Heap) (locs : List Loc) (ls : Array Slot) (pc : Nat), xW D KA layX stX ad ids (xA ad ids s.heap.size) s.heap σ H locs → post v σ → decode cX2_way pc = .ok (.ireturn, 1) → W p l e rmX2_way s m args below meth c H locs 0 0 (MQ below (va_Qi post (xOut D KA layX stX ad ids) (xA ad ids s.heap.size)) args s 0 0 (xA ad ids s.heap.size)) (F0 m pc ls [.int v]) := fun v σ H locs ls pc hW h hd => x_iret hx hb hr hlocks hW h hd
  have hl := lv_entry ([.ref (ad a0)]) (n := 1) (Nat.le_of_ble_eq_true rfl)
  rw [show entryFrame m args 1 = entryFrame m ([.ref (ad a0)] : List Value).toArray 1 from by rw [hav]]
  rw [lg_entry_eq]
  generalize (lg_sl ([.ref (ad a0)]) ++ List.replicate (1 - (lg_sl ([.ref (ad a0)])).length) Slot.unset).toArray = ls at hl ⊢
  have hl : lv_has ls 1 [(0, .ref (ad a0))] := hl
  show W p l e rmX2_way s m args below meth c s.heap [] 0 0 _ _
  generalize MQ below (va_Qi post (xOut D KA layX stX ad ids) (xA ad ids s.heap.size)) args s 0 0 (xA ad ids s.heap.size) = Q at kr ⊢
  have main : ∀ (H : Heap) (locs : List Loc) (ls : Array Slot), xW D KA layX stX ad ids (xA ad ids s.heap.size) s.heap σ H locs → lv_has ls 1 [(0, .ref (ad a0))] → W p l e rmX2_way s m args below meth c H locs 0 0 Q (F0 m 0 ls []) := by
    intro H locs ls hW hl
    unfold wX2_way at h
    refine lv_iconst (v := (-1)) hx hb dX2_way_0 (by decide) ?_
    exact kr _ _ _ _ _ _ hW h dX2_way_1
  exact main _ _ _ hW hl
set_option maxHeartbeats 4000000 in
set_option maxRecDepth 100000 in
theorem J_X10_way {D : va_G} {KA : Nat → ClassId} {zs : ZS} {ad : Nat → Nat} {ids : List Nat} {sz : Nat} (l : Launch) (hI : ∀ c, c < 52 ∧ ¬ c = 19 → c ∈ ids) {a0 : Nat} (ok_a0 : okB ids a0) {σ : St} {post : Int32 → St → Prop} (h : wX10_way ids a0 σ post) : Met l yX10_way wsX10_way rmX10_way (va_Pc [.ref (ad a0)] (xIn D KA zs layX stX ad ids sz σ)) (va_Qi post (xOut D KA layX stX ad ids) (xA ad ids sz)) 0 0 (xA ad ids sz) := by
  refine Met.ofW (cc := cX10_way) (maxL := 1) (ret := (some .int)) (by decide) rfl ?_
  intro p e s m args below meth c s₁ B hml hv
  obtain ⟨hav, hsz, hK, hZ, hP, hD⟩ := hv
  have hx := B.exec
  have hb := B.bytes
  have hr := B.returns
  have hts := atoms_spec (ws := wsX10_way) B.pre
  have hown : s.vm.findClass RX10 = some m.cls := findClass_of_methodNamed B.named
  have hlocks := B.notSynchronized
  subst hsz
  have hA : ∀ q : Nat, s.heap.size ≤ q → xA ad ids s.heap.size q := fun q h => Or.inr h
  have hW : xW D KA layX stX ad ids (xA ad ids s.heap.size) s.heap σ s.heap [] := ⟨hP, xA_D (D := D) hD, va_S.rf⟩
  have kr : ∀ (v : Int32) (σ : St) (H : Heap) (locs : List Loc) (ls : Array Slot) (pc : Nat), xW D KA layX stX ad ids (xA ad ids s.heap.size) s.heap σ H locs → post v σ → decode cX10_way pc = .ok (.ireturn, 1) → W p l e rmX10_way s m args below meth c H locs 0 0 (MQ below (va_Qi post (xOut D KA layX stX ad ids) (xA ad ids s.heap.size)) args s 0 0 (xA ad ids s.heap.size)) (F0 m pc ls [.int v]) := fun v σ H locs ls pc hW h hd => x_iret hx hb hr hlocks hW h hd
  have hl := lv_entry ([.ref (ad a0)]) (n := 1) (Nat.le_of_ble_eq_true rfl)
  rw [show entryFrame m args 1 = entryFrame m ([.ref (ad a0)] : List Value).toArray 1 from by rw [hav]]
  rw [lg_entry_eq]
  generalize (lg_sl ([.ref (ad a0)]) ++ List.replicate (1 - (lg_sl ([.ref (ad a0)])).length) Slot.unset).toArray = ls at hl ⊢
  have hl : lv_has ls 1 [(0, .ref (ad a0))] := hl
  show W p l e rmX10_way s m args below meth c s.heap [] 0 0 _ _
  generalize MQ below (va_Qi post (xOut D KA layX stX ad ids) (xA ad ids s.heap.size)) args s 0 0 (xA ad ids s.heap.size) = Q at kr ⊢
  have main : ∀ (H : Heap) (locs : List Loc) (ls : Array Slot), xW D KA layX stX ad ids (xA ad ids s.heap.size) s.heap σ H locs → lv_has ls 1 [(0, .ref (ad a0))] → W p l e rmX10_way s m args below meth c H locs 0 0 Q (F0 m 0 ls []) := by
    intro H locs ls hW hl
    unfold wX10_way at h
    refine lv_aload_n hx hb dX10_way_0 rfl (lv_at hl 0 rfl) ?_
    refine x_calli (x_runSUB (As := []) (rest := []) ⟨hx, hb, hml, hown, hts⟩ (J_X2_way l hI ok_a0 h) (va_cwSU 0 hts gX10_way_X2_way_s7 rfl rfl rfl hdSU_X2_way ⟨Nat.le_of_ble_eq_true rfl, Nat.le_of_ble_eq_true rfl⟩) hK hZ hA hW ok_a0 rfl rfl hl.1 rfl (lv_room (Nat.le_of_ble_eq_true rfl)) dX10_way_1 ⟨Nat.zero_le _, Nat.zero_le _⟩) hW hA (fun r1002 σ1001 H locs h hW => ?_)
    try dsimp only at h
    refine lv_ineg hx hb dX10_way_4 ?_
    exact kr _ _ _ _ _ _ hW h dX10_way_5
  exact main _ _ _ hW hl
set_option maxHeartbeats 4000000 in
set_option maxRecDepth 100000 in
theorem J_X2_wrap {D : va_G} {KA : Nat → ClassId} {zs : ZS} {ad : Nat → Nat} {ids : List Nat} {sz : Nat} (l : Launch) (hI : ∀ c, c < 52 ∧ ¬ c = 19 → c ∈ ids) {a0 : Nat} (ok_a0 : okB ids a0) {σ : St} {post : Int32 → St → Prop} (h : wX2_wrap ids a0 σ post) : Met l yX2_wrap wsX2_wrap rmX2_wrap (va_Pc [.ref (ad a0)] (xIn D KA zs layX stX ad ids sz σ)) (va_Qi post (xOut D KA layX stX ad ids) (xA ad ids sz)) 0 0 (xA ad ids sz) := by
  refine Met.ofW (cc := cX2_wrap) (maxL := 1) (ret := (some .int)) (by decide) rfl ?_
  intro p e s m args below meth c s₁ B hml hv
  obtain ⟨hav, hsz, hK, hZ, hP, hD⟩ := hv
  have hx := B.exec
  have hb := B.bytes
  have hr := B.returns
  have hts := atoms_spec (ws := wsX2_wrap) B.pre
  have hown : s.vm.findClass RX2 = some m.cls := findClass_of_methodNamed B.named
  have hlocks := B.notSynchronized
  subst hsz
  have hA : ∀ q : Nat, s.heap.size ≤ q → xA ad ids s.heap.size q := fun q h => Or.inr h
  have hW : xW D KA layX stX ad ids (xA ad ids s.heap.size) s.heap σ s.heap [] := ⟨hP, xA_D (D := D) hD, va_S.rf⟩
  have kr : ∀ (v : Int32) (σ : St) (H : Heap) (locs : List Loc) (ls : Array Slot) (pc : Nat), xW D KA layX stX ad ids (xA ad ids s.heap.size) s.heap σ H locs → post v σ → decode cX2_wrap pc = .ok (.ireturn, 1) → W p l e rmX2_wrap s m args below meth c H locs 0 0 (MQ below (va_Qi post (xOut D KA layX stX ad ids) (xA ad ids s.heap.size)) args s 0 0 (xA ad ids s.heap.size)) (F0 m pc ls [.int v]) := fun v σ H locs ls pc hW h hd => x_iret hx hb hr hlocks hW h hd
  have hl := lv_entry ([.ref (ad a0)]) (n := 1) (Nat.le_of_ble_eq_true rfl)
  rw [show entryFrame m args 1 = entryFrame m ([.ref (ad a0)] : List Value).toArray 1 from by rw [hav]]
  rw [lg_entry_eq]
  generalize (lg_sl ([.ref (ad a0)]) ++ List.replicate (1 - (lg_sl ([.ref (ad a0)])).length) Slot.unset).toArray = ls at hl ⊢
  have hl : lv_has ls 1 [(0, .ref (ad a0))] := hl
  show W p l e rmX2_wrap s m args below meth c s.heap [] 0 0 _ _
  generalize MQ below (va_Qi post (xOut D KA layX stX ad ids) (xA ad ids s.heap.size)) args s 0 0 (xA ad ids s.heap.size) = Q at kr ⊢
  have main : ∀ (H : Heap) (locs : List Loc) (ls : Array Slot), xW D KA layX stX ad ids (xA ad ids s.heap.size) s.heap σ H locs → lv_has ls 1 [(0, .ref (ad a0))] → W p l e rmX2_wrap s m args below meth c H locs 0 0 Q (F0 m 0 ls []) := by
    intro H locs ls hW hl
    unfold wX2_wrap at h
    refine lv_aload_n hx hb dX2_wrap_0 rfl (lv_at hl 0 rfl) ?_
    refine x_calli (x_runSUB (As := []) (rest := []) ⟨hx, hb, hml, hown, hts⟩ (J_X0_wrap l hI ok_a0 h) (va_cwSU 0 hts gX2_wrap_X0_wrap_s7 rfl rfl rfl hdSU_X0_wrap ⟨Nat.le_of_ble_eq_true rfl, Nat.le_of_ble_eq_true rfl⟩) hK hZ hA hW ok_a0 rfl rfl hl.1 rfl (lv_room (Nat.le_of_ble_eq_true rfl)) dX2_wrap_1 ⟨Nat.zero_le _, Nat.zero_le _⟩) hW hA (fun r1002 σ1001 H locs h hW => ?_)
    try dsimp only at h
    refine lv_bipush (v := 20) hx hb dX2_wrap_4 (by decide) ?_
    refine lv_iadd hx hb dX2_wrap_6 ?_
    exact kr _ _ _ _ _ _ hW h dX2_wrap_7
  exact main _ _ _ hW hl
set_option maxHeartbeats 4000000 in
set_option maxRecDepth 100000 in
theorem J_X10_wrap {D : va_G} {KA : Nat → ClassId} {zs : ZS} {ad : Nat → Nat} {ids : List Nat} {sz : Nat} (l : Launch) (hI : ∀ c, c < 52 ∧ ¬ c = 19 → c ∈ ids) {a0 : Nat} (ok_a0 : okB ids a0) {σ : St} {post : Int32 → St → Prop} (h : wX10_wrap ids a0 σ post) : Met l yX10_wrap wsX10_wrap rmX10_wrap (va_Pc [.ref (ad a0)] (xIn D KA zs layX stX ad ids sz σ)) (va_Qi post (xOut D KA layX stX ad ids) (xA ad ids sz)) 0 0 (xA ad ids sz) := by
  refine Met.ofW (cc := cX10_wrap) (maxL := 1) (ret := (some .int)) (by decide) rfl ?_
  intro p e s m args below meth c s₁ B hml hv
  obtain ⟨hav, hsz, hK, hZ, hP, hD⟩ := hv
  have hx := B.exec
  have hb := B.bytes
  have hr := B.returns
  have hts := atoms_spec (ws := wsX10_wrap) B.pre
  have hown : s.vm.findClass RX10 = some m.cls := findClass_of_methodNamed B.named
  have hlocks := B.notSynchronized
  subst hsz
  have hA : ∀ q : Nat, s.heap.size ≤ q → xA ad ids s.heap.size q := fun q h => Or.inr h
  have hW : xW D KA layX stX ad ids (xA ad ids s.heap.size) s.heap σ s.heap [] := ⟨hP, xA_D (D := D) hD, va_S.rf⟩
  have kr : ∀ (v : Int32) (σ : St) (H : Heap) (locs : List Loc) (ls : Array Slot) (pc : Nat), xW D KA layX stX ad ids (xA ad ids s.heap.size) s.heap σ H locs → post v σ → decode cX10_wrap pc = .ok (.ireturn, 1) → W p l e rmX10_wrap s m args below meth c H locs 0 0 (MQ below (va_Qi post (xOut D KA layX stX ad ids) (xA ad ids s.heap.size)) args s 0 0 (xA ad ids s.heap.size)) (F0 m pc ls [.int v]) := fun v σ H locs ls pc hW h hd => x_iret hx hb hr hlocks hW h hd
  have hl := lv_entry ([.ref (ad a0)]) (n := 1) (Nat.le_of_ble_eq_true rfl)
  rw [show entryFrame m args 1 = entryFrame m ([.ref (ad a0)] : List Value).toArray 1 from by rw [hav]]
  rw [lg_entry_eq]
  generalize (lg_sl ([.ref (ad a0)]) ++ List.replicate (1 - (lg_sl ([.ref (ad a0)])).length) Slot.unset).toArray = ls at hl ⊢
  have hl : lv_has ls 1 [(0, .ref (ad a0))] := hl
  show W p l e rmX10_wrap s m args below meth c s.heap [] 0 0 _ _
  generalize MQ below (va_Qi post (xOut D KA layX stX ad ids) (xA ad ids s.heap.size)) args s 0 0 (xA ad ids s.heap.size) = Q at kr ⊢
  have main : ∀ (H : Heap) (locs : List Loc) (ls : Array Slot), xW D KA layX stX ad ids (xA ad ids s.heap.size) s.heap σ H locs → lv_has ls 1 [(0, .ref (ad a0))] → W p l e rmX10_wrap s m args below meth c H locs 0 0 Q (F0 m 0 ls []) := by
    intro H locs ls hW hl
    unfold wX10_wrap at h
    refine lv_aload_n hx hb dX10_wrap_0 rfl (lv_at hl 0 rfl) ?_
    refine x_calli (x_runSUB (As := []) (rest := []) ⟨hx, hb, hml, hown, hts⟩ (J_X2_wrap l hI ok_a0 h) (va_cwSU 0 hts gX10_wrap_X2_wrap_s11 rfl rfl rfl hdSU_X2_wrap ⟨Nat.le_of_ble_eq_true rfl, Nat.le_of_ble_eq_true rfl⟩) hK hZ hA hW ok_a0 rfl rfl hl.1 rfl (lv_room (Nat.le_of_ble_eq_true rfl)) dX10_wrap_1 ⟨Nat.zero_le _, Nat.zero_le _⟩) hW hA (fun r1002 σ1001 H locs h hW => ?_)
    try dsimp only at h
    refine lv_iconst (v := 2) hx hb dX10_wrap_4 (by decide) ?_
    refine lv_idiv hx hb dX10_wrap_5 (by decide) ?_
    exact kr _ _ _ _ _ _ hW h dX10_wrap_6
  exact main _ _ _ hW hl
set_option maxHeartbeats 4000000 in
set_option maxRecDepth 100000 in
theorem J_X11_asBit {D : va_G} {KA : Nat → ClassId} {zs : ZS} {ad : Nat → Nat} {ids : List Nat} {sz : Nat} (l : Launch) (hI : ∀ c, c < 52 ∧ ¬ c = 19 → c ∈ ids) {a0 : Int32}  {σ : St} {post : Int32 → St → Prop} (h : wX11_asBit ids a0 σ post) : Met l yX11_asBit wsX11_asBit rmX11_asBit (va_Pc [.int a0] (xIn D KA zs layX stX ad ids sz σ)) (va_Qi post (xOut D KA layX stX ad ids) (xA ad ids sz)) 0 0 (xA ad ids sz) := by
  refine Met.ofW (cc := cX11_asBit) (maxL := 1) (ret := (some .int)) (by decide) rfl ?_
  intro p e s m args below meth c s₁ B hml hv
  obtain ⟨hav, hsz, hK, hZ, hP, hD⟩ := hv
  have hx := B.exec
  have hb := B.bytes
  have hr := B.returns
  have hts := atoms_spec (ws := wsX11_asBit) B.pre
  have hown : s.vm.findClass RX11 = some m.cls := findClass_of_methodNamed B.named
  have hlocks := B.notSynchronized
  subst hsz
  have hA : ∀ q : Nat, s.heap.size ≤ q → xA ad ids s.heap.size q := fun q h => Or.inr h
  have hW : xW D KA layX stX ad ids (xA ad ids s.heap.size) s.heap σ s.heap [] := ⟨hP, xA_D (D := D) hD, va_S.rf⟩
  have kr : ∀ (v : Int32) (σ : St) (H : Heap) (locs : List Loc) (ls : Array Slot) (pc : Nat), xW D KA layX stX ad ids (xA ad ids s.heap.size) s.heap σ H locs → post v σ → decode cX11_asBit pc = .ok (.ireturn, 1) → W p l e rmX11_asBit s m args below meth c H locs 0 0 (MQ below (va_Qi post (xOut D KA layX stX ad ids) (xA ad ids s.heap.size)) args s 0 0 (xA ad ids s.heap.size)) (F0 m pc ls [.int v]) := fun v σ H locs ls pc hW h hd => x_iret hx hb hr hlocks hW h hd
  have hl := lv_entry ([.int a0]) (n := 1) (Nat.le_of_ble_eq_true rfl)
  rw [show entryFrame m args 1 = entryFrame m ([.int a0] : List Value).toArray 1 from by rw [hav]]
  rw [lg_entry_eq]
  generalize (lg_sl ([.int a0]) ++ List.replicate (1 - (lg_sl ([.int a0])).length) Slot.unset).toArray = ls at hl ⊢
  have hl : lv_has ls 1 [(0, .int a0)] := hl
  show W p l e rmX11_asBit s m args below meth c s.heap [] 0 0 _ _
  generalize MQ below (va_Qi post (xOut D KA layX stX ad ids) (xA ad ids s.heap.size)) args s 0 0 (xA ad ids s.heap.size) = Q at kr ⊢
  have blk9 : ∀ (s0 : Int32) (σ : St) (H : Heap) (locs : List Loc) (ls : Array Slot), xW D KA layX stX ad ids (xA ad ids s.heap.size) s.heap σ H locs → lv_has ls 1 [] → wX11_asBit_9 ids post s0 σ → W p l e rmX11_asBit s m args below meth c H locs 0 0 Q (F0 m 9 ls [.int s0]) := by
    intro   s0 σ H locs ls hW hl h
    unfold wX11_asBit_9 at h
    exact kr _ _ _ _ _ _ hW h dX11_asBit_9
  have main : ∀ (H : Heap) (locs : List Loc) (ls : Array Slot), xW D KA layX stX ad ids (xA ad ids s.heap.size) s.heap σ H locs → lv_has ls 1 [(0, .int a0)] → W p l e rmX11_asBit s m args below meth c H locs 0 0 Q (F0 m 0 ls []) := by
    intro H locs ls hW hl
    unfold wX11_asBit at h
    refine lv_iload_n hx hb dX11_asBit_0 rfl (lv_at hl 0 rfl) ?_
    refine lv_if_eq (tgt := 8) hx hb dX11_asBit_1 (by decide) (fun c1001 => ?_) (fun c1001 => ?_)
    · have h := h.1 c1001
      refine lv_iconst (v := 0) hx hb dX11_asBit_8 (by decide) ?_
      exact blk9   (0 : Int32) _ _ _ _ hW (lv_sub hl [] rfl) h
    · have h := h.2 c1001
      refine lv_iconst (v := 1) hx hb dX11_asBit_4 (by decide) ?_
      refine lv_goto (tgt := 9) hx hb dX11_asBit_5 (by decide) ?_
      exact blk9   (1 : Int32) _ _ _ _ hW (lv_sub hl [] rfl) h
  exact main _ _ _ hW hl
theorem hwX5_restore_0 : (.fieldLink RX5 23 "FortyBelts$Machine" "isKept" "Z" : Cond) ∈ wsX5_restore := (List.mem_cons_of_mem _ (List.mem_append_left _ (List.mem_of_getElem? (i := 0) rfl)))
theorem hwX5_restore_1 : (.fieldLink RX5 26 "FortyBelts$Machine" "keptOn" "Z" : Cond) ∈ wsX5_restore := (List.mem_cons_of_mem _ (List.mem_append_left _ (List.mem_of_getElem? (i := 1) rfl)))
theorem hwX5_restore_2 : (.fieldLink RX5 7 "FortyBelts$Machine" "on" "Z" : Cond) ∈ wsX5_restore := (List.mem_cons_of_mem _ (List.mem_append_left _ (List.mem_of_getElem? (i := 2) rfl)))
theorem hwX5_restore_3 : (.fieldLink RX5 32 "FortyBelts$Machine" "keptLoad" "I" : Cond) ∈ wsX5_restore := (List.mem_cons_of_mem _ (List.mem_append_left _ (List.mem_of_getElem? (i := 3) rfl)))
theorem hwX5_restore_4 : (.fieldLink RX5 29 "FortyBelts$Machine" "load" "I" : Cond) ∈ wsX5_restore := (List.mem_cons_of_mem _ (List.mem_append_left _ (List.mem_of_getElem? (i := 4) rfl)))
theorem hcX5_restore_X5 : ∀ w ∈ wsX50, w ∈ wsX5_restore := fun _ h => (List.mem_cons_of_mem _ (List.mem_append_right _ h))
set_option maxHeartbeats 4000000 in
set_option maxRecDepth 100000 in
theorem J_X5_restore {D : va_G} {KA : Nat → ClassId} {zs : ZS} {ad : Nat → Nat} {ids : List Nat} {sz : Nat} (l : Launch) (hI : ∀ c, c < 52 ∧ ¬ c = 19 → c ∈ ids) {a0 : Nat} (ok_a0 : okM ids a0) {σ : St} {post : St → Prop} (h : wX5_restore ids a0 σ post) : Met l yX5_restore wsX5_restore rmX5_restore (va_Pc [.ref (ad a0)] (xIn D KA zs layX stX ad ids sz σ)) (va_Qv post (xOut D KA layX stX ad ids) (xA ad ids sz)) 0 0 (xA ad ids sz) := by
  refine Met.ofW (cc := cX5_restore) (maxL := 1) (ret := none) (by decide) rfl ?_
  intro p e s m args below meth c s₁ B hml hv
  obtain ⟨hav, hsz, hK, hZ, hP, hD⟩ := hv
  have hx := B.exec
  have hb := B.bytes
  have hr := B.returns
  have hts := atoms_spec (ws := wsX5_restore) B.pre
  have hown : s.vm.findClass RX5 = some m.cls := findClass_of_methodNamed B.named
  have hlocks := B.notSynchronized
  subst hsz
  have hA : ∀ q : Nat, s.heap.size ≤ q → xA ad ids s.heap.size q := fun q h => Or.inr h
  have hW : xW D KA layX stX ad ids (xA ad ids s.heap.size) s.heap σ s.heap [] := ⟨hP, xA_D (D := D) hD, va_S.rf⟩
  have kr : ∀ (σ : St) (H : Heap) (locs : List Loc) (ls : Array Slot) (pc : Nat), xW D KA layX stX ad ids (xA ad ids s.heap.size) s.heap σ H locs → post σ → decode cX5_restore pc = .ok (.return_, 1) → W p l e rmX5_restore s m args below meth c H locs 0 0 (MQ below (va_Qv post (xOut D KA layX stX ad ids) (xA ad ids s.heap.size)) args s 0 0 (xA ad ids s.heap.size)) (F0 m pc ls []) := fun σ H locs ls pc hW h hd => x_vret hx hb hr hlocks hW h hd
  have hl := lv_entry ([.ref (ad a0)]) (n := 1) (Nat.le_of_ble_eq_true rfl)
  rw [show entryFrame m args 1 = entryFrame m ([.ref (ad a0)] : List Value).toArray 1 from by rw [hav]]
  rw [lg_entry_eq]
  generalize (lg_sl ([.ref (ad a0)]) ++ List.replicate (1 - (lg_sl ([.ref (ad a0)])).length) Slot.unset).toArray = ls at hl ⊢
  have hl : lv_has ls 1 [(0, .ref (ad a0))] := hl
  show W p l e rmX5_restore s m args below meth c s.heap [] 0 0 _ _
  generalize MQ below (va_Qv post (xOut D KA layX stX ad ids) (xA ad ids s.heap.size)) args s 0 0 (xA ad ids s.heap.size) = Q at kr ⊢
  have blk23 : ∀ (σ : St) (H : Heap) (locs : List Loc) (ls : Array Slot), xW D KA layX stX ad ids (xA ad ids s.heap.size) s.heap σ H locs → lv_has ls 1 [] → wX5_restore_23 ids post  σ → W p l e rmX5_restore s m args below meth c H locs 0 0 Q (F0 m 23 ls []) := by
    intro    σ H locs ls hW hl h
    unfold wX5_restore_23 at h
    exact kr _ _ _ _ _ hW h dX5_restore_23
  have main : ∀ (H : Heap) (locs : List Loc) (ls : Array Slot), xW D KA layX stX ad ids (xA ad ids s.heap.size) s.heap σ H locs → lv_has ls 1 [(0, .ref (ad a0))] → W p l e rmX5_restore s m args below meth c H locs 0 0 Q (F0 m 0 ls []) := by
    intro H locs ls hW hl
    unfold wX5_restore at h
    refine lv_aload_n hx hb dX5_restore_0 rfl (lv_at hl 0 rfl) ?_
    refine xgX5_6 hx hb hts hown hK hW a0 hcX5_restore_X5 ok_a0.1 (lay_okM ok_a0) (hts _ hwX5_restore_0) dX5_restore_1 ?_
    refine lv_if_eq (tgt := 23) hx hb dX5_restore_4 (by decide) (fun c1001 => ?_) (fun c1001 => ?_)
    · have h := h.1 c1001
      exact blk23    _ _ _ _ hW (lv_sub hl [] rfl) h
    · have h := h.2 c1001
      refine lv_aload_n hx hb dX5_restore_7 rfl (lv_at hl 0 rfl) ?_
      refine lv_aload_n hx hb dX5_restore_8 rfl (lv_at hl 0 rfl) ?_
      refine xgX5_7 hx hb hts hown hK hW a0 hcX5_restore_X5 ok_a0.1 (lay_okM ok_a0) (hts _ hwX5_restore_1) dX5_restore_9 ?_
      obtain ⟨hz1002, h⟩ := h
      refine xpX5_5 hx hb hts hown hK hW a0 hcX5_restore_X5 ok_a0.1 (lay_okM ok_a0) (hts _ hwX5_restore_2) hz1002 dX5_restore_12 (fun σ1003 H locs hσ1003 hW => ?_)
      have h := h σ1003 hσ1003
      refine lv_aload_n hx hb dX5_restore_15 rfl (lv_at hl 0 rfl) ?_
      refine lv_aload_n hx hb dX5_restore_16 rfl (lv_at hl 0 rfl) ?_
      refine xgX5_8 hx hb hts hown hK hW a0 hcX5_restore_X5 ok_a0.1 (lay_okM ok_a0) (hts _ hwX5_restore_3) dX5_restore_17 ?_
      refine xpX5_3 hx hb hts hown hK hW a0 hcX5_restore_X5 ok_a0.1 (lay_okM ok_a0) (hts _ hwX5_restore_4) dX5_restore_20 (fun σ1004 H locs hσ1004 hW => ?_)
      have h := h σ1004 hσ1004
      exact blk23    _ _ _ _ hW (lv_sub hl [] rfl) h
  exact main _ _ _ hW hl
theorem hwX6_putDrum_0 : (.fieldLink RX6 80 "FortyBelts$Belt" "drivenDrum" "I" : Cond) ∈ wsX6_putDrum := (List.mem_cons_of_mem _ (List.mem_append_left _ (List.mem_append_left _ (List.mem_append_left _ (List.mem_append_left _ (List.mem_append_left _ (List.mem_append_left _ (List.mem_append_left _ (List.mem_of_getElem? (i := 3) rfl)))))))))
theorem hwX6_putDrum_1 : (.fieldLink RX6 37 "FortyBelts$Mill" "sizes" "[I" : Cond) ∈ wsX6_putDrum := (List.mem_cons_of_mem _ (List.mem_append_left _ (List.mem_append_left _ (List.mem_append_left _ (List.mem_append_left _ (List.mem_append_left _ (List.mem_append_left _ (List.mem_append_left _ (List.mem_of_getElem? (i := 1) rfl)))))))))
theorem hwX6_putDrum_2 : (.fieldLink RX6 83 "FortyBelts$Belt" "b" "I" : Cond) ∈ wsX6_putDrum := (List.mem_cons_of_mem _ (List.mem_append_left _ (List.mem_append_left _ (List.mem_append_left _ (List.mem_append_left _ (List.mem_append_left _ (List.mem_append_left _ (List.mem_append_left _ (List.mem_of_getElem? (i := 4) rfl)))))))))
theorem hwX6_putDrum_3 : (.fieldLink RX6 74 "FortyBelts$Belt" "driverDrum" "I" : Cond) ∈ wsX6_putDrum := (List.mem_cons_of_mem _ (List.mem_append_left _ (List.mem_append_left _ (List.mem_append_left _ (List.mem_append_left _ (List.mem_append_left _ (List.mem_append_left _ (List.mem_append_left _ (List.mem_of_getElem? (i := 0) rfl)))))))))
theorem hwX6_putDrum_4 : (.fieldLink RX6 77 "FortyBelts$Belt" "a" "I" : Cond) ∈ wsX6_putDrum := (List.mem_cons_of_mem _ (List.mem_append_left _ (List.mem_append_left _ (List.mem_append_left _ (List.mem_append_left _ (List.mem_append_left _ (List.mem_append_left _ (List.mem_append_left _ (List.mem_of_getElem? (i := 2) rfl)))))))))
theorem hcX6_putDrum_X0 : ∀ w ∈ wsX00, w ∈ wsX6_putDrum := fun _ h => (List.mem_cons_of_mem _ (List.mem_append_left _ (List.mem_append_left _ (List.mem_append_left _ (List.mem_append_left _ (List.mem_append_left _ (List.mem_append_left _ (List.mem_append_right _ h))))))))
theorem hcX6_putDrum_X1 : ∀ w ∈ wsX10, w ∈ wsX6_putDrum := fun _ h => (List.mem_cons_of_mem _ (List.mem_append_left _ (List.mem_append_left _ (List.mem_append_left _ (List.mem_append_left _ (List.mem_append_left _ (List.mem_append_right _ h)))))))
theorem hcX6_putDrum_X2 : ∀ w ∈ wsX20, w ∈ wsX6_putDrum := fun _ h => (List.mem_cons_of_mem _ (List.mem_append_left _ (List.mem_append_left _ (List.mem_append_left _ (List.mem_append_left _ (List.mem_append_right _ h))))))
theorem hcX6_putDrum_X3 : ∀ w ∈ wsX30, w ∈ wsX6_putDrum := fun _ h => (List.mem_cons_of_mem _ (List.mem_append_left _ (List.mem_append_left _ (List.mem_append_left _ (List.mem_append_right _ h)))))
theorem hcX6_putDrum_X4 : ∀ w ∈ wsX40, w ∈ wsX6_putDrum := fun _ h => (List.mem_cons_of_mem _ (List.mem_append_left _ (List.mem_append_left _ (List.mem_append_right _ h))))
theorem hcX6_putDrum_X10 : ∀ w ∈ wsX100, w ∈ wsX6_putDrum := fun _ h => (List.mem_cons_of_mem _ (List.mem_append_left _ (List.mem_append_right _ h)))
theorem hcX6_putDrum_X6 : ∀ w ∈ wsX60, w ∈ wsX6_putDrum := fun _ h => (List.mem_cons_of_mem _ (List.mem_append_right _ h))
theorem hBX6_putDrum : xHB wsX6_putDrum := ⟨hcX6_putDrum_X0, hcX6_putDrum_X1, hcX6_putDrum_X2, hcX6_putDrum_X3, hcX6_putDrum_X4, hcX6_putDrum_X10⟩
set_option maxHeartbeats 4000000 in
set_option maxRecDepth 100000 in
theorem J_X6_putDrum {D : va_G} {KA : Nat → ClassId} {zs : ZS} {ad : Nat → Nat} {ids : List Nat} {sz : Nat} (l : Launch) (hI : ∀ c, c < 52 ∧ ¬ c = 19 → c ∈ ids) {a1 : Nat} {a2 : Int32} {a3 : Int32} (ok_a1 : okB ids a1) {σ : St} {post : St → Prop} (h : wX6_putDrum ids a1 a2 a3 σ post) : Met l yX6_putDrum wsX6_putDrum rmX6_putDrum (va_Pc [.ref (ad 1), .ref (ad a1), .int a2, .int a3] (xIn D KA zs layX stX ad ids sz σ)) (va_Qv post (xOut D KA layX stX ad ids) (xA ad ids sz)) 0 0 (xA ad ids sz) := by
  refine Met.ofW (cc := cX6_putDrum) (maxL := 4) (ret := none) (by decide) rfl ?_
  intro p e s m args below meth c s₁ B hml hv
  obtain ⟨hav, hsz, hK, hZ, hP, hD⟩ := hv
  have hx := B.exec
  have hb := B.bytes
  have hr := B.returns
  have hts := atoms_spec (ws := wsX6_putDrum) B.pre
  have hown : s.vm.findClass RX6 = some m.cls := findClass_of_methodNamed B.named
  have hlocks := B.notSynchronized
  subst hsz
  have hA : ∀ q : Nat, s.heap.size ≤ q → xA ad ids s.heap.size q := fun q h => Or.inr h
  have hW : xW D KA layX stX ad ids (xA ad ids s.heap.size) s.heap σ s.heap [] := ⟨hP, xA_D (D := D) hD, va_S.rf⟩
  have kr : ∀ (σ : St) (H : Heap) (locs : List Loc) (ls : Array Slot) (pc : Nat), xW D KA layX stX ad ids (xA ad ids s.heap.size) s.heap σ H locs → post σ → decode cX6_putDrum pc = .ok (.return_, 1) → W p l e rmX6_putDrum s m args below meth c H locs 0 0 (MQ below (va_Qv post (xOut D KA layX stX ad ids) (xA ad ids s.heap.size)) args s 0 0 (xA ad ids s.heap.size)) (F0 m pc ls []) := fun σ H locs ls pc hW h hd => x_vret hx hb hr hlocks hW h hd
  have hl := lv_entry ([.ref (ad 1), .ref (ad a1), .int a2, .int a3]) (n := 4) (Nat.le_of_ble_eq_true rfl)
  rw [show entryFrame m args 4 = entryFrame m ([.ref (ad 1), .ref (ad a1), .int a2, .int a3] : List Value).toArray 4 from by rw [hav]]
  rw [lg_entry_eq]
  generalize (lg_sl ([.ref (ad 1), .ref (ad a1), .int a2, .int a3]) ++ List.replicate (4 - (lg_sl ([.ref (ad 1), .ref (ad a1), .int a2, .int a3])).length) Slot.unset).toArray = ls at hl ⊢
  have hl : lv_has ls 4 [(0, .ref (ad 1)), (1, .ref (ad a1)), (2, .int a2), (3, .int a3)] := hl
  show W p l e rmX6_putDrum s m args below meth c s.heap [] 0 0 _ _
  generalize MQ below (va_Qv post (xOut D KA layX stX ad ids) (xA ad ids s.heap.size)) args s 0 0 (xA ad ids s.heap.size) = Q at kr ⊢
  have blk37 : ∀ (σ : St) (H : Heap) (locs : List Loc) (ls : Array Slot), xW D KA layX stX ad ids (xA ad ids s.heap.size) s.heap σ H locs → lv_has ls 4 [] → wX6_putDrum_37 ids post  σ → W p l e rmX6_putDrum s m args below meth c H locs 0 0 Q (F0 m 37 ls []) := by
    intro    σ H locs ls hW hl h
    unfold wX6_putDrum_37 at h
    exact kr _ _ _ _ _ hW h dX6_putDrum_37
  have main : ∀ (H : Heap) (locs : List Loc) (ls : Array Slot), xW D KA layX stX ad ids (xA ad ids s.heap.size) s.heap σ H locs → lv_has ls 4 [(0, .ref (ad 1)), (1, .ref (ad a1)), (2, .int a2), (3, .int a3)] → W p l e rmX6_putDrum s m args below meth c H locs 0 0 Q (F0 m 0 ls []) := by
    intro H locs ls hW hl
    unfold wX6_putDrum at h
    refine lv_iload_n hx hb dX6_putDrum_0 rfl (lv_at hl 2 rfl) ?_
    refine lv_if_ne (tgt := 22) hx hb dX6_putDrum_1 (by decide) (fun c1001 => ?_) (fun c1001 => ?_)
    · have h := h.1 c1001
      refine lv_aload_n hx hb dX6_putDrum_22 rfl (lv_at hl 1 rfl) ?_
      refine lv_iload_n hx hb dX6_putDrum_23 rfl (lv_at hl 3 rfl) ?_
      refine xpB_5 hx hb hts hown hK hW a1 hBX6_putDrum ok_a1 (hts _ hwX6_putDrum_0) dX6_putDrum_24 (fun σ1002 H locs hσ1002 hW => ?_)
      have h := h σ1002 hσ1002
      refine lv_aload_n hx hb dX6_putDrum_27 rfl (lv_at hl 1 rfl) ?_
      refine lv_aload_n hx hb dX6_putDrum_28 rfl (lv_at hl 0 rfl) ?_
      refine xgX6_11r hx hb hts hown hK hW 1 hcX6_putDrum_X6 (hI 1 (by decide)) lX_1 (hts _ hwX6_putDrum_1) (sX_1_11 _) dX6_putDrum_29 ?_
      refine lv_iload_n hx hb dX6_putDrum_32 rfl (lv_at hl 3 rfl) ?_
      obtain ⟨hi1003, h⟩ := h
      refine x_iald hx hb hK hW 10 (hI 10 (by decide)) lX_10 hi1003 dX6_putDrum_33 ?_
      refine xpB_7 hx hb hts hown hK hW a1 hBX6_putDrum ok_a1 (hts _ hwX6_putDrum_2) dX6_putDrum_34 (fun σ1004 H locs hσ1004 hW => ?_)
      have h := h σ1004 hσ1004
      exact blk37    _ _ _ _ hW (lv_sub hl [] rfl) h
    · have h := h.2 c1001
      refine lv_aload_n hx hb dX6_putDrum_4 rfl (lv_at hl 1 rfl) ?_
      refine lv_iload_n hx hb dX6_putDrum_5 rfl (lv_at hl 3 rfl) ?_
      refine xpB_4 hx hb hts hown hK hW a1 hBX6_putDrum ok_a1 (hts _ hwX6_putDrum_3) dX6_putDrum_6 (fun σ1005 H locs hσ1005 hW => ?_)
      have h := h σ1005 hσ1005
      refine lv_aload_n hx hb dX6_putDrum_9 rfl (lv_at hl 1 rfl) ?_
      refine lv_aload_n hx hb dX6_putDrum_10 rfl (lv_at hl 0 rfl) ?_
      refine xgX6_11r hx hb hts hown hK hW 1 hcX6_putDrum_X6 (hI 1 (by decide)) lX_1 (hts _ hwX6_putDrum_1) (sX_1_11 _) dX6_putDrum_11 ?_
      refine lv_iload_n hx hb dX6_putDrum_14 rfl (lv_at hl 3 rfl) ?_
      obtain ⟨hi1006, h⟩ := h
      refine x_iald hx hb hK hW 10 (hI 10 (by decide)) lX_10 hi1006 dX6_putDrum_15 ?_
      refine xpB_6 hx hb hts hown hK hW a1 hBX6_putDrum ok_a1 (hts _ hwX6_putDrum_4) dX6_putDrum_16 (fun σ1007 H locs hσ1007 hW => ?_)
      have h := h σ1007 hσ1007
      refine lv_goto (tgt := 37) hx hb dX6_putDrum_19 (by decide) ?_
      exact blk37    _ _ _ _ hW (lv_sub hl [] rfl) h
  exact main _ _ _ hW hl
theorem hwX6_restoreBelt_0 : (.fieldLink RX6 188 "FortyBelts$Belt" "isKept" "Z" : Cond) ∈ wsX6_restoreBelt := (List.mem_cons_of_mem _ (List.mem_append_left _ (List.mem_append_left _ (List.mem_append_left _ (List.mem_append_left _ (List.mem_append_left _ (List.mem_append_left _ (List.mem_append_left _ (List.mem_of_getElem? (i := 0) rfl)))))))))
theorem hwX6_restoreBelt_1 : (.fieldLink RX6 191 "FortyBelts$Belt" "keptDriverDrum" "I" : Cond) ∈ wsX6_restoreBelt := (List.mem_cons_of_mem _ (List.mem_append_left _ (List.mem_append_left _ (List.mem_append_left _ (List.mem_append_left _ (List.mem_append_left _ (List.mem_append_left _ (List.mem_append_left _ (List.mem_of_getElem? (i := 1) rfl)))))))))
theorem hwX6_restoreBelt_2 : (.fieldLink RX6 198 "FortyBelts$Belt" "keptDrivenDrum" "I" : Cond) ∈ wsX6_restoreBelt := (List.mem_cons_of_mem _ (List.mem_append_left _ (List.mem_append_left _ (List.mem_append_left _ (List.mem_append_left _ (List.mem_append_left _ (List.mem_append_left _ (List.mem_append_left _ (List.mem_of_getElem? (i := 2) rfl)))))))))
theorem hwX6_restoreBelt_3 : (.fieldLink RX6 201 "FortyBelts$Belt" "keptOn" "Z" : Cond) ∈ wsX6_restoreBelt := (List.mem_cons_of_mem _ (List.mem_append_left _ (List.mem_append_left _ (List.mem_append_left _ (List.mem_append_left _ (List.mem_append_left _ (List.mem_append_left _ (List.mem_append_left _ (List.mem_of_getElem? (i := 3) rfl)))))))))
theorem hwX6_restoreBelt_4 : (.fieldLink RX6 89 "FortyBelts$Belt" "on" "Z" : Cond) ∈ wsX6_restoreBelt := (List.mem_cons_of_mem _ (List.mem_append_left _ (List.mem_append_left _ (List.mem_append_left _ (List.mem_append_left _ (List.mem_append_left _ (List.mem_append_left _ (List.mem_append_left _ (List.mem_of_getElem? (i := 4) rfl)))))))))
theorem hcX6_restoreBelt_X0 : ∀ w ∈ wsX00, w ∈ wsX6_restoreBelt := fun _ h => (List.mem_cons_of_mem _ (List.mem_append_left _ (List.mem_append_left _ (List.mem_append_left _ (List.mem_append_left _ (List.mem_append_left _ (List.mem_append_left _ (List.mem_append_right _ h))))))))
theorem hcX6_restoreBelt_X1 : ∀ w ∈ wsX10, w ∈ wsX6_restoreBelt := fun _ h => (List.mem_cons_of_mem _ (List.mem_append_left _ (List.mem_append_left _ (List.mem_append_left _ (List.mem_append_left _ (List.mem_append_left _ (List.mem_append_right _ h)))))))
theorem hcX6_restoreBelt_X2 : ∀ w ∈ wsX20, w ∈ wsX6_restoreBelt := fun _ h => (List.mem_cons_of_mem _ (List.mem_append_left _ (List.mem_append_left _ (List.mem_append_left _ (List.mem_append_left _ (List.mem_append_right _ h))))))
theorem hcX6_restoreBelt_X3 : ∀ w ∈ wsX30, w ∈ wsX6_restoreBelt := fun _ h => (List.mem_cons_of_mem _ (List.mem_append_left _ (List.mem_append_left _ (List.mem_append_left _ (List.mem_append_right _ h)))))
theorem hcX6_restoreBelt_X4 : ∀ w ∈ wsX40, w ∈ wsX6_restoreBelt := fun _ h => (List.mem_cons_of_mem _ (List.mem_append_left _ (List.mem_append_left _ (List.mem_append_right _ h))))
theorem hcX6_restoreBelt_X10 : ∀ w ∈ wsX100, w ∈ wsX6_restoreBelt := fun _ h => (List.mem_cons_of_mem _ (List.mem_append_left _ (List.mem_append_right _ h)))
theorem hBX6_restoreBelt : xHB wsX6_restoreBelt := ⟨hcX6_restoreBelt_X0, hcX6_restoreBelt_X1, hcX6_restoreBelt_X2, hcX6_restoreBelt_X3, hcX6_restoreBelt_X4, hcX6_restoreBelt_X10⟩
set_option maxHeartbeats 4000000 in
set_option maxRecDepth 100000 in
theorem J_X6_restoreBelt {D : va_G} {KA : Nat → ClassId} {zs : ZS} {ad : Nat → Nat} {ids : List Nat} {sz : Nat} (l : Launch) (hI : ∀ c, c < 52 ∧ ¬ c = 19 → c ∈ ids) {a1 : Nat} (ok_a1 : okB ids a1) {σ : St} {post : St → Prop} (h : wX6_restoreBelt ids a1 σ post) : Met l yX6_restoreBelt wsX6_restoreBelt rmX6_restoreBelt (va_Pc [.ref (ad 1), .ref (ad a1)] (xIn D KA zs layX stX ad ids sz σ)) (va_Qv post (xOut D KA layX stX ad ids) (xA ad ids sz)) 0 0 (xA ad ids sz) := by
  refine Met.ofW (cc := cX6_restoreBelt) (maxL := 2) (ret := none) (by decide) rfl ?_
  intro p e s m args below meth c s₁ B hml hv
  obtain ⟨hav, hsz, hK, hZ, hP, hD⟩ := hv
  have hx := B.exec
  have hb := B.bytes
  have hr := B.returns
  have hts := atoms_spec (ws := wsX6_restoreBelt) B.pre
  have hown : s.vm.findClass RX6 = some m.cls := findClass_of_methodNamed B.named
  have hlocks := B.notSynchronized
  subst hsz
  have hA : ∀ q : Nat, s.heap.size ≤ q → xA ad ids s.heap.size q := fun q h => Or.inr h
  have hW : xW D KA layX stX ad ids (xA ad ids s.heap.size) s.heap σ s.heap [] := ⟨hP, xA_D (D := D) hD, va_S.rf⟩
  have kr : ∀ (σ : St) (H : Heap) (locs : List Loc) (ls : Array Slot) (pc : Nat), xW D KA layX stX ad ids (xA ad ids s.heap.size) s.heap σ H locs → post σ → decode cX6_restoreBelt pc = .ok (.return_, 1) → W p l e rmX6_restoreBelt s m args below meth c H locs 0 0 (MQ below (va_Qv post (xOut D KA layX stX ad ids) (xA ad ids s.heap.size)) args s 0 0 (xA ad ids s.heap.size)) (F0 m pc ls []) := fun σ H locs ls pc hW h hd => x_vret hx hb hr hlocks hW h hd
  have hl := lv_entry ([.ref (ad 1), .ref (ad a1)]) (n := 2) (Nat.le_of_ble_eq_true rfl)
  rw [show entryFrame m args 2 = entryFrame m ([.ref (ad 1), .ref (ad a1)] : List Value).toArray 2 from by rw [hav]]
  rw [lg_entry_eq]
  generalize (lg_sl ([.ref (ad 1), .ref (ad a1)]) ++ List.replicate (2 - (lg_sl ([.ref (ad 1), .ref (ad a1)])).length) Slot.unset).toArray = ls at hl ⊢
  have hl : lv_has ls 2 [(0, .ref (ad 1)), (1, .ref (ad a1))] := hl
  show W p l e rmX6_restoreBelt s m args below meth c s.heap [] 0 0 _ _
  generalize MQ below (va_Qv post (xOut D KA layX stX ad ids) (xA ad ids s.heap.size)) args s 0 0 (xA ad ids s.heap.size) = Q at kr ⊢
  have blk35 : ∀ (σ : St) (H : Heap) (locs : List Loc) (ls : Array Slot), xW D KA layX stX ad ids (xA ad ids s.heap.size) s.heap σ H locs → lv_has ls 2 [] → wX6_restoreBelt_35 ids post  σ → W p l e rmX6_restoreBelt s m args below meth c H locs 0 0 Q (F0 m 35 ls []) := by
    intro    σ H locs ls hW hl h
    unfold wX6_restoreBelt_35 at h
    exact kr _ _ _ _ _ hW h dX6_restoreBelt_35
  have main : ∀ (H : Heap) (locs : List Loc) (ls : Array Slot), xW D KA layX stX ad ids (xA ad ids s.heap.size) s.heap σ H locs → lv_has ls 2 [(0, .ref (ad 1)), (1, .ref (ad a1))] → W p l e rmX6_restoreBelt s m args below meth c H locs 0 0 Q (F0 m 0 ls []) := by
    intro H locs ls hW hl
    unfold wX6_restoreBelt at h
    refine lv_aload_n hx hb dX6_restoreBelt_0 rfl (lv_at hl 1 rfl) ?_
    refine xgB_9 hx hb hts hown hK hW a1 hBX6_restoreBelt ok_a1 (hts _ hwX6_restoreBelt_0) (fun _ h => h) dX6_restoreBelt_1 ?_
    refine lv_if_eq (tgt := 35) hx hb dX6_restoreBelt_4 (by decide) (fun c1001 => ?_) (fun c1001 => ?_)
    · have h := h.1 c1001
      exact blk35    _ _ _ _ hW (lv_sub hl [] rfl) h
    · have h := h.2 c1001
      refine lv_aload_n hx hb dX6_restoreBelt_7 rfl (lv_at hl 0 rfl) ?_
      refine lv_aload_n hx hb dX6_restoreBelt_8 rfl (lv_at hl 1 rfl) ?_
      refine lv_iconst (v := 0) hx hb dX6_restoreBelt_9 (by decide) ?_
      refine lv_aload_n hx hb dX6_restoreBelt_10 rfl (lv_at hl 1 rfl) ?_
      refine xgB_11 hx hb hts hown hK hW a1 hBX6_restoreBelt ok_a1 (hts _ hwX6_restoreBelt_1) (fun _ h => h) dX6_restoreBelt_11 ?_
      refine x_callv (va_runV (As := [.ref (ad a1), .int (0 : Int32), .int (gI σ a1 11)]) (rest := []) ⟨hx, hb, hml, hown, hts⟩ (J_X6_putDrum l hI ok_a1 h) (cwV 3 hts gX6_restoreBelt_X6_putDrum rfl rfl rfl hdV_X6_putDrum ⟨Nat.le_of_ble_eq_true rfl, Nat.le_of_ble_eq_true rfl⟩) (x_preV (ci := 6) hK hZ hA hW (hI 1 (by decide)) lX_1 rfl) rfl rfl hl.1 rfl (lv_room (Nat.le_of_ble_eq_true rfl)) dX6_restoreBelt_14 ⟨Nat.zero_le _, Nat.zero_le _⟩) hW hA (fun σ1002 H locs h hW => ?_)
      try dsimp only at h
      refine lv_aload_n hx hb dX6_restoreBelt_17 rfl (lv_at hl 0 rfl) ?_
      refine lv_aload_n hx hb dX6_restoreBelt_18 rfl (lv_at hl 1 rfl) ?_
      refine lv_iconst (v := 1) hx hb dX6_restoreBelt_19 (by decide) ?_
      refine lv_aload_n hx hb dX6_restoreBelt_20 rfl (lv_at hl 1 rfl) ?_
      refine xgB_12 hx hb hts hown hK hW a1 hBX6_restoreBelt ok_a1 (hts _ hwX6_restoreBelt_2) (fun _ h => h) dX6_restoreBelt_21 ?_
      refine x_callv (va_runV (As := [.ref (ad a1), .int (1 : Int32), .int (gI σ1002 a1 12)]) (rest := []) ⟨hx, hb, hml, hown, hts⟩ (J_X6_putDrum l hI ok_a1 h) (cwV 3 hts gX6_restoreBelt_X6_putDrum rfl rfl rfl hdV_X6_putDrum ⟨Nat.le_of_ble_eq_true rfl, Nat.le_of_ble_eq_true rfl⟩) (x_preV (ci := 6) hK hZ hA hW (hI 1 (by decide)) lX_1 rfl) rfl rfl hl.1 rfl (lv_room (Nat.le_of_ble_eq_true rfl)) dX6_restoreBelt_24 ⟨Nat.zero_le _, Nat.zero_le _⟩) hW hA (fun σ1003 H locs h hW => ?_)
      try dsimp only at h
      refine lv_aload_n hx hb dX6_restoreBelt_27 rfl (lv_at hl 1 rfl) ?_
      refine lv_aload_n hx hb dX6_restoreBelt_28 rfl (lv_at hl 1 rfl) ?_
      refine xgB_10 hx hb hts hown hK hW a1 hBX6_restoreBelt ok_a1 (hts _ hwX6_restoreBelt_3) (fun _ h => h) dX6_restoreBelt_29 ?_
      obtain ⟨hz1004, h⟩ := h
      refine xpB_8 hx hb hts hown hK hW a1 hBX6_restoreBelt ok_a1 (hts _ hwX6_restoreBelt_4) hz1004 dX6_restoreBelt_32 (fun σ1005 H locs hσ1005 hW => ?_)
      have h := h σ1005 hσ1005
      exact blk35    _ _ _ _ hW (lv_sub hl [] rfl) h
  exact main _ _ _ hW hl
theorem hwX6_restore_0 : (.fieldLink RX6 59 "FortyBelts$Mill" "machineCount" "I" : Cond) ∈ wsX6_restore := (List.mem_cons_of_mem _ (List.mem_append_left _ (List.mem_append_left _ (List.mem_append_left _ (List.mem_append_left _ (List.mem_append_left _ (List.mem_append_left _ (List.mem_append_left _ (List.mem_append_left _ (List.mem_append_left _ (List.mem_of_getElem? (i := 6) rfl)))))))))))
theorem hwX6_restore_1 : (.fieldLink RX6 33 "FortyBelts$Mill" "machines" "[LFortyBelts$Machine;" : Cond) ∈ wsX6_restore := (List.mem_cons_of_mem _ (List.mem_append_left _ (List.mem_append_left _ (List.mem_append_left _ (List.mem_append_left _ (List.mem_append_left _ (List.mem_append_left _ (List.mem_append_left _ (List.mem_append_left _ (List.mem_append_left _ (List.mem_of_getElem? (i := 7) rfl)))))))))))
theorem hwX6_restore_2 : (.fieldLink RX6 65 "FortyBelts$Mill" "beltCount" "I" : Cond) ∈ wsX6_restore := (List.mem_cons_of_mem _ (List.mem_append_left _ (List.mem_append_left _ (List.mem_append_left _ (List.mem_append_left _ (List.mem_append_left _ (List.mem_append_left _ (List.mem_append_left _ (List.mem_append_left _ (List.mem_append_left _ (List.mem_of_getElem? (i := 4) rfl)))))))))))
theorem hwX6_restore_3 : (.fieldLink RX6 42 "FortyBelts$Mill" "belts" "[LFortyBelts$Belt;" : Cond) ∈ wsX6_restore := (List.mem_cons_of_mem _ (List.mem_append_left _ (List.mem_append_left _ (List.mem_append_left _ (List.mem_append_left _ (List.mem_append_left _ (List.mem_append_left _ (List.mem_append_left _ (List.mem_append_left _ (List.mem_append_left _ (List.mem_of_getElem? (i := 5) rfl)))))))))))
theorem hwX6_restore_4 : (.fieldLink RX6 171 "FortyBelts$Mill" "keptTurns" "I" : Cond) ∈ wsX6_restore := (List.mem_cons_of_mem _ (List.mem_append_left _ (List.mem_append_left _ (List.mem_append_left _ (List.mem_append_left _ (List.mem_append_left _ (List.mem_append_left _ (List.mem_append_left _ (List.mem_append_left _ (List.mem_append_left _ (List.mem_of_getElem? (i := 0) rfl)))))))))))
theorem hwX6_restore_5 : (.fieldLink RX6 49 "FortyBelts$Mill" "engineTurns" "I" : Cond) ∈ wsX6_restore := (List.mem_cons_of_mem _ (List.mem_append_left _ (List.mem_append_left _ (List.mem_append_left _ (List.mem_append_left _ (List.mem_append_left _ (List.mem_append_left _ (List.mem_append_left _ (List.mem_append_left _ (List.mem_append_left _ (List.mem_of_getElem? (i := 1) rfl)))))))))))
theorem hwX6_restore_6 : (.fieldLink RX6 174 "FortyBelts$Mill" "keptPower" "I" : Cond) ∈ wsX6_restore := (List.mem_cons_of_mem _ (List.mem_append_left _ (List.mem_append_left _ (List.mem_append_left _ (List.mem_append_left _ (List.mem_append_left _ (List.mem_append_left _ (List.mem_append_left _ (List.mem_append_left _ (List.mem_append_left _ (List.mem_of_getElem? (i := 2) rfl)))))))))))
theorem hwX6_restore_7 : (.fieldLink RX6 53 "FortyBelts$Mill" "power" "I" : Cond) ∈ wsX6_restore := (List.mem_cons_of_mem _ (List.mem_append_left _ (List.mem_append_left _ (List.mem_append_left _ (List.mem_append_left _ (List.mem_append_left _ (List.mem_append_left _ (List.mem_append_left _ (List.mem_append_left _ (List.mem_append_left _ (List.mem_of_getElem? (i := 3) rfl)))))))))))
theorem hcX6_restore_X6 : ∀ w ∈ wsX60, w ∈ wsX6_restore := fun _ h => (List.mem_cons_of_mem _ (List.mem_append_left _ (List.mem_append_left _ (List.mem_append_left _ (List.mem_append_left _ (List.mem_append_left _ (List.mem_append_left _ (List.mem_append_left _ (List.mem_append_right _ h)))))))))
set_option maxHeartbeats 4000000 in
set_option maxRecDepth 100000 in
theorem J_X6_restore {D : va_G} {KA : Nat → ClassId} {zs : ZS} {ad : Nat → Nat} {ids : List Nat} {sz : Nat} (l : Launch) (hI : ∀ c, c < 52 ∧ ¬ c = 19 → c ∈ ids)   {σ : St} {post : St → Prop} (h : wX6_restore ids  σ post) : Met l yX6_restore wsX6_restore rmX6_restore (va_Pc [.ref (ad 1)] (xIn D KA zs layX stX ad ids sz σ)) (va_Qv post (xOut D KA layX stX ad ids) (xA ad ids sz)) 0 0 (xA ad ids sz) := by
  refine Met.ofW (cc := cX6_restore) (maxL := 2) (ret := none) (by decide) rfl ?_
  intro p e s m args below meth c s₁ B hml hv
  obtain ⟨hav, hsz, hK, hZ, hP, hD⟩ := hv
  have hx := B.exec
  have hb := B.bytes
  have hr := B.returns
  have hts := atoms_spec (ws := wsX6_restore) B.pre
  have hown : s.vm.findClass RX6 = some m.cls := findClass_of_methodNamed B.named
  have hlocks := B.notSynchronized
  subst hsz
  have hA : ∀ q : Nat, s.heap.size ≤ q → xA ad ids s.heap.size q := fun q h => Or.inr h
  have hW : xW D KA layX stX ad ids (xA ad ids s.heap.size) s.heap σ s.heap [] := ⟨hP, xA_D (D := D) hD, va_S.rf⟩
  have kr : ∀ (σ : St) (H : Heap) (locs : List Loc) (ls : Array Slot) (pc : Nat), xW D KA layX stX ad ids (xA ad ids s.heap.size) s.heap σ H locs → post σ → decode cX6_restore pc = .ok (.return_, 1) → W p l e rmX6_restore s m args below meth c H locs 0 0 (MQ below (va_Qv post (xOut D KA layX stX ad ids) (xA ad ids s.heap.size)) args s 0 0 (xA ad ids s.heap.size)) (F0 m pc ls []) := fun σ H locs ls pc hW h hd => x_vret hx hb hr hlocks hW h hd
  have hl := lv_entry ([.ref (ad 1)]) (n := 2) (Nat.le_of_ble_eq_true rfl)
  rw [show entryFrame m args 2 = entryFrame m ([.ref (ad 1)] : List Value).toArray 2 from by rw [hav]]
  rw [lg_entry_eq]
  generalize (lg_sl ([.ref (ad 1)]) ++ List.replicate (2 - (lg_sl ([.ref (ad 1)])).length) Slot.unset).toArray = ls at hl ⊢
  have hl : lv_has ls 2 [(0, .ref (ad 1))] := hl
  show W p l e rmX6_restore s m args below meth c s.heap [] 0 0 _ _
  generalize MQ below (va_Qv post (xOut D KA layX stX ad ids) (xA ad ids s.heap.size)) args s 0 0 (xA ad ids s.heap.size) = Q at kr ⊢
  have blk44 : ∀ (n : Nat) (x1 : Int32) (σ : St) (H : Heap) (locs : List Loc) (ls : Array Slot), xW D KA layX stX ad ids (xA ad ids s.heap.size) s.heap σ H locs → lv_has ls 2 [(0, .ref (ad 1)), (1, .int x1)] → wX6_restore_44 ids post  n x1 σ → W p l e rmX6_restore s m args below meth c H locs 0 0 Q (F0 m 44 ls []) := by
    intro    n
    induction n with
    | zero => intro x1 σ H locs ls hW hl h; exact (h : False).elim
    | succ n ih =>
      intro x1 σ H locs ls hW hl h
      have hk44 : ∀ (x1 : Int32) (σ : St) (H : Heap) (locs : List Loc) (ls : Array Slot), xW D KA layX stX ad ids (xA ad ids s.heap.size) s.heap σ H locs → lv_has ls 2 [(0, .ref (ad 1)), (1, .int x1)] → (wX6_restore_44 ids post  n) x1 σ → W p l e rmX6_restore s m args below meth c H locs 0 0 Q (F0 m 44 ls []) := fun x1 σ H locs ls hW hl h => ih x1 σ H locs ls hW hl h
      rw [wX6_restore_44_s] at h
      try dsimp only at h
      generalize wX6_restore_44 ids post  n = k44 at h hk44
      refine lv_iload_n hx hb dX6_restore_44 rfl (lv_at hl 1 rfl) ?_
      refine lv_aload_n hx hb dX6_restore_45 rfl (lv_at hl 0 rfl) ?_
      refine xgX6_1 hx hb hts hown hK hW 1 hcX6_restore_X6 (hI 1 (by decide)) lX_1 (hts _ hwX6_restore_0) dX6_restore_46 ?_
      refine lv_icmp_ge (tgt := 67) hx hb dX6_restore_49 (by decide) (fun c1 => ?_) (fun c1 => ?_)
      · have h := h.1 c1
        exact kr _ _ _ _ _ hW h dX6_restore_67
      · have h := h.2 c1
        refine lv_aload_n hx hb dX6_restore_52 rfl (lv_at hl 0 rfl) ?_
        refine xgX6_10r hx hb hts hown hK hW 1 hcX6_restore_X6 (hI 1 (by decide)) lX_1 (hts _ hwX6_restore_1) (sX_1_10 _) dX6_restore_53 ?_
        refine lv_iload_n hx hb dX6_restore_56 rfl (lv_at hl 1 rfl) ?_
        obtain ⟨hi2, h⟩ := h
        obtain ⟨o3, hr4, ok_o3, h⟩ := h
        refine x_ald hx hb hK hW 9 1 (hI 9 (by decide)) lX_9 rfl hi2 ((sX_9 _ _).trans hr4) dX6_restore_57 ?_
        refine x_callv (va_runV (As := []) (rest := []) ⟨hx, hb, hml, hown, hts⟩ (J_X5_restore l hI ok_o3 h) (cwV 0 hts gX6_restore_X5_restore rfl rfl rfl hdV_X5_restore ⟨Nat.le_of_ble_eq_true rfl, Nat.le_of_ble_eq_true rfl⟩) (x_preV (ci := 5) hK hZ hA hW ok_o3.1 (lay_okM ok_o3) rfl) rfl rfl hl.1 rfl (lv_room (Nat.le_of_ble_eq_true rfl)) dX6_restore_58 ⟨Nat.zero_le _, Nat.zero_le _⟩) hW hA (fun σ5 H locs h hW => ?_)
        try dsimp only at h
        obtain ⟨v6, hv6⟩ : ∃ y : Int32, y = x1 + (1 : Int32) := ⟨_, rfl⟩
        have h := h v6 hv6
        refine lv_iinc (v := v6) (lv' := [(1, .int v6), (0, .ref (ad 1))]) hx hb dX6_restore_61 hl (k := 1) rfl (by rw [hv6]; rfl) (by decide) rfl (fun ls hl => ?_)
        refine lv_goto (tgt := 44) hx hb dX6_restore_64 (by decide) ?_
        exact hk44 v6 _ _ _ _ hW (lv_sub hl [1, 0] rfl) h
  have blk18 : ∀ (n : Nat) (x1 : Int32) (σ : St) (H : Heap) (locs : List Loc) (ls : Array Slot), xW D KA layX stX ad ids (xA ad ids s.heap.size) s.heap σ H locs → lv_has ls 2 [(0, .ref (ad 1)), (1, .int x1)] → wX6_restore_18 ids post  n x1 σ → W p l e rmX6_restore s m args below meth c H locs 0 0 Q (F0 m 18 ls []) := by
    intro    n
    induction n with
    | zero => intro x1 σ H locs ls hW hl h; exact (h : False).elim
    | succ n ih =>
      intro x1 σ H locs ls hW hl h
      have hk18 : ∀ (x1 : Int32) (σ : St) (H : Heap) (locs : List Loc) (ls : Array Slot), xW D KA layX stX ad ids (xA ad ids s.heap.size) s.heap σ H locs → lv_has ls 2 [(0, .ref (ad 1)), (1, .int x1)] → (wX6_restore_18 ids post  n) x1 σ → W p l e rmX6_restore s m args below meth c H locs 0 0 Q (F0 m 18 ls []) := fun x1 σ H locs ls hW hl h => ih x1 σ H locs ls hW hl h
      rw [wX6_restore_18_s] at h
      try dsimp only at h
      generalize wX6_restore_18 ids post  n = k18 at h hk18
      refine lv_iload_n hx hb dX6_restore_18 rfl (lv_at hl 1 rfl) ?_
      refine lv_aload_n hx hb dX6_restore_19 rfl (lv_at hl 0 rfl) ?_
      refine xgX6_3 hx hb hts hown hK hW 1 hcX6_restore_X6 (hI 1 (by decide)) lX_1 (hts _ hwX6_restore_2) dX6_restore_20 ?_
      refine lv_icmp_ge (tgt := 42) hx hb dX6_restore_23 (by decide) (fun c7 => ?_) (fun c7 => ?_)
      · have h := h.1 c7
        refine lv_iconst (v := 0) hx hb dX6_restore_42 (by decide) ?_
        refine lv_istore_n (lv' := [(1, .int (0 : Int32)), (0, .ref (ad 1))]) hx hb dX6_restore_43 rfl hl (by decide) rfl (fun ls hl => ?_)
        obtain ⟨n, h⟩ := h
        exact blk44    n (0 : Int32) _ _ _ _ hW (lv_sub hl [1, 0] rfl) h
      · have h := h.2 c7
        refine lv_aload_n hx hb dX6_restore_26 rfl (lv_at hl 0 rfl) ?_
        refine lv_aload_n hx hb dX6_restore_27 rfl (lv_at hl 0 rfl) ?_
        refine xgX6_12r hx hb hts hown hK hW 1 hcX6_restore_X6 (hI 1 (by decide)) lX_1 (hts _ hwX6_restore_3) (sX_1_12 _) dX6_restore_28 ?_
        refine lv_iload_n hx hb dX6_restore_31 rfl (lv_at hl 1 rfl) ?_
        obtain ⟨hi9, h⟩ := h
        obtain ⟨o10, hr11, ok_o10, h⟩ := h
        refine x_ald hx hb hK hW 11 0 (hI 11 (by decide)) lX_11 rfl hi9 ((sX_11 _ _).trans hr11) dX6_restore_32 ?_
        refine x_callv (va_runV (As := [.ref (ad o10)]) (rest := []) ⟨hx, hb, hml, hown, hts⟩ (J_X6_restoreBelt l hI ok_o10 h) (cwV 1 hts gX6_restore_X6_restoreBelt rfl rfl rfl hdV_X6_restoreBelt ⟨Nat.le_of_ble_eq_true rfl, Nat.le_of_ble_eq_true rfl⟩) (x_preV (ci := 6) hK hZ hA hW (hI 1 (by decide)) lX_1 rfl) rfl rfl hl.1 rfl (lv_room (Nat.le_of_ble_eq_true rfl)) dX6_restore_33 ⟨Nat.zero_le _, Nat.zero_le _⟩) hW hA (fun σ12 H locs h hW => ?_)
        try dsimp only at h
        obtain ⟨v13, hv13⟩ : ∃ y : Int32, y = x1 + (1 : Int32) := ⟨_, rfl⟩
        have h := h v13 hv13
        refine lv_iinc (v := v13) (lv' := [(1, .int v13), (0, .ref (ad 1))]) hx hb dX6_restore_36 hl (k := 1) rfl (by rw [hv13]; rfl) (by decide) rfl (fun ls hl => ?_)
        refine lv_goto (tgt := 18) hx hb dX6_restore_39 (by decide) ?_
        exact hk18 v13 _ _ _ _ hW (lv_sub hl [1, 0] rfl) h
  have main : ∀ (H : Heap) (locs : List Loc) (ls : Array Slot), xW D KA layX stX ad ids (xA ad ids s.heap.size) s.heap σ H locs → lv_has ls 2 [(0, .ref (ad 1))] → W p l e rmX6_restore s m args below meth c H locs 0 0 Q (F0 m 0 ls []) := by
    intro H locs ls hW hl
    unfold wX6_restore at h
    refine lv_aload_n hx hb dX6_restore_0 rfl (lv_at hl 0 rfl) ?_
    refine lv_aload_n hx hb dX6_restore_1 rfl (lv_at hl 0 rfl) ?_
    refine xgX6_16 hx hb hts hown hK hW 1 hcX6_restore_X6 (hI 1 (by decide)) lX_1 (hts _ hwX6_restore_4) dX6_restore_2 ?_
    refine xpX6_14 hx hb hts hown hK hW 1 hcX6_restore_X6 (hI 1 (by decide)) lX_1 (hts _ hwX6_restore_5) dX6_restore_5 (fun σ1001 H locs hσ1001 hW => ?_)
    have h := h σ1001 hσ1001
    refine lv_aload_n hx hb dX6_restore_8 rfl (lv_at hl 0 rfl) ?_
    refine lv_aload_n hx hb dX6_restore_9 rfl (lv_at hl 0 rfl) ?_
    refine xgX6_17 hx hb hts hown hK hW 1 hcX6_restore_X6 (hI 1 (by decide)) lX_1 (hts _ hwX6_restore_6) dX6_restore_10 ?_
    refine xpX6_15 hx hb hts hown hK hW 1 hcX6_restore_X6 (hI 1 (by decide)) lX_1 (hts _ hwX6_restore_7) dX6_restore_13 (fun σ1002 H locs hσ1002 hW => ?_)
    have h := h σ1002 hσ1002
    refine lv_iconst (v := 0) hx hb dX6_restore_16 (by decide) ?_
    refine lv_istore_n (lv' := [(1, .int (0 : Int32)), (0, .ref (ad 1))]) hx hb dX6_restore_17 rfl hl (by decide) rfl (fun ls hl => ?_)
    obtain ⟨n, h⟩ := h
    exact blk18    n (0 : Int32) _ _ _ _ hW (lv_sub hl [1, 0] rfl) h
  exact main _ _ _ hW hl
theorem hwX11_back_0 : (.fieldLink RX11 317 "FortyBelts" "hasImage" "Z" : Cond) ∈ wsX11_back := (List.mem_cons_of_mem _ (List.mem_append_left _ (List.mem_append_left _ (List.mem_append_left _ (List.mem_append_left _ (List.mem_append_left _ (List.mem_append_left _ (List.mem_append_left _ (List.mem_append_left _ (List.mem_append_left _ (List.mem_append_left _ (List.mem_of_getElem? (i := 0) rfl))))))))))))
theorem hwX11_back_1 : (.fieldLink RX11 10 "FortyBelts" "mill" "LFortyBelts$Mill;" : Cond) ∈ wsX11_back := (List.mem_cons_of_mem _ (List.mem_append_left _ (List.mem_append_left _ (List.mem_append_left _ (List.mem_append_left _ (List.mem_append_left _ (List.mem_append_left _ (List.mem_append_left _ (List.mem_append_left _ (List.mem_append_left _ (List.mem_append_left _ (List.mem_of_getElem? (i := 1) rfl))))))))))))
theorem hwX11_back_2 : (.fieldLink RX11 314 "FortyBelts" "imageRule" "I" : Cond) ∈ wsX11_back := (List.mem_cons_of_mem _ (List.mem_append_left _ (List.mem_append_left _ (List.mem_append_left _ (List.mem_append_left _ (List.mem_append_left _ (List.mem_append_left _ (List.mem_append_left _ (List.mem_append_left _ (List.mem_append_left _ (List.mem_append_left _ (List.mem_of_getElem? (i := 2) rfl))))))))))))
theorem hwX11_back_3 : (.fieldLink RX11 243 "FortyBelts" "rule" "I" : Cond) ∈ wsX11_back := (List.mem_cons_of_mem _ (List.mem_append_left _ (List.mem_append_left _ (List.mem_append_left _ (List.mem_append_left _ (List.mem_append_left _ (List.mem_append_left _ (List.mem_append_left _ (List.mem_append_left _ (List.mem_append_left _ (List.mem_append_left _ (List.mem_of_getElem? (i := 3) rfl))))))))))))
theorem hwX11_back_4 : (.fieldLink RX11 145 "FortyBelts$Mill" "beltCount" "I" : Cond) ∈ wsX11_back := (List.mem_cons_of_mem _ (List.mem_append_left _ (List.mem_append_left _ (List.mem_append_left _ (List.mem_append_left _ (List.mem_append_left _ (List.mem_append_left _ (List.mem_append_left _ (List.mem_append_left _ (List.mem_append_left _ (List.mem_append_left _ (List.mem_of_getElem? (i := 4) rfl))))))))))))
theorem hcX11_back_X11 : ∀ w ∈ wsX110, w ∈ wsX11_back := fun _ h => (List.mem_cons_of_mem _ (List.mem_append_left _ (List.mem_append_left _ (List.mem_append_left _ (List.mem_append_left _ (List.mem_append_left _ (List.mem_append_left _ (List.mem_append_left _ (List.mem_append_left _ (List.mem_append_right _ h))))))))))
theorem hcX11_back_X6 : ∀ w ∈ wsX60, w ∈ wsX11_back := fun _ h => (List.mem_cons_of_mem _ (List.mem_append_left _ (List.mem_append_left _ (List.mem_append_left _ (List.mem_append_left _ (List.mem_append_left _ (List.mem_append_left _ (List.mem_append_left _ (List.mem_append_right _ h)))))))))
set_option maxHeartbeats 4000000 in
set_option maxRecDepth 100000 in
theorem J_X11_back {D : va_G} {KA : Nat → ClassId} {zs : ZS} {ad : Nat → Nat} {ids : List Nat} {sz : Nat} (l : Launch) (hI : ∀ c, c < 52 ∧ ¬ c = 19 → c ∈ ids)   {σ : St} {post : Int32 → St → Prop} (h : wX11_back ids  σ post) : Met l yX11_back wsX11_back rmX11_back (va_Pc [.ref (ad 0)] (xIn D KA zs layX stX ad ids sz σ)) (va_Qi post (xOut D KA layX stX ad ids) (xA ad ids sz)) 0 0 (xA ad ids sz) := by
  refine Met.ofW (cc := cX11_back) (maxL := 1) (ret := (some .int)) (by decide) rfl ?_
  intro p e s m args below meth c s₁ B hml hv
  obtain ⟨hav, hsz, hK, hZ, hP, hD⟩ := hv
  have hx := B.exec
  have hb := B.bytes
  have hr := B.returns
  have hts := atoms_spec (ws := wsX11_back) B.pre
  have hown : s.vm.findClass RX11 = some m.cls := findClass_of_methodNamed B.named
  have hlocks := B.notSynchronized
  subst hsz
  have hA : ∀ q : Nat, s.heap.size ≤ q → xA ad ids s.heap.size q := fun q h => Or.inr h
  have hW : xW D KA layX stX ad ids (xA ad ids s.heap.size) s.heap σ s.heap [] := ⟨hP, xA_D (D := D) hD, va_S.rf⟩
  have kr : ∀ (v : Int32) (σ : St) (H : Heap) (locs : List Loc) (ls : Array Slot) (pc : Nat), xW D KA layX stX ad ids (xA ad ids s.heap.size) s.heap σ H locs → post v σ → decode cX11_back pc = .ok (.ireturn, 1) → W p l e rmX11_back s m args below meth c H locs 0 0 (MQ below (va_Qi post (xOut D KA layX stX ad ids) (xA ad ids s.heap.size)) args s 0 0 (xA ad ids s.heap.size)) (F0 m pc ls [.int v]) := fun v σ H locs ls pc hW h hd => x_iret hx hb hr hlocks hW h hd
  have hl := lv_entry ([.ref (ad 0)]) (n := 1) (Nat.le_of_ble_eq_true rfl)
  rw [show entryFrame m args 1 = entryFrame m ([.ref (ad 0)] : List Value).toArray 1 from by rw [hav]]
  rw [lg_entry_eq]
  generalize (lg_sl ([.ref (ad 0)]) ++ List.replicate (1 - (lg_sl ([.ref (ad 0)])).length) Slot.unset).toArray = ls at hl ⊢
  have hl : lv_has ls 1 [(0, .ref (ad 0))] := hl
  show W p l e rmX11_back s m args below meth c s.heap [] 0 0 _ _
  generalize MQ below (va_Qi post (xOut D KA layX stX ad ids) (xA ad ids s.heap.size)) args s 0 0 (xA ad ids s.heap.size) = Q at kr ⊢
  have main : ∀ (H : Heap) (locs : List Loc) (ls : Array Slot), xW D KA layX stX ad ids (xA ad ids s.heap.size) s.heap σ H locs → lv_has ls 1 [(0, .ref (ad 0))] → W p l e rmX11_back s m args below meth c H locs 0 0 Q (F0 m 0 ls []) := by
    intro H locs ls hW hl
    unfold wX11_back at h
    refine lv_aload_n hx hb dX11_back_0 rfl (lv_at hl 0 rfl) ?_
    refine xgX11_11 hx hb hts hown hK hW 0 hcX11_back_X11 (hI 0 (by decide)) lX_0 (hts _ hwX11_back_0) dX11_back_1 ?_
    refine lv_if_ne (tgt := 10) hx hb dX11_back_4 (by decide) (fun c1001 => ?_) (fun c1001 => ?_)
    · have h := h.1 c1001
      refine lv_aload_n hx hb dX11_back_10 rfl (lv_at hl 0 rfl) ?_
      refine xgX11_0r hx hb hts hown hK hW 0 hcX11_back_X11 (hI 0 (by decide)) lX_0 (hts _ hwX11_back_1) (sX_0_0 _) dX11_back_11 ?_
      refine x_callv (va_runV (As := []) (rest := []) ⟨hx, hb, hml, hown, hts⟩ (J_X6_restore l hI h) (cwV 0 hts gX11_back_X6_restore rfl rfl rfl hdV_X6_restore ⟨Nat.le_of_ble_eq_true rfl, Nat.le_of_ble_eq_true rfl⟩) (x_preV (ci := 6) hK hZ hA hW (hI 1 (by decide)) lX_1 rfl) rfl rfl hl.1 rfl (lv_room (Nat.le_of_ble_eq_true rfl)) dX11_back_14 ⟨Nat.zero_le _, Nat.zero_le _⟩) hW hA (fun σ1002 H locs h hW => ?_)
      try dsimp only at h
      refine lv_aload_n hx hb dX11_back_17 rfl (lv_at hl 0 rfl) ?_
      refine lv_aload_n hx hb dX11_back_18 rfl (lv_at hl 0 rfl) ?_
      refine xgX11_12 hx hb hts hown hK hW 0 hcX11_back_X11 (hI 0 (by decide)) lX_0 (hts _ hwX11_back_2) dX11_back_19 ?_
      refine xpX11_4 hx hb hts hown hK hW 0 hcX11_back_X11 (hI 0 (by decide)) lX_0 (hts _ hwX11_back_3) dX11_back_22 (fun σ1003 H locs hσ1003 hW => ?_)
      have h := h σ1003 hσ1003
      refine lv_aload_n hx hb dX11_back_25 rfl (lv_at hl 0 rfl) ?_
      refine xgX11_0r hx hb hts hown hK hW 0 hcX11_back_X11 (hI 0 (by decide)) lX_0 (hts _ hwX11_back_1) (sX_0_0 _) dX11_back_26 ?_
      refine xgX6_3 hx hb hts hown hK hW 1 hcX11_back_X6 (hI 1 (by decide)) lX_1 (hts _ hwX11_back_4) dX11_back_29 ?_
      exact kr _ _ _ _ _ _ hW h dX11_back_32
    · have h := h.2 c1001
      refine lv_bipush (v := (-3)) hx hb dX11_back_7 (by decide) ?_
      exact kr _ _ _ _ _ _ hW h dX11_back_9
  exact main _ _ _ hW hl
set_option maxHeartbeats 4000000 in
set_option maxRecDepth 100000 in
theorem J_X11_within {D : va_G} {KA : Nat → ClassId} {zs : ZS} {ad : Nat → Nat} {ids : List Nat} {sz : Nat} (l : Launch) (hI : ∀ c, c < 52 ∧ ¬ c = 19 → c ∈ ids) {a0 : Int32} {a1 : Int32} {a2 : Int32}  {σ : St} {post : Int32 → St → Prop} (h : wX11_within ids a0 a1 a2 σ post) : Met l yX11_within wsX11_within rmX11_within (va_Pc [.int a0, .int a1, .int a2] (xIn D KA zs layX stX ad ids sz σ)) (va_Qi post (xOut D KA layX stX ad ids) (xA ad ids sz)) 0 0 (xA ad ids sz) := by
  refine Met.ofW (cc := cX11_within) (maxL := 3) (ret := (some .boolean)) (by decide) rfl ?_
  intro p e s m args below meth c s₁ B hml hv
  obtain ⟨hav, hsz, hK, hZ, hP, hD⟩ := hv
  have hx := B.exec
  have hb := B.bytes
  have hr := B.returns
  have hts := atoms_spec (ws := wsX11_within) B.pre
  have hown : s.vm.findClass RX11 = some m.cls := findClass_of_methodNamed B.named
  have hlocks := B.notSynchronized
  subst hsz
  have hA : ∀ q : Nat, s.heap.size ≤ q → xA ad ids s.heap.size q := fun q h => Or.inr h
  have hW : xW D KA layX stX ad ids (xA ad ids s.heap.size) s.heap σ s.heap [] := ⟨hP, xA_D (D := D) hD, va_S.rf⟩
  have kr : ∀ (v : Int32) (σ : St) (H : Heap) (locs : List Loc) (ls : Array Slot) (pc : Nat), xW D KA layX stX ad ids (xA ad ids s.heap.size) s.heap σ H locs → isB v → post v σ → decode cX11_within pc = .ok (.ireturn, 1) → W p l e rmX11_within s m args below meth c H locs 0 0 (MQ below (va_Qi post (xOut D KA layX stX ad ids) (xA ad ids s.heap.size)) args s 0 0 (xA ad ids s.heap.size)) (F0 m pc ls [.int v]) := fun v σ H locs ls pc hW hz h hd => x_zret hx hb hr hlocks hW hz h hd
  have hl := lv_entry ([.int a0, .int a1, .int a2]) (n := 3) (Nat.le_of_ble_eq_true rfl)
  rw [show entryFrame m args 3 = entryFrame m ([.int a0, .int a1, .int a2] : List Value).toArray 3 from by rw [hav]]
  rw [lg_entry_eq]
  generalize (lg_sl ([.int a0, .int a1, .int a2]) ++ List.replicate (3 - (lg_sl ([.int a0, .int a1, .int a2])).length) Slot.unset).toArray = ls at hl ⊢
  have hl : lv_has ls 3 [(0, .int a0), (1, .int a1), (2, .int a2)] := hl
  show W p l e rmX11_within s m args below meth c s.heap [] 0 0 _ _
  generalize MQ below (va_Qi post (xOut D KA layX stX ad ids) (xA ad ids s.heap.size)) args s 0 0 (xA ad ids s.heap.size) = Q at kr ⊢
  have blk15 : ∀ (s0 : Int32) (σ : St) (H : Heap) (locs : List Loc) (ls : Array Slot), xW D KA layX stX ad ids (xA ad ids s.heap.size) s.heap σ H locs → lv_has ls 3 [] → wX11_within_15 ids post s0 σ → W p l e rmX11_within s m args below meth c H locs 0 0 Q (F0 m 15 ls [.int s0]) := by
    intro   s0 σ H locs ls hW hl h
    unfold wX11_within_15 at h
    obtain ⟨hz1, h⟩ := h
    exact kr _ _ _ _ _ _ hW hz1 h dX11_within_15
  have blk14 : ∀ (σ : St) (H : Heap) (locs : List Loc) (ls : Array Slot), xW D KA layX stX ad ids (xA ad ids s.heap.size) s.heap σ H locs → lv_has ls 3 [] → wX11_within_14 ids post  σ → W p l e rmX11_within s m args below meth c H locs 0 0 Q (F0 m 14 ls []) := by
    intro    σ H locs ls hW hl h
    unfold wX11_within_14 at h
    refine lv_iconst (v := 0) hx hb dX11_within_14 (by decide) ?_
    exact blk15   (0 : Int32) _ _ _ _ hW (lv_sub hl [] rfl) h
  have main : ∀ (H : Heap) (locs : List Loc) (ls : Array Slot), xW D KA layX stX ad ids (xA ad ids s.heap.size) s.heap σ H locs → lv_has ls 3 [(0, .int a0), (1, .int a1), (2, .int a2)] → W p l e rmX11_within s m args below meth c H locs 0 0 Q (F0 m 0 ls []) := by
    intro H locs ls hW hl
    unfold wX11_within at h
    refine lv_iload_n hx hb dX11_within_0 rfl (lv_at hl 1 rfl) ?_
    refine lv_iload_n hx hb dX11_within_1 rfl (lv_at hl 0 rfl) ?_
    refine lv_icmp_gt (tgt := 14) hx hb dX11_within_2 (by decide) (fun c1001 => ?_) (fun c1001 => ?_)
    · have h := h.1 c1001
      exact blk14    _ _ _ _ hW (lv_sub hl [] rfl) h
    · have h := h.2 c1001
      refine lv_iload_n hx hb dX11_within_5 rfl (lv_at hl 0 rfl) ?_
      refine lv_iload_n hx hb dX11_within_6 rfl (lv_at hl 2 rfl) ?_
      refine lv_icmp_gt (tgt := 14) hx hb dX11_within_7 (by decide) (fun c1002 => ?_) (fun c1002 => ?_)
      · have h := h.1 c1002
        exact blk14    _ _ _ _ hW (lv_sub hl [] rfl) h
      · have h := h.2 c1002
        refine lv_iconst (v := 1) hx hb dX11_within_10 (by decide) ?_
        refine lv_goto (tgt := 15) hx hb dX11_within_11 (by decide) ?_
        exact blk15   (1 : Int32) _ _ _ _ hW (lv_sub hl [] rfl) h
  exact main _ _ _ hW hl
theorem hwX11_isDrum_0 : (.fieldLink RX11 10 "FortyBelts" "mill" "LFortyBelts$Mill;" : Cond) ∈ wsX11_isDrum := (List.mem_cons_of_mem _ (List.mem_append_left _ (List.mem_append_left _ (List.mem_of_getElem? (i := 0) rfl))))
theorem hwX11_isDrum_1 : (.fieldLink RX11 125 "FortyBelts$Mill" "drumCount" "I" : Cond) ∈ wsX11_isDrum := (List.mem_cons_of_mem _ (List.mem_append_left _ (List.mem_append_left _ (List.mem_of_getElem? (i := 1) rfl))))
theorem hcX11_isDrum_X11 : ∀ w ∈ wsX110, w ∈ wsX11_isDrum := fun _ h => (List.mem_cons_of_mem _ (List.mem_append_left _ (List.mem_append_right _ h)))
theorem hcX11_isDrum_X6 : ∀ w ∈ wsX60, w ∈ wsX11_isDrum := fun _ h => (List.mem_cons_of_mem _ (List.mem_append_right _ h))
set_option maxHeartbeats 4000000 in
set_option maxRecDepth 100000 in
theorem J_X11_isDrum {D : va_G} {KA : Nat → ClassId} {zs : ZS} {ad : Nat → Nat} {ids : List Nat} {sz : Nat} (l : Launch) (hI : ∀ c, c < 52 ∧ ¬ c = 19 → c ∈ ids) {a1 : Int32}  {σ : St} {post : Int32 → St → Prop} (h : wX11_isDrum ids a1 σ post) : Met l yX11_isDrum wsX11_isDrum rmX11_isDrum (va_Pc [.ref (ad 0), .int a1] (xIn D KA zs layX stX ad ids sz σ)) (va_Qi post (xOut D KA layX stX ad ids) (xA ad ids sz)) 0 0 (xA ad ids sz) := by
  refine Met.ofW (cc := cX11_isDrum) (maxL := 2) (ret := (some .boolean)) (by decide) rfl ?_
  intro p e s m args below meth c s₁ B hml hv
  obtain ⟨hav, hsz, hK, hZ, hP, hD⟩ := hv
  have hx := B.exec
  have hb := B.bytes
  have hr := B.returns
  have hts := atoms_spec (ws := wsX11_isDrum) B.pre
  have hown : s.vm.findClass RX11 = some m.cls := findClass_of_methodNamed B.named
  have hlocks := B.notSynchronized
  subst hsz
  have hA : ∀ q : Nat, s.heap.size ≤ q → xA ad ids s.heap.size q := fun q h => Or.inr h
  have hW : xW D KA layX stX ad ids (xA ad ids s.heap.size) s.heap σ s.heap [] := ⟨hP, xA_D (D := D) hD, va_S.rf⟩
  have kr : ∀ (v : Int32) (σ : St) (H : Heap) (locs : List Loc) (ls : Array Slot) (pc : Nat), xW D KA layX stX ad ids (xA ad ids s.heap.size) s.heap σ H locs → isB v → post v σ → decode cX11_isDrum pc = .ok (.ireturn, 1) → W p l e rmX11_isDrum s m args below meth c H locs 0 0 (MQ below (va_Qi post (xOut D KA layX stX ad ids) (xA ad ids s.heap.size)) args s 0 0 (xA ad ids s.heap.size)) (F0 m pc ls [.int v]) := fun v σ H locs ls pc hW hz h hd => x_zret hx hb hr hlocks hW hz h hd
  have hl := lv_entry ([.ref (ad 0), .int a1]) (n := 2) (Nat.le_of_ble_eq_true rfl)
  rw [show entryFrame m args 2 = entryFrame m ([.ref (ad 0), .int a1] : List Value).toArray 2 from by rw [hav]]
  rw [lg_entry_eq]
  generalize (lg_sl ([.ref (ad 0), .int a1]) ++ List.replicate (2 - (lg_sl ([.ref (ad 0), .int a1])).length) Slot.unset).toArray = ls at hl ⊢
  have hl : lv_has ls 2 [(0, .ref (ad 0)), (1, .int a1)] := hl
  show W p l e rmX11_isDrum s m args below meth c s.heap [] 0 0 _ _
  generalize MQ below (va_Qi post (xOut D KA layX stX ad ids) (xA ad ids s.heap.size)) args s 0 0 (xA ad ids s.heap.size) = Q at kr ⊢
  have main : ∀ (H : Heap) (locs : List Loc) (ls : Array Slot), xW D KA layX stX ad ids (xA ad ids s.heap.size) s.heap σ H locs → lv_has ls 2 [(0, .ref (ad 0)), (1, .int a1)] → W p l e rmX11_isDrum s m args below meth c H locs 0 0 Q (F0 m 0 ls []) := by
    intro H locs ls hW hl
    unfold wX11_isDrum at h
    refine lv_iload_n hx hb dX11_isDrum_0 rfl (lv_at hl 1 rfl) ?_
    refine lv_iconst (v := 0) hx hb dX11_isDrum_1 (by decide) ?_
    refine lv_aload_n hx hb dX11_isDrum_2 rfl (lv_at hl 0 rfl) ?_
    refine xgX11_0r hx hb hts hown hK hW 0 hcX11_isDrum_X11 (hI 0 (by decide)) lX_0 (hts _ hwX11_isDrum_0) (sX_0_0 _) dX11_isDrum_3 ?_
    refine xgX6_2 hx hb hts hown hK hW 1 hcX11_isDrum_X6 (hI 1 (by decide)) lX_1 (hts _ hwX11_isDrum_1) dX11_isDrum_6 ?_
    refine lv_iconst (v := 1) hx hb dX11_isDrum_9 (by decide) ?_
    refine lv_isub hx hb dX11_isDrum_10 ?_
    refine x_calli (va_runS (As := [.int a1, .int (0 : Int32), .int ((gI σ 1 2) - (1 : Int32))]) (rest := []) ⟨hx, hb, hml, hown, hts⟩ (J_X11_within l hI h) (va_cwS 3 hts gX11_isDrum_X11_within rfl rfl rfl hdS_X11_within ⟨Nat.le_of_ble_eq_true rfl, Nat.le_of_ble_eq_true rfl⟩) (x_preS hK hZ hA hW) rfl rfl hl.1 rfl (lv_room (Nat.le_of_ble_eq_true rfl)) dX11_isDrum_11 ⟨Nat.zero_le _, Nat.zero_le _⟩) hW hA (fun r1002 σ1001 H locs h hW => ?_)
    try dsimp only at h
    obtain ⟨hz1003, h⟩ := h
    exact kr _ _ _ _ _ _ hW hz1003 h dX11_isDrum_14
  exact main _ _ _ hW hl
set_option maxHeartbeats 4000000 in
set_option maxRecDepth 100000 in
theorem J_X11_isKind {D : va_G} {KA : Nat → ClassId} {zs : ZS} {ad : Nat → Nat} {ids : List Nat} {sz : Nat} (l : Launch) (hI : ∀ c, c < 52 ∧ ¬ c = 19 → c ∈ ids) {a0 : Int32}  {σ : St} {post : Int32 → St → Prop} (h : wX11_isKind ids a0 σ post) : Met l yX11_isKind wsX11_isKind rmX11_isKind (va_Pc [.int a0] (xIn D KA zs layX stX ad ids sz σ)) (va_Qi post (xOut D KA layX stX ad ids) (xA ad ids sz)) 0 0 (xA ad ids sz) := by
  refine Met.ofW (cc := cX11_isKind) (maxL := 1) (ret := (some .boolean)) (by decide) rfl ?_
  intro p e s m args below meth c s₁ B hml hv
  obtain ⟨hav, hsz, hK, hZ, hP, hD⟩ := hv
  have hx := B.exec
  have hb := B.bytes
  have hr := B.returns
  have hts := atoms_spec (ws := wsX11_isKind) B.pre
  have hown : s.vm.findClass RX11 = some m.cls := findClass_of_methodNamed B.named
  have hlocks := B.notSynchronized
  subst hsz
  have hA : ∀ q : Nat, s.heap.size ≤ q → xA ad ids s.heap.size q := fun q h => Or.inr h
  have hW : xW D KA layX stX ad ids (xA ad ids s.heap.size) s.heap σ s.heap [] := ⟨hP, xA_D (D := D) hD, va_S.rf⟩
  have kr : ∀ (v : Int32) (σ : St) (H : Heap) (locs : List Loc) (ls : Array Slot) (pc : Nat), xW D KA layX stX ad ids (xA ad ids s.heap.size) s.heap σ H locs → isB v → post v σ → decode cX11_isKind pc = .ok (.ireturn, 1) → W p l e rmX11_isKind s m args below meth c H locs 0 0 (MQ below (va_Qi post (xOut D KA layX stX ad ids) (xA ad ids s.heap.size)) args s 0 0 (xA ad ids s.heap.size)) (F0 m pc ls [.int v]) := fun v σ H locs ls pc hW hz h hd => x_zret hx hb hr hlocks hW hz h hd
  have hl := lv_entry ([.int a0]) (n := 1) (Nat.le_of_ble_eq_true rfl)
  rw [show entryFrame m args 1 = entryFrame m ([.int a0] : List Value).toArray 1 from by rw [hav]]
  rw [lg_entry_eq]
  generalize (lg_sl ([.int a0]) ++ List.replicate (1 - (lg_sl ([.int a0])).length) Slot.unset).toArray = ls at hl ⊢
  have hl : lv_has ls 1 [(0, .int a0)] := hl
  show W p l e rmX11_isKind s m args below meth c s.heap [] 0 0 _ _
  generalize MQ below (va_Qi post (xOut D KA layX stX ad ids) (xA ad ids s.heap.size)) args s 0 0 (xA ad ids s.heap.size) = Q at kr ⊢
  have main : ∀ (H : Heap) (locs : List Loc) (ls : Array Slot), xW D KA layX stX ad ids (xA ad ids s.heap.size) s.heap σ H locs → lv_has ls 1 [(0, .int a0)] → W p l e rmX11_isKind s m args below meth c H locs 0 0 Q (F0 m 0 ls []) := by
    intro H locs ls hW hl
    unfold wX11_isKind at h
    refine lv_iload_n hx hb dX11_isKind_0 rfl (lv_at hl 0 rfl) ?_
    refine lv_iconst (v := 0) hx hb dX11_isKind_1 (by decide) ?_
    refine lv_iconst (v := 5) hx hb dX11_isKind_2 (by decide) ?_
    refine x_calli (va_runS (As := [.int a0, .int (0 : Int32), .int (5 : Int32)]) (rest := []) ⟨hx, hb, hml, hown, hts⟩ (J_X11_within l hI h) (va_cwS 3 hts gX11_isKind_X11_within rfl rfl rfl hdS_X11_within ⟨Nat.le_of_ble_eq_true rfl, Nat.le_of_ble_eq_true rfl⟩) (x_preS hK hZ hA hW) rfl rfl hl.1 rfl (lv_room (Nat.le_of_ble_eq_true rfl)) dX11_isKind_3 ⟨Nat.zero_le _, Nat.zero_le _⟩) hW hA (fun r1002 σ1001 H locs h hW => ?_)
    try dsimp only at h
    obtain ⟨hz1003, h⟩ := h
    exact kr _ _ _ _ _ _ hW hz1003 h dX11_isKind_6
  exact main _ _ _ hW hl
theorem hwX11_isShaft_0 : (.fieldLink RX11 10 "FortyBelts" "mill" "LFortyBelts$Mill;" : Cond) ∈ wsX11_isShaft := (List.mem_cons_of_mem _ (List.mem_append_left _ (List.mem_append_left _ (List.mem_of_getElem? (i := 0) rfl))))
theorem hwX11_isShaft_1 : (.fieldLink RX11 75 "FortyBelts$Mill" "shaftCount" "I" : Cond) ∈ wsX11_isShaft := (List.mem_cons_of_mem _ (List.mem_append_left _ (List.mem_append_left _ (List.mem_of_getElem? (i := 1) rfl))))
theorem hcX11_isShaft_X11 : ∀ w ∈ wsX110, w ∈ wsX11_isShaft := fun _ h => (List.mem_cons_of_mem _ (List.mem_append_left _ (List.mem_append_right _ h)))
theorem hcX11_isShaft_X6 : ∀ w ∈ wsX60, w ∈ wsX11_isShaft := fun _ h => (List.mem_cons_of_mem _ (List.mem_append_right _ h))
set_option maxHeartbeats 4000000 in
set_option maxRecDepth 100000 in
theorem J_X11_isShaft {D : va_G} {KA : Nat → ClassId} {zs : ZS} {ad : Nat → Nat} {ids : List Nat} {sz : Nat} (l : Launch) (hI : ∀ c, c < 52 ∧ ¬ c = 19 → c ∈ ids) {a1 : Int32}  {σ : St} {post : Int32 → St → Prop} (h : wX11_isShaft ids a1 σ post) : Met l yX11_isShaft wsX11_isShaft rmX11_isShaft (va_Pc [.ref (ad 0), .int a1] (xIn D KA zs layX stX ad ids sz σ)) (va_Qi post (xOut D KA layX stX ad ids) (xA ad ids sz)) 0 0 (xA ad ids sz) := by
  refine Met.ofW (cc := cX11_isShaft) (maxL := 2) (ret := (some .boolean)) (by decide) rfl ?_
  intro p e s m args below meth c s₁ B hml hv
  obtain ⟨hav, hsz, hK, hZ, hP, hD⟩ := hv
  have hx := B.exec
  have hb := B.bytes
  have hr := B.returns
  have hts := atoms_spec (ws := wsX11_isShaft) B.pre
  have hown : s.vm.findClass RX11 = some m.cls := findClass_of_methodNamed B.named
  have hlocks := B.notSynchronized
  subst hsz
  have hA : ∀ q : Nat, s.heap.size ≤ q → xA ad ids s.heap.size q := fun q h => Or.inr h
  have hW : xW D KA layX stX ad ids (xA ad ids s.heap.size) s.heap σ s.heap [] := ⟨hP, xA_D (D := D) hD, va_S.rf⟩
  have kr : ∀ (v : Int32) (σ : St) (H : Heap) (locs : List Loc) (ls : Array Slot) (pc : Nat), xW D KA layX stX ad ids (xA ad ids s.heap.size) s.heap σ H locs → isB v → post v σ → decode cX11_isShaft pc = .ok (.ireturn, 1) → W p l e rmX11_isShaft s m args below meth c H locs 0 0 (MQ below (va_Qi post (xOut D KA layX stX ad ids) (xA ad ids s.heap.size)) args s 0 0 (xA ad ids s.heap.size)) (F0 m pc ls [.int v]) := fun v σ H locs ls pc hW hz h hd => x_zret hx hb hr hlocks hW hz h hd
  have hl := lv_entry ([.ref (ad 0), .int a1]) (n := 2) (Nat.le_of_ble_eq_true rfl)
  rw [show entryFrame m args 2 = entryFrame m ([.ref (ad 0), .int a1] : List Value).toArray 2 from by rw [hav]]
  rw [lg_entry_eq]
  generalize (lg_sl ([.ref (ad 0), .int a1]) ++ List.replicate (2 - (lg_sl ([.ref (ad 0), .int a1])).length) Slot.unset).toArray = ls at hl ⊢
  have hl : lv_has ls 2 [(0, .ref (ad 0)), (1, .int a1)] := hl
  show W p l e rmX11_isShaft s m args below meth c s.heap [] 0 0 _ _
  generalize MQ below (va_Qi post (xOut D KA layX stX ad ids) (xA ad ids s.heap.size)) args s 0 0 (xA ad ids s.heap.size) = Q at kr ⊢
  have main : ∀ (H : Heap) (locs : List Loc) (ls : Array Slot), xW D KA layX stX ad ids (xA ad ids s.heap.size) s.heap σ H locs → lv_has ls 2 [(0, .ref (ad 0)), (1, .int a1)] → W p l e rmX11_isShaft s m args below meth c H locs 0 0 Q (F0 m 0 ls []) := by
    intro H locs ls hW hl
    unfold wX11_isShaft at h
    refine lv_iload_n hx hb dX11_isShaft_0 rfl (lv_at hl 1 rfl) ?_
    refine lv_iconst (v := 0) hx hb dX11_isShaft_1 (by decide) ?_
    refine lv_aload_n hx hb dX11_isShaft_2 rfl (lv_at hl 0 rfl) ?_
    refine xgX11_0r hx hb hts hown hK hW 0 hcX11_isShaft_X11 (hI 0 (by decide)) lX_0 (hts _ hwX11_isShaft_0) (sX_0_0 _) dX11_isShaft_3 ?_
    refine xgX6_0 hx hb hts hown hK hW 1 hcX11_isShaft_X6 (hI 1 (by decide)) lX_1 (hts _ hwX11_isShaft_1) dX11_isShaft_6 ?_
    refine lv_iconst (v := 1) hx hb dX11_isShaft_9 (by decide) ?_
    refine lv_isub hx hb dX11_isShaft_10 ?_
    refine x_calli (va_runS (As := [.int a1, .int (0 : Int32), .int ((gI σ 1 0) - (1 : Int32))]) (rest := []) ⟨hx, hb, hml, hown, hts⟩ (J_X11_within l hI h) (va_cwS 3 hts gX11_isShaft_X11_within rfl rfl rfl hdS_X11_within ⟨Nat.le_of_ble_eq_true rfl, Nat.le_of_ble_eq_true rfl⟩) (x_preS hK hZ hA hW) rfl rfl hl.1 rfl (lv_room (Nat.le_of_ble_eq_true rfl)) dX11_isShaft_11 ⟨Nat.zero_le _, Nat.zero_le _⟩) hW hA (fun r1002 σ1001 H locs h hW => ?_)
    try dsimp only at h
    obtain ⟨hz1003, h⟩ := h
    exact kr _ _ _ _ _ _ hW hz1003 h dX11_isShaft_14
  exact main _ _ _ hW hl
theorem hwX1_init_0 : (.initialized RX0 : Cond) ∈ wsX1_init := (List.mem_cons_of_mem _ (List.mem_append_left _ (List.mem_append_left _ (List.mem_append_left _ (List.mem_append_left _ (List.mem_append_left _ (List.mem_append_left _ (List.mem_of_getElem? (i := 2) rfl))))))))
theorem hwX1_init_1 : (.methodLink RX1 1 yX0_init : Cond) ∈ wsX1_init := (List.mem_cons_of_mem _ (List.mem_append_left _ (List.mem_append_left _ (List.mem_append_left _ (List.mem_append_left _ (List.mem_append_left _ (List.mem_append_left _ (List.mem_of_getElem? (i := 0) rfl))))))))
theorem hwX1_init_2 : (.instanceMethod yX0_init : Cond) ∈ wsX1_init := (List.mem_cons_of_mem _ (List.mem_append_left _ (List.mem_append_left _ (List.mem_append_left _ (List.mem_append_left _ (List.mem_append_left _ (List.mem_append_left _ (List.mem_of_getElem? (i := 1) rfl))))))))
set_option maxHeartbeats 4000000 in
set_option maxRecDepth 100000 in
theorem J_X1_init {D : va_G} {KA : Nat → ClassId} {zs : ZS} {ad : Nat → Nat} {ids : List Nat} {sz : Nat} (l : Launch) (hI : ∀ c, c < 52 ∧ ¬ c = 19 → c ∈ ids) {a0 : Nat} {a1 : Int32} {a2 : Int32} {a3 : Int32} {a4 : Int32} (ok_a0 : okB ids a0) {σ : St} {post : St → Prop} (h : wX1_init ids a0 a1 a2 a3 a4 σ post) : Met l yX1_init wsX1_init rmX1_init (va_Pc [.ref (ad a0), .int a1, .int a2, .int a3, .int a4] (xIn D KA zs layX stX ad ids sz σ)) (va_Qv post (xOut D KA layX stX ad ids) (xA ad ids sz)) 0 0 (xA ad ids sz) := by
  refine Met.ofW (cc := cX1_init) (maxL := 5) (ret := none) (by decide) rfl ?_
  intro p e s m args below meth c s₁ B hml hv
  obtain ⟨hav, hsz, hK, hZ, hP, hD⟩ := hv
  have hx := B.exec
  have hb := B.bytes
  have hr := B.returns
  have hts := atoms_spec (ws := wsX1_init) B.pre
  have hown : s.vm.findClass RX1 = some m.cls := findClass_of_methodNamed B.named
  have hlocks := B.notSynchronized
  have hin2 : meth.name = "<init>" := (name_of_methodNamed B.named B.method).1
  subst hsz
  have hA : ∀ q : Nat, s.heap.size ≤ q → xA ad ids s.heap.size q := fun q h => Or.inr h
  have hW : xW D KA layX stX ad ids (xA ad ids s.heap.size) s.heap σ s.heap [] := ⟨hP, xA_D (D := D) hD, va_S.rf⟩
  have kr : ∀ (σ : St) (H : Heap) (locs : List Loc) (ls : Array Slot) (pc : Nat), xW D KA layX stX ad ids (xA ad ids s.heap.size) s.heap σ H locs → post σ → decode cX1_init pc = .ok (.return_, 1) → W p l e rmX1_init s m args below meth c H locs 0 0 (MQ below (va_Qv post (xOut D KA layX stX ad ids) (xA ad ids s.heap.size)) args s 0 0 (xA ad ids s.heap.size)) (F0 m pc ls []) := fun σ H locs ls pc hW h hd => x_vret hx hb hr hlocks hW h hd
  have hl := lv_entry ([.ref (ad a0), .int a1, .int a2, .int a3, .int a4]) (n := 5) (Nat.le_of_ble_eq_true rfl)
  rw [show entryFrame m args 5 = entryFrame m ([.ref (ad a0), .int a1, .int a2, .int a3, .int a4] : List Value).toArray 5 from by rw [hav]]
  rw [lg_entry_eq]
  generalize (lg_sl ([.ref (ad a0), .int a1, .int a2, .int a3, .int a4]) ++ List.replicate (5 - (lg_sl ([.ref (ad a0), .int a1, .int a2, .int a3, .int a4])).length) Slot.unset).toArray = ls at hl ⊢
  have hl : lv_has ls 5 [(0, .ref (ad a0)), (1, .int a1), (2, .int a2), (3, .int a3), (4, .int a4)] := hl
  show W p l e rmX1_init s m args below meth c s.heap [] 0 0 _ _
  generalize MQ below (va_Qv post (xOut D KA layX stX ad ids) (xA ad ids s.heap.size)) args s 0 0 (xA ad ids s.heap.size) = Q at kr ⊢
  have main : ∀ (H : Heap) (locs : List Loc) (ls : Array Slot), xW D KA layX stX ad ids (xA ad ids s.heap.size) s.heap σ H locs → lv_has ls 5 [(0, .ref (ad a0)), (1, .int a1), (2, .int a2), (3, .int a3), (4, .int a4)] → W p l e rmX1_init s m args below meth c H locs 0 0 Q (F0 m 0 ls []) := by
    intro H locs ls hW hl
    unfold wX1_init at h
    refine lv_aload_n hx hb dX1_init_0 rfl (lv_at hl 0 rfl) ?_
    refine lv_iload_n hx hb dX1_init_1 rfl (lv_at hl 1 rfl) ?_
    refine lv_iload_n hx hb dX1_init_2 rfl (lv_at hl 2 rfl) ?_
    refine lv_iload_n hx hb dX1_init_3 rfl (lv_at hl 3 rfl) ?_
    refine lv_iload hx hb dX1_init_4 (lv_at hl 4 rfl) ?_
    refine x_callv (va_runI (As := [.int a1, .int a2, .int a3, .int a4]) (rest := []) ⟨hx, hb, hml, hown, hts⟩ (J_X0_init l hI ok_a0 h) (cwI 4 hts gX1_init_X0_init rfl rfl rfl (hts _ hwX1_init_0) (hts _ hwX1_init_1) (hts _ hwX1_init_2) rfl hdI_X0_init ⟨Nat.le_of_ble_eq_true rfl, Nat.le_of_ble_eq_true rfl⟩) (x_preS hK hZ hA hW) rfl rfl hl.1 rfl (lv_room (Nat.le_of_ble_eq_true rfl)) dX1_init_6 ⟨Nat.zero_le _, Nat.zero_le _⟩) hW hA (fun σ1001 H locs h hW => ?_)
    try dsimp only at h
    exact kr _ _ _ _ _ hW h dX1_init_9
  exact main _ _ _ hW hl
theorem hwX3_init_0 : (.initialized RX0 : Cond) ∈ wsX3_init := (List.mem_cons_of_mem _ (List.mem_append_left _ (List.mem_append_left _ (List.mem_append_left _ (List.mem_append_left _ (List.mem_append_left _ (List.mem_append_left _ (List.mem_of_getElem? (i := 2) rfl))))))))
theorem hwX3_init_1 : (.methodLink RX3 1 yX0_init : Cond) ∈ wsX3_init := (List.mem_cons_of_mem _ (List.mem_append_left _ (List.mem_append_left _ (List.mem_append_left _ (List.mem_append_left _ (List.mem_append_left _ (List.mem_append_left _ (List.mem_of_getElem? (i := 0) rfl))))))))
theorem hwX3_init_2 : (.instanceMethod yX0_init : Cond) ∈ wsX3_init := (List.mem_cons_of_mem _ (List.mem_append_left _ (List.mem_append_left _ (List.mem_append_left _ (List.mem_append_left _ (List.mem_append_left _ (List.mem_append_left _ (List.mem_of_getElem? (i := 1) rfl))))))))
set_option maxHeartbeats 4000000 in
set_option maxRecDepth 100000 in
theorem J_X3_init {D : va_G} {KA : Nat → ClassId} {zs : ZS} {ad : Nat → Nat} {ids : List Nat} {sz : Nat} (l : Launch) (hI : ∀ c, c < 52 ∧ ¬ c = 19 → c ∈ ids) {a0 : Nat} {a1 : Int32} {a2 : Int32} {a3 : Int32} {a4 : Int32} (ok_a0 : okB ids a0) {σ : St} {post : St → Prop} (h : wX3_init ids a0 a1 a2 a3 a4 σ post) : Met l yX3_init wsX3_init rmX3_init (va_Pc [.ref (ad a0), .int a1, .int a2, .int a3, .int a4] (xIn D KA zs layX stX ad ids sz σ)) (va_Qv post (xOut D KA layX stX ad ids) (xA ad ids sz)) 0 0 (xA ad ids sz) := by
  refine Met.ofW (cc := cX3_init) (maxL := 5) (ret := none) (by decide) rfl ?_
  intro p e s m args below meth c s₁ B hml hv
  obtain ⟨hav, hsz, hK, hZ, hP, hD⟩ := hv
  have hx := B.exec
  have hb := B.bytes
  have hr := B.returns
  have hts := atoms_spec (ws := wsX3_init) B.pre
  have hown : s.vm.findClass RX3 = some m.cls := findClass_of_methodNamed B.named
  have hlocks := B.notSynchronized
  have hin2 : meth.name = "<init>" := (name_of_methodNamed B.named B.method).1
  subst hsz
  have hA : ∀ q : Nat, s.heap.size ≤ q → xA ad ids s.heap.size q := fun q h => Or.inr h
  have hW : xW D KA layX stX ad ids (xA ad ids s.heap.size) s.heap σ s.heap [] := ⟨hP, xA_D (D := D) hD, va_S.rf⟩
  have kr : ∀ (σ : St) (H : Heap) (locs : List Loc) (ls : Array Slot) (pc : Nat), xW D KA layX stX ad ids (xA ad ids s.heap.size) s.heap σ H locs → post σ → decode cX3_init pc = .ok (.return_, 1) → W p l e rmX3_init s m args below meth c H locs 0 0 (MQ below (va_Qv post (xOut D KA layX stX ad ids) (xA ad ids s.heap.size)) args s 0 0 (xA ad ids s.heap.size)) (F0 m pc ls []) := fun σ H locs ls pc hW h hd => x_vret hx hb hr hlocks hW h hd
  have hl := lv_entry ([.ref (ad a0), .int a1, .int a2, .int a3, .int a4]) (n := 5) (Nat.le_of_ble_eq_true rfl)
  rw [show entryFrame m args 5 = entryFrame m ([.ref (ad a0), .int a1, .int a2, .int a3, .int a4] : List Value).toArray 5 from by rw [hav]]
  rw [lg_entry_eq]
  generalize (lg_sl ([.ref (ad a0), .int a1, .int a2, .int a3, .int a4]) ++ List.replicate (5 - (lg_sl ([.ref (ad a0), .int a1, .int a2, .int a3, .int a4])).length) Slot.unset).toArray = ls at hl ⊢
  have hl : lv_has ls 5 [(0, .ref (ad a0)), (1, .int a1), (2, .int a2), (3, .int a3), (4, .int a4)] := hl
  show W p l e rmX3_init s m args below meth c s.heap [] 0 0 _ _
  generalize MQ below (va_Qv post (xOut D KA layX stX ad ids) (xA ad ids s.heap.size)) args s 0 0 (xA ad ids s.heap.size) = Q at kr ⊢
  have main : ∀ (H : Heap) (locs : List Loc) (ls : Array Slot), xW D KA layX stX ad ids (xA ad ids s.heap.size) s.heap σ H locs → lv_has ls 5 [(0, .ref (ad a0)), (1, .int a1), (2, .int a2), (3, .int a3), (4, .int a4)] → W p l e rmX3_init s m args below meth c H locs 0 0 Q (F0 m 0 ls []) := by
    intro H locs ls hW hl
    unfold wX3_init at h
    refine lv_aload_n hx hb dX3_init_0 rfl (lv_at hl 0 rfl) ?_
    refine lv_iload_n hx hb dX3_init_1 rfl (lv_at hl 1 rfl) ?_
    refine lv_iload_n hx hb dX3_init_2 rfl (lv_at hl 2 rfl) ?_
    refine lv_iload_n hx hb dX3_init_3 rfl (lv_at hl 3 rfl) ?_
    refine lv_iload hx hb dX3_init_4 (lv_at hl 4 rfl) ?_
    refine x_callv (va_runI (As := [.int a1, .int a2, .int a3, .int a4]) (rest := []) ⟨hx, hb, hml, hown, hts⟩ (J_X0_init l hI ok_a0 h) (cwI 4 hts gX3_init_X0_init rfl rfl rfl (hts _ hwX3_init_0) (hts _ hwX3_init_1) (hts _ hwX3_init_2) rfl hdI_X0_init ⟨Nat.le_of_ble_eq_true rfl, Nat.le_of_ble_eq_true rfl⟩) (x_preS hK hZ hA hW) rfl rfl hl.1 rfl (lv_room (Nat.le_of_ble_eq_true rfl)) dX3_init_6 ⟨Nat.zero_le _, Nat.zero_le _⟩) hW hA (fun σ1001 H locs h hW => ?_)
    try dsimp only at h
    exact kr _ _ _ _ _ hW h dX3_init_9
  exact main _ _ _ hW hl
theorem hwX4_init_0 : (.initialized RX3 : Cond) ∈ wsX4_init := (List.mem_cons_of_mem _ (List.mem_append_left _ (List.mem_append_left _ (List.mem_append_left _ (List.mem_append_left _ (List.mem_append_left _ (List.mem_append_left _ (List.mem_of_getElem? (i := 2) rfl))))))))
theorem hwX4_init_1 : (.methodLink RX4 1 yX3_init : Cond) ∈ wsX4_init := (List.mem_cons_of_mem _ (List.mem_append_left _ (List.mem_append_left _ (List.mem_append_left _ (List.mem_append_left _ (List.mem_append_left _ (List.mem_append_left _ (List.mem_of_getElem? (i := 0) rfl))))))))
theorem hwX4_init_2 : (.instanceMethod yX3_init : Cond) ∈ wsX4_init := (List.mem_cons_of_mem _ (List.mem_append_left _ (List.mem_append_left _ (List.mem_append_left _ (List.mem_append_left _ (List.mem_append_left _ (List.mem_append_left _ (List.mem_of_getElem? (i := 1) rfl))))))))
set_option maxHeartbeats 4000000 in
set_option maxRecDepth 100000 in
theorem J_X4_init {D : va_G} {KA : Nat → ClassId} {zs : ZS} {ad : Nat → Nat} {ids : List Nat} {sz : Nat} (l : Launch) (hI : ∀ c, c < 52 ∧ ¬ c = 19 → c ∈ ids) {a0 : Nat} {a1 : Int32} {a2 : Int32} {a3 : Int32} {a4 : Int32} (ok_a0 : okB ids a0) {σ : St} {post : St → Prop} (h : wX4_init ids a0 a1 a2 a3 a4 σ post) : Met l yX4_init wsX4_init rmX4_init (va_Pc [.ref (ad a0), .int a1, .int a2, .int a3, .int a4] (xIn D KA zs layX stX ad ids sz σ)) (va_Qv post (xOut D KA layX stX ad ids) (xA ad ids sz)) 0 0 (xA ad ids sz) := by
  refine Met.ofW (cc := cX4_init) (maxL := 5) (ret := none) (by decide) rfl ?_
  intro p e s m args below meth c s₁ B hml hv
  obtain ⟨hav, hsz, hK, hZ, hP, hD⟩ := hv
  have hx := B.exec
  have hb := B.bytes
  have hr := B.returns
  have hts := atoms_spec (ws := wsX4_init) B.pre
  have hown : s.vm.findClass RX4 = some m.cls := findClass_of_methodNamed B.named
  have hlocks := B.notSynchronized
  have hin2 : meth.name = "<init>" := (name_of_methodNamed B.named B.method).1
  subst hsz
  have hA : ∀ q : Nat, s.heap.size ≤ q → xA ad ids s.heap.size q := fun q h => Or.inr h
  have hW : xW D KA layX stX ad ids (xA ad ids s.heap.size) s.heap σ s.heap [] := ⟨hP, xA_D (D := D) hD, va_S.rf⟩
  have kr : ∀ (σ : St) (H : Heap) (locs : List Loc) (ls : Array Slot) (pc : Nat), xW D KA layX stX ad ids (xA ad ids s.heap.size) s.heap σ H locs → post σ → decode cX4_init pc = .ok (.return_, 1) → W p l e rmX4_init s m args below meth c H locs 0 0 (MQ below (va_Qv post (xOut D KA layX stX ad ids) (xA ad ids s.heap.size)) args s 0 0 (xA ad ids s.heap.size)) (F0 m pc ls []) := fun σ H locs ls pc hW h hd => x_vret hx hb hr hlocks hW h hd
  have hl := lv_entry ([.ref (ad a0), .int a1, .int a2, .int a3, .int a4]) (n := 5) (Nat.le_of_ble_eq_true rfl)
  rw [show entryFrame m args 5 = entryFrame m ([.ref (ad a0), .int a1, .int a2, .int a3, .int a4] : List Value).toArray 5 from by rw [hav]]
  rw [lg_entry_eq]
  generalize (lg_sl ([.ref (ad a0), .int a1, .int a2, .int a3, .int a4]) ++ List.replicate (5 - (lg_sl ([.ref (ad a0), .int a1, .int a2, .int a3, .int a4])).length) Slot.unset).toArray = ls at hl ⊢
  have hl : lv_has ls 5 [(0, .ref (ad a0)), (1, .int a1), (2, .int a2), (3, .int a3), (4, .int a4)] := hl
  show W p l e rmX4_init s m args below meth c s.heap [] 0 0 _ _
  generalize MQ below (va_Qv post (xOut D KA layX stX ad ids) (xA ad ids s.heap.size)) args s 0 0 (xA ad ids s.heap.size) = Q at kr ⊢
  have main : ∀ (H : Heap) (locs : List Loc) (ls : Array Slot), xW D KA layX stX ad ids (xA ad ids s.heap.size) s.heap σ H locs → lv_has ls 5 [(0, .ref (ad a0)), (1, .int a1), (2, .int a2), (3, .int a3), (4, .int a4)] → W p l e rmX4_init s m args below meth c H locs 0 0 Q (F0 m 0 ls []) := by
    intro H locs ls hW hl
    unfold wX4_init at h
    refine lv_aload_n hx hb dX4_init_0 rfl (lv_at hl 0 rfl) ?_
    refine lv_iload_n hx hb dX4_init_1 rfl (lv_at hl 1 rfl) ?_
    refine lv_iload_n hx hb dX4_init_2 rfl (lv_at hl 2 rfl) ?_
    refine lv_iload_n hx hb dX4_init_3 rfl (lv_at hl 3 rfl) ?_
    refine lv_iload hx hb dX4_init_4 (lv_at hl 4 rfl) ?_
    refine x_callv (va_runI (As := [.int a1, .int a2, .int a3, .int a4]) (rest := []) ⟨hx, hb, hml, hown, hts⟩ (J_X3_init l hI ok_a0 h) (cwI 4 hts gX4_init_X3_init rfl rfl rfl (hts _ hwX4_init_0) (hts _ hwX4_init_1) (hts _ hwX4_init_2) rfl hdI_X3_init ⟨Nat.le_of_ble_eq_true rfl, Nat.le_of_ble_eq_true rfl⟩) (x_preS hK hZ hA hW) rfl rfl hl.1 rfl (lv_room (Nat.le_of_ble_eq_true rfl)) dX4_init_6 ⟨Nat.zero_le _, Nat.zero_le _⟩) hW hA (fun σ1001 H locs h hW => ?_)
    try dsimp only at h
    exact kr _ _ _ _ _ hW h dX4_init_9
  exact main _ _ _ hW hl
