theorem dX12_isTwice_24 : decode cX12_isTwice 24 = .ok (.getfield 62, 3) := by decide +kernel
theorem dX12_isTwice_27 : decode cX12_isTwice 27 = .ok (.iload_n 3, 1) := by decide +kernel
theorem dX12_isTwice_28 : decode cX12_isTwice 28 = .ok (.iaload, 1) := by decide +kernel
theorem dX12_isTwice_29 : decode cX12_isTwice 29 = .ok (.iload_n 1, 1) := by decide +kernel
theorem dX12_isTwice_30 : decode cX12_isTwice 30 = .ok (.if_icmp .ne 7, 3) := by decide +kernel
theorem dX12_isTwice_33 : decode cX12_isTwice 33 = .ok (.iconst 1, 1) := by decide +kernel
theorem dX12_isTwice_34 : decode cX12_isTwice 34 = .ok (.goto 4, 3) := by decide +kernel
theorem dX12_isTwice_37 : decode cX12_isTwice 37 = .ok (.iconst 0, 1) := by decide +kernel
theorem dX12_isTwice_38 : decode cX12_isTwice 38 = .ok (.iadd, 1) := by decide +kernel
theorem dX12_isTwice_39 : decode cX12_isTwice 39 = .ok (.istore_n 2, 1) := by decide +kernel
theorem dX12_isTwice_40 : decode cX12_isTwice 40 = .ok (.iinc 3 1, 3) := by decide +kernel
theorem dX12_isTwice_43 : decode cX12_isTwice 43 = .ok (.goto (-39), 3) := by decide +kernel
theorem dX12_isTwice_46 : decode cX12_isTwice 46 = .ok (.iload_n 2, 1) := by decide +kernel
theorem dX12_isTwice_47 : decode cX12_isTwice 47 = .ok (.iconst 1, 1) := by decide +kernel
theorem dX12_isTwice_48 : decode cX12_isTwice 48 = .ok (.if_icmp .le 7, 3) := by decide +kernel
theorem dX12_isTwice_51 : decode cX12_isTwice 51 = .ok (.iconst 1, 1) := by decide +kernel
theorem dX12_isTwice_52 : decode cX12_isTwice 52 = .ok (.goto 4, 3) := by decide +kernel
theorem dX12_isTwice_55 : decode cX12_isTwice 55 = .ok (.iconst 0, 1) := by decide +kernel
theorem dX12_isTwice_56 : decode cX12_isTwice 56 = .ok (.ireturn, 1) := by decide +kernel
theorem sb_wsX12_judge_wsX12_judge_r1 : ∀ w ∈ wsX12_judge_r1, w ∈ wsX12_judge := fun _ h => (List.mem_cons_of_mem _ (List.mem_append_left _ (List.mem_append_left _ h)))
theorem sb_wsX12_judge_wsX12_judge_r2 : ∀ w ∈ wsX12_judge_r2, w ∈ wsX12_judge := fun _ h => (List.mem_cons_of_mem _ (List.mem_append_left _ (List.mem_append_right _ (List.mem_append_left _ h))))
theorem sb_wsX12_judge_wsX12_judge_r3 : ∀ w ∈ wsX12_judge_r3, w ∈ wsX12_judge := fun _ h => (List.mem_cons_of_mem _ (List.mem_append_left _ (List.mem_append_right _ (List.mem_append_right _ (List.mem_append_left _ h)))))
theorem sb_wsX12_judge_wsX12_judge_r4 : ∀ w ∈ wsX12_judge_r4, w ∈ wsX12_judge := fun _ h => (List.mem_cons_of_mem _ (List.mem_append_left _ (List.mem_append_right _ (List.mem_append_right _ (List.mem_append_right _ h)))))
theorem sb_wsX12_judge_wsX120 : ∀ w ∈ wsX120, w ∈ wsX12_judge := fun _ h => (List.mem_cons_of_mem _ (List.mem_append_right _ h))
set_option maxRecDepth 20000 in
theorem ggX12_judge_X12_lays : GoodIn wsX12_judge wsX12_lays := goodIn_sub (x_mc (sb_wsX12_judge_wsX12_judge_r1 _ (List.mem_of_getElem? (i := 10) rfl)) (x_ina (x_ina (x_mc (sb_wsX12_judge_wsX12_judge_r1 _ (List.mem_of_getElem? (i := 11) rfl)) (x_mc (sb_wsX12_judge_wsX12_judge_r1 _ (List.mem_of_getElem? (i := 12) rfl)) (x_mc (sb_wsX12_judge_wsX12_judge_r1 _ (List.mem_of_getElem? (i := 13) rfl)) (x_mc (sb_wsX12_judge_wsX12_judge_r1 _ (List.mem_of_getElem? (i := 14) rfl)) (x_mc (sb_wsX12_judge_wsX12_judge_r1 _ (List.mem_of_getElem? (i := 1) rfl)) (x_mc (sb_wsX12_judge_wsX12_judge_r1 _ (List.mem_of_getElem? (i := 15) rfl)) (x_mc (sb_wsX12_judge_wsX12_judge_r1 _ (List.mem_of_getElem? (i := 16) rfl)) (x_mc (sb_wsX12_judge_wsX12_judge_r1 _ (List.mem_of_getElem? (i := 17) rfl)) (x_mc (sb_wsX12_judge_wsX12_judge_r1 _ (List.mem_of_getElem? (i := 18) rfl)) (x_mc (sb_wsX12_judge_wsX12_judge_r1 _ (List.mem_of_getElem? (i := 19) rfl)) (x_mc (sb_wsX12_judge_wsX12_judge_r1 _ (List.mem_of_getElem? (i := 20) rfl)) (x_mc (sb_wsX12_judge_wsX12_judge_r1 _ (List.mem_of_getElem? (i := 21) rfl)) (x_mc (sb_wsX12_judge_wsX12_judge_r1 _ (List.mem_of_getElem? (i := 9) rfl)) (x_mc (sb_wsX12_judge_wsX12_judge_r1 _ (List.mem_of_getElem? (i := 22) rfl)) (x_mc (sb_wsX12_judge_wsX12_judge_r1 _ (List.mem_of_getElem? (i := 23) rfl)) (x_mc (sb_wsX12_judge_wsX12_judge_r2 _ (List.mem_of_getElem? (i := 0) rfl)) (x_mc (sb_wsX12_judge_wsX12_judge_r2 _ (List.mem_of_getElem? (i := 1) rfl)) (x_mc (sb_wsX12_judge_wsX12_judge_r2 _ (List.mem_of_getElem? (i := 2) rfl)) (x_mc (sb_wsX12_judge_wsX12_judge_r2 _ (List.mem_of_getElem? (i := 3) rfl)) (x_mc (sb_wsX12_judge_wsX12_judge_r2 _ (List.mem_of_getElem? (i := 4) rfl)) (x_mc (sb_wsX12_judge_wsX12_judge_r2 _ (List.mem_of_getElem? (i := 5) rfl)) (x_mc (sb_wsX12_judge_wsX12_judge_r2 _ (List.mem_of_getElem? (i := 6) rfl)) (x_mc (sb_wsX12_judge_wsX12_judge_r2 _ (List.mem_of_getElem? (i := 7) rfl)) (x_mc (sb_wsX12_judge_wsX12_judge_r2 _ (List.mem_of_getElem? (i := 8) rfl)) x_mn)))))))))))))))))))))))) (x_mc (sb_wsX12_judge_wsX12_judge_r2 _ (List.mem_of_getElem? (i := 9) rfl)) (x_mc (sb_wsX12_judge_wsX12_judge_r2 _ (List.mem_of_getElem? (i := 10) rfl)) x_mn))) (fun _ h => sb_wsX12_judge_wsX120 _ h))) (by decide +kernel)
set_option maxRecDepth 20000 in
theorem gX12_judge_X12_lays : GoodIn wsX12_judge (wsV RX12 247 RX12 yX12_lays wsX12_lays) := goodIn_app (goodIn_of _ (by decide +kernel)) ggX12_judge_X12_lays
set_option maxRecDepth 20000 in
theorem ggX12_judge_X12_runsWell : GoodIn wsX12_judge wsX12_runsWell := goodIn_sub (x_mc (sb_wsX12_judge_wsX12_judge_r2 _ (List.mem_of_getElem? (i := 14) rfl)) (x_ina (x_mc (sb_wsX12_judge_wsX12_judge_r2 _ (List.mem_of_getElem? (i := 15) rfl)) (x_mc (sb_wsX12_judge_wsX12_judge_r2 _ (List.mem_of_getElem? (i := 16) rfl)) (x_mc (sb_wsX12_judge_wsX12_judge_r1 _ (List.mem_of_getElem? (i := 11) rfl)) (x_mc (sb_wsX12_judge_wsX12_judge_r2 _ (List.mem_of_getElem? (i := 17) rfl)) (x_mc (sb_wsX12_judge_wsX12_judge_r1 _ (List.mem_of_getElem? (i := 13) rfl)) (x_mc (sb_wsX12_judge_wsX12_judge_r2 _ (List.mem_of_getElem? (i := 18) rfl)) x_mn)))))) (fun _ h => sb_wsX12_judge_wsX120 _ h))) (by decide +kernel)
set_option maxRecDepth 20000 in
theorem gX12_judge_X12_runsWell : GoodIn wsX12_judge (wsV RX12 266 RX12 yX12_runsWell wsX12_runsWell) := goodIn_app (goodIn_of _ (by decide +kernel)) ggX12_judge_X12_runsWell
set_option maxRecDepth 20000 in
theorem ggX12_judge_X12_slips : GoodIn wsX12_judge wsX12_slips := goodIn_sub (x_mc (sb_wsX12_judge_wsX12_judge_r2 _ (List.mem_of_getElem? (i := 22) rfl)) (x_ina (x_ina (x_mc (sb_wsX12_judge_wsX12_judge_r2 _ (List.mem_of_getElem? (i := 23) rfl)) (x_mc (sb_wsX12_judge_wsX12_judge_r3 _ (List.mem_of_getElem? (i := 0) rfl)) (x_mc (sb_wsX12_judge_wsX12_judge_r3 _ (List.mem_of_getElem? (i := 1) rfl)) (x_mc (sb_wsX12_judge_wsX12_judge_r3 _ (List.mem_of_getElem? (i := 2) rfl)) (x_mc (sb_wsX12_judge_wsX12_judge_r1 _ (List.mem_of_getElem? (i := 9) rfl)) (x_mc (sb_wsX12_judge_wsX12_judge_r3 _ (List.mem_of_getElem? (i := 3) rfl)) (x_mc (sb_wsX12_judge_wsX12_judge_r1 _ (List.mem_of_getElem? (i := 15) rfl)) (x_mc (sb_wsX12_judge_wsX12_judge_r1 _ (List.mem_of_getElem? (i := 17) rfl)) (x_mc (sb_wsX12_judge_wsX12_judge_r1 _ (List.mem_of_getElem? (i := 0) rfl)) (x_mc (sb_wsX12_judge_wsX12_judge_r2 _ (List.mem_of_getElem? (i := 15) rfl)) (x_mc (sb_wsX12_judge_wsX12_judge_r3 _ (List.mem_of_getElem? (i := 4) rfl)) (x_mc (sb_wsX12_judge_wsX12_judge_r3 _ (List.mem_of_getElem? (i := 5) rfl)) (x_mc (sb_wsX12_judge_wsX12_judge_r3 _ (List.mem_of_getElem? (i := 6) rfl)) (x_mc (sb_wsX12_judge_wsX12_judge_r3 _ (List.mem_of_getElem? (i := 7) rfl)) (x_mc (sb_wsX12_judge_wsX12_judge_r1 _ (List.mem_of_getElem? (i := 1) rfl)) (x_mc (sb_wsX12_judge_wsX12_judge_r1 _ (List.mem_of_getElem? (i := 16) rfl)) (x_mc (sb_wsX12_judge_wsX12_judge_r3 _ (List.mem_of_getElem? (i := 8) rfl)) (x_mc (sb_wsX12_judge_wsX12_judge_r3 _ (List.mem_of_getElem? (i := 9) rfl)) (x_mc (sb_wsX12_judge_wsX12_judge_r3 _ (List.mem_of_getElem? (i := 10) rfl)) (x_mc (sb_wsX12_judge_wsX12_judge_r3 _ (List.mem_of_getElem? (i := 11) rfl)) (x_mc (sb_wsX12_judge_wsX12_judge_r2 _ (List.mem_of_getElem? (i := 16) rfl)) (x_mc (sb_wsX12_judge_wsX12_judge_r3 _ (List.mem_of_getElem? (i := 12) rfl)) (x_mc (sb_wsX12_judge_wsX12_judge_r3 _ (List.mem_of_getElem? (i := 13) rfl)) (x_mc (sb_wsX12_judge_wsX12_judge_r3 _ (List.mem_of_getElem? (i := 14) rfl)) x_mn)))))))))))))))))))))))) (x_ina (x_mc (sb_wsX12_judge_wsX12_judge_r3 _ (List.mem_of_getElem? (i := 15) rfl)) (x_mc (sb_wsX12_judge_wsX12_judge_r3 _ (List.mem_of_getElem? (i := 16) rfl)) (x_mc (sb_wsX12_judge_wsX12_judge_r3 _ (List.mem_of_getElem? (i := 17) rfl)) (x_mc (sb_wsX12_judge_wsX12_judge_r3 _ (List.mem_of_getElem? (i := 18) rfl)) (x_mc (sb_wsX12_judge_wsX12_judge_r3 _ (List.mem_of_getElem? (i := 19) rfl)) (x_mc (sb_wsX12_judge_wsX12_judge_r1 _ (List.mem_of_getElem? (i := 11) rfl)) (x_mc (sb_wsX12_judge_wsX12_judge_r1 _ (List.mem_of_getElem? (i := 13) rfl)) (x_mc (sb_wsX12_judge_wsX12_judge_r3 _ (List.mem_of_getElem? (i := 20) rfl)) (x_mc (sb_wsX12_judge_wsX12_judge_r3 _ (List.mem_of_getElem? (i := 21) rfl)) (x_mc (sb_wsX12_judge_wsX12_judge_r3 _ (List.mem_of_getElem? (i := 22) rfl)) (x_mc (sb_wsX12_judge_wsX12_judge_r3 _ (List.mem_of_getElem? (i := 23) rfl)) (x_mc (sb_wsX12_judge_wsX12_judge_r4 _ (List.mem_of_getElem? (i := 0) rfl)) (x_mc (sb_wsX12_judge_wsX12_judge_r1 _ (List.mem_of_getElem? (i := 18) rfl)) (x_mc (sb_wsX12_judge_wsX12_judge_r2 _ (List.mem_of_getElem? (i := 1) rfl)) (x_mc (sb_wsX12_judge_wsX12_judge_r2 _ (List.mem_of_getElem? (i := 2) rfl)) (x_mc (sb_wsX12_judge_wsX12_judge_r2 _ (List.mem_of_getElem? (i := 3) rfl)) (x_mc (sb_wsX12_judge_wsX12_judge_r2 _ (List.mem_of_getElem? (i := 4) rfl)) (x_mc (sb_wsX12_judge_wsX12_judge_r2 _ (List.mem_of_getElem? (i := 5) rfl)) (x_mc (sb_wsX12_judge_wsX12_judge_r2 _ (List.mem_of_getElem? (i := 6) rfl)) (x_mc (sb_wsX12_judge_wsX12_judge_r1 _ (List.mem_of_getElem? (i := 23) rfl)) (x_mc (sb_wsX12_judge_wsX12_judge_r2 _ (List.mem_of_getElem? (i := 7) rfl)) (x_mc (sb_wsX12_judge_wsX12_judge_r1 _ (List.mem_of_getElem? (i := 19) rfl)) (x_mc (sb_wsX12_judge_wsX12_judge_r1 _ (List.mem_of_getElem? (i := 20) rfl)) (x_mc (sb_wsX12_judge_wsX12_judge_r1 _ (List.mem_of_getElem? (i := 21) rfl)) x_mn)))))))))))))))))))))))) (x_mc (sb_wsX12_judge_wsX12_judge_r1 _ (List.mem_of_getElem? (i := 22) rfl)) (x_mc (sb_wsX12_judge_wsX12_judge_r2 _ (List.mem_of_getElem? (i := 0) rfl)) x_mn)))) (fun _ h => sb_wsX12_judge_wsX120 _ h))) (by decide +kernel)
set_option maxRecDepth 20000 in
theorem gX12_judge_X12_slips : GoodIn wsX12_judge (wsV RX12 253 RX12 yX12_slips wsX12_slips) := goodIn_app (goodIn_of _ (by decide +kernel)) ggX12_judge_X12_slips
set_option maxRecDepth 20000 in
theorem ggX12_judge_X12_pullsAt : GoodIn wsX12_judge wsX12_pullsAt := goodIn_sub (x_mc (sb_wsX12_judge_wsX12_judge_r4 _ (List.mem_of_getElem? (i := 4) rfl)) (x_ina (x_ina (x_mc (sb_wsX12_judge_wsX12_judge_r1 _ (List.mem_of_getElem? (i := 1) rfl)) (x_mc (sb_wsX12_judge_wsX12_judge_r1 _ (List.mem_of_getElem? (i := 16) rfl)) (x_mc (sb_wsX12_judge_wsX12_judge_r1 _ (List.mem_of_getElem? (i := 17) rfl)) (x_mc (sb_wsX12_judge_wsX12_judge_r3 _ (List.mem_of_getElem? (i := 0) rfl)) (x_mc (sb_wsX12_judge_wsX12_judge_r3 _ (List.mem_of_getElem? (i := 1) rfl)) (x_mc (sb_wsX12_judge_wsX12_judge_r3 _ (List.mem_of_getElem? (i := 2) rfl)) (x_mc (sb_wsX12_judge_wsX12_judge_r1 _ (List.mem_of_getElem? (i := 9) rfl)) (x_mc (sb_wsX12_judge_wsX12_judge_r3 _ (List.mem_of_getElem? (i := 3) rfl)) (x_mc (sb_wsX12_judge_wsX12_judge_r1 _ (List.mem_of_getElem? (i := 15) rfl)) (x_mc (sb_wsX12_judge_wsX12_judge_r1 _ (List.mem_of_getElem? (i := 0) rfl)) (x_mc (sb_wsX12_judge_wsX12_judge_r2 _ (List.mem_of_getElem? (i := 15) rfl)) (x_mc (sb_wsX12_judge_wsX12_judge_r3 _ (List.mem_of_getElem? (i := 4) rfl)) (x_mc (sb_wsX12_judge_wsX12_judge_r3 _ (List.mem_of_getElem? (i := 5) rfl)) (x_mc (sb_wsX12_judge_wsX12_judge_r3 _ (List.mem_of_getElem? (i := 6) rfl)) (x_mc (sb_wsX12_judge_wsX12_judge_r3 _ (List.mem_of_getElem? (i := 7) rfl)) (x_mc (sb_wsX12_judge_wsX12_judge_r3 _ (List.mem_of_getElem? (i := 8) rfl)) (x_mc (sb_wsX12_judge_wsX12_judge_r3 _ (List.mem_of_getElem? (i := 9) rfl)) (x_mc (sb_wsX12_judge_wsX12_judge_r3 _ (List.mem_of_getElem? (i := 10) rfl)) (x_mc (sb_wsX12_judge_wsX12_judge_r3 _ (List.mem_of_getElem? (i := 11) rfl)) (x_mc (sb_wsX12_judge_wsX12_judge_r2 _ (List.mem_of_getElem? (i := 16) rfl)) (x_mc (sb_wsX12_judge_wsX12_judge_r3 _ (List.mem_of_getElem? (i := 12) rfl)) (x_mc (sb_wsX12_judge_wsX12_judge_r3 _ (List.mem_of_getElem? (i := 13) rfl)) (x_mc (sb_wsX12_judge_wsX12_judge_r3 _ (List.mem_of_getElem? (i := 14) rfl)) (x_mc (sb_wsX12_judge_wsX12_judge_r3 _ (List.mem_of_getElem? (i := 15) rfl)) x_mn)))))))))))))))))))))))) (x_mc (sb_wsX12_judge_wsX12_judge_r3 _ (List.mem_of_getElem? (i := 16) rfl)) (x_mc (sb_wsX12_judge_wsX12_judge_r3 _ (List.mem_of_getElem? (i := 17) rfl)) (x_mc (sb_wsX12_judge_wsX12_judge_r3 _ (List.mem_of_getElem? (i := 18) rfl)) (x_mc (sb_wsX12_judge_wsX12_judge_r3 _ (List.mem_of_getElem? (i := 19) rfl)) (x_mc (sb_wsX12_judge_wsX12_judge_r1 _ (List.mem_of_getElem? (i := 11) rfl)) (x_mc (sb_wsX12_judge_wsX12_judge_r1 _ (List.mem_of_getElem? (i := 13) rfl)) (x_mc (sb_wsX12_judge_wsX12_judge_r3 _ (List.mem_of_getElem? (i := 20) rfl)) x_mn)))))))) (fun _ h => sb_wsX12_judge_wsX120 _ h))) (by decide +kernel)
set_option maxRecDepth 20000 in
theorem gX12_judge_X12_pullsAt : GoodIn wsX12_judge (wsV RX12 263 RX12 yX12_pullsAt wsX12_pullsAt) := goodIn_app (goodIn_of _ (by decide +kernel)) ggX12_judge_X12_pullsAt
set_option maxRecDepth 20000 in
theorem ggX12_judge_X12_isTwice : GoodIn wsX12_judge wsX12_isTwice := goodIn_sub (x_mc (sb_wsX12_judge_wsX12_judge_r4 _ (List.mem_of_getElem? (i := 8) rfl)) (x_ina (x_mc (sb_wsX12_judge_wsX12_judge_r1 _ (List.mem_of_getElem? (i := 1) rfl)) (x_mc (sb_wsX12_judge_wsX12_judge_r2 _ (List.mem_of_getElem? (i := 0) rfl)) (x_mc (sb_wsX12_judge_wsX12_judge_r2 _ (List.mem_of_getElem? (i := 7) rfl)) x_mn))) (fun _ h => sb_wsX12_judge_wsX120 _ h))) (by decide +kernel)
set_option maxRecDepth 20000 in
theorem gX12_judge_X12_isTwice : GoodIn wsX12_judge (wsV RX12 414 RX12 yX12_isTwice wsX12_isTwice) := goodIn_app (goodIn_of _ (by decide +kernel)) ggX12_judge_X12_isTwice
set_option maxRecDepth 20000 in
theorem ggX12_judge_X12_allLoaded : GoodIn wsX12_judge wsX12_allLoaded := goodIn_sub (x_mc (sb_wsX12_judge_wsX12_judge_r4 _ (List.mem_of_getElem? (i := 12) rfl)) (x_ina (x_mc (sb_wsX12_judge_wsX12_judge_r1 _ (List.mem_of_getElem? (i := 0) rfl)) (x_mc (sb_wsX12_judge_wsX12_judge_r3 _ (List.mem_of_getElem? (i := 8) rfl)) (x_mc (sb_wsX12_judge_wsX12_judge_r3 _ (List.mem_of_getElem? (i := 9) rfl)) (x_mc (sb_wsX12_judge_wsX12_judge_r3 _ (List.mem_of_getElem? (i := 10) rfl)) (x_mc (sb_wsX12_judge_wsX12_judge_r1 _ (List.mem_of_getElem? (i := 9) rfl)) (x_mc (sb_wsX12_judge_wsX12_judge_r3 _ (List.mem_of_getElem? (i := 11) rfl)) (x_mc (sb_wsX12_judge_wsX12_judge_r2 _ (List.mem_of_getElem? (i := 16) rfl)) (x_mc (sb_wsX12_judge_wsX12_judge_r3 _ (List.mem_of_getElem? (i := 12) rfl)) (x_mc (sb_wsX12_judge_wsX12_judge_r3 _ (List.mem_of_getElem? (i := 13) rfl)) (x_mc (sb_wsX12_judge_wsX12_judge_r3 _ (List.mem_of_getElem? (i := 14) rfl)) (x_mc (sb_wsX12_judge_wsX12_judge_r2 _ (List.mem_of_getElem? (i := 15) rfl)) (x_mc (sb_wsX12_judge_wsX12_judge_r3 _ (List.mem_of_getElem? (i := 15) rfl)) (x_mc (sb_wsX12_judge_wsX12_judge_r3 _ (List.mem_of_getElem? (i := 16) rfl)) (x_mc (sb_wsX12_judge_wsX12_judge_r3 _ (List.mem_of_getElem? (i := 17) rfl)) (x_mc (sb_wsX12_judge_wsX12_judge_r3 _ (List.mem_of_getElem? (i := 18) rfl)) (x_mc (sb_wsX12_judge_wsX12_judge_r3 _ (List.mem_of_getElem? (i := 19) rfl)) (x_mc (sb_wsX12_judge_wsX12_judge_r1 _ (List.mem_of_getElem? (i := 11) rfl)) (x_mc (sb_wsX12_judge_wsX12_judge_r1 _ (List.mem_of_getElem? (i := 13) rfl)) (x_mc (sb_wsX12_judge_wsX12_judge_r3 _ (List.mem_of_getElem? (i := 20) rfl)) x_mn))))))))))))))))))) (fun _ h => sb_wsX12_judge_wsX120 _ h))) (by decide +kernel)
set_option maxRecDepth 20000 in
theorem gX12_judge_X12_allLoaded : GoodIn wsX12_judge (wsV RX12 269 RX12 yX12_allLoaded wsX12_allLoaded) := goodIn_app (goodIn_of _ (by decide +kernel)) ggX12_judge_X12_allLoaded
theorem dX12_judge_0 : decode cX12_judge 0 = .ok (.aload_n 0, 1) := by decide +kernel
theorem dX12_judge_1 : decode cX12_judge 1 = .ok (.invokevirtual 247, 3) := by decide +kernel
theorem dX12_judge_4 : decode cX12_judge 4 = .ok (.iconst 0, 1) := by decide +kernel
theorem dX12_judge_5 : decode cX12_judge 5 = .ok (.istore_n 1, 1) := by decide +kernel
theorem dX12_judge_6 : decode cX12_judge 6 = .ok (.iload_n 1, 1) := by decide +kernel
theorem dX12_judge_7 : decode cX12_judge 7 = .ok (.aload_n 0, 1) := by decide +kernel
theorem dX12_judge_8 : decode cX12_judge 8 = .ok (.getfield 160, 3) := by decide +kernel
theorem dX12_judge_11 : decode cX12_judge 11 = .ok (.if_icmp .ge 23, 3) := by decide +kernel
theorem dX12_judge_14 : decode cX12_judge 14 = .ok (.aload_n 0, 1) := by decide +kernel
theorem dX12_judge_15 : decode cX12_judge 15 = .ok (.iload_n 1, 1) := by decide +kernel
theorem dX12_judge_16 : decode cX12_judge 16 = .ok (.invokevirtual 266, 3) := by decide +kernel
theorem dX12_judge_19 : decode cX12_judge 19 = .ok (.ifCond .ne 9, 3) := by decide +kernel
theorem dX12_judge_22 : decode cX12_judge 22 = .ok (.sipush 1000, 3) := by decide +kernel
theorem dX12_judge_25 : decode cX12_judge 25 = .ok (.iload_n 1, 1) := by decide +kernel
theorem dX12_judge_26 : decode cX12_judge 26 = .ok (.iadd, 1) := by decide +kernel
theorem dX12_judge_27 : decode cX12_judge 27 = .ok (.ireturn, 1) := by decide +kernel
theorem dX12_judge_28 : decode cX12_judge 28 = .ok (.iinc 1 1, 3) := by decide +kernel
theorem dX12_judge_31 : decode cX12_judge 31 = .ok (.goto (-25), 3) := by decide +kernel
theorem dX12_judge_34 : decode cX12_judge 34 = .ok (.iconst 0, 1) := by decide +kernel
theorem dX12_judge_35 : decode cX12_judge 35 = .ok (.istore_n 1, 1) := by decide +kernel
theorem dX12_judge_36 : decode cX12_judge 36 = .ok (.iload_n 1, 1) := by decide +kernel
theorem dX12_judge_37 : decode cX12_judge 37 = .ok (.aload_n 0, 1) := by decide +kernel
theorem dX12_judge_38 : decode cX12_judge 38 = .ok (.getfield 166, 3) := by decide +kernel
theorem dX12_judge_41 : decode cX12_judge 41 = .ok (.if_icmp .ge 23, 3) := by decide +kernel
theorem dX12_judge_44 : decode cX12_judge 44 = .ok (.aload_n 0, 1) := by decide +kernel
theorem dX12_judge_45 : decode cX12_judge 45 = .ok (.iload_n 1, 1) := by decide +kernel
theorem dX12_judge_46 : decode cX12_judge 46 = .ok (.invokevirtual 253, 3) := by decide +kernel
theorem dX12_judge_49 : decode cX12_judge 49 = .ok (.ifCond .eq 9, 3) := by decide +kernel
theorem dX12_judge_52 : decode cX12_judge 52 = .ok (.sipush 2000, 3) := by decide +kernel
theorem dX12_judge_55 : decode cX12_judge 55 = .ok (.iload_n 1, 1) := by decide +kernel
theorem dX12_judge_56 : decode cX12_judge 56 = .ok (.iadd, 1) := by decide +kernel
theorem dX12_judge_57 : decode cX12_judge 57 = .ok (.ireturn, 1) := by decide +kernel
theorem dX12_judge_58 : decode cX12_judge 58 = .ok (.iinc 1 1, 3) := by decide +kernel
theorem dX12_judge_61 : decode cX12_judge 61 = .ok (.goto (-25), 3) := by decide +kernel
theorem dX12_judge_64 : decode cX12_judge 64 = .ok (.iconst 0, 1) := by decide +kernel
theorem dX12_judge_65 : decode cX12_judge 65 = .ok (.istore_n 1, 1) := by decide +kernel
theorem dX12_judge_66 : decode cX12_judge 66 = .ok (.iload_n 1, 1) := by decide +kernel
theorem dX12_judge_67 : decode cX12_judge 67 = .ok (.aload_n 0, 1) := by decide +kernel
theorem dX12_judge_68 : decode cX12_judge 68 = .ok (.getfield 153, 3) := by decide +kernel
theorem dX12_judge_71 : decode cX12_judge 71 = .ok (.if_icmp .ge 29, 3) := by decide +kernel
theorem dX12_judge_74 : decode cX12_judge 74 = .ok (.aload_n 0, 1) := by decide +kernel
theorem dX12_judge_75 : decode cX12_judge 75 = .ok (.iload_n 1, 1) := by decide +kernel
theorem dX12_judge_76 : decode cX12_judge 76 = .ok (.invokevirtual 263, 3) := by decide +kernel
theorem dX12_judge_79 : decode cX12_judge 79 = .ok (.aload_n 0, 1) := by decide +kernel
theorem dX12_judge_80 : decode cX12_judge 80 = .ok (.getfield 26, 3) := by decide +kernel
theorem dX12_judge_83 : decode cX12_judge 83 = .ok (.iload_n 1, 1) := by decide +kernel
theorem dX12_judge_84 : decode cX12_judge 84 = .ok (.iaload, 1) := by decide +kernel
theorem dX12_judge_85 : decode cX12_judge 85 = .ok (.if_icmp .le 9, 3) := by decide +kernel
theorem dX12_judge_88 : decode cX12_judge 88 = .ok (.sipush 3000, 3) := by decide +kernel
theorem dX12_judge_91 : decode cX12_judge 91 = .ok (.iload_n 1, 1) := by decide +kernel
theorem dX12_judge_92 : decode cX12_judge 92 = .ok (.iadd, 1) := by decide +kernel
theorem dX12_judge_93 : decode cX12_judge 93 = .ok (.ireturn, 1) := by decide +kernel
theorem dX12_judge_94 : decode cX12_judge 94 = .ok (.iinc 1 1, 3) := by decide +kernel
theorem dX12_judge_97 : decode cX12_judge 97 = .ok (.goto (-31), 3) := by decide +kernel
theorem dX12_judge_100 : decode cX12_judge 100 = .ok (.iconst 0, 1) := by decide +kernel
theorem dX12_judge_101 : decode cX12_judge 101 = .ok (.istore_n 1, 1) := by decide +kernel
theorem dX12_judge_102 : decode cX12_judge 102 = .ok (.iload_n 1, 1) := by decide +kernel
theorem dX12_judge_103 : decode cX12_judge 103 = .ok (.aload_n 0, 1) := by decide +kernel
theorem dX12_judge_104 : decode cX12_judge 104 = .ok (.getfield 163, 3) := by decide +kernel
theorem dX12_judge_107 : decode cX12_judge 107 = .ok (.if_icmp .ge 23, 3) := by decide +kernel
theorem dX12_judge_110 : decode cX12_judge 110 = .ok (.aload_n 0, 1) := by decide +kernel
theorem dX12_judge_111 : decode cX12_judge 111 = .ok (.iload_n 1, 1) := by decide +kernel
theorem dX12_judge_112 : decode cX12_judge 112 = .ok (.invokevirtual 414, 3) := by decide +kernel
theorem dX12_judge_115 : decode cX12_judge 115 = .ok (.ifCond .eq 9, 3) := by decide +kernel
theorem dX12_judge_118 : decode cX12_judge 118 = .ok (.sipush 4000, 3) := by decide +kernel
theorem dX12_judge_121 : decode cX12_judge 121 = .ok (.iload_n 1, 1) := by decide +kernel
theorem dX12_judge_122 : decode cX12_judge 122 = .ok (.iadd, 1) := by decide +kernel
theorem dX12_judge_123 : decode cX12_judge 123 = .ok (.ireturn, 1) := by decide +kernel
theorem dX12_judge_124 : decode cX12_judge 124 = .ok (.iinc 1 1, 3) := by decide +kernel
theorem dX12_judge_127 : decode cX12_judge 127 = .ok (.goto (-25), 3) := by decide +kernel
theorem dX12_judge_130 : decode cX12_judge 130 = .ok (.aload_n 0, 1) := by decide +kernel
theorem dX12_judge_131 : decode cX12_judge 131 = .ok (.invokevirtual 269, 3) := by decide +kernel
theorem dX12_judge_134 : decode cX12_judge 134 = .ok (.aload_n 0, 1) := by decide +kernel
theorem dX12_judge_135 : decode cX12_judge 135 = .ok (.getfield 148, 3) := by decide +kernel
theorem dX12_judge_138 : decode cX12_judge 138 = .ok (.if_icmp .le 9, 3) := by decide +kernel
theorem dX12_judge_141 : decode cX12_judge 141 = .ok (.sipush 5000, 3) := by decide +kernel
theorem dX12_judge_144 : decode cX12_judge 144 = .ok (.goto 4, 3) := by decide +kernel
theorem dX12_judge_147 : decode cX12_judge 147 = .ok (.iconst (-1), 1) := by decide +kernel
theorem dX12_judge_148 : decode cX12_judge 148 = .ok (.ireturn, 1) := by decide +kernel
theorem sb_wsX12_wells_wsX12_wells_r1 : ∀ w ∈ wsX12_wells_r1, w ∈ wsX12_wells := fun _ h => (List.mem_cons_of_mem _ (List.mem_append_left _ (List.mem_append_left _ h)))
theorem sb_wsX12_wells_wsX12_wells_r2 : ∀ w ∈ wsX12_wells_r2, w ∈ wsX12_wells := fun _ h => (List.mem_cons_of_mem _ (List.mem_append_left _ (List.mem_append_right _ h)))
theorem sb_wsX12_wells_wsX120 : ∀ w ∈ wsX120, w ∈ wsX12_wells := fun _ h => (List.mem_cons_of_mem _ (List.mem_append_right _ h))
set_option maxRecDepth 20000 in
theorem ggX12_wells_X12_lays : GoodIn wsX12_wells wsX12_lays := goodIn_sub (x_mc (sb_wsX12_wells_wsX12_wells_r1 _ (List.mem_of_getElem? (i := 5) rfl)) (x_ina (x_ina (x_mc (sb_wsX12_wells_wsX12_wells_r1 _ (List.mem_of_getElem? (i := 6) rfl)) (x_mc (sb_wsX12_wells_wsX12_wells_r1 _ (List.mem_of_getElem? (i := 7) rfl)) (x_mc (sb_wsX12_wells_wsX12_wells_r1 _ (List.mem_of_getElem? (i := 8) rfl)) (x_mc (sb_wsX12_wells_wsX12_wells_r1 _ (List.mem_of_getElem? (i := 9) rfl)) (x_mc (sb_wsX12_wells_wsX12_wells_r1 _ (List.mem_of_getElem? (i := 10) rfl)) (x_mc (sb_wsX12_wells_wsX12_wells_r1 _ (List.mem_of_getElem? (i := 11) rfl)) (x_mc (sb_wsX12_wells_wsX12_wells_r1 _ (List.mem_of_getElem? (i := 12) rfl)) (x_mc (sb_wsX12_wells_wsX12_wells_r1 _ (List.mem_of_getElem? (i := 13) rfl)) (x_mc (sb_wsX12_wells_wsX12_wells_r1 _ (List.mem_of_getElem? (i := 14) rfl)) (x_mc (sb_wsX12_wells_wsX12_wells_r1 _ (List.mem_of_getElem? (i := 15) rfl)) (x_mc (sb_wsX12_wells_wsX12_wells_r1 _ (List.mem_of_getElem? (i := 16) rfl)) (x_mc (sb_wsX12_wells_wsX12_wells_r1 _ (List.mem_of_getElem? (i := 17) rfl)) (x_mc (sb_wsX12_wells_wsX12_wells_r1 _ (List.mem_of_getElem? (i := 4) rfl)) (x_mc (sb_wsX12_wells_wsX12_wells_r1 _ (List.mem_of_getElem? (i := 18) rfl)) (x_mc (sb_wsX12_wells_wsX12_wells_r1 _ (List.mem_of_getElem? (i := 19) rfl)) (x_mc (sb_wsX12_wells_wsX12_wells_r1 _ (List.mem_of_getElem? (i := 20) rfl)) (x_mc (sb_wsX12_wells_wsX12_wells_r1 _ (List.mem_of_getElem? (i := 21) rfl)) (x_mc (sb_wsX12_wells_wsX12_wells_r1 _ (List.mem_of_getElem? (i := 22) rfl)) (x_mc (sb_wsX12_wells_wsX12_wells_r1 _ (List.mem_of_getElem? (i := 23) rfl)) (x_mc (sb_wsX12_wells_wsX12_wells_r2 _ (List.mem_of_getElem? (i := 0) rfl)) (x_mc (sb_wsX12_wells_wsX12_wells_r2 _ (List.mem_of_getElem? (i := 1) rfl)) (x_mc (sb_wsX12_wells_wsX12_wells_r2 _ (List.mem_of_getElem? (i := 2) rfl)) (x_mc (sb_wsX12_wells_wsX12_wells_r2 _ (List.mem_of_getElem? (i := 3) rfl)) (x_mc (sb_wsX12_wells_wsX12_wells_r2 _ (List.mem_of_getElem? (i := 4) rfl)) x_mn)))))))))))))))))))))))) (x_mc (sb_wsX12_wells_wsX12_wells_r2 _ (List.mem_of_getElem? (i := 5) rfl)) (x_mc (sb_wsX12_wells_wsX12_wells_r2 _ (List.mem_of_getElem? (i := 6) rfl)) x_mn))) (fun _ h => sb_wsX12_wells_wsX120 _ h))) (by decide +kernel)
set_option maxRecDepth 20000 in
theorem gX12_wells_X12_lays : GoodIn wsX12_wells (wsV RX12 247 RX12 yX12_lays wsX12_lays) := goodIn_app (goodIn_of _ (by decide +kernel)) ggX12_wells_X12_lays
set_option maxRecDepth 20000 in
theorem ggX12_wells_X12_runsWell : GoodIn wsX12_wells wsX12_runsWell := goodIn_sub (x_mc (sb_wsX12_wells_wsX12_wells_r2 _ (List.mem_of_getElem? (i := 10) rfl)) (x_ina (x_mc (sb_wsX12_wells_wsX12_wells_r2 _ (List.mem_of_getElem? (i := 11) rfl)) (x_mc (sb_wsX12_wells_wsX12_wells_r2 _ (List.mem_of_getElem? (i := 12) rfl)) (x_mc (sb_wsX12_wells_wsX12_wells_r1 _ (List.mem_of_getElem? (i := 6) rfl)) (x_mc (sb_wsX12_wells_wsX12_wells_r2 _ (List.mem_of_getElem? (i := 13) rfl)) (x_mc (sb_wsX12_wells_wsX12_wells_r1 _ (List.mem_of_getElem? (i := 8) rfl)) (x_mc (sb_wsX12_wells_wsX12_wells_r2 _ (List.mem_of_getElem? (i := 14) rfl)) x_mn)))))) (fun _ h => sb_wsX12_wells_wsX120 _ h))) (by decide +kernel)
set_option maxRecDepth 20000 in
theorem gX12_wells_X12_runsWell : GoodIn wsX12_wells (wsV RX12 266 RX12 yX12_runsWell wsX12_runsWell) := goodIn_app (goodIn_of _ (by decide +kernel)) ggX12_wells_X12_runsWell
theorem dX12_wells_0 : decode cX12_wells 0 = .ok (.aload_n 0, 1) := by decide +kernel
theorem dX12_wells_1 : decode cX12_wells 1 = .ok (.invokevirtual 247, 3) := by decide +kernel
theorem dX12_wells_4 : decode cX12_wells 4 = .ok (.iconst 0, 1) := by decide +kernel
theorem dX12_wells_5 : decode cX12_wells 5 = .ok (.istore_n 1, 1) := by decide +kernel
theorem dX12_wells_6 : decode cX12_wells 6 = .ok (.iconst 0, 1) := by decide +kernel
theorem dX12_wells_7 : decode cX12_wells 7 = .ok (.istore_n 2, 1) := by decide +kernel
theorem dX12_wells_8 : decode cX12_wells 8 = .ok (.iload_n 2, 1) := by decide +kernel
theorem dX12_wells_9 : decode cX12_wells 9 = .ok (.aload_n 0, 1) := by decide +kernel
theorem dX12_wells_10 : decode cX12_wells 10 = .ok (.getfield 160, 3) := by decide +kernel
theorem dX12_wells_13 : decode cX12_wells 13 = .ok (.if_icmp .ge 25, 3) := by decide +kernel
theorem dX12_wells_16 : decode cX12_wells 16 = .ok (.iload_n 1, 1) := by decide +kernel
theorem dX12_wells_17 : decode cX12_wells 17 = .ok (.aload_n 0, 1) := by decide +kernel
theorem dX12_wells_18 : decode cX12_wells 18 = .ok (.iload_n 2, 1) := by decide +kernel
theorem dX12_wells_19 : decode cX12_wells 19 = .ok (.invokevirtual 266, 3) := by decide +kernel
theorem dX12_wells_22 : decode cX12_wells 22 = .ok (.ifCond .eq 7, 3) := by decide +kernel
theorem dX12_wells_25 : decode cX12_wells 25 = .ok (.iconst 1, 1) := by decide +kernel
theorem dX12_wells_26 : decode cX12_wells 26 = .ok (.goto 4, 3) := by decide +kernel
theorem dX12_wells_29 : decode cX12_wells 29 = .ok (.iconst 0, 1) := by decide +kernel
theorem dX12_wells_30 : decode cX12_wells 30 = .ok (.iadd, 1) := by decide +kernel
theorem dX12_wells_31 : decode cX12_wells 31 = .ok (.istore_n 1, 1) := by decide +kernel
theorem dX12_wells_32 : decode cX12_wells 32 = .ok (.iinc 2 1, 3) := by decide +kernel
theorem dX12_wells_35 : decode cX12_wells 35 = .ok (.goto (-27), 3) := by decide +kernel
theorem dX12_wells_38 : decode cX12_wells 38 = .ok (.iload_n 1, 1) := by decide +kernel
theorem dX12_wells_39 : decode cX12_wells 39 = .ok (.ireturn, 1) := by decide +kernel
theorem sb_wsX12_anyTwice_wsX120 : ∀ w ∈ wsX120, w ∈ wsX12_anyTwice := fun _ h => (List.mem_cons_of_mem _ (List.mem_append_right _ h))
set_option maxRecDepth 20000 in
theorem ggX12_anyTwice_X12_isTwice : GoodIn wsX12_anyTwice wsX12_isTwice := goodIn_sub (x_mc (List.mem_cons_of_mem _ (List.mem_append_left _ (List.mem_of_getElem? (i := 8) rfl))) (x_ina (x_mc (List.mem_cons_of_mem _ (List.mem_append_left _ (List.mem_of_getElem? (i := 1) rfl))) (x_mc (List.mem_cons_of_mem _ (List.mem_append_left _ (List.mem_of_getElem? (i := 2) rfl))) (x_mc (List.mem_cons_of_mem _ (List.mem_append_left _ (List.mem_of_getElem? (i := 3) rfl))) x_mn))) (fun _ h => sb_wsX12_anyTwice_wsX120 _ h))) (by decide +kernel)
set_option maxRecDepth 20000 in
theorem gX12_anyTwice_X12_isTwice : GoodIn wsX12_anyTwice (wsV RX12 414 RX12 yX12_isTwice wsX12_isTwice) := goodIn_app (goodIn_of _ (by decide +kernel)) ggX12_anyTwice_X12_isTwice
theorem dX12_anyTwice_0 : decode cX12_anyTwice 0 = .ok (.iconst 0, 1) := by decide +kernel
theorem dX12_anyTwice_1 : decode cX12_anyTwice 1 = .ok (.istore_n 1, 1) := by decide +kernel
theorem dX12_anyTwice_2 : decode cX12_anyTwice 2 = .ok (.iconst 0, 1) := by decide +kernel
theorem dX12_anyTwice_3 : decode cX12_anyTwice 3 = .ok (.istore_n 2, 1) := by decide +kernel
theorem dX12_anyTwice_4 : decode cX12_anyTwice 4 = .ok (.iload_n 2, 1) := by decide +kernel
theorem dX12_anyTwice_5 : decode cX12_anyTwice 5 = .ok (.aload_n 0, 1) := by decide +kernel
theorem dX12_anyTwice_6 : decode cX12_anyTwice 6 = .ok (.getfield 163, 3) := by decide +kernel
theorem dX12_anyTwice_9 : decode cX12_anyTwice 9 = .ok (.if_icmp .ge 27, 3) := by decide +kernel
theorem dX12_anyTwice_12 : decode cX12_anyTwice 12 = .ok (.iload_n 1, 1) := by decide +kernel
theorem dX12_anyTwice_13 : decode cX12_anyTwice 13 = .ok (.ifCond .ne 11, 3) := by decide +kernel
theorem dX12_anyTwice_16 : decode cX12_anyTwice 16 = .ok (.aload_n 0, 1) := by decide +kernel
theorem dX12_anyTwice_17 : decode cX12_anyTwice 17 = .ok (.iload_n 2, 1) := by decide +kernel
theorem dX12_anyTwice_18 : decode cX12_anyTwice 18 = .ok (.invokevirtual 414, 3) := by decide +kernel
theorem dX12_anyTwice_21 : decode cX12_anyTwice 21 = .ok (.ifCond .eq 7, 3) := by decide +kernel
theorem dX12_anyTwice_24 : decode cX12_anyTwice 24 = .ok (.iconst 1, 1) := by decide +kernel
theorem dX12_anyTwice_25 : decode cX12_anyTwice 25 = .ok (.goto 4, 3) := by decide +kernel
theorem dX12_anyTwice_28 : decode cX12_anyTwice 28 = .ok (.iconst 0, 1) := by decide +kernel
theorem dX12_anyTwice_29 : decode cX12_anyTwice 29 = .ok (.istore_n 1, 1) := by decide +kernel
theorem dX12_anyTwice_30 : decode cX12_anyTwice 30 = .ok (.iinc 2 1, 3) := by decide +kernel
theorem dX12_anyTwice_33 : decode cX12_anyTwice 33 = .ok (.goto (-29), 3) := by decide +kernel
theorem dX12_anyTwice_36 : decode cX12_anyTwice 36 = .ok (.iconst 0, 1) := by decide +kernel
theorem dX12_anyTwice_37 : decode cX12_anyTwice 37 = .ok (.istore_n 2, 1) := by decide +kernel
theorem dX12_anyTwice_38 : decode cX12_anyTwice 38 = .ok (.iload_n 2, 1) := by decide +kernel
theorem dX12_anyTwice_39 : decode cX12_anyTwice 39 = .ok (.aload_n 0, 1) := by decide +kernel
theorem dX12_anyTwice_40 : decode cX12_anyTwice 40 = .ok (.getfield 166, 3) := by decide +kernel
theorem dX12_anyTwice_43 : decode cX12_anyTwice 43 = .ok (.if_icmp .ge 34, 3) := by decide +kernel
theorem dX12_anyTwice_46 : decode cX12_anyTwice 46 = .ok (.iload_n 1, 1) := by decide +kernel
theorem dX12_anyTwice_47 : decode cX12_anyTwice 47 = .ok (.ifCond .ne 18, 3) := by decide +kernel
theorem dX12_anyTwice_50 : decode cX12_anyTwice 50 = .ok (.aload_n 0, 1) := by decide +kernel
theorem dX12_anyTwice_51 : decode cX12_anyTwice 51 = .ok (.getfield 59, 3) := by decide +kernel
theorem dX12_anyTwice_54 : decode cX12_anyTwice 54 = .ok (.iload_n 2, 1) := by decide +kernel
theorem dX12_anyTwice_55 : decode cX12_anyTwice 55 = .ok (.iaload, 1) := by decide +kernel
theorem dX12_anyTwice_56 : decode cX12_anyTwice 56 = .ok (.aload_n 0, 1) := by decide +kernel
theorem dX12_anyTwice_57 : decode cX12_anyTwice 57 = .ok (.getfield 62, 3) := by decide +kernel
theorem dX12_anyTwice_60 : decode cX12_anyTwice 60 = .ok (.iload_n 2, 1) := by decide +kernel
theorem dX12_anyTwice_61 : decode cX12_anyTwice 61 = .ok (.iaload, 1) := by decide +kernel
theorem dX12_anyTwice_62 : decode cX12_anyTwice 62 = .ok (.if_icmp .ne 7, 3) := by decide +kernel
theorem dX12_anyTwice_65 : decode cX12_anyTwice 65 = .ok (.iconst 1, 1) := by decide +kernel
theorem dX12_anyTwice_66 : decode cX12_anyTwice 66 = .ok (.goto 4, 3) := by decide +kernel
theorem dX12_anyTwice_69 : decode cX12_anyTwice 69 = .ok (.iconst 0, 1) := by decide +kernel
theorem dX12_anyTwice_70 : decode cX12_anyTwice 70 = .ok (.istore_n 1, 1) := by decide +kernel
theorem dX12_anyTwice_71 : decode cX12_anyTwice 71 = .ok (.iinc 2 1, 3) := by decide +kernel
theorem dX12_anyTwice_74 : decode cX12_anyTwice 74 = .ok (.goto (-36), 3) := by decide +kernel
theorem dX12_anyTwice_77 : decode cX12_anyTwice 77 = .ok (.iload_n 1, 1) := by decide +kernel
theorem dX12_anyTwice_78 : decode cX12_anyTwice 78 = .ok (.ireturn, 1) := by decide +kernel
theorem dX12_chosen_0 : decode cX12_chosen 0 = .ok (.aload_n 0, 1) := by decide +kernel
theorem dX12_chosen_1 : decode cX12_chosen 1 = .ok (.getfield 166, 3) := by decide +kernel
theorem dX12_chosen_4 : decode cX12_chosen 4 = .ok (.iconst 4, 1) := by decide +kernel
theorem dX12_chosen_5 : decode cX12_chosen 5 = .ok (.if_icmp .ge 10, 3) := by decide +kernel
theorem dX12_chosen_8 : decode cX12_chosen 8 = .ok (.aload_n 0, 1) := by decide +kernel
theorem dX12_chosen_9 : decode cX12_chosen 9 = .ok (.getfield 166, 3) := by decide +kernel
theorem dX12_chosen_12 : decode cX12_chosen 12 = .ok (.goto 4, 3) := by decide +kernel
theorem dX12_chosen_15 : decode cX12_chosen 15 = .ok (.iconst 4, 1) := by decide +kernel
theorem dX12_chosen_16 : decode cX12_chosen 16 = .ok (.ireturn, 1) := by decide +kernel
theorem sb_wsX12_chooses_wsX12_chooses_r1 : ∀ w ∈ wsX12_chooses_r1, w ∈ wsX12_chooses := fun _ h => (List.mem_cons_of_mem _ (List.mem_append_left _ (List.mem_append_left _ h)))
theorem sb_wsX12_chooses_wsX12_chooses_r2 : ∀ w ∈ wsX12_chooses_r2, w ∈ wsX12_chooses := fun _ h => (List.mem_cons_of_mem _ (List.mem_append_left _ (List.mem_append_right _ (List.mem_append_left _ h))))
theorem sb_wsX12_chooses_wsX12_chooses_r3 : ∀ w ∈ wsX12_chooses_r3, w ∈ wsX12_chooses := fun _ h => (List.mem_cons_of_mem _ (List.mem_append_left _ (List.mem_append_right _ (List.mem_append_right _ h))))
theorem sb_wsX12_chooses_wsX120 : ∀ w ∈ wsX120, w ∈ wsX12_chooses := fun _ h => (List.mem_cons_of_mem _ (List.mem_append_right _ h))
set_option maxRecDepth 20000 in
theorem ggX12_chooses_X12_chosen : GoodIn wsX12_chooses wsX12_chosen := goodIn_sub (x_mc (sb_wsX12_chooses_wsX12_chooses_r1 _ (List.mem_of_getElem? (i := 10) rfl)) (x_ina (x_mc (sb_wsX12_chooses_wsX12_chooses_r1 _ (List.mem_of_getElem? (i := 11) rfl)) x_mn) (fun _ h => sb_wsX12_chooses_wsX120 _ h))) (by decide +kernel)
set_option maxRecDepth 20000 in
theorem gX12_chooses_X12_chosen : GoodIn wsX12_chooses (wsV RX12 417 RX12 yX12_chosen wsX12_chosen) := goodIn_app (goodIn_of _ (by decide +kernel)) ggX12_chooses_X12_chosen
set_option maxRecDepth 20000 in
theorem ggX12_chooses_X12_anyTwice : GoodIn wsX12_chooses wsX12_anyTwice := goodIn_sub (x_mc (sb_wsX12_chooses_wsX12_chooses_r1 _ (List.mem_of_getElem? (i := 15) rfl)) (x_ina (x_mc (sb_wsX12_chooses_wsX12_chooses_r1 _ (List.mem_of_getElem? (i := 2) rfl)) (x_mc (sb_wsX12_chooses_wsX12_chooses_r1 _ (List.mem_of_getElem? (i := 11) rfl)) (x_mc (sb_wsX12_chooses_wsX12_chooses_r1 _ (List.mem_of_getElem? (i := 16) rfl)) (x_mc (sb_wsX12_chooses_wsX12_chooses_r1 _ (List.mem_of_getElem? (i := 1) rfl)) (x_mc (sb_wsX12_chooses_wsX12_chooses_r1 _ (List.mem_of_getElem? (i := 17) rfl)) (x_mc (sb_wsX12_chooses_wsX12_chooses_r1 _ (List.mem_of_getElem? (i := 18) rfl)) (x_mc (sb_wsX12_chooses_wsX12_chooses_r1 _ (List.mem_of_getElem? (i := 19) rfl)) (x_mc (sb_wsX12_chooses_wsX12_chooses_r1 _ (List.mem_of_getElem? (i := 9) rfl)) (x_mc (sb_wsX12_chooses_wsX12_chooses_r1 _ (List.mem_of_getElem? (i := 20) rfl)) x_mn))))))))) (fun _ h => sb_wsX12_chooses_wsX120 _ h))) (by decide +kernel)
set_option maxRecDepth 20000 in
theorem gX12_chooses_X12_anyTwice : GoodIn wsX12_chooses (wsV RX12 423 RX12 yX12_anyTwice wsX12_anyTwice) := goodIn_app (goodIn_of _ (by decide +kernel)) ggX12_chooses_X12_anyTwice
set_option maxRecDepth 20000 in
theorem ggX12_chooses_X12_wells : GoodIn wsX12_chooses wsX12_wells := goodIn_sub (x_mc (sb_wsX12_chooses_wsX12_chooses_r2 _ (List.mem_of_getElem? (i := 0) rfl)) (x_ina (x_ina (x_mc (sb_wsX12_chooses_wsX12_chooses_r2 _ (List.mem_of_getElem? (i := 1) rfl)) (x_mc (sb_wsX12_chooses_wsX12_chooses_r2 _ (List.mem_of_getElem? (i := 2) rfl)) (x_mc (sb_wsX12_chooses_wsX12_chooses_r2 _ (List.mem_of_getElem? (i := 3) rfl)) (x_mc (sb_wsX12_chooses_wsX12_chooses_r2 _ (List.mem_of_getElem? (i := 4) rfl)) (x_mc (sb_wsX12_chooses_wsX12_chooses_r1 _ (List.mem_of_getElem? (i := 9) rfl)) (x_mc (sb_wsX12_chooses_wsX12_chooses_r2 _ (List.mem_of_getElem? (i := 5) rfl)) (x_mc (sb_wsX12_chooses_wsX12_chooses_r2 _ (List.mem_of_getElem? (i := 6) rfl)) (x_mc (sb_wsX12_chooses_wsX12_chooses_r2 _ (List.mem_of_getElem? (i := 7) rfl)) (x_mc (sb_wsX12_chooses_wsX12_chooses_r2 _ (List.mem_of_getElem? (i := 8) rfl)) (x_mc (sb_wsX12_chooses_wsX12_chooses_r2 _ (List.mem_of_getElem? (i := 9) rfl)) (x_mc (sb_wsX12_chooses_wsX12_chooses_r1 _ (List.mem_of_getElem? (i := 11) rfl)) (x_mc (sb_wsX12_chooses_wsX12_chooses_r2 _ (List.mem_of_getElem? (i := 10) rfl)) (x_mc (sb_wsX12_chooses_wsX12_chooses_r2 _ (List.mem_of_getElem? (i := 11) rfl)) (x_mc (sb_wsX12_chooses_wsX12_chooses_r2 _ (List.mem_of_getElem? (i := 12) rfl)) (x_mc (sb_wsX12_chooses_wsX12_chooses_r2 _ (List.mem_of_getElem? (i := 13) rfl)) (x_mc (sb_wsX12_chooses_wsX12_chooses_r2 _ (List.mem_of_getElem? (i := 14) rfl)) (x_mc (sb_wsX12_chooses_wsX12_chooses_r2 _ (List.mem_of_getElem? (i := 15) rfl)) (x_mc (sb_wsX12_chooses_wsX12_chooses_r2 _ (List.mem_of_getElem? (i := 16) rfl)) (x_mc (sb_wsX12_chooses_wsX12_chooses_r2 _ (List.mem_of_getElem? (i := 17) rfl)) (x_mc (sb_wsX12_chooses_wsX12_chooses_r2 _ (List.mem_of_getElem? (i := 18) rfl)) (x_mc (sb_wsX12_chooses_wsX12_chooses_r1 _ (List.mem_of_getElem? (i := 16) rfl)) (x_mc (sb_wsX12_chooses_wsX12_chooses_r2 _ (List.mem_of_getElem? (i := 19) rfl)) (x_mc (sb_wsX12_chooses_wsX12_chooses_r2 _ (List.mem_of_getElem? (i := 20) rfl)) (x_mc (sb_wsX12_chooses_wsX12_chooses_r2 _ (List.mem_of_getElem? (i := 21) rfl)) x_mn)))))))))))))))))))))))) (x_mc (sb_wsX12_chooses_wsX12_chooses_r2 _ (List.mem_of_getElem? (i := 22) rfl)) (x_mc (sb_wsX12_chooses_wsX12_chooses_r2 _ (List.mem_of_getElem? (i := 23) rfl)) (x_mc (sb_wsX12_chooses_wsX12_chooses_r3 _ (List.mem_of_getElem? (i := 0) rfl)) (x_mc (sb_wsX12_chooses_wsX12_chooses_r1 _ (List.mem_of_getElem? (i := 1) rfl)) (x_mc (sb_wsX12_chooses_wsX12_chooses_r3 _ (List.mem_of_getElem? (i := 1) rfl)) (x_mc (sb_wsX12_chooses_wsX12_chooses_r3 _ (List.mem_of_getElem? (i := 2) rfl)) (x_mc (sb_wsX12_chooses_wsX12_chooses_r3 _ (List.mem_of_getElem? (i := 3) rfl)) (x_mc (sb_wsX12_chooses_wsX12_chooses_r3 _ (List.mem_of_getElem? (i := 4) rfl)) (x_mc (sb_wsX12_chooses_wsX12_chooses_r3 _ (List.mem_of_getElem? (i := 5) rfl)) (x_mc (sb_wsX12_chooses_wsX12_chooses_r3 _ (List.mem_of_getElem? (i := 6) rfl)) (x_mc (sb_wsX12_chooses_wsX12_chooses_r3 _ (List.mem_of_getElem? (i := 7) rfl)) (x_mc (sb_wsX12_chooses_wsX12_chooses_r3 _ (List.mem_of_getElem? (i := 8) rfl)) (x_mc (sb_wsX12_chooses_wsX12_chooses_r3 _ (List.mem_of_getElem? (i := 9) rfl)) (x_mc (sb_wsX12_chooses_wsX12_chooses_r3 _ (List.mem_of_getElem? (i := 10) rfl)) (x_mc (sb_wsX12_chooses_wsX12_chooses_r3 _ (List.mem_of_getElem? (i := 11) rfl)) x_mn)))))))))))))))) (fun _ h => sb_wsX12_chooses_wsX120 _ h))) (by decide +kernel)
set_option maxRecDepth 20000 in
theorem gX12_chooses_X12_wells : GoodIn wsX12_chooses (wsV RX12 426 RX12 yX12_wells wsX12_wells) := goodIn_app (goodIn_of _ (by decide +kernel)) ggX12_chooses_X12_wells
theorem dX12_chooses_0 : decode cX12_chooses 0 = .ok (.aload_n 0, 1) := by decide +kernel
theorem dX12_chooses_1 : decode cX12_chooses 1 = .ok (.invokevirtual 417, 3) := by decide +kernel
theorem dX12_chooses_4 : decode cX12_chooses 4 = .ok (.istore_n 1, 1) := by decide +kernel
theorem dX12_chooses_5 : decode cX12_chooses 5 = .ok (.iconst 1, 1) := by decide +kernel
theorem dX12_chooses_6 : decode cX12_chooses 6 = .ok (.istore_n 2, 1) := by decide +kernel
theorem dX12_chooses_7 : decode cX12_chooses 7 = .ok (.iconst 0, 1) := by decide +kernel
theorem dX12_chooses_8 : decode cX12_chooses 8 = .ok (.istore_n 3, 1) := by decide +kernel
theorem dX12_chooses_9 : decode cX12_chooses 9 = .ok (.iload_n 3, 1) := by decide +kernel
theorem dX12_chooses_10 : decode cX12_chooses 10 = .ok (.iload_n 1, 1) := by decide +kernel
theorem dX12_chooses_11 : decode cX12_chooses 11 = .ok (.if_icmp .ge 28, 3) := by decide +kernel
theorem dX12_chooses_14 : decode cX12_chooses 14 = .ok (.aload_n 0, 1) := by decide +kernel
theorem dX12_chooses_15 : decode cX12_chooses 15 = .ok (.getfield 87, 3) := by decide +kernel
theorem dX12_chooses_18 : decode cX12_chooses 18 = .ok (.iload_n 3, 1) := by decide +kernel
theorem dX12_chooses_19 : decode cX12_chooses 19 = .ok (.aload_n 0, 1) := by decide +kernel
theorem dX12_chooses_20 : decode cX12_chooses 20 = .ok (.getfield 62, 3) := by decide +kernel
theorem dX12_chooses_23 : decode cX12_chooses 23 = .ok (.iload_n 3, 1) := by decide +kernel
theorem dX12_chooses_24 : decode cX12_chooses 24 = .ok (.iaload, 1) := by decide +kernel
theorem dX12_chooses_25 : decode cX12_chooses 25 = .ok (.iastore, 1) := by decide +kernel
theorem dX12_chooses_26 : decode cX12_chooses 26 = .ok (.iload_n 2, 1) := by decide +kernel
theorem dX12_chooses_27 : decode cX12_chooses 27 = .ok (.aload_n 0, 1) := by decide +kernel
theorem dX12_chooses_28 : decode cX12_chooses 28 = .ok (.getfield 163, 3) := by decide +kernel
theorem dX12_chooses_31 : decode cX12_chooses 31 = .ok (.imul, 1) := by decide +kernel
theorem dX12_chooses_32 : decode cX12_chooses 32 = .ok (.istore_n 2, 1) := by decide +kernel
theorem dX12_chooses_33 : decode cX12_chooses 33 = .ok (.iinc 3 1, 3) := by decide +kernel
theorem dX12_chooses_36 : decode cX12_chooses 36 = .ok (.goto (-27), 3) := by decide +kernel
theorem dX12_chooses_39 : decode cX12_chooses 39 = .ok (.aload_n 0, 1) := by decide +kernel
theorem dX12_chooses_40 : decode cX12_chooses 40 = .ok (.iconst (-1), 1) := by decide +kernel
theorem dX12_chooses_41 : decode cX12_chooses 41 = .ok (.putfield 420, 3) := by decide +kernel
theorem dX12_chooses_44 : decode cX12_chooses 44 = .ok (.iconst 0, 1) := by decide +kernel
theorem dX12_chooses_45 : decode cX12_chooses 45 = .ok (.istore_n 3, 1) := by decide +kernel
theorem dX12_chooses_46 : decode cX12_chooses 46 = .ok (.iload_n 3, 1) := by decide +kernel
theorem dX12_chooses_47 : decode cX12_chooses 47 = .ok (.iload_n 2, 1) := by decide +kernel
theorem dX12_chooses_48 : decode cX12_chooses 48 = .ok (.if_icmp .ge 168, 3) := by decide +kernel
theorem dX12_chooses_51 : decode cX12_chooses 51 = .ok (.iload_n 3, 1) := by decide +kernel
theorem dX12_chooses_52 : decode cX12_chooses 52 = .ok (.istore 4, 2) := by decide +kernel
theorem dX12_chooses_54 : decode cX12_chooses 54 = .ok (.iconst 0, 1) := by decide +kernel
theorem dX12_chooses_55 : decode cX12_chooses 55 = .ok (.istore 5, 2) := by decide +kernel
theorem dX12_chooses_57 : decode cX12_chooses 57 = .ok (.iload_n 1, 1) := by decide +kernel
theorem dX12_chooses_58 : decode cX12_chooses 58 = .ok (.iconst 1, 1) := by decide +kernel
theorem dX12_chooses_59 : decode cX12_chooses 59 = .ok (.isub, 1) := by decide +kernel
theorem dX12_chooses_60 : decode cX12_chooses 60 = .ok (.istore 6, 2) := by decide +kernel
theorem dX12_chooses_62 : decode cX12_chooses 62 = .ok (.iload 6, 2) := by decide +kernel
theorem dX12_chooses_64 : decode cX12_chooses 64 = .ok (.ifCond .lt 59, 3) := by decide +kernel
theorem dX12_chooses_67 : decode cX12_chooses 67 = .ok (.aload_n 0, 1) := by decide +kernel
theorem dX12_chooses_68 : decode cX12_chooses 68 = .ok (.getfield 62, 3) := by decide +kernel
theorem dX12_chooses_71 : decode cX12_chooses 71 = .ok (.iload 6, 2) := by decide +kernel
theorem dX12_chooses_73 : decode cX12_chooses 73 = .ok (.iload 4, 2) := by decide +kernel
theorem dX12_chooses_75 : decode cX12_chooses 75 = .ok (.aload_n 0, 1) := by decide +kernel
theorem dX12_chooses_76 : decode cX12_chooses 76 = .ok (.getfield 163, 3) := by decide +kernel
theorem dX12_chooses_79 : decode cX12_chooses 79 = .ok (.irem, 1) := by decide +kernel
theorem dX12_chooses_80 : decode cX12_chooses 80 = .ok (.iastore, 1) := by decide +kernel
theorem dX12_chooses_81 : decode cX12_chooses 81 = .ok (.iload 4, 2) := by decide +kernel
theorem dX12_chooses_83 : decode cX12_chooses 83 = .ok (.aload_n 0, 1) := by decide +kernel
theorem dX12_chooses_84 : decode cX12_chooses 84 = .ok (.getfield 163, 3) := by decide +kernel
theorem dX12_chooses_87 : decode cX12_chooses 87 = .ok (.idiv, 1) := by decide +kernel
theorem dX12_chooses_88 : decode cX12_chooses 88 = .ok (.istore 4, 2) := by decide +kernel
theorem dX12_chooses_90 : decode cX12_chooses 90 = .ok (.iload 5, 2) := by decide +kernel
theorem dX12_chooses_92 : decode cX12_chooses 92 = .ok (.aload_n 0, 1) := by decide +kernel
theorem dX12_chooses_93 : decode cX12_chooses 93 = .ok (.getfield 62, 3) := by decide +kernel
theorem dX12_chooses_96 : decode cX12_chooses 96 = .ok (.iload 6, 2) := by decide +kernel
theorem dX12_chooses_98 : decode cX12_chooses 98 = .ok (.iaload, 1) := by decide +kernel
theorem dX12_chooses_99 : decode cX12_chooses 99 = .ok (.aload_n 0, 1) := by decide +kernel
theorem dX12_chooses_100 : decode cX12_chooses 100 = .ok (.getfield 87, 3) := by decide +kernel
theorem dX12_chooses_103 : decode cX12_chooses 103 = .ok (.iload 6, 2) := by decide +kernel
theorem dX12_chooses_105 : decode cX12_chooses 105 = .ok (.iaload, 1) := by decide +kernel
theorem dX12_chooses_106 : decode cX12_chooses 106 = .ok (.if_icmp .ne 7, 3) := by decide +kernel
theorem dX12_chooses_109 : decode cX12_chooses 109 = .ok (.iconst 0, 1) := by decide +kernel
theorem dX12_chooses_110 : decode cX12_chooses 110 = .ok (.goto 4, 3) := by decide +kernel
theorem dX12_chooses_113 : decode cX12_chooses 113 = .ok (.iconst 1, 1) := by decide +kernel
theorem dX12_chooses_114 : decode cX12_chooses 114 = .ok (.iadd, 1) := by decide +kernel
theorem dX12_chooses_115 : decode cX12_chooses 115 = .ok (.istore 5, 2) := by decide +kernel
theorem dX12_chooses_117 : decode cX12_chooses 117 = .ok (.iinc 6 (-1), 3) := by decide +kernel
theorem dX12_chooses_120 : decode cX12_chooses 120 = .ok (.goto (-58), 3) := by decide +kernel
theorem dX12_chooses_123 : decode cX12_chooses 123 = .ok (.aload_n 0, 1) := by decide +kernel
theorem dX12_chooses_124 : decode cX12_chooses 124 = .ok (.invokevirtual 423, 3) := by decide +kernel
theorem dX12_chooses_127 : decode cX12_chooses 127 = .ok (.ifCond .eq 6, 3) := by decide +kernel
theorem dX12_chooses_130 : decode cX12_chooses 130 = .ok (.goto 80, 3) := by decide +kernel
theorem dX12_chooses_133 : decode cX12_chooses 133 = .ok (.aload_n 0, 1) := by decide +kernel
theorem dX12_chooses_134 : decode cX12_chooses 134 = .ok (.invokevirtual 426, 3) := by decide +kernel
theorem dX12_chooses_137 : decode cX12_chooses 137 = .ok (.istore 6, 2) := by decide +kernel
theorem dX12_chooses_139 : decode cX12_chooses 139 = .ok (.iload 6, 2) := by decide +kernel
theorem dX12_chooses_141 : decode cX12_chooses 141 = .ok (.aload_n 0, 1) := by decide +kernel
theorem dX12_chooses_142 : decode cX12_chooses 142 = .ok (.getfield 420, 3) := by decide +kernel
theorem dX12_chooses_145 : decode cX12_chooses 145 = .ok (.if_icmp .lt 65, 3) := by decide +kernel
theorem dX12_chooses_148 : decode cX12_chooses 148 = .ok (.iload 6, 2) := by decide +kernel
theorem dX12_chooses_150 : decode cX12_chooses 150 = .ok (.aload_n 0, 1) := by decide +kernel
theorem dX12_chooses_151 : decode cX12_chooses 151 = .ok (.getfield 420, 3) := by decide +kernel
theorem dX12_chooses_154 : decode cX12_chooses 154 = .ok (.if_icmp .ne 15, 3) := by decide +kernel
theorem dX12_chooses_157 : decode cX12_chooses 157 = .ok (.iload 5, 2) := by decide +kernel
theorem dX12_chooses_159 : decode cX12_chooses 159 = .ok (.aload_n 0, 1) := by decide +kernel
theorem dX12_chooses_160 : decode cX12_chooses 160 = .ok (.getfield 429, 3) := by decide +kernel
theorem dX12_chooses_163 : decode cX12_chooses 163 = .ok (.if_icmp .lt 6, 3) := by decide +kernel
theorem dX12_chooses_166 : decode cX12_chooses 166 = .ok (.goto 44, 3) := by decide +kernel
theorem dX12_chooses_169 : decode cX12_chooses 169 = .ok (.aload_n 0, 1) := by decide +kernel
theorem dX12_chooses_170 : decode cX12_chooses 170 = .ok (.iload 6, 2) := by decide +kernel
theorem dX12_chooses_172 : decode cX12_chooses 172 = .ok (.putfield 420, 3) := by decide +kernel
theorem dX12_chooses_175 : decode cX12_chooses 175 = .ok (.aload_n 0, 1) := by decide +kernel
theorem dX12_chooses_176 : decode cX12_chooses 176 = .ok (.iload 5, 2) := by decide +kernel
theorem dX12_chooses_178 : decode cX12_chooses 178 = .ok (.putfield 429, 3) := by decide +kernel
theorem dX12_chooses_181 : decode cX12_chooses 181 = .ok (.iconst 0, 1) := by decide +kernel
theorem dX12_chooses_182 : decode cX12_chooses 182 = .ok (.istore 7, 2) := by decide +kernel
theorem dX12_chooses_184 : decode cX12_chooses 184 = .ok (.iload 7, 2) := by decide +kernel
theorem dX12_chooses_186 : decode cX12_chooses 186 = .ok (.iload_n 1, 1) := by decide +kernel
theorem dX12_chooses_187 : decode cX12_chooses 187 = .ok (.if_icmp .ge 23, 3) := by decide +kernel
theorem dX12_chooses_190 : decode cX12_chooses 190 = .ok (.aload_n 0, 1) := by decide +kernel
theorem dX12_chooses_191 : decode cX12_chooses 191 = .ok (.getfield 90, 3) := by decide +kernel
theorem dX12_chooses_194 : decode cX12_chooses 194 = .ok (.iload 7, 2) := by decide +kernel
theorem dX12_chooses_196 : decode cX12_chooses 196 = .ok (.aload_n 0, 1) := by decide +kernel
theorem dX12_chooses_197 : decode cX12_chooses 197 = .ok (.getfield 62, 3) := by decide +kernel
theorem dX12_chooses_200 : decode cX12_chooses 200 = .ok (.iload 7, 2) := by decide +kernel
theorem dX12_chooses_202 : decode cX12_chooses 202 = .ok (.iaload, 1) := by decide +kernel
theorem dX12_chooses_203 : decode cX12_chooses 203 = .ok (.iastore, 1) := by decide +kernel
theorem dX12_chooses_204 : decode cX12_chooses 204 = .ok (.iinc 7 1, 3) := by decide +kernel
theorem dX12_chooses_207 : decode cX12_chooses 207 = .ok (.goto (-23), 3) := by decide +kernel
theorem dX12_chooses_210 : decode cX12_chooses 210 = .ok (.iinc 3 1, 3) := by decide +kernel
theorem dX12_chooses_213 : decode cX12_chooses 213 = .ok (.goto (-167), 3) := by decide +kernel
theorem dX12_chooses_216 : decode cX12_chooses 216 = .ok (.iconst 0, 1) := by decide +kernel
theorem dX12_chooses_217 : decode cX12_chooses 217 = .ok (.istore_n 3, 1) := by decide +kernel
theorem dX12_chooses_218 : decode cX12_chooses 218 = .ok (.iload_n 3, 1) := by decide +kernel
theorem dX12_chooses_219 : decode cX12_chooses 219 = .ok (.iload_n 1, 1) := by decide +kernel
theorem dX12_chooses_220 : decode cX12_chooses 220 = .ok (.if_icmp .ge 21, 3) := by decide +kernel
theorem dX12_chooses_223 : decode cX12_chooses 223 = .ok (.aload_n 0, 1) := by decide +kernel
theorem dX12_chooses_224 : decode cX12_chooses 224 = .ok (.getfield 62, 3) := by decide +kernel
theorem dX12_chooses_227 : decode cX12_chooses 227 = .ok (.iload_n 3, 1) := by decide +kernel
theorem dX12_chooses_228 : decode cX12_chooses 228 = .ok (.aload_n 0, 1) := by decide +kernel
theorem dX12_chooses_229 : decode cX12_chooses 229 = .ok (.getfield 87, 3) := by decide +kernel
theorem dX12_chooses_232 : decode cX12_chooses 232 = .ok (.iload_n 3, 1) := by decide +kernel
theorem dX12_chooses_233 : decode cX12_chooses 233 = .ok (.iaload, 1) := by decide +kernel
theorem dX12_chooses_234 : decode cX12_chooses 234 = .ok (.iastore, 1) := by decide +kernel
theorem dX12_chooses_235 : decode cX12_chooses 235 = .ok (.iinc 3 1, 3) := by decide +kernel
theorem dX12_chooses_238 : decode cX12_chooses 238 = .ok (.goto (-20), 3) := by decide +kernel
theorem dX12_chooses_241 : decode cX12_chooses 241 = .ok (.aload_n 0, 1) := by decide +kernel
theorem dX12_chooses_242 : decode cX12_chooses 242 = .ok (.getfield 420, 3) := by decide +kernel
theorem dX12_chooses_245 : decode cX12_chooses 245 = .ok (.iconst (-1), 1) := by decide +kernel
theorem dX12_chooses_246 : decode cX12_chooses 246 = .ok (.if_icmp .eq 7, 3) := by decide +kernel
theorem dX12_chooses_249 : decode cX12_chooses 249 = .ok (.iconst 1, 1) := by decide +kernel
theorem dX12_chooses_250 : decode cX12_chooses 250 = .ok (.goto 4, 3) := by decide +kernel
theorem dX12_chooses_253 : decode cX12_chooses 253 = .ok (.iconst 0, 1) := by decide +kernel
theorem dX12_chooses_254 : decode cX12_chooses 254 = .ok (.ireturn, 1) := by decide +kernel
theorem sb_wsX12_choose_wsX12_choose_r1 : ∀ w ∈ wsX12_choose_r1, w ∈ wsX12_choose := fun _ h => (List.mem_cons_of_mem _ (List.mem_append_left _ (List.mem_append_left _ h)))
theorem sb_wsX12_choose_wsX12_choose_r2 : ∀ w ∈ wsX12_choose_r2, w ∈ wsX12_choose := fun _ h => (List.mem_cons_of_mem _ (List.mem_append_left _ (List.mem_append_right _ (List.mem_append_left _ h))))
theorem sb_wsX12_choose_wsX12_choose_r3 : ∀ w ∈ wsX12_choose_r3, w ∈ wsX12_choose := fun _ h => (List.mem_cons_of_mem _ (List.mem_append_left _ (List.mem_append_right _ (List.mem_append_right _ h))))
theorem sb_wsX12_choose_wsX120 : ∀ w ∈ wsX120, w ∈ wsX12_choose := fun _ h => (List.mem_cons_of_mem _ (List.mem_append_right _ h))
set_option maxRecDepth 20000 in
theorem ggX12_choose_X12_in : GoodIn wsX12_choose wsX12_in := goodIn_sub (x_mc (sb_wsX12_choose_wsX12_choose_r1 _ (List.mem_of_getElem? (i := 7) rfl)) x_mn) (by decide +kernel)
set_option maxRecDepth 20000 in
theorem gX12_choose_X12_in : GoodIn wsX12_choose (va_wsS RX12 156 yX12_in wsX12_in) := goodIn_app (goodIn_of _ (by decide +kernel)) ggX12_choose_X12_in
set_option maxRecDepth 20000 in
theorem ggX12_choose_X12_chosen : GoodIn wsX12_choose wsX12_chosen := goodIn_sub (x_mc (sb_wsX12_choose_wsX12_choose_r1 _ (List.mem_of_getElem? (i := 11) rfl)) (x_ina (x_mc (sb_wsX12_choose_wsX12_choose_r1 _ (List.mem_of_getElem? (i := 12) rfl)) x_mn) (fun _ h => sb_wsX12_choose_wsX120 _ h))) (by decide +kernel)
set_option maxRecDepth 20000 in
theorem gX12_choose_X12_chosen : GoodIn wsX12_choose (wsV RX12 417 RX12 yX12_chosen wsX12_chosen) := goodIn_app (goodIn_of _ (by decide +kernel)) ggX12_choose_X12_chosen
set_option maxRecDepth 20000 in
theorem ggX12_choose_X12_chooses : GoodIn wsX12_choose wsX12_chooses := goodIn_sub (x_mc (sb_wsX12_choose_wsX12_choose_r1 _ (List.mem_of_getElem? (i := 16) rfl)) (x_ina (x_ina (x_mc (sb_wsX12_choose_wsX12_choose_r1 _ (List.mem_of_getElem? (i := 17) rfl)) (x_mc (sb_wsX12_choose_wsX12_choose_r1 _ (List.mem_of_getElem? (i := 18) rfl)) (x_mc (sb_wsX12_choose_wsX12_choose_r1 _ (List.mem_of_getElem? (i := 19) rfl)) (x_mc (sb_wsX12_choose_wsX12_choose_r1 _ (List.mem_of_getElem? (i := 1) rfl)) (x_mc (sb_wsX12_choose_wsX12_choose_r1 _ (List.mem_of_getElem? (i := 2) rfl)) (x_mc (sb_wsX12_choose_wsX12_choose_r1 _ (List.mem_of_getElem? (i := 3) rfl)) (x_mc (sb_wsX12_choose_wsX12_choose_r1 _ (List.mem_of_getElem? (i := 8) rfl)) (x_mc (sb_wsX12_choose_wsX12_choose_r1 _ (List.mem_of_getElem? (i := 9) rfl)) (x_mc (sb_wsX12_choose_wsX12_choose_r1 _ (List.mem_of_getElem? (i := 10) rfl)) (x_mc (sb_wsX12_choose_wsX12_choose_r1 _ (List.mem_of_getElem? (i := 6) rfl)) (x_mc (sb_wsX12_choose_wsX12_choose_r1 _ (List.mem_of_getElem? (i := 11) rfl)) (x_mc (sb_wsX12_choose_wsX12_choose_r1 _ (List.mem_of_getElem? (i := 12) rfl)) (x_mc (sb_wsX12_choose_wsX12_choose_r1 _ (List.mem_of_getElem? (i := 20) rfl)) (x_mc (sb_wsX12_choose_wsX12_choose_r1 _ (List.mem_of_getElem? (i := 21) rfl)) (x_mc (sb_wsX12_choose_wsX12_choose_r1 _ (List.mem_of_getElem? (i := 22) rfl)) (x_mc (sb_wsX12_choose_wsX12_choose_r1 _ (List.mem_of_getElem? (i := 23) rfl)) (x_mc (sb_wsX12_choose_wsX12_choose_r2 _ (List.mem_of_getElem? (i := 0) rfl)) (x_mc (sb_wsX12_choose_wsX12_choose_r2 _ (List.mem_of_getElem? (i := 1) rfl)) (x_mc (sb_wsX12_choose_wsX12_choose_r2 _ (List.mem_of_getElem? (i := 2) rfl)) (x_mc (sb_wsX12_choose_wsX12_choose_r2 _ (List.mem_of_getElem? (i := 3) rfl)) (x_mc (sb_wsX12_choose_wsX12_choose_r2 _ (List.mem_of_getElem? (i := 4) rfl)) (x_mc (sb_wsX12_choose_wsX12_choose_r2 _ (List.mem_of_getElem? (i := 5) rfl)) (x_mc (sb_wsX12_choose_wsX12_choose_r2 _ (List.mem_of_getElem? (i := 6) rfl)) (x_mc (sb_wsX12_choose_wsX12_choose_r2 _ (List.mem_of_getElem? (i := 7) rfl)) x_mn)))))))))))))))))))))))) (x_ina (x_mc (sb_wsX12_choose_wsX12_choose_r2 _ (List.mem_of_getElem? (i := 8) rfl)) (x_mc (sb_wsX12_choose_wsX12_choose_r2 _ (List.mem_of_getElem? (i := 9) rfl)) (x_mc (sb_wsX12_choose_wsX12_choose_r2 _ (List.mem_of_getElem? (i := 10) rfl)) (x_mc (sb_wsX12_choose_wsX12_choose_r2 _ (List.mem_of_getElem? (i := 11) rfl)) (x_mc (sb_wsX12_choose_wsX12_choose_r2 _ (List.mem_of_getElem? (i := 12) rfl)) (x_mc (sb_wsX12_choose_wsX12_choose_r2 _ (List.mem_of_getElem? (i := 13) rfl)) (x_mc (sb_wsX12_choose_wsX12_choose_r2 _ (List.mem_of_getElem? (i := 14) rfl)) (x_mc (sb_wsX12_choose_wsX12_choose_r2 _ (List.mem_of_getElem? (i := 15) rfl)) (x_mc (sb_wsX12_choose_wsX12_choose_r2 _ (List.mem_of_getElem? (i := 16) rfl)) (x_mc (sb_wsX12_choose_wsX12_choose_r2 _ (List.mem_of_getElem? (i := 17) rfl)) (x_mc (sb_wsX12_choose_wsX12_choose_r2 _ (List.mem_of_getElem? (i := 18) rfl)) (x_mc (sb_wsX12_choose_wsX12_choose_r2 _ (List.mem_of_getElem? (i := 19) rfl)) (x_mc (sb_wsX12_choose_wsX12_choose_r2 _ (List.mem_of_getElem? (i := 20) rfl)) (x_mc (sb_wsX12_choose_wsX12_choose_r2 _ (List.mem_of_getElem? (i := 21) rfl)) (x_mc (sb_wsX12_choose_wsX12_choose_r2 _ (List.mem_of_getElem? (i := 22) rfl)) (x_mc (sb_wsX12_choose_wsX12_choose_r2 _ (List.mem_of_getElem? (i := 23) rfl)) (x_mc (sb_wsX12_choose_wsX12_choose_r3 _ (List.mem_of_getElem? (i := 0) rfl)) (x_mc (sb_wsX12_choose_wsX12_choose_r3 _ (List.mem_of_getElem? (i := 1) rfl)) (x_mc (sb_wsX12_choose_wsX12_choose_r3 _ (List.mem_of_getElem? (i := 2) rfl)) (x_mc (sb_wsX12_choose_wsX12_choose_r3 _ (List.mem_of_getElem? (i := 3) rfl)) (x_mc (sb_wsX12_choose_wsX12_choose_r3 _ (List.mem_of_getElem? (i := 4) rfl)) (x_mc (sb_wsX12_choose_wsX12_choose_r3 _ (List.mem_of_getElem? (i := 5) rfl)) (x_mc (sb_wsX12_choose_wsX12_choose_r3 _ (List.mem_of_getElem? (i := 6) rfl)) (x_mc (sb_wsX12_choose_wsX12_choose_r3 _ (List.mem_of_getElem? (i := 7) rfl)) x_mn)))))))))))))))))))))))) (x_mc (sb_wsX12_choose_wsX12_choose_r3 _ (List.mem_of_getElem? (i := 8) rfl)) (x_mc (sb_wsX12_choose_wsX12_choose_r3 _ (List.mem_of_getElem? (i := 9) rfl)) (x_mc (sb_wsX12_choose_wsX12_choose_r3 _ (List.mem_of_getElem? (i := 10) rfl)) (x_mc (sb_wsX12_choose_wsX12_choose_r3 _ (List.mem_of_getElem? (i := 11) rfl)) (x_mc (sb_wsX12_choose_wsX12_choose_r3 _ (List.mem_of_getElem? (i := 12) rfl)) (x_mc (sb_wsX12_choose_wsX12_choose_r3 _ (List.mem_of_getElem? (i := 13) rfl)) (x_mc (sb_wsX12_choose_wsX12_choose_r3 _ (List.mem_of_getElem? (i := 14) rfl)) (x_mc (sb_wsX12_choose_wsX12_choose_r3 _ (List.mem_of_getElem? (i := 15) rfl)) (x_mc (sb_wsX12_choose_wsX12_choose_r3 _ (List.mem_of_getElem? (i := 16) rfl)) (x_mc (sb_wsX12_choose_wsX12_choose_r3 _ (List.mem_of_getElem? (i := 17) rfl)) (x_mc (sb_wsX12_choose_wsX12_choose_r3 _ (List.mem_of_getElem? (i := 18) rfl)) (x_mc (sb_wsX12_choose_wsX12_choose_r3 _ (List.mem_of_getElem? (i := 19) rfl)) x_mn)))))))))))))) (fun _ h => sb_wsX12_choose_wsX120 _ h))) (by decide +kernel)
set_option maxRecDepth 20000 in
theorem gX12_choose_X12_chooses : GoodIn wsX12_choose (wsV RX12 432 RX12 yX12_chooses wsX12_chooses) := goodIn_app (goodIn_of _ (by decide +kernel)) ggX12_choose_X12_chooses
theorem dX12_choose_0 : decode cX12_choose 0 = .ok (.iload_n 1, 1) := by decide +kernel
theorem dX12_choose_1 : decode cX12_choose 1 = .ok (.i2l, 1) := by decide +kernel
theorem dX12_choose_2 : decode cX12_choose 2 = .ok (.lconst 0, 1) := by decide +kernel
theorem dX12_choose_3 : decode cX12_choose 3 = .ok (.lconst 1, 1) := by decide +kernel
theorem dX12_choose_4 : decode cX12_choose 4 = .ok (.invokestatic 156, 3) := by decide +kernel
theorem dX12_choose_7 : decode cX12_choose 7 = .ok (.ifCond .ne 25, 3) := by decide +kernel
theorem dX12_choose_10 : decode cX12_choose 10 = .ok (.iload_n 1, 1) := by decide +kernel
theorem dX12_choose_11 : decode cX12_choose 11 = .ok (.i2l, 1) := by decide +kernel
theorem dX12_choose_12 : decode cX12_choose 12 = .ok (.ldc2_w 314, 3) := by decide +kernel
theorem dX12_choose_15 : decode cX12_choose 15 = .ok (.bipush 9, 2) := by decide +kernel
theorem dX12_choose_17 : decode cX12_choose 17 = .ok (.aload_n 0, 1) := by decide +kernel
theorem dX12_choose_18 : decode cX12_choose 18 = .ok (.invokevirtual 417, 3) := by decide +kernel
theorem dX12_choose_21 : decode cX12_choose 21 = .ok (.iadd, 1) := by decide +kernel
theorem dX12_choose_22 : decode cX12_choose 22 = .ok (.i2l, 1) := by decide +kernel
theorem dX12_choose_23 : decode cX12_choose 23 = .ok (.invokestatic 156, 3) := by decide +kernel
theorem dX12_choose_26 : decode cX12_choose 26 = .ok (.ifCond .ne 6, 3) := by decide +kernel
theorem dX12_choose_29 : decode cX12_choose 29 = .ok (.bipush (-2), 2) := by decide +kernel
theorem dX12_choose_31 : decode cX12_choose 31 = .ok (.ireturn, 1) := by decide +kernel
theorem dX12_choose_32 : decode cX12_choose 32 = .ok (.aload_n 0, 1) := by decide +kernel
theorem dX12_choose_33 : decode cX12_choose 33 = .ok (.invokevirtual 432, 3) := by decide +kernel
theorem dX12_choose_36 : decode cX12_choose 36 = .ok (.ifCond .ne 5, 3) := by decide +kernel
theorem dX12_choose_39 : decode cX12_choose 39 = .ok (.iconst (-1), 1) := by decide +kernel
theorem dX12_choose_40 : decode cX12_choose 40 = .ok (.ireturn, 1) := by decide +kernel
theorem dX12_choose_41 : decode cX12_choose 41 = .ok (.iload_n 1, 1) := by decide +kernel
theorem dX12_choose_42 : decode cX12_choose 42 = .ok (.ifCond .ne 10, 3) := by decide +kernel
theorem dX12_choose_45 : decode cX12_choose 45 = .ok (.aload_n 0, 1) := by decide +kernel
theorem dX12_choose_46 : decode cX12_choose 46 = .ok (.getfield 420, 3) := by decide +kernel
theorem dX12_choose_49 : decode cX12_choose 49 = .ok (.goto 24, 3) := by decide +kernel
theorem dX12_choose_52 : decode cX12_choose 52 = .ok (.iload_n 1, 1) := by decide +kernel
theorem dX12_choose_53 : decode cX12_choose 53 = .ok (.iconst 1, 1) := by decide +kernel
theorem dX12_choose_54 : decode cX12_choose 54 = .ok (.if_icmp .ne 10, 3) := by decide +kernel
theorem dX12_choose_57 : decode cX12_choose 57 = .ok (.aload_n 0, 1) := by decide +kernel
theorem dX12_choose_58 : decode cX12_choose 58 = .ok (.getfield 429, 3) := by decide +kernel
theorem dX12_choose_61 : decode cX12_choose 61 = .ok (.goto 12, 3) := by decide +kernel
theorem dX12_choose_64 : decode cX12_choose 64 = .ok (.aload_n 0, 1) := by decide +kernel
theorem dX12_choose_65 : decode cX12_choose 65 = .ok (.getfield 90, 3) := by decide +kernel
theorem dX12_choose_68 : decode cX12_choose 68 = .ok (.iload_n 1, 1) := by decide +kernel
theorem dX12_choose_69 : decode cX12_choose 69 = .ok (.bipush 10, 2) := by decide +kernel
theorem dX12_choose_71 : decode cX12_choose 71 = .ok (.isub, 1) := by decide +kernel
theorem dX12_choose_72 : decode cX12_choose 72 = .ok (.iaload, 1) := by decide +kernel
theorem dX12_choose_73 : decode cX12_choose 73 = .ok (.ireturn, 1) := by decide +kernel
theorem sb_wsX12_lay_wsX12_lay_r1 : ∀ w ∈ wsX12_lay_r1, w ∈ wsX12_lay := fun _ h => (List.mem_cons_of_mem _ (List.mem_append_left _ (List.mem_append_left _ h)))
theorem sb_wsX12_lay_wsX12_lay_r2 : ∀ w ∈ wsX12_lay_r2, w ∈ wsX12_lay := fun _ h => (List.mem_cons_of_mem _ (List.mem_append_left _ (List.mem_append_right _ (List.mem_append_left _ h))))
theorem sb_wsX12_lay_wsX12_lay_r3 : ∀ w ∈ wsX12_lay_r3, w ∈ wsX12_lay := fun _ h => (List.mem_cons_of_mem _ (List.mem_append_left _ (List.mem_append_right _ (List.mem_append_right _ h))))
theorem sb_wsX12_lay_wsX120 : ∀ w ∈ wsX120, w ∈ wsX12_lay := fun _ h => (List.mem_cons_of_mem _ (List.mem_append_right _ h))
set_option maxRecDepth 20000 in
theorem ggX12_lay_X12_chooses : GoodIn wsX12_lay wsX12_chooses := goodIn_sub (x_mc (sb_wsX12_lay_wsX12_lay_r1 _ (List.mem_of_getElem? (i := 7) rfl)) (x_ina (x_ina (x_mc (sb_wsX12_lay_wsX12_lay_r1 _ (List.mem_of_getElem? (i := 8) rfl)) (x_mc (sb_wsX12_lay_wsX12_lay_r1 _ (List.mem_of_getElem? (i := 0) rfl)) (x_mc (sb_wsX12_lay_wsX12_lay_r1 _ (List.mem_of_getElem? (i := 9) rfl)) (x_mc (sb_wsX12_lay_wsX12_lay_r1 _ (List.mem_of_getElem? (i := 10) rfl)) (x_mc (sb_wsX12_lay_wsX12_lay_r1 _ (List.mem_of_getElem? (i := 2) rfl)) (x_mc (sb_wsX12_lay_wsX12_lay_r1 _ (List.mem_of_getElem? (i := 1) rfl)) (x_mc (sb_wsX12_lay_wsX12_lay_r1 _ (List.mem_of_getElem? (i := 11) rfl)) (x_mc (sb_wsX12_lay_wsX12_lay_r1 _ (List.mem_of_getElem? (i := 12) rfl)) (x_mc (sb_wsX12_lay_wsX12_lay_r1 _ (List.mem_of_getElem? (i := 13) rfl)) (x_mc (sb_wsX12_lay_wsX12_lay_r1 _ (List.mem_of_getElem? (i := 6) rfl)) (x_mc (sb_wsX12_lay_wsX12_lay_r1 _ (List.mem_of_getElem? (i := 14) rfl)) (x_mc (sb_wsX12_lay_wsX12_lay_r1 _ (List.mem_of_getElem? (i := 15) rfl)) (x_mc (sb_wsX12_lay_wsX12_lay_r1 _ (List.mem_of_getElem? (i := 16) rfl)) (x_mc (sb_wsX12_lay_wsX12_lay_r1 _ (List.mem_of_getElem? (i := 17) rfl)) (x_mc (sb_wsX12_lay_wsX12_lay_r1 _ (List.mem_of_getElem? (i := 18) rfl)) (x_mc (sb_wsX12_lay_wsX12_lay_r1 _ (List.mem_of_getElem? (i := 19) rfl)) (x_mc (sb_wsX12_lay_wsX12_lay_r1 _ (List.mem_of_getElem? (i := 20) rfl)) (x_mc (sb_wsX12_lay_wsX12_lay_r1 _ (List.mem_of_getElem? (i := 21) rfl)) (x_mc (sb_wsX12_lay_wsX12_lay_r1 _ (List.mem_of_getElem? (i := 22) rfl)) (x_mc (sb_wsX12_lay_wsX12_lay_r1 _ (List.mem_of_getElem? (i := 23) rfl)) (x_mc (sb_wsX12_lay_wsX12_lay_r2 _ (List.mem_of_getElem? (i := 0) rfl)) (x_mc (sb_wsX12_lay_wsX12_lay_r2 _ (List.mem_of_getElem? (i := 1) rfl)) (x_mc (sb_wsX12_lay_wsX12_lay_r2 _ (List.mem_of_getElem? (i := 2) rfl)) (x_mc (sb_wsX12_lay_wsX12_lay_r2 _ (List.mem_of_getElem? (i := 3) rfl)) x_mn)))))))))))))))))))))))) (x_ina (x_mc (sb_wsX12_lay_wsX12_lay_r2 _ (List.mem_of_getElem? (i := 4) rfl)) (x_mc (sb_wsX12_lay_wsX12_lay_r2 _ (List.mem_of_getElem? (i := 5) rfl)) (x_mc (sb_wsX12_lay_wsX12_lay_r2 _ (List.mem_of_getElem? (i := 6) rfl)) (x_mc (sb_wsX12_lay_wsX12_lay_r2 _ (List.mem_of_getElem? (i := 7) rfl)) (x_mc (sb_wsX12_lay_wsX12_lay_r2 _ (List.mem_of_getElem? (i := 8) rfl)) (x_mc (sb_wsX12_lay_wsX12_lay_r2 _ (List.mem_of_getElem? (i := 9) rfl)) (x_mc (sb_wsX12_lay_wsX12_lay_r2 _ (List.mem_of_getElem? (i := 10) rfl)) (x_mc (sb_wsX12_lay_wsX12_lay_r2 _ (List.mem_of_getElem? (i := 11) rfl)) (x_mc (sb_wsX12_lay_wsX12_lay_r2 _ (List.mem_of_getElem? (i := 12) rfl)) (x_mc (sb_wsX12_lay_wsX12_lay_r2 _ (List.mem_of_getElem? (i := 13) rfl)) (x_mc (sb_wsX12_lay_wsX12_lay_r2 _ (List.mem_of_getElem? (i := 14) rfl)) (x_mc (sb_wsX12_lay_wsX12_lay_r2 _ (List.mem_of_getElem? (i := 15) rfl)) (x_mc (sb_wsX12_lay_wsX12_lay_r2 _ (List.mem_of_getElem? (i := 16) rfl)) (x_mc (sb_wsX12_lay_wsX12_lay_r2 _ (List.mem_of_getElem? (i := 17) rfl)) (x_mc (sb_wsX12_lay_wsX12_lay_r2 _ (List.mem_of_getElem? (i := 18) rfl)) (x_mc (sb_wsX12_lay_wsX12_lay_r2 _ (List.mem_of_getElem? (i := 19) rfl)) (x_mc (sb_wsX12_lay_wsX12_lay_r2 _ (List.mem_of_getElem? (i := 20) rfl)) (x_mc (sb_wsX12_lay_wsX12_lay_r2 _ (List.mem_of_getElem? (i := 21) rfl)) (x_mc (sb_wsX12_lay_wsX12_lay_r2 _ (List.mem_of_getElem? (i := 22) rfl)) (x_mc (sb_wsX12_lay_wsX12_lay_r2 _ (List.mem_of_getElem? (i := 23) rfl)) (x_mc (sb_wsX12_lay_wsX12_lay_r3 _ (List.mem_of_getElem? (i := 0) rfl)) (x_mc (sb_wsX12_lay_wsX12_lay_r3 _ (List.mem_of_getElem? (i := 1) rfl)) (x_mc (sb_wsX12_lay_wsX12_lay_r3 _ (List.mem_of_getElem? (i := 2) rfl)) (x_mc (sb_wsX12_lay_wsX12_lay_r3 _ (List.mem_of_getElem? (i := 3) rfl)) x_mn)))))))))))))))))))))))) (x_mc (sb_wsX12_lay_wsX12_lay_r3 _ (List.mem_of_getElem? (i := 4) rfl)) (x_mc (sb_wsX12_lay_wsX12_lay_r3 _ (List.mem_of_getElem? (i := 5) rfl)) (x_mc (sb_wsX12_lay_wsX12_lay_r3 _ (List.mem_of_getElem? (i := 6) rfl)) (x_mc (sb_wsX12_lay_wsX12_lay_r3 _ (List.mem_of_getElem? (i := 7) rfl)) (x_mc (sb_wsX12_lay_wsX12_lay_r3 _ (List.mem_of_getElem? (i := 8) rfl)) (x_mc (sb_wsX12_lay_wsX12_lay_r3 _ (List.mem_of_getElem? (i := 9) rfl)) (x_mc (sb_wsX12_lay_wsX12_lay_r3 _ (List.mem_of_getElem? (i := 10) rfl)) (x_mc (sb_wsX12_lay_wsX12_lay_r3 _ (List.mem_of_getElem? (i := 11) rfl)) (x_mc (sb_wsX12_lay_wsX12_lay_r3 _ (List.mem_of_getElem? (i := 12) rfl)) (x_mc (sb_wsX12_lay_wsX12_lay_r3 _ (List.mem_of_getElem? (i := 13) rfl)) (x_mc (sb_wsX12_lay_wsX12_lay_r3 _ (List.mem_of_getElem? (i := 14) rfl)) (x_mc (sb_wsX12_lay_wsX12_lay_r3 _ (List.mem_of_getElem? (i := 15) rfl)) x_mn)))))))))))))) (fun _ h => sb_wsX12_lay_wsX120 _ h))) (by decide +kernel)
set_option maxRecDepth 20000 in
theorem gX12_lay_X12_chooses : GoodIn wsX12_lay (wsV RX12 432 RX12 yX12_chooses wsX12_chooses) := goodIn_app (goodIn_of _ (by decide +kernel)) ggX12_lay_X12_chooses
set_option maxRecDepth 20000 in
theorem ggX12_lay_X12_chosen : GoodIn wsX12_lay wsX12_chosen := goodIn_sub (x_mc (sb_wsX12_lay_wsX12_lay_r1 _ (List.mem_of_getElem? (i := 14) rfl)) (x_ina (x_mc (sb_wsX12_lay_wsX12_lay_r1 _ (List.mem_of_getElem? (i := 15) rfl)) x_mn) (fun _ h => sb_wsX12_lay_wsX120 _ h))) (by decide +kernel)
set_option maxRecDepth 20000 in
theorem gX12_lay_X12_chosen : GoodIn wsX12_lay (wsV RX12 417 RX12 yX12_chosen wsX12_chosen) := goodIn_app (goodIn_of _ (by decide +kernel)) ggX12_lay_X12_chosen
theorem dX12_lay_0 : decode cX12_lay 0 = .ok (.aload_n 0, 1) := by decide +kernel
theorem dX12_lay_1 : decode cX12_lay 1 = .ok (.invokevirtual 432, 3) := by decide +kernel
theorem dX12_lay_4 : decode cX12_lay 4 = .ok (.ifCond .ne 5, 3) := by decide +kernel
theorem dX12_lay_7 : decode cX12_lay 7 = .ok (.iconst (-1), 1) := by decide +kernel
theorem dX12_lay_8 : decode cX12_lay 8 = .ok (.ireturn, 1) := by decide +kernel
theorem dX12_lay_9 : decode cX12_lay 9 = .ok (.iconst 0, 1) := by decide +kernel
theorem dX12_lay_10 : decode cX12_lay 10 = .ok (.istore_n 1, 1) := by decide +kernel
theorem dX12_lay_11 : decode cX12_lay 11 = .ok (.iload_n 1, 1) := by decide +kernel
theorem dX12_lay_12 : decode cX12_lay 12 = .ok (.aload_n 0, 1) := by decide +kernel
theorem dX12_lay_13 : decode cX12_lay 13 = .ok (.invokevirtual 417, 3) := by decide +kernel
theorem dX12_lay_16 : decode cX12_lay 16 = .ok (.if_icmp .ge 21, 3) := by decide +kernel
theorem dX12_lay_19 : decode cX12_lay 19 = .ok (.aload_n 0, 1) := by decide +kernel
theorem dX12_lay_20 : decode cX12_lay 20 = .ok (.getfield 62, 3) := by decide +kernel
theorem dX12_lay_23 : decode cX12_lay 23 = .ok (.iload_n 1, 1) := by decide +kernel
theorem dX12_lay_24 : decode cX12_lay 24 = .ok (.aload_n 0, 1) := by decide +kernel
theorem dX12_lay_25 : decode cX12_lay 25 = .ok (.getfield 90, 3) := by decide +kernel
theorem dX12_lay_28 : decode cX12_lay 28 = .ok (.iload_n 1, 1) := by decide +kernel
theorem dX12_lay_29 : decode cX12_lay 29 = .ok (.iaload, 1) := by decide +kernel
theorem dX12_lay_30 : decode cX12_lay 30 = .ok (.iastore, 1) := by decide +kernel
theorem dX12_lay_31 : decode cX12_lay 31 = .ok (.iinc 1 1, 3) := by decide +kernel
theorem dX12_lay_34 : decode cX12_lay 34 = .ok (.goto (-23), 3) := by decide +kernel
theorem dX12_lay_37 : decode cX12_lay 37 = .ok (.aload_n 0, 1) := by decide +kernel
theorem dX12_lay_38 : decode cX12_lay 38 = .ok (.getfield 429, 3) := by decide +kernel
theorem dX12_lay_41 : decode cX12_lay 41 = .ok (.ireturn, 1) := by decide +kernel
theorem sb_wsX12_wantOf_wsX12_wantOf_r1 : ∀ w ∈ wsX12_wantOf_r1, w ∈ wsX12_wantOf := fun _ h => (List.mem_cons_of_mem _ (List.mem_append_left _ (List.mem_append_left _ h)))
theorem sb_wsX12_wantOf_wsX12_wantOf_r2 : ∀ w ∈ wsX12_wantOf_r2, w ∈ wsX12_wantOf := fun _ h => (List.mem_cons_of_mem _ (List.mem_append_left _ (List.mem_append_right _ (List.mem_append_left _ h))))
theorem sb_wsX12_wantOf_wsX12_wantOf_r3 : ∀ w ∈ wsX12_wantOf_r3, w ∈ wsX12_wantOf := fun _ h => (List.mem_cons_of_mem _ (List.mem_append_left _ (List.mem_append_right _ (List.mem_append_right _ (List.mem_append_left _ h)))))
theorem sb_wsX12_wantOf_wsX12_wantOf_r4 : ∀ w ∈ wsX12_wantOf_r4, w ∈ wsX12_wantOf := fun _ h => (List.mem_cons_of_mem _ (List.mem_append_left _ (List.mem_append_right _ (List.mem_append_right _ (List.mem_append_right _ (List.mem_append_left _ h))))))
theorem sb_wsX12_wantOf_wsX12_wantOf_r5 : ∀ w ∈ wsX12_wantOf_r5, w ∈ wsX12_wantOf := fun _ h => (List.mem_cons_of_mem _ (List.mem_append_left _ (List.mem_append_right _ (List.mem_append_right _ (List.mem_append_right _ (List.mem_append_right _ h))))))
theorem sb_wsX12_wantOf_wsX120 : ∀ w ∈ wsX120, w ∈ wsX12_wantOf := fun _ h => (List.mem_cons_of_mem _ (List.mem_append_right _ h))
set_option maxRecDepth 20000 in
theorem ggX12_wantOf_X12_read : GoodIn wsX12_wantOf wsX12_read := goodIn_sub (x_mc (sb_wsX12_wantOf_wsX12_wantOf_r1 _ (List.mem_of_getElem? (i := 5) rfl)) (x_ina (x_ina (x_mc (sb_wsX12_wantOf_wsX12_wantOf_r1 _ (List.mem_of_getElem? (i := 6) rfl)) (x_mc (sb_wsX12_wantOf_wsX12_wantOf_r1 _ (List.mem_of_getElem? (i := 7) rfl)) (x_mc (sb_wsX12_wantOf_wsX12_wantOf_r1 _ (List.mem_of_getElem? (i := 8) rfl)) (x_mc (sb_wsX12_wantOf_wsX12_wantOf_r1 _ (List.mem_of_getElem? (i := 9) rfl)) (x_mc (sb_wsX12_wantOf_wsX12_wantOf_r1 _ (List.mem_of_getElem? (i := 10) rfl)) (x_mc (sb_wsX12_wantOf_wsX12_wantOf_r1 _ (List.mem_of_getElem? (i := 11) rfl)) (x_mc (sb_wsX12_wantOf_wsX12_wantOf_r1 _ (List.mem_of_getElem? (i := 12) rfl)) (x_mc (sb_wsX12_wantOf_wsX12_wantOf_r1 _ (List.mem_of_getElem? (i := 13) rfl)) (x_mc (sb_wsX12_wantOf_wsX12_wantOf_r1 _ (List.mem_of_getElem? (i := 14) rfl)) (x_mc (sb_wsX12_wantOf_wsX12_wantOf_r1 _ (List.mem_of_getElem? (i := 15) rfl)) (x_mc (sb_wsX12_wantOf_wsX12_wantOf_r1 _ (List.mem_of_getElem? (i := 16) rfl)) (x_mc (sb_wsX12_wantOf_wsX12_wantOf_r1 _ (List.mem_of_getElem? (i := 17) rfl)) (x_mc (sb_wsX12_wantOf_wsX12_wantOf_r1 _ (List.mem_of_getElem? (i := 18) rfl)) (x_mc (sb_wsX12_wantOf_wsX12_wantOf_r1 _ (List.mem_of_getElem? (i := 19) rfl)) (x_mc (sb_wsX12_wantOf_wsX12_wantOf_r1 _ (List.mem_of_getElem? (i := 20) rfl)) (x_mc (sb_wsX12_wantOf_wsX12_wantOf_r1 _ (List.mem_of_getElem? (i := 21) rfl)) (x_mc (sb_wsX12_wantOf_wsX12_wantOf_r1 _ (List.mem_of_getElem? (i := 22) rfl)) (x_mc (sb_wsX12_wantOf_wsX12_wantOf_r1 _ (List.mem_of_getElem? (i := 23) rfl)) (x_mc (sb_wsX12_wantOf_wsX12_wantOf_r2 _ (List.mem_of_getElem? (i := 0) rfl)) (x_mc (sb_wsX12_wantOf_wsX12_wantOf_r1 _ (List.mem_of_getElem? (i := 4) rfl)) (x_mc (sb_wsX12_wantOf_wsX12_wantOf_r2 _ (List.mem_of_getElem? (i := 1) rfl)) (x_mc (sb_wsX12_wantOf_wsX12_wantOf_r2 _ (List.mem_of_getElem? (i := 2) rfl)) (x_mc (sb_wsX12_wantOf_wsX12_wantOf_r2 _ (List.mem_of_getElem? (i := 3) rfl)) (x_mc (sb_wsX12_wantOf_wsX12_wantOf_r2 _ (List.mem_of_getElem? (i := 4) rfl)) x_mn)))))))))))))))))))))))) (x_ina (x_mc (sb_wsX12_wantOf_wsX12_wantOf_r2 _ (List.mem_of_getElem? (i := 5) rfl)) (x_mc (sb_wsX12_wantOf_wsX12_wantOf_r2 _ (List.mem_of_getElem? (i := 6) rfl)) (x_mc (sb_wsX12_wantOf_wsX12_wantOf_r2 _ (List.mem_of_getElem? (i := 7) rfl)) (x_mc (sb_wsX12_wantOf_wsX12_wantOf_r2 _ (List.mem_of_getElem? (i := 8) rfl)) (x_mc (sb_wsX12_wantOf_wsX12_wantOf_r2 _ (List.mem_of_getElem? (i := 9) rfl)) (x_mc (sb_wsX12_wantOf_wsX12_wantOf_r2 _ (List.mem_of_getElem? (i := 10) rfl)) (x_mc (sb_wsX12_wantOf_wsX12_wantOf_r2 _ (List.mem_of_getElem? (i := 11) rfl)) (x_mc (sb_wsX12_wantOf_wsX12_wantOf_r2 _ (List.mem_of_getElem? (i := 12) rfl)) (x_mc (sb_wsX12_wantOf_wsX12_wantOf_r2 _ (List.mem_of_getElem? (i := 13) rfl)) (x_mc (sb_wsX12_wantOf_wsX12_wantOf_r2 _ (List.mem_of_getElem? (i := 14) rfl)) (x_mc (sb_wsX12_wantOf_wsX12_wantOf_r2 _ (List.mem_of_getElem? (i := 15) rfl)) (x_mc (sb_wsX12_wantOf_wsX12_wantOf_r2 _ (List.mem_of_getElem? (i := 16) rfl)) (x_mc (sb_wsX12_wantOf_wsX12_wantOf_r2 _ (List.mem_of_getElem? (i := 17) rfl)) (x_mc (sb_wsX12_wantOf_wsX12_wantOf_r2 _ (List.mem_of_getElem? (i := 18) rfl)) (x_mc (sb_wsX12_wantOf_wsX12_wantOf_r2 _ (List.mem_of_getElem? (i := 19) rfl)) (x_mc (sb_wsX12_wantOf_wsX12_wantOf_r2 _ (List.mem_of_getElem? (i := 20) rfl)) (x_mc (sb_wsX12_wantOf_wsX12_wantOf_r2 _ (List.mem_of_getElem? (i := 21) rfl)) (x_mc (sb_wsX12_wantOf_wsX12_wantOf_r2 _ (List.mem_of_getElem? (i := 22) rfl)) (x_mc (sb_wsX12_wantOf_wsX12_wantOf_r2 _ (List.mem_of_getElem? (i := 23) rfl)) (x_mc (sb_wsX12_wantOf_wsX12_wantOf_r3 _ (List.mem_of_getElem? (i := 0) rfl)) (x_mc (sb_wsX12_wantOf_wsX12_wantOf_r3 _ (List.mem_of_getElem? (i := 1) rfl)) (x_mc (sb_wsX12_wantOf_wsX12_wantOf_r3 _ (List.mem_of_getElem? (i := 2) rfl)) (x_mc (sb_wsX12_wantOf_wsX12_wantOf_r3 _ (List.mem_of_getElem? (i := 3) rfl)) (x_mc (sb_wsX12_wantOf_wsX12_wantOf_r3 _ (List.mem_of_getElem? (i := 4) rfl)) x_mn)))))))))))))))))))))))) (x_ina (x_mc (sb_wsX12_wantOf_wsX12_wantOf_r3 _ (List.mem_of_getElem? (i := 5) rfl)) (x_mc (sb_wsX12_wantOf_wsX12_wantOf_r3 _ (List.mem_of_getElem? (i := 6) rfl)) (x_mc (sb_wsX12_wantOf_wsX12_wantOf_r3 _ (List.mem_of_getElem? (i := 7) rfl)) (x_mc (sb_wsX12_wantOf_wsX12_wantOf_r3 _ (List.mem_of_getElem? (i := 8) rfl)) (x_mc (sb_wsX12_wantOf_wsX12_wantOf_r3 _ (List.mem_of_getElem? (i := 9) rfl)) (x_mc (sb_wsX12_wantOf_wsX12_wantOf_r3 _ (List.mem_of_getElem? (i := 10) rfl)) (x_mc (sb_wsX12_wantOf_wsX12_wantOf_r3 _ (List.mem_of_getElem? (i := 11) rfl)) (x_mc (sb_wsX12_wantOf_wsX12_wantOf_r3 _ (List.mem_of_getElem? (i := 12) rfl)) (x_mc (sb_wsX12_wantOf_wsX12_wantOf_r3 _ (List.mem_of_getElem? (i := 13) rfl)) (x_mc (sb_wsX12_wantOf_wsX12_wantOf_r3 _ (List.mem_of_getElem? (i := 14) rfl)) (x_mc (sb_wsX12_wantOf_wsX12_wantOf_r3 _ (List.mem_of_getElem? (i := 15) rfl)) (x_mc (sb_wsX12_wantOf_wsX12_wantOf_r3 _ (List.mem_of_getElem? (i := 16) rfl)) (x_mc (sb_wsX12_wantOf_wsX12_wantOf_r3 _ (List.mem_of_getElem? (i := 17) rfl)) (x_mc (sb_wsX12_wantOf_wsX12_wantOf_r3 _ (List.mem_of_getElem? (i := 18) rfl)) (x_mc (sb_wsX12_wantOf_wsX12_wantOf_r3 _ (List.mem_of_getElem? (i := 19) rfl)) (x_mc (sb_wsX12_wantOf_wsX12_wantOf_r3 _ (List.mem_of_getElem? (i := 20) rfl)) (x_mc (sb_wsX12_wantOf_wsX12_wantOf_r3 _ (List.mem_of_getElem? (i := 21) rfl)) (x_mc (sb_wsX12_wantOf_wsX12_wantOf_r3 _ (List.mem_of_getElem? (i := 22) rfl)) (x_mc (sb_wsX12_wantOf_wsX12_wantOf_r3 _ (List.mem_of_getElem? (i := 23) rfl)) (x_mc (sb_wsX12_wantOf_wsX12_wantOf_r4 _ (List.mem_of_getElem? (i := 0) rfl)) (x_mc (sb_wsX12_wantOf_wsX12_wantOf_r4 _ (List.mem_of_getElem? (i := 1) rfl)) (x_mc (sb_wsX12_wantOf_wsX12_wantOf_r4 _ (List.mem_of_getElem? (i := 2) rfl)) (x_mc (sb_wsX12_wantOf_wsX12_wantOf_r4 _ (List.mem_of_getElem? (i := 3) rfl)) (x_mc (sb_wsX12_wantOf_wsX12_wantOf_r4 _ (List.mem_of_getElem? (i := 4) rfl)) x_mn)))))))))))))))))))))))) (x_ina (x_mc (sb_wsX12_wantOf_wsX12_wantOf_r4 _ (List.mem_of_getElem? (i := 5) rfl)) (x_mc (sb_wsX12_wantOf_wsX12_wantOf_r4 _ (List.mem_of_getElem? (i := 6) rfl)) (x_mc (sb_wsX12_wantOf_wsX12_wantOf_r4 _ (List.mem_of_getElem? (i := 7) rfl)) (x_mc (sb_wsX12_wantOf_wsX12_wantOf_r4 _ (List.mem_of_getElem? (i := 8) rfl)) (x_mc (sb_wsX12_wantOf_wsX12_wantOf_r4 _ (List.mem_of_getElem? (i := 9) rfl)) (x_mc (sb_wsX12_wantOf_wsX12_wantOf_r4 _ (List.mem_of_getElem? (i := 10) rfl)) (x_mc (sb_wsX12_wantOf_wsX12_wantOf_r4 _ (List.mem_of_getElem? (i := 11) rfl)) (x_mc (sb_wsX12_wantOf_wsX12_wantOf_r4 _ (List.mem_of_getElem? (i := 12) rfl)) (x_mc (sb_wsX12_wantOf_wsX12_wantOf_r4 _ (List.mem_of_getElem? (i := 13) rfl)) (x_mc (sb_wsX12_wantOf_wsX12_wantOf_r4 _ (List.mem_of_getElem? (i := 14) rfl)) (x_mc (sb_wsX12_wantOf_wsX12_wantOf_r4 _ (List.mem_of_getElem? (i := 15) rfl)) (x_mc (sb_wsX12_wantOf_wsX12_wantOf_r4 _ (List.mem_of_getElem? (i := 16) rfl)) (x_mc (sb_wsX12_wantOf_wsX12_wantOf_r4 _ (List.mem_of_getElem? (i := 17) rfl)) (x_mc (sb_wsX12_wantOf_wsX12_wantOf_r4 _ (List.mem_of_getElem? (i := 18) rfl)) (x_mc (sb_wsX12_wantOf_wsX12_wantOf_r4 _ (List.mem_of_getElem? (i := 19) rfl)) (x_mc (sb_wsX12_wantOf_wsX12_wantOf_r4 _ (List.mem_of_getElem? (i := 20) rfl)) (x_mc (sb_wsX12_wantOf_wsX12_wantOf_r4 _ (List.mem_of_getElem? (i := 21) rfl)) (x_mc (sb_wsX12_wantOf_wsX12_wantOf_r4 _ (List.mem_of_getElem? (i := 22) rfl)) (x_mc (sb_wsX12_wantOf_wsX12_wantOf_r4 _ (List.mem_of_getElem? (i := 23) rfl)) (x_mc (sb_wsX12_wantOf_wsX12_wantOf_r5 _ (List.mem_of_getElem? (i := 0) rfl)) (x_mc (sb_wsX12_wantOf_wsX12_wantOf_r5 _ (List.mem_of_getElem? (i := 1) rfl)) (x_mc (sb_wsX12_wantOf_wsX12_wantOf_r5 _ (List.mem_of_getElem? (i := 2) rfl)) (x_mc (sb_wsX12_wantOf_wsX12_wantOf_r5 _ (List.mem_of_getElem? (i := 3) rfl)) (x_mc (sb_wsX12_wantOf_wsX12_wantOf_r5 _ (List.mem_of_getElem? (i := 4) rfl)) x_mn)))))))))))))))))))))))) (x_mc (sb_wsX12_wantOf_wsX12_wantOf_r5 _ (List.mem_of_getElem? (i := 5) rfl)) (x_mc (sb_wsX12_wantOf_wsX12_wantOf_r5 _ (List.mem_of_getElem? (i := 6) rfl)) (x_mc (sb_wsX12_wantOf_wsX12_wantOf_r5 _ (List.mem_of_getElem? (i := 7) rfl)) x_mn))))))) (fun _ h => sb_wsX12_wantOf_wsX120 _ h))) (by decide +kernel)
set_option maxRecDepth 20000 in
theorem gX12_wantOf_X12_read : GoodIn wsX12_wantOf (wsV RX12 239 RX12 yX12_read wsX12_read) := goodIn_app (goodIn_of _ (by decide +kernel)) ggX12_wantOf_X12_read
set_option maxRecDepth 20000 in
theorem ggX12_wantOf_X12_within : GoodIn wsX12_wantOf wsX12_within := goodIn_sub (x_mc (sb_wsX12_wantOf_wsX12_wantOf_r5 _ (List.mem_of_getElem? (i := 10) rfl)) x_mn) (by decide +kernel)
set_option maxRecDepth 20000 in
theorem gX12_wantOf_X12_within : GoodIn wsX12_wantOf (va_wsS RX12 243 yX12_within wsX12_within) := goodIn_app (goodIn_of _ (by decide +kernel)) ggX12_wantOf_X12_within
theorem dX12_wantOf_0 : decode cX12_wantOf 0 = .ok (.aload_n 0, 1) := by decide +kernel
theorem dX12_wantOf_1 : decode cX12_wantOf 1 = .ok (.aload_n 0, 1) := by decide +kernel
theorem dX12_wantOf_2 : decode cX12_wantOf 2 = .ok (.getfield 236, 3) := by decide +kernel
theorem dX12_wantOf_5 : decode cX12_wantOf 5 = .ok (.iconst 0, 1) := by decide +kernel
theorem dX12_wantOf_6 : decode cX12_wantOf 6 = .ok (.iconst 0, 1) := by decide +kernel
theorem dX12_wantOf_7 : decode cX12_wantOf 7 = .ok (.iconst 0, 1) := by decide +kernel
theorem dX12_wantOf_8 : decode cX12_wantOf 8 = .ok (.iconst 0, 1) := by decide +kernel
theorem dX12_wantOf_9 : decode cX12_wantOf 9 = .ok (.iload_n 1, 1) := by decide +kernel
theorem dX12_wantOf_10 : decode cX12_wantOf 10 = .ok (.iconst 0, 1) := by decide +kernel
theorem dX12_wantOf_11 : decode cX12_wantOf 11 = .ok (.iconst 2, 1) := by decide +kernel
theorem dX12_wantOf_12 : decode cX12_wantOf 12 = .ok (.invokevirtual 239, 3) := by decide +kernel
theorem dX12_wantOf_15 : decode cX12_wantOf 15 = .ok (.iconst 1, 1) := by decide +kernel
theorem dX12_wantOf_16 : decode cX12_wantOf 16 = .ok (.sipush 999, 3) := by decide +kernel
theorem dX12_wantOf_19 : decode cX12_wantOf 19 = .ok (.invokestatic 243, 3) := by decide +kernel
theorem dX12_wantOf_22 : decode cX12_wantOf 22 = .ok (.ireturn, 1) := by decide +kernel
theorem sb_wsX12_cut_wsX12_cut_r1 : ∀ w ∈ wsX12_cut_r1, w ∈ wsX12_cut := fun _ h => (List.mem_cons_of_mem _ (List.mem_append_left _ (List.mem_append_left _ h)))
theorem sb_wsX12_cut_wsX12_cut_r2 : ∀ w ∈ wsX12_cut_r2, w ∈ wsX12_cut := fun _ h => (List.mem_cons_of_mem _ (List.mem_append_left _ (List.mem_append_right _ (List.mem_append_left _ h))))
theorem sb_wsX12_cut_wsX12_cut_r3 : ∀ w ∈ wsX12_cut_r3, w ∈ wsX12_cut := fun _ h => (List.mem_cons_of_mem _ (List.mem_append_left _ (List.mem_append_right _ (List.mem_append_right _ (List.mem_append_left _ h)))))
theorem sb_wsX12_cut_wsX12_cut_r4 : ∀ w ∈ wsX12_cut_r4, w ∈ wsX12_cut := fun _ h => (List.mem_cons_of_mem _ (List.mem_append_left _ (List.mem_append_right _ (List.mem_append_right _ (List.mem_append_right _ (List.mem_append_left _ h))))))
theorem sb_wsX12_cut_wsX12_cut_r5 : ∀ w ∈ wsX12_cut_r5, w ∈ wsX12_cut := fun _ h => (List.mem_cons_of_mem _ (List.mem_append_left _ (List.mem_append_right _ (List.mem_append_right _ (List.mem_append_right _ (List.mem_append_right _ (List.mem_append_left _ h)))))))
theorem sb_wsX12_cut_wsX12_cut_r6 : ∀ w ∈ wsX12_cut_r6, w ∈ wsX12_cut := fun _ h => (List.mem_cons_of_mem _ (List.mem_append_left _ (List.mem_append_right _ (List.mem_append_right _ (List.mem_append_right _ (List.mem_append_right _ (List.mem_append_right _ (List.mem_append_left _ h))))))))
theorem sb_wsX12_cut_wsX12_cut_r7 : ∀ w ∈ wsX12_cut_r7, w ∈ wsX12_cut := fun _ h => (List.mem_cons_of_mem _ (List.mem_append_left _ (List.mem_append_right _ (List.mem_append_right _ (List.mem_append_right _ (List.mem_append_right _ (List.mem_append_right _ (List.mem_append_right _ h))))))))
theorem sb_wsX12_cut_wsX120 : ∀ w ∈ wsX120, w ∈ wsX12_cut := fun _ h => (List.mem_cons_of_mem _ (List.mem_append_right _ h))
set_option maxRecDepth 20000 in
theorem ggX12_cut_X12_isBelt : GoodIn wsX12_cut wsX12_isBelt := goodIn_sub (x_mc (sb_wsX12_cut_wsX12_cut_r1 _ (List.mem_of_getElem? (i := 7) rfl)) (x_ina (x_mc (sb_wsX12_cut_wsX12_cut_r1 _ (List.mem_of_getElem? (i := 8) rfl)) (x_mc (sb_wsX12_cut_wsX12_cut_r1 _ (List.mem_of_getElem? (i := 9) rfl)) (x_mc (sb_wsX12_cut_wsX12_cut_r1 _ (List.mem_of_getElem? (i := 10) rfl)) (x_mc (sb_wsX12_cut_wsX12_cut_r1 _ (List.mem_of_getElem? (i := 6) rfl)) (x_mc (sb_wsX12_cut_wsX12_cut_r1 _ (List.mem_of_getElem? (i := 11) rfl)) x_mn))))) (fun _ h => sb_wsX12_cut_wsX120 _ h))) (by decide +kernel)
set_option maxRecDepth 20000 in
theorem gX12_cut_X12_isBelt : GoodIn wsX12_cut (wsV RX12 197 RX12 yX12_isBelt wsX12_isBelt) := goodIn_app (goodIn_of _ (by decide +kernel)) ggX12_cut_X12_isBelt
set_option maxRecDepth 20000 in
theorem ggX12_cut_X12_in : GoodIn wsX12_cut wsX12_in := goodIn_sub (x_mc (sb_wsX12_cut_wsX12_cut_r1 _ (List.mem_of_getElem? (i := 11) rfl)) x_mn) (by decide +kernel)
set_option maxRecDepth 20000 in
theorem gX12_cut_X12_in : GoodIn wsX12_cut (va_wsS RX12 156 yX12_in wsX12_in) := goodIn_app (goodIn_of _ (by decide +kernel)) ggX12_cut_X12_in
set_option maxRecDepth 20000 in
theorem ggX12_cut_X12_wells : GoodIn wsX12_cut wsX12_wells := goodIn_sub (x_mc (sb_wsX12_cut_wsX12_cut_r1 _ (List.mem_of_getElem? (i := 15) rfl)) (x_ina (x_ina (x_mc (sb_wsX12_cut_wsX12_cut_r1 _ (List.mem_of_getElem? (i := 16) rfl)) (x_mc (sb_wsX12_cut_wsX12_cut_r1 _ (List.mem_of_getElem? (i := 17) rfl)) (x_mc (sb_wsX12_cut_wsX12_cut_r1 _ (List.mem_of_getElem? (i := 18) rfl)) (x_mc (sb_wsX12_cut_wsX12_cut_r1 _ (List.mem_of_getElem? (i := 19) rfl)) (x_mc (sb_wsX12_cut_wsX12_cut_r1 _ (List.mem_of_getElem? (i := 6) rfl)) (x_mc (sb_wsX12_cut_wsX12_cut_r1 _ (List.mem_of_getElem? (i := 20) rfl)) (x_mc (sb_wsX12_cut_wsX12_cut_r1 _ (List.mem_of_getElem? (i := 21) rfl)) (x_mc (sb_wsX12_cut_wsX12_cut_r1 _ (List.mem_of_getElem? (i := 22) rfl)) (x_mc (sb_wsX12_cut_wsX12_cut_r1 _ (List.mem_of_getElem? (i := 23) rfl)) (x_mc (sb_wsX12_cut_wsX12_cut_r2 _ (List.mem_of_getElem? (i := 0) rfl)) (x_mc (sb_wsX12_cut_wsX12_cut_r1 _ (List.mem_of_getElem? (i := 8) rfl)) (x_mc (sb_wsX12_cut_wsX12_cut_r2 _ (List.mem_of_getElem? (i := 1) rfl)) (x_mc (sb_wsX12_cut_wsX12_cut_r2 _ (List.mem_of_getElem? (i := 2) rfl)) (x_mc (sb_wsX12_cut_wsX12_cut_r2 _ (List.mem_of_getElem? (i := 3) rfl)) (x_mc (sb_wsX12_cut_wsX12_cut_r2 _ (List.mem_of_getElem? (i := 4) rfl)) (x_mc (sb_wsX12_cut_wsX12_cut_r2 _ (List.mem_of_getElem? (i := 5) rfl)) (x_mc (sb_wsX12_cut_wsX12_cut_r2 _ (List.mem_of_getElem? (i := 6) rfl)) (x_mc (sb_wsX12_cut_wsX12_cut_r2 _ (List.mem_of_getElem? (i := 7) rfl)) (x_mc (sb_wsX12_cut_wsX12_cut_r2 _ (List.mem_of_getElem? (i := 8) rfl)) (x_mc (sb_wsX12_cut_wsX12_cut_r2 _ (List.mem_of_getElem? (i := 9) rfl)) (x_mc (sb_wsX12_cut_wsX12_cut_r2 _ (List.mem_of_getElem? (i := 10) rfl)) (x_mc (sb_wsX12_cut_wsX12_cut_r2 _ (List.mem_of_getElem? (i := 11) rfl)) (x_mc (sb_wsX12_cut_wsX12_cut_r2 _ (List.mem_of_getElem? (i := 12) rfl)) (x_mc (sb_wsX12_cut_wsX12_cut_r2 _ (List.mem_of_getElem? (i := 13) rfl)) x_mn)))))))))))))))))))))))) (x_mc (sb_wsX12_cut_wsX12_cut_r2 _ (List.mem_of_getElem? (i := 14) rfl)) (x_mc (sb_wsX12_cut_wsX12_cut_r1 _ (List.mem_of_getElem? (i := 1) rfl)) (x_mc (sb_wsX12_cut_wsX12_cut_r1 _ (List.mem_of_getElem? (i := 2) rfl)) (x_mc (sb_wsX12_cut_wsX12_cut_r2 _ (List.mem_of_getElem? (i := 15) rfl)) (x_mc (sb_wsX12_cut_wsX12_cut_r2 _ (List.mem_of_getElem? (i := 16) rfl)) (x_mc (sb_wsX12_cut_wsX12_cut_r2 _ (List.mem_of_getElem? (i := 17) rfl)) (x_mc (sb_wsX12_cut_wsX12_cut_r2 _ (List.mem_of_getElem? (i := 18) rfl)) (x_mc (sb_wsX12_cut_wsX12_cut_r2 _ (List.mem_of_getElem? (i := 19) rfl)) (x_mc (sb_wsX12_cut_wsX12_cut_r2 _ (List.mem_of_getElem? (i := 20) rfl)) (x_mc (sb_wsX12_cut_wsX12_cut_r2 _ (List.mem_of_getElem? (i := 21) rfl)) (x_mc (sb_wsX12_cut_wsX12_cut_r2 _ (List.mem_of_getElem? (i := 22) rfl)) (x_mc (sb_wsX12_cut_wsX12_cut_r2 _ (List.mem_of_getElem? (i := 23) rfl)) (x_mc (sb_wsX12_cut_wsX12_cut_r3 _ (List.mem_of_getElem? (i := 0) rfl)) (x_mc (sb_wsX12_cut_wsX12_cut_r3 _ (List.mem_of_getElem? (i := 1) rfl)) (x_mc (sb_wsX12_cut_wsX12_cut_r3 _ (List.mem_of_getElem? (i := 2) rfl)) x_mn)))))))))))))))) (fun _ h => sb_wsX12_cut_wsX120 _ h))) (by decide +kernel)
set_option maxRecDepth 20000 in
theorem gX12_cut_X12_wells : GoodIn wsX12_cut (wsV RX12 426 RX12 yX12_wells wsX12_wells) := goodIn_app (goodIn_of _ (by decide +kernel)) ggX12_cut_X12_wells
set_option maxRecDepth 20000 in
theorem ggX12_cut_X12_wantOf : GoodIn wsX12_cut wsX12_wantOf := goodIn_sub (x_mc (sb_wsX12_cut_wsX12_cut_r3 _ (List.mem_of_getElem? (i := 6) rfl)) (x_ina (x_ina (x_mc (sb_wsX12_cut_wsX12_cut_r3 _ (List.mem_of_getElem? (i := 7) rfl)) (x_mc (sb_wsX12_cut_wsX12_cut_r3 _ (List.mem_of_getElem? (i := 8) rfl)) (x_mc (sb_wsX12_cut_wsX12_cut_r3 _ (List.mem_of_getElem? (i := 9) rfl)) (x_mc (sb_wsX12_cut_wsX12_cut_r3 _ (List.mem_of_getElem? (i := 10) rfl)) (x_mc (sb_wsX12_cut_wsX12_cut_r1 _ (List.mem_of_getElem? (i := 6) rfl)) (x_mc (sb_wsX12_cut_wsX12_cut_r3 _ (List.mem_of_getElem? (i := 11) rfl)) (x_mc (sb_wsX12_cut_wsX12_cut_r3 _ (List.mem_of_getElem? (i := 12) rfl)) (x_mc (sb_wsX12_cut_wsX12_cut_r3 _ (List.mem_of_getElem? (i := 13) rfl)) (x_mc (sb_wsX12_cut_wsX12_cut_r3 _ (List.mem_of_getElem? (i := 14) rfl)) (x_mc (sb_wsX12_cut_wsX12_cut_r3 _ (List.mem_of_getElem? (i := 15) rfl)) (x_mc (sb_wsX12_cut_wsX12_cut_r3 _ (List.mem_of_getElem? (i := 16) rfl)) (x_mc (sb_wsX12_cut_wsX12_cut_r3 _ (List.mem_of_getElem? (i := 17) rfl)) (x_mc (sb_wsX12_cut_wsX12_cut_r3 _ (List.mem_of_getElem? (i := 18) rfl)) (x_mc (sb_wsX12_cut_wsX12_cut_r3 _ (List.mem_of_getElem? (i := 19) rfl)) (x_mc (sb_wsX12_cut_wsX12_cut_r3 _ (List.mem_of_getElem? (i := 20) rfl)) (x_mc (sb_wsX12_cut_wsX12_cut_r3 _ (List.mem_of_getElem? (i := 21) rfl)) (x_mc (sb_wsX12_cut_wsX12_cut_r3 _ (List.mem_of_getElem? (i := 22) rfl)) (x_mc (sb_wsX12_cut_wsX12_cut_r3 _ (List.mem_of_getElem? (i := 23) rfl)) (x_mc (sb_wsX12_cut_wsX12_cut_r4 _ (List.mem_of_getElem? (i := 0) rfl)) (x_mc (sb_wsX12_cut_wsX12_cut_r4 _ (List.mem_of_getElem? (i := 1) rfl)) (x_mc (sb_wsX12_cut_wsX12_cut_r4 _ (List.mem_of_getElem? (i := 2) rfl)) (x_mc (sb_wsX12_cut_wsX12_cut_r4 _ (List.mem_of_getElem? (i := 3) rfl)) (x_mc (sb_wsX12_cut_wsX12_cut_r4 _ (List.mem_of_getElem? (i := 4) rfl)) (x_mc (sb_wsX12_cut_wsX12_cut_r4 _ (List.mem_of_getElem? (i := 5) rfl)) x_mn)))))))))))))))))))))))) (x_ina (x_mc (sb_wsX12_cut_wsX12_cut_r4 _ (List.mem_of_getElem? (i := 6) rfl)) (x_mc (sb_wsX12_cut_wsX12_cut_r4 _ (List.mem_of_getElem? (i := 7) rfl)) (x_mc (sb_wsX12_cut_wsX12_cut_r4 _ (List.mem_of_getElem? (i := 8) rfl)) (x_mc (sb_wsX12_cut_wsX12_cut_r4 _ (List.mem_of_getElem? (i := 9) rfl)) (x_mc (sb_wsX12_cut_wsX12_cut_r4 _ (List.mem_of_getElem? (i := 10) rfl)) (x_mc (sb_wsX12_cut_wsX12_cut_r4 _ (List.mem_of_getElem? (i := 11) rfl)) (x_mc (sb_wsX12_cut_wsX12_cut_r4 _ (List.mem_of_getElem? (i := 12) rfl)) (x_mc (sb_wsX12_cut_wsX12_cut_r4 _ (List.mem_of_getElem? (i := 13) rfl)) (x_mc (sb_wsX12_cut_wsX12_cut_r4 _ (List.mem_of_getElem? (i := 14) rfl)) (x_mc (sb_wsX12_cut_wsX12_cut_r4 _ (List.mem_of_getElem? (i := 15) rfl)) (x_mc (sb_wsX12_cut_wsX12_cut_r4 _ (List.mem_of_getElem? (i := 16) rfl)) (x_mc (sb_wsX12_cut_wsX12_cut_r4 _ (List.mem_of_getElem? (i := 17) rfl)) (x_mc (sb_wsX12_cut_wsX12_cut_r4 _ (List.mem_of_getElem? (i := 18) rfl)) (x_mc (sb_wsX12_cut_wsX12_cut_r4 _ (List.mem_of_getElem? (i := 19) rfl)) (x_mc (sb_wsX12_cut_wsX12_cut_r4 _ (List.mem_of_getElem? (i := 20) rfl)) (x_mc (sb_wsX12_cut_wsX12_cut_r4 _ (List.mem_of_getElem? (i := 21) rfl)) (x_mc (sb_wsX12_cut_wsX12_cut_r4 _ (List.mem_of_getElem? (i := 22) rfl)) (x_mc (sb_wsX12_cut_wsX12_cut_r1 _ (List.mem_of_getElem? (i := 9) rfl)) (x_mc (sb_wsX12_cut_wsX12_cut_r1 _ (List.mem_of_getElem? (i := 10) rfl)) (x_mc (sb_wsX12_cut_wsX12_cut_r1 _ (List.mem_of_getElem? (i := 11) rfl)) (x_mc (sb_wsX12_cut_wsX12_cut_r4 _ (List.mem_of_getElem? (i := 23) rfl)) (x_mc (sb_wsX12_cut_wsX12_cut_r5 _ (List.mem_of_getElem? (i := 0) rfl)) (x_mc (sb_wsX12_cut_wsX12_cut_r5 _ (List.mem_of_getElem? (i := 1) rfl)) (x_mc (sb_wsX12_cut_wsX12_cut_r5 _ (List.mem_of_getElem? (i := 2) rfl)) x_mn)))))))))))))))))))))))) (x_ina (x_mc (sb_wsX12_cut_wsX12_cut_r5 _ (List.mem_of_getElem? (i := 3) rfl)) (x_mc (sb_wsX12_cut_wsX12_cut_r5 _ (List.mem_of_getElem? (i := 4) rfl)) (x_mc (sb_wsX12_cut_wsX12_cut_r5 _ (List.mem_of_getElem? (i := 5) rfl)) (x_mc (sb_wsX12_cut_wsX12_cut_r5 _ (List.mem_of_getElem? (i := 6) rfl)) (x_mc (sb_wsX12_cut_wsX12_cut_r5 _ (List.mem_of_getElem? (i := 7) rfl)) (x_mc (sb_wsX12_cut_wsX12_cut_r5 _ (List.mem_of_getElem? (i := 8) rfl)) (x_mc (sb_wsX12_cut_wsX12_cut_r5 _ (List.mem_of_getElem? (i := 9) rfl)) (x_mc (sb_wsX12_cut_wsX12_cut_r5 _ (List.mem_of_getElem? (i := 10) rfl)) (x_mc (sb_wsX12_cut_wsX12_cut_r5 _ (List.mem_of_getElem? (i := 11) rfl)) (x_mc (sb_wsX12_cut_wsX12_cut_r5 _ (List.mem_of_getElem? (i := 12) rfl)) (x_mc (sb_wsX12_cut_wsX12_cut_r5 _ (List.mem_of_getElem? (i := 13) rfl)) (x_mc (sb_wsX12_cut_wsX12_cut_r5 _ (List.mem_of_getElem? (i := 14) rfl)) (x_mc (sb_wsX12_cut_wsX12_cut_r5 _ (List.mem_of_getElem? (i := 15) rfl)) (x_mc (sb_wsX12_cut_wsX12_cut_r5 _ (List.mem_of_getElem? (i := 16) rfl)) (x_mc (sb_wsX12_cut_wsX12_cut_r5 _ (List.mem_of_getElem? (i := 17) rfl)) (x_mc (sb_wsX12_cut_wsX12_cut_r5 _ (List.mem_of_getElem? (i := 18) rfl)) (x_mc (sb_wsX12_cut_wsX12_cut_r5 _ (List.mem_of_getElem? (i := 19) rfl)) (x_mc (sb_wsX12_cut_wsX12_cut_r5 _ (List.mem_of_getElem? (i := 20) rfl)) (x_mc (sb_wsX12_cut_wsX12_cut_r5 _ (List.mem_of_getElem? (i := 21) rfl)) (x_mc (sb_wsX12_cut_wsX12_cut_r5 _ (List.mem_of_getElem? (i := 22) rfl)) (x_mc (sb_wsX12_cut_wsX12_cut_r5 _ (List.mem_of_getElem? (i := 23) rfl)) (x_mc (sb_wsX12_cut_wsX12_cut_r6 _ (List.mem_of_getElem? (i := 0) rfl)) (x_mc (sb_wsX12_cut_wsX12_cut_r6 _ (List.mem_of_getElem? (i := 1) rfl)) (x_mc (sb_wsX12_cut_wsX12_cut_r6 _ (List.mem_of_getElem? (i := 2) rfl)) x_mn)))))))))))))))))))))))) (x_ina (x_mc (sb_wsX12_cut_wsX12_cut_r6 _ (List.mem_of_getElem? (i := 3) rfl)) (x_mc (sb_wsX12_cut_wsX12_cut_r6 _ (List.mem_of_getElem? (i := 4) rfl)) (x_mc (sb_wsX12_cut_wsX12_cut_r6 _ (List.mem_of_getElem? (i := 5) rfl)) (x_mc (sb_wsX12_cut_wsX12_cut_r6 _ (List.mem_of_getElem? (i := 6) rfl)) (x_mc (sb_wsX12_cut_wsX12_cut_r6 _ (List.mem_of_getElem? (i := 7) rfl)) (x_mc (sb_wsX12_cut_wsX12_cut_r6 _ (List.mem_of_getElem? (i := 8) rfl)) (x_mc (sb_wsX12_cut_wsX12_cut_r6 _ (List.mem_of_getElem? (i := 9) rfl)) (x_mc (sb_wsX12_cut_wsX12_cut_r6 _ (List.mem_of_getElem? (i := 10) rfl)) (x_mc (sb_wsX12_cut_wsX12_cut_r6 _ (List.mem_of_getElem? (i := 11) rfl)) (x_mc (sb_wsX12_cut_wsX12_cut_r6 _ (List.mem_of_getElem? (i := 12) rfl)) (x_mc (sb_wsX12_cut_wsX12_cut_r6 _ (List.mem_of_getElem? (i := 13) rfl)) (x_mc (sb_wsX12_cut_wsX12_cut_r6 _ (List.mem_of_getElem? (i := 14) rfl)) (x_mc (sb_wsX12_cut_wsX12_cut_r6 _ (List.mem_of_getElem? (i := 15) rfl)) (x_mc (sb_wsX12_cut_wsX12_cut_r6 _ (List.mem_of_getElem? (i := 16) rfl)) (x_mc (sb_wsX12_cut_wsX12_cut_r6 _ (List.mem_of_getElem? (i := 17) rfl)) (x_mc (sb_wsX12_cut_wsX12_cut_r6 _ (List.mem_of_getElem? (i := 18) rfl)) (x_mc (sb_wsX12_cut_wsX12_cut_r6 _ (List.mem_of_getElem? (i := 19) rfl)) (x_mc (sb_wsX12_cut_wsX12_cut_r6 _ (List.mem_of_getElem? (i := 20) rfl)) (x_mc (sb_wsX12_cut_wsX12_cut_r6 _ (List.mem_of_getElem? (i := 21) rfl)) (x_mc (sb_wsX12_cut_wsX12_cut_r6 _ (List.mem_of_getElem? (i := 22) rfl)) (x_mc (sb_wsX12_cut_wsX12_cut_r6 _ (List.mem_of_getElem? (i := 23) rfl)) (x_mc (sb_wsX12_cut_wsX12_cut_r7 _ (List.mem_of_getElem? (i := 0) rfl)) (x_mc (sb_wsX12_cut_wsX12_cut_r7 _ (List.mem_of_getElem? (i := 1) rfl)) (x_mc (sb_wsX12_cut_wsX12_cut_r7 _ (List.mem_of_getElem? (i := 2) rfl)) x_mn)))))))))))))))))))))))) (x_mc (sb_wsX12_cut_wsX12_cut_r7 _ (List.mem_of_getElem? (i := 3) rfl)) (x_mc (sb_wsX12_cut_wsX12_cut_r7 _ (List.mem_of_getElem? (i := 4) rfl)) (x_mc (sb_wsX12_cut_wsX12_cut_r7 _ (List.mem_of_getElem? (i := 5) rfl)) (x_mc (sb_wsX12_cut_wsX12_cut_r7 _ (List.mem_of_getElem? (i := 6) rfl)) (x_mc (sb_wsX12_cut_wsX12_cut_r7 _ (List.mem_of_getElem? (i := 7) rfl)) (x_mc (sb_wsX12_cut_wsX12_cut_r7 _ (List.mem_of_getElem? (i := 8) rfl)) (x_mc (sb_wsX12_cut_wsX12_cut_r7 _ (List.mem_of_getElem? (i := 9) rfl)) (x_mc (sb_wsX12_cut_wsX12_cut_r7 _ (List.mem_of_getElem? (i := 10) rfl)) (x_mc (sb_wsX12_cut_wsX12_cut_r7 _ (List.mem_of_getElem? (i := 11) rfl)) (x_mc (sb_wsX12_cut_wsX12_cut_r7 _ (List.mem_of_getElem? (i := 12) rfl)) (x_mc (sb_wsX12_cut_wsX12_cut_r7 _ (List.mem_of_getElem? (i := 13) rfl)) x_mn))))))))))))))) (fun _ h => sb_wsX12_cut_wsX120 _ h))) (by decide +kernel)
set_option maxRecDepth 20000 in
theorem gX12_cut_X12_wantOf : GoodIn wsX12_cut (wsV RX12 435 RX12 yX12_wantOf wsX12_wantOf) := goodIn_app (goodIn_of _ (by decide +kernel)) ggX12_cut_X12_wantOf
theorem dX12_cut_0 : decode cX12_cut 0 = .ok (.aload_n 0, 1) := by decide +kernel
theorem dX12_cut_1 : decode cX12_cut 1 = .ok (.iload_n 1, 1) := by decide +kernel
theorem dX12_cut_2 : decode cX12_cut 2 = .ok (.invokevirtual 197, 3) := by decide +kernel
theorem dX12_cut_5 : decode cX12_cut 5 = .ok (.ifCond .eq 15, 3) := by decide +kernel
theorem dX12_cut_8 : decode cX12_cut 8 = .ok (.iload_n 2, 1) := by decide +kernel
theorem dX12_cut_9 : decode cX12_cut 9 = .ok (.i2l, 1) := by decide +kernel
theorem dX12_cut_10 : decode cX12_cut 10 = .ok (.lconst 0, 1) := by decide +kernel
theorem dX12_cut_11 : decode cX12_cut 11 = .ok (.ldc2_w 186, 3) := by decide +kernel
theorem dX12_cut_14 : decode cX12_cut 14 = .ok (.invokestatic 156, 3) := by decide +kernel
theorem dX12_cut_17 : decode cX12_cut 17 = .ok (.ifCond .ne 6, 3) := by decide +kernel
theorem dX12_cut_20 : decode cX12_cut 20 = .ok (.bipush (-2), 2) := by decide +kernel
theorem dX12_cut_22 : decode cX12_cut 22 = .ok (.ireturn, 1) := by decide +kernel
theorem dX12_cut_23 : decode cX12_cut 23 = .ok (.iconst (-1), 1) := by decide +kernel
theorem dX12_cut_24 : decode cX12_cut 24 = .ok (.istore_n 3, 1) := by decide +kernel
theorem dX12_cut_25 : decode cX12_cut 25 = .ok (.iconst 0, 1) := by decide +kernel
theorem dX12_cut_26 : decode cX12_cut 26 = .ok (.istore 4, 2) := by decide +kernel
theorem dX12_cut_28 : decode cX12_cut 28 = .ok (.iconst 0, 1) := by decide +kernel
theorem dX12_cut_29 : decode cX12_cut 29 = .ok (.istore 5, 2) := by decide +kernel
theorem dX12_cut_31 : decode cX12_cut 31 = .ok (.aload_n 0, 1) := by decide +kernel
theorem dX12_cut_32 : decode cX12_cut 32 = .ok (.iload_n 1, 1) := by decide +kernel
theorem dX12_cut_33 : decode cX12_cut 33 = .ok (.putfield 71, 3) := by decide +kernel
theorem dX12_cut_36 : decode cX12_cut 36 = .ok (.iconst 1, 1) := by decide +kernel
theorem dX12_cut_37 : decode cX12_cut 37 = .ok (.istore 6, 2) := by decide +kernel
theorem dX12_cut_39 : decode cX12_cut 39 = .ok (.iload 6, 2) := by decide +kernel
theorem dX12_cut_41 : decode cX12_cut 41 = .ok (.bipush 99, 2) := by decide +kernel
theorem dX12_cut_43 : decode cX12_cut 43 = .ok (.if_icmp .gt 69, 3) := by decide +kernel
theorem dX12_cut_46 : decode cX12_cut 46 = .ok (.aload_n 0, 1) := by decide +kernel
theorem dX12_cut_47 : decode cX12_cut 47 = .ok (.iload 6, 2) := by decide +kernel
theorem dX12_cut_49 : decode cX12_cut 49 = .ok (.putfield 200, 3) := by decide +kernel
theorem dX12_cut_52 : decode cX12_cut 52 = .ok (.aload_n 0, 1) := by decide +kernel
theorem dX12_cut_53 : decode cX12_cut 53 = .ok (.invokevirtual 426, 3) := by decide +kernel
theorem dX12_cut_56 : decode cX12_cut 56 = .ok (.istore 7, 2) := by decide +kernel
theorem dX12_cut_58 : decode cX12_cut 58 = .ok (.aload_n 0, 1) := by decide +kernel
theorem dX12_cut_59 : decode cX12_cut 59 = .ok (.iload 6, 2) := by decide +kernel
theorem dX12_cut_61 : decode cX12_cut 61 = .ok (.invokevirtual 435, 3) := by decide +kernel
theorem dX12_cut_64 : decode cX12_cut 64 = .ok (.istore 8, 2) := by decide +kernel
theorem dX12_cut_66 : decode cX12_cut 66 = .ok (.iload_n 3, 1) := by decide +kernel
theorem dX12_cut_67 : decode cX12_cut 67 = .ok (.iconst (-1), 1) := by decide +kernel
theorem dX12_cut_68 : decode cX12_cut 68 = .ok (.if_icmp .eq 27, 3) := by decide +kernel
theorem dX12_cut_71 : decode cX12_cut 71 = .ok (.iload 7, 2) := by decide +kernel
theorem dX12_cut_73 : decode cX12_cut 73 = .ok (.iload 4, 2) := by decide +kernel
theorem dX12_cut_75 : decode cX12_cut 75 = .ok (.if_icmp .lt 31, 3) := by decide +kernel
theorem dX12_cut_78 : decode cX12_cut 78 = .ok (.iload 7, 2) := by decide +kernel
theorem dX12_cut_80 : decode cX12_cut 80 = .ok (.iload 4, 2) := by decide +kernel
theorem dX12_cut_82 : decode cX12_cut 82 = .ok (.if_icmp .ne 13, 3) := by decide +kernel
theorem dX12_cut_85 : decode cX12_cut 85 = .ok (.iload 8, 2) := by decide +kernel
theorem dX12_cut_87 : decode cX12_cut 87 = .ok (.iload 5, 2) := by decide +kernel
theorem dX12_cut_89 : decode cX12_cut 89 = .ok (.if_icmp .lt 6, 3) := by decide +kernel
theorem dX12_cut_92 : decode cX12_cut 92 = .ok (.goto 14, 3) := by decide +kernel
theorem dX12_cut_95 : decode cX12_cut 95 = .ok (.iload 6, 2) := by decide +kernel
theorem dX12_cut_97 : decode cX12_cut 97 = .ok (.istore_n 3, 1) := by decide +kernel
theorem dX12_cut_98 : decode cX12_cut 98 = .ok (.iload 7, 2) := by decide +kernel
theorem dX12_cut_100 : decode cX12_cut 100 = .ok (.istore 4, 2) := by decide +kernel
theorem dX12_cut_102 : decode cX12_cut 102 = .ok (.iload 8, 2) := by decide +kernel
theorem dX12_cut_104 : decode cX12_cut 104 = .ok (.istore 5, 2) := by decide +kernel
theorem dX12_cut_106 : decode cX12_cut 106 = .ok (.iinc 6 1, 3) := by decide +kernel
theorem dX12_cut_109 : decode cX12_cut 109 = .ok (.goto (-70), 3) := by decide +kernel
theorem dX12_cut_112 : decode cX12_cut 112 = .ok (.aload_n 0, 1) := by decide +kernel
theorem dX12_cut_113 : decode cX12_cut 113 = .ok (.iconst (-1), 1) := by decide +kernel
theorem dX12_cut_114 : decode cX12_cut 114 = .ok (.putfield 71, 3) := by decide +kernel
theorem dX12_cut_117 : decode cX12_cut 117 = .ok (.iload_n 2, 1) := by decide +kernel
theorem dX12_cut_118 : decode cX12_cut 118 = .ok (.ifCond .ne 7, 3) := by decide +kernel
theorem dX12_cut_121 : decode cX12_cut 121 = .ok (.iload_n 3, 1) := by decide +kernel
theorem dX12_cut_122 : decode cX12_cut 122 = .ok (.goto 15, 3) := by decide +kernel
theorem dX12_cut_125 : decode cX12_cut 125 = .ok (.iload_n 2, 1) := by decide +kernel
theorem dX12_cut_126 : decode cX12_cut 126 = .ok (.iconst 1, 1) := by decide +kernel
theorem dX12_cut_127 : decode cX12_cut 127 = .ok (.if_icmp .ne 8, 3) := by decide +kernel
theorem dX12_cut_130 : decode cX12_cut 130 = .ok (.iload 4, 2) := by decide +kernel
theorem dX12_cut_132 : decode cX12_cut 132 = .ok (.goto 5, 3) := by decide +kernel
theorem dX12_cut_135 : decode cX12_cut 135 = .ok (.iload 5, 2) := by decide +kernel
theorem dX12_cut_137 : decode cX12_cut 137 = .ok (.ireturn, 1) := by decide +kernel
theorem sb_wsX12_turning_wsX12_turning_r1 : ∀ w ∈ wsX12_turning_r1, w ∈ wsX12_turning := fun _ h => (List.mem_cons_of_mem _ (List.mem_append_left _ (List.mem_append_left _ h)))
theorem sb_wsX12_turning_wsX12_turning_r2 : ∀ w ∈ wsX12_turning_r2, w ∈ wsX12_turning := fun _ h => (List.mem_cons_of_mem _ (List.mem_append_left _ (List.mem_append_right _ h)))
theorem sb_wsX12_turning_wsX120 : ∀ w ∈ wsX120, w ∈ wsX12_turning := fun _ h => (List.mem_cons_of_mem _ (List.mem_append_right _ h))
set_option maxRecDepth 20000 in
theorem ggX12_turning_X12_lays : GoodIn wsX12_turning wsX12_lays := goodIn_sub (x_mc (sb_wsX12_turning_wsX12_turning_r1 _ (List.mem_of_getElem? (i := 7) rfl)) (x_ina (x_ina (x_mc (sb_wsX12_turning_wsX12_turning_r1 _ (List.mem_of_getElem? (i := 8) rfl)) (x_mc (sb_wsX12_turning_wsX12_turning_r1 _ (List.mem_of_getElem? (i := 9) rfl)) (x_mc (sb_wsX12_turning_wsX12_turning_r1 _ (List.mem_of_getElem? (i := 10) rfl)) (x_mc (sb_wsX12_turning_wsX12_turning_r1 _ (List.mem_of_getElem? (i := 1) rfl)) (x_mc (sb_wsX12_turning_wsX12_turning_r1 _ (List.mem_of_getElem? (i := 11) rfl)) (x_mc (sb_wsX12_turning_wsX12_turning_r1 _ (List.mem_of_getElem? (i := 12) rfl)) (x_mc (sb_wsX12_turning_wsX12_turning_r1 _ (List.mem_of_getElem? (i := 13) rfl)) (x_mc (sb_wsX12_turning_wsX12_turning_r1 _ (List.mem_of_getElem? (i := 14) rfl)) (x_mc (sb_wsX12_turning_wsX12_turning_r1 _ (List.mem_of_getElem? (i := 15) rfl)) (x_mc (sb_wsX12_turning_wsX12_turning_r1 _ (List.mem_of_getElem? (i := 16) rfl)) (x_mc (sb_wsX12_turning_wsX12_turning_r1 _ (List.mem_of_getElem? (i := 17) rfl)) (x_mc (sb_wsX12_turning_wsX12_turning_r1 _ (List.mem_of_getElem? (i := 18) rfl)) (x_mc (sb_wsX12_turning_wsX12_turning_r1 _ (List.mem_of_getElem? (i := 6) rfl)) (x_mc (sb_wsX12_turning_wsX12_turning_r1 _ (List.mem_of_getElem? (i := 19) rfl)) (x_mc (sb_wsX12_turning_wsX12_turning_r1 _ (List.mem_of_getElem? (i := 20) rfl)) (x_mc (sb_wsX12_turning_wsX12_turning_r1 _ (List.mem_of_getElem? (i := 21) rfl)) (x_mc (sb_wsX12_turning_wsX12_turning_r1 _ (List.mem_of_getElem? (i := 22) rfl)) (x_mc (sb_wsX12_turning_wsX12_turning_r1 _ (List.mem_of_getElem? (i := 23) rfl)) (x_mc (sb_wsX12_turning_wsX12_turning_r2 _ (List.mem_of_getElem? (i := 0) rfl)) (x_mc (sb_wsX12_turning_wsX12_turning_r2 _ (List.mem_of_getElem? (i := 1) rfl)) (x_mc (sb_wsX12_turning_wsX12_turning_r2 _ (List.mem_of_getElem? (i := 2) rfl)) (x_mc (sb_wsX12_turning_wsX12_turning_r2 _ (List.mem_of_getElem? (i := 3) rfl)) (x_mc (sb_wsX12_turning_wsX12_turning_r2 _ (List.mem_of_getElem? (i := 4) rfl)) (x_mc (sb_wsX12_turning_wsX12_turning_r2 _ (List.mem_of_getElem? (i := 5) rfl)) x_mn)))))))))))))))))))))))) (x_mc (sb_wsX12_turning_wsX12_turning_r2 _ (List.mem_of_getElem? (i := 6) rfl)) (x_mc (sb_wsX12_turning_wsX12_turning_r2 _ (List.mem_of_getElem? (i := 7) rfl)) x_mn))) (fun _ h => sb_wsX12_turning_wsX120 _ h))) (by decide +kernel)
set_option maxRecDepth 20000 in
theorem gX12_turning_X12_lays : GoodIn wsX12_turning (wsV RX12 247 RX12 yX12_lays wsX12_lays) := goodIn_app (goodIn_of _ (by decide +kernel)) ggX12_turning_X12_lays
theorem dX12_turning_0 : decode cX12_turning 0 = .ok (.aload_n 0, 1) := by decide +kernel
theorem dX12_turning_1 : decode cX12_turning 1 = .ok (.invokevirtual 247, 3) := by decide +kernel
theorem dX12_turning_4 : decode cX12_turning 4 = .ok (.iconst 0, 1) := by decide +kernel
theorem dX12_turning_5 : decode cX12_turning 5 = .ok (.istore_n 1, 1) := by decide +kernel
theorem dX12_turning_6 : decode cX12_turning 6 = .ok (.iconst 0, 1) := by decide +kernel
theorem dX12_turning_7 : decode cX12_turning 7 = .ok (.istore_n 2, 1) := by decide +kernel
theorem dX12_turning_8 : decode cX12_turning 8 = .ok (.iload_n 2, 1) := by decide +kernel
theorem dX12_turning_9 : decode cX12_turning 9 = .ok (.aload_n 0, 1) := by decide +kernel
theorem dX12_turning_10 : decode cX12_turning 10 = .ok (.getfield 160, 3) := by decide +kernel
theorem dX12_turning_13 : decode cX12_turning 13 = .ok (.if_icmp .ge 33, 3) := by decide +kernel
theorem dX12_turning_16 : decode cX12_turning 16 = .ok (.iload_n 1, 1) := by decide +kernel
theorem dX12_turning_17 : decode cX12_turning 17 = .ok (.aload_n 0, 1) := by decide +kernel
theorem dX12_turning_18 : decode cX12_turning 18 = .ok (.getfield 81, 3) := by decide +kernel
theorem dX12_turning_21 : decode cX12_turning 21 = .ok (.aload_n 0, 1) := by decide +kernel
theorem dX12_turning_22 : decode cX12_turning 22 = .ok (.getfield 29, 3) := by decide +kernel
theorem dX12_turning_25 : decode cX12_turning 25 = .ok (.iload_n 2, 1) := by decide +kernel
theorem dX12_turning_26 : decode cX12_turning 26 = .ok (.iaload, 1) := by decide +kernel
theorem dX12_turning_27 : decode cX12_turning 27 = .ok (.iaload, 1) := by decide +kernel
theorem dX12_turning_28 : decode cX12_turning 28 = .ok (.ifCond .eq 9, 3) := by decide +kernel
theorem dX12_turning_31 : decode cX12_turning 31 = .ok (.iconst 1, 1) := by decide +kernel
theorem dX12_turning_32 : decode cX12_turning 32 = .ok (.iload_n 2, 1) := by decide +kernel
theorem dX12_turning_33 : decode cX12_turning 33 = .ok (.ishl, 1) := by decide +kernel
theorem dX12_turning_34 : decode cX12_turning 34 = .ok (.goto 4, 3) := by decide +kernel
theorem dX12_turning_37 : decode cX12_turning 37 = .ok (.iconst 0, 1) := by decide +kernel
theorem dX12_turning_38 : decode cX12_turning 38 = .ok (.ior, 1) := by decide +kernel
theorem dX12_turning_39 : decode cX12_turning 39 = .ok (.istore_n 1, 1) := by decide +kernel
theorem dX12_turning_40 : decode cX12_turning 40 = .ok (.iinc 2 1, 3) := by decide +kernel
theorem dX12_turning_43 : decode cX12_turning 43 = .ok (.goto (-35), 3) := by decide +kernel
theorem dX12_turning_46 : decode cX12_turning 46 = .ok (.iload_n 1, 1) := by decide +kernel
theorem dX12_turning_47 : decode cX12_turning 47 = .ok (.ireturn, 1) := by decide +kernel
theorem sb_wsX12_standsBy_wsX12_standsBy_r1 : ∀ w ∈ wsX12_standsBy_r1, w ∈ wsX12_standsBy := fun _ h => (List.mem_cons_of_mem _ (List.mem_append_left _ (List.mem_append_left _ h)))
theorem sb_wsX12_standsBy_wsX12_standsBy_r2 : ∀ w ∈ wsX12_standsBy_r2, w ∈ wsX12_standsBy := fun _ h => (List.mem_cons_of_mem _ (List.mem_append_left _ (List.mem_append_right _ h)))
theorem sb_wsX12_standsBy_wsX120 : ∀ w ∈ wsX120, w ∈ wsX12_standsBy := fun _ h => (List.mem_cons_of_mem _ (List.mem_append_right _ h))
set_option maxRecDepth 20000 in
theorem ggX12_standsBy_X12_turning : GoodIn wsX12_standsBy wsX12_turning := goodIn_sub (x_mc (sb_wsX12_standsBy_wsX12_standsBy_r1 _ (List.mem_of_getElem? (i := 5) rfl)) (x_ina (x_ina (x_mc (sb_wsX12_standsBy_wsX12_standsBy_r1 _ (List.mem_of_getElem? (i := 6) rfl)) (x_mc (sb_wsX12_standsBy_wsX12_standsBy_r1 _ (List.mem_of_getElem? (i := 7) rfl)) (x_mc (sb_wsX12_standsBy_wsX12_standsBy_r1 _ (List.mem_of_getElem? (i := 8) rfl)) (x_mc (sb_wsX12_standsBy_wsX12_standsBy_r1 _ (List.mem_of_getElem? (i := 9) rfl)) (x_mc (sb_wsX12_standsBy_wsX12_standsBy_r1 _ (List.mem_of_getElem? (i := 10) rfl)) (x_mc (sb_wsX12_standsBy_wsX12_standsBy_r1 _ (List.mem_of_getElem? (i := 11) rfl)) (x_mc (sb_wsX12_standsBy_wsX12_standsBy_r1 _ (List.mem_of_getElem? (i := 4) rfl)) (x_mc (sb_wsX12_standsBy_wsX12_standsBy_r1 _ (List.mem_of_getElem? (i := 12) rfl)) (x_mc (sb_wsX12_standsBy_wsX12_standsBy_r1 _ (List.mem_of_getElem? (i := 13) rfl)) (x_mc (sb_wsX12_standsBy_wsX12_standsBy_r1 _ (List.mem_of_getElem? (i := 14) rfl)) (x_mc (sb_wsX12_standsBy_wsX12_standsBy_r1 _ (List.mem_of_getElem? (i := 15) rfl)) (x_mc (sb_wsX12_standsBy_wsX12_standsBy_r1 _ (List.mem_of_getElem? (i := 16) rfl)) (x_mc (sb_wsX12_standsBy_wsX12_standsBy_r1 _ (List.mem_of_getElem? (i := 0) rfl)) (x_mc (sb_wsX12_standsBy_wsX12_standsBy_r1 _ (List.mem_of_getElem? (i := 17) rfl)) (x_mc (sb_wsX12_standsBy_wsX12_standsBy_r1 _ (List.mem_of_getElem? (i := 18) rfl)) (x_mc (sb_wsX12_standsBy_wsX12_standsBy_r1 _ (List.mem_of_getElem? (i := 19) rfl)) (x_mc (sb_wsX12_standsBy_wsX12_standsBy_r1 _ (List.mem_of_getElem? (i := 20) rfl)) (x_mc (sb_wsX12_standsBy_wsX12_standsBy_r1 _ (List.mem_of_getElem? (i := 21) rfl)) (x_mc (sb_wsX12_standsBy_wsX12_standsBy_r1 _ (List.mem_of_getElem? (i := 22) rfl)) (x_mc (sb_wsX12_standsBy_wsX12_standsBy_r1 _ (List.mem_of_getElem? (i := 23) rfl)) (x_mc (sb_wsX12_standsBy_wsX12_standsBy_r2 _ (List.mem_of_getElem? (i := 0) rfl)) (x_mc (sb_wsX12_standsBy_wsX12_standsBy_r2 _ (List.mem_of_getElem? (i := 1) rfl)) (x_mc (sb_wsX12_standsBy_wsX12_standsBy_r2 _ (List.mem_of_getElem? (i := 2) rfl)) (x_mc (sb_wsX12_standsBy_wsX12_standsBy_r2 _ (List.mem_of_getElem? (i := 3) rfl)) x_mn)))))))))))))))))))))))) (x_mc (sb_wsX12_standsBy_wsX12_standsBy_r2 _ (List.mem_of_getElem? (i := 4) rfl)) (x_mc (sb_wsX12_standsBy_wsX12_standsBy_r2 _ (List.mem_of_getElem? (i := 5) rfl)) (x_mc (sb_wsX12_standsBy_wsX12_standsBy_r2 _ (List.mem_of_getElem? (i := 6) rfl)) (x_mc (sb_wsX12_standsBy_wsX12_standsBy_r2 _ (List.mem_of_getElem? (i := 7) rfl)) (x_mc (sb_wsX12_standsBy_wsX12_standsBy_r2 _ (List.mem_of_getElem? (i := 8) rfl)) (x_mc (sb_wsX12_standsBy_wsX12_standsBy_r2 _ (List.mem_of_getElem? (i := 9) rfl)) (x_mc (sb_wsX12_standsBy_wsX12_standsBy_r2 _ (List.mem_of_getElem? (i := 10) rfl)) (x_mc (sb_wsX12_standsBy_wsX12_standsBy_r2 _ (List.mem_of_getElem? (i := 11) rfl)) x_mn))))))))) (fun _ h => sb_wsX12_standsBy_wsX120 _ h))) (by decide +kernel)
set_option maxRecDepth 20000 in
theorem gX12_standsBy_X12_turning : GoodIn wsX12_standsBy (wsV RX12 438 RX12 yX12_turning wsX12_turning) := goodIn_app (goodIn_of _ (by decide +kernel)) ggX12_standsBy_X12_turning
theorem dX12_standsBy_0 : decode cX12_standsBy 0 = .ok (.aload_n 0, 1) := by decide +kernel
theorem dX12_standsBy_1 : decode cX12_standsBy 1 = .ok (.invokevirtual 438, 3) := by decide +kernel
theorem dX12_standsBy_4 : decode cX12_standsBy 4 = .ok (.istore_n 2, 1) := by decide +kernel
theorem dX12_standsBy_5 : decode cX12_standsBy 5 = .ok (.aload_n 0, 1) := by decide +kernel
theorem dX12_standsBy_6 : decode cX12_standsBy 6 = .ok (.getfield 68, 3) := by decide +kernel
theorem dX12_standsBy_9 : decode cX12_standsBy 9 = .ok (.iload_n 1, 1) := by decide +kernel
theorem dX12_standsBy_10 : decode cX12_standsBy 10 = .ok (.iaload, 1) := by decide +kernel
theorem dX12_standsBy_11 : decode cX12_standsBy 11 = .ok (.istore_n 3, 1) := by decide +kernel
theorem dX12_standsBy_12 : decode cX12_standsBy 12 = .ok (.aload_n 0, 1) := by decide +kernel
theorem dX12_standsBy_13 : decode cX12_standsBy 13 = .ok (.getfield 68, 3) := by decide +kernel
theorem dX12_standsBy_16 : decode cX12_standsBy 16 = .ok (.iload_n 1, 1) := by decide +kernel
theorem dX12_standsBy_17 : decode cX12_standsBy 17 = .ok (.iconst 0, 1) := by decide +kernel
theorem dX12_standsBy_18 : decode cX12_standsBy 18 = .ok (.iastore, 1) := by decide +kernel
theorem dX12_standsBy_19 : decode cX12_standsBy 19 = .ok (.aload_n 0, 1) := by decide +kernel
theorem dX12_standsBy_20 : decode cX12_standsBy 20 = .ok (.invokevirtual 438, 3) := by decide +kernel
theorem dX12_standsBy_23 : decode cX12_standsBy 23 = .ok (.istore 4, 2) := by decide +kernel
theorem dX12_standsBy_25 : decode cX12_standsBy 25 = .ok (.aload_n 0, 1) := by decide +kernel
theorem dX12_standsBy_26 : decode cX12_standsBy 26 = .ok (.getfield 68, 3) := by decide +kernel
theorem dX12_standsBy_29 : decode cX12_standsBy 29 = .ok (.iload_n 1, 1) := by decide +kernel
theorem dX12_standsBy_30 : decode cX12_standsBy 30 = .ok (.iload_n 3, 1) := by decide +kernel
theorem dX12_standsBy_31 : decode cX12_standsBy 31 = .ok (.iastore, 1) := by decide +kernel
theorem dX12_standsBy_32 : decode cX12_standsBy 32 = .ok (.iload_n 2, 1) := by decide +kernel
theorem dX12_standsBy_33 : decode cX12_standsBy 33 = .ok (.iload 4, 2) := by decide +kernel
theorem dX12_standsBy_35 : decode cX12_standsBy 35 = .ok (.iconst (-1), 1) := by decide +kernel
theorem dX12_standsBy_36 : decode cX12_standsBy 36 = .ok (.ixor, 1) := by decide +kernel
theorem dX12_standsBy_37 : decode cX12_standsBy 37 = .ok (.iand, 1) := by decide +kernel
theorem dX12_standsBy_38 : decode cX12_standsBy 38 = .ok (.ireturn, 1) := by decide +kernel
theorem sb_wsX12_off_wsX12_off_r1 : ∀ w ∈ wsX12_off_r1, w ∈ wsX12_off := fun _ h => (List.mem_cons_of_mem _ (List.mem_append_left _ (List.mem_append_left _ h)))
theorem sb_wsX12_off_wsX12_off_r2 : ∀ w ∈ wsX12_off_r2, w ∈ wsX12_off := fun _ h => (List.mem_cons_of_mem _ (List.mem_append_left _ (List.mem_append_right _ h)))
theorem sb_wsX12_off_wsX120 : ∀ w ∈ wsX120, w ∈ wsX12_off := fun _ h => (List.mem_cons_of_mem _ (List.mem_append_right _ h))
set_option maxRecDepth 20000 in
theorem ggX12_off_X12_isBelt : GoodIn wsX12_off wsX12_isBelt := goodIn_sub (x_mc (sb_wsX12_off_wsX12_off_r1 _ (List.mem_of_getElem? (i := 4) rfl)) (x_ina (x_mc (sb_wsX12_off_wsX12_off_r1 _ (List.mem_of_getElem? (i := 5) rfl)) (x_mc (sb_wsX12_off_wsX12_off_r1 _ (List.mem_of_getElem? (i := 6) rfl)) (x_mc (sb_wsX12_off_wsX12_off_r1 _ (List.mem_of_getElem? (i := 7) rfl)) (x_mc (sb_wsX12_off_wsX12_off_r1 _ (List.mem_of_getElem? (i := 3) rfl)) (x_mc (sb_wsX12_off_wsX12_off_r1 _ (List.mem_of_getElem? (i := 8) rfl)) x_mn))))) (fun _ h => sb_wsX12_off_wsX120 _ h))) (by decide +kernel)
set_option maxRecDepth 20000 in
theorem gX12_off_X12_isBelt : GoodIn wsX12_off (wsV RX12 197 RX12 yX12_isBelt wsX12_isBelt) := goodIn_app (goodIn_of _ (by decide +kernel)) ggX12_off_X12_isBelt
set_option maxRecDepth 20000 in
theorem ggX12_off_X12_standsBy : GoodIn wsX12_off wsX12_standsBy := goodIn_sub (x_mc (sb_wsX12_off_wsX12_off_r1 _ (List.mem_of_getElem? (i := 12) rfl)) (x_ina (x_ina (x_mc (sb_wsX12_off_wsX12_off_r1 _ (List.mem_of_getElem? (i := 13) rfl)) (x_mc (sb_wsX12_off_wsX12_off_r1 _ (List.mem_of_getElem? (i := 14) rfl)) (x_mc (sb_wsX12_off_wsX12_off_r1 _ (List.mem_of_getElem? (i := 15) rfl)) (x_mc (sb_wsX12_off_wsX12_off_r1 _ (List.mem_of_getElem? (i := 16) rfl)) (x_mc (sb_wsX12_off_wsX12_off_r1 _ (List.mem_of_getElem? (i := 3) rfl)) (x_mc (sb_wsX12_off_wsX12_off_r1 _ (List.mem_of_getElem? (i := 17) rfl)) (x_mc (sb_wsX12_off_wsX12_off_r1 _ (List.mem_of_getElem? (i := 18) rfl)) (x_mc (sb_wsX12_off_wsX12_off_r1 _ (List.mem_of_getElem? (i := 19) rfl)) (x_mc (sb_wsX12_off_wsX12_off_r1 _ (List.mem_of_getElem? (i := 20) rfl)) (x_mc (sb_wsX12_off_wsX12_off_r1 _ (List.mem_of_getElem? (i := 21) rfl)) (x_mc (sb_wsX12_off_wsX12_off_r1 _ (List.mem_of_getElem? (i := 22) rfl)) (x_mc (sb_wsX12_off_wsX12_off_r1 _ (List.mem_of_getElem? (i := 23) rfl)) (x_mc (sb_wsX12_off_wsX12_off_r2 _ (List.mem_of_getElem? (i := 0) rfl)) (x_mc (sb_wsX12_off_wsX12_off_r2 _ (List.mem_of_getElem? (i := 1) rfl)) (x_mc (sb_wsX12_off_wsX12_off_r2 _ (List.mem_of_getElem? (i := 2) rfl)) (x_mc (sb_wsX12_off_wsX12_off_r2 _ (List.mem_of_getElem? (i := 3) rfl)) (x_mc (sb_wsX12_off_wsX12_off_r1 _ (List.mem_of_getElem? (i := 5) rfl)) (x_mc (sb_wsX12_off_wsX12_off_r2 _ (List.mem_of_getElem? (i := 4) rfl)) (x_mc (sb_wsX12_off_wsX12_off_r2 _ (List.mem_of_getElem? (i := 5) rfl)) (x_mc (sb_wsX12_off_wsX12_off_r2 _ (List.mem_of_getElem? (i := 6) rfl)) (x_mc (sb_wsX12_off_wsX12_off_r2 _ (List.mem_of_getElem? (i := 7) rfl)) (x_mc (sb_wsX12_off_wsX12_off_r2 _ (List.mem_of_getElem? (i := 8) rfl)) (x_mc (sb_wsX12_off_wsX12_off_r2 _ (List.mem_of_getElem? (i := 9) rfl)) (x_mc (sb_wsX12_off_wsX12_off_r2 _ (List.mem_of_getElem? (i := 10) rfl)) x_mn)))))))))))))))))))))))) (x_mc (sb_wsX12_off_wsX12_off_r2 _ (List.mem_of_getElem? (i := 11) rfl)) (x_mc (sb_wsX12_off_wsX12_off_r2 _ (List.mem_of_getElem? (i := 12) rfl)) (x_mc (sb_wsX12_off_wsX12_off_r2 _ (List.mem_of_getElem? (i := 13) rfl)) (x_mc (sb_wsX12_off_wsX12_off_r2 _ (List.mem_of_getElem? (i := 14) rfl)) (x_mc (sb_wsX12_off_wsX12_off_r2 _ (List.mem_of_getElem? (i := 15) rfl)) (x_mc (sb_wsX12_off_wsX12_off_r2 _ (List.mem_of_getElem? (i := 16) rfl)) (x_mc (sb_wsX12_off_wsX12_off_r2 _ (List.mem_of_getElem? (i := 17) rfl)) (x_mc (sb_wsX12_off_wsX12_off_r2 _ (List.mem_of_getElem? (i := 18) rfl)) (x_mc (sb_wsX12_off_wsX12_off_r2 _ (List.mem_of_getElem? (i := 19) rfl)) (x_mc (sb_wsX12_off_wsX12_off_r2 _ (List.mem_of_getElem? (i := 20) rfl)) (x_mc (sb_wsX12_off_wsX12_off_r2 _ (List.mem_of_getElem? (i := 21) rfl)) (x_mc (sb_wsX12_off_wsX12_off_r2 _ (List.mem_of_getElem? (i := 22) rfl)) x_mn))))))))))))) (fun _ h => sb_wsX12_off_wsX120 _ h))) (by decide +kernel)
set_option maxRecDepth 20000 in
theorem gX12_off_X12_standsBy : GoodIn wsX12_off (wsV RX12 441 RX12 yX12_standsBy wsX12_standsBy) := goodIn_app (goodIn_of _ (by decide +kernel)) ggX12_off_X12_standsBy
theorem dX12_off_0 : decode cX12_off 0 = .ok (.aload_n 0, 1) := by decide +kernel
theorem dX12_off_1 : decode cX12_off 1 = .ok (.iload_n 1, 1) := by decide +kernel
theorem dX12_off_2 : decode cX12_off 2 = .ok (.invokevirtual 197, 3) := by decide +kernel
theorem dX12_off_5 : decode cX12_off 5 = .ok (.ifCond .eq 11, 3) := by decide +kernel
theorem dX12_off_8 : decode cX12_off 8 = .ok (.aload_n 0, 1) := by decide +kernel
theorem dX12_off_9 : decode cX12_off 9 = .ok (.iload_n 1, 1) := by decide +kernel
theorem dX12_off_10 : decode cX12_off 10 = .ok (.invokevirtual 441, 3) := by decide +kernel
theorem dX12_off_13 : decode cX12_off 13 = .ok (.goto 5, 3) := by decide +kernel
theorem dX12_off_16 : decode cX12_off 16 = .ok (.bipush (-2), 2) := by decide +kernel
theorem dX12_off_18 : decode cX12_off 18 = .ok (.ireturn, 1) := by decide +kernel
theorem sb_wsX12_hangs_wsX12_hangs_r1 : ∀ w ∈ wsX12_hangs_r1, w ∈ wsX12_hangs := fun _ h => (List.mem_cons_of_mem _ (List.mem_append_left _ (List.mem_append_left _ h)))
theorem sb_wsX12_hangs_wsX12_hangs_r2 : ∀ w ∈ wsX12_hangs_r2, w ∈ wsX12_hangs := fun _ h => (List.mem_cons_of_mem _ (List.mem_append_left _ (List.mem_append_right _ h)))
theorem sb_wsX12_hangs_wsX120 : ∀ w ∈ wsX120, w ∈ wsX12_hangs := fun _ h => (List.mem_cons_of_mem _ (List.mem_append_right _ h))
set_option maxRecDepth 20000 in
theorem ggX12_hangs_X12_standsBy : GoodIn wsX12_hangs wsX12_standsBy := goodIn_sub (x_mc (sb_wsX12_hangs_wsX12_hangs_r1 _ (List.mem_of_getElem? (i := 7) rfl)) (x_ina (x_ina (x_mc (sb_wsX12_hangs_wsX12_hangs_r1 _ (List.mem_of_getElem? (i := 8) rfl)) (x_mc (sb_wsX12_hangs_wsX12_hangs_r1 _ (List.mem_of_getElem? (i := 9) rfl)) (x_mc (sb_wsX12_hangs_wsX12_hangs_r1 _ (List.mem_of_getElem? (i := 10) rfl)) (x_mc (sb_wsX12_hangs_wsX12_hangs_r1 _ (List.mem_of_getElem? (i := 11) rfl)) (x_mc (sb_wsX12_hangs_wsX12_hangs_r1 _ (List.mem_of_getElem? (i := 6) rfl)) (x_mc (sb_wsX12_hangs_wsX12_hangs_r1 _ (List.mem_of_getElem? (i := 12) rfl)) (x_mc (sb_wsX12_hangs_wsX12_hangs_r1 _ (List.mem_of_getElem? (i := 1) rfl)) (x_mc (sb_wsX12_hangs_wsX12_hangs_r1 _ (List.mem_of_getElem? (i := 13) rfl)) (x_mc (sb_wsX12_hangs_wsX12_hangs_r1 _ (List.mem_of_getElem? (i := 14) rfl)) (x_mc (sb_wsX12_hangs_wsX12_hangs_r1 _ (List.mem_of_getElem? (i := 15) rfl)) (x_mc (sb_wsX12_hangs_wsX12_hangs_r1 _ (List.mem_of_getElem? (i := 16) rfl)) (x_mc (sb_wsX12_hangs_wsX12_hangs_r1 _ (List.mem_of_getElem? (i := 17) rfl)) (x_mc (sb_wsX12_hangs_wsX12_hangs_r1 _ (List.mem_of_getElem? (i := 18) rfl)) (x_mc (sb_wsX12_hangs_wsX12_hangs_r1 _ (List.mem_of_getElem? (i := 19) rfl)) (x_mc (sb_wsX12_hangs_wsX12_hangs_r1 _ (List.mem_of_getElem? (i := 20) rfl)) (x_mc (sb_wsX12_hangs_wsX12_hangs_r1 _ (List.mem_of_getElem? (i := 21) rfl)) (x_mc (sb_wsX12_hangs_wsX12_hangs_r1 _ (List.mem_of_getElem? (i := 0) rfl)) (x_mc (sb_wsX12_hangs_wsX12_hangs_r1 _ (List.mem_of_getElem? (i := 22) rfl)) (x_mc (sb_wsX12_hangs_wsX12_hangs_r1 _ (List.mem_of_getElem? (i := 23) rfl)) (x_mc (sb_wsX12_hangs_wsX12_hangs_r2 _ (List.mem_of_getElem? (i := 0) rfl)) (x_mc (sb_wsX12_hangs_wsX12_hangs_r2 _ (List.mem_of_getElem? (i := 1) rfl)) (x_mc (sb_wsX12_hangs_wsX12_hangs_r2 _ (List.mem_of_getElem? (i := 2) rfl)) (x_mc (sb_wsX12_hangs_wsX12_hangs_r2 _ (List.mem_of_getElem? (i := 3) rfl)) (x_mc (sb_wsX12_hangs_wsX12_hangs_r2 _ (List.mem_of_getElem? (i := 4) rfl)) x_mn)))))))))))))))))))))))) (x_mc (sb_wsX12_hangs_wsX12_hangs_r2 _ (List.mem_of_getElem? (i := 5) rfl)) (x_mc (sb_wsX12_hangs_wsX12_hangs_r2 _ (List.mem_of_getElem? (i := 6) rfl)) (x_mc (sb_wsX12_hangs_wsX12_hangs_r2 _ (List.mem_of_getElem? (i := 7) rfl)) (x_mc (sb_wsX12_hangs_wsX12_hangs_r2 _ (List.mem_of_getElem? (i := 8) rfl)) (x_mc (sb_wsX12_hangs_wsX12_hangs_r2 _ (List.mem_of_getElem? (i := 9) rfl)) (x_mc (sb_wsX12_hangs_wsX12_hangs_r2 _ (List.mem_of_getElem? (i := 10) rfl)) (x_mc (sb_wsX12_hangs_wsX12_hangs_r2 _ (List.mem_of_getElem? (i := 11) rfl)) (x_mc (sb_wsX12_hangs_wsX12_hangs_r2 _ (List.mem_of_getElem? (i := 12) rfl)) (x_mc (sb_wsX12_hangs_wsX12_hangs_r2 _ (List.mem_of_getElem? (i := 13) rfl)) (x_mc (sb_wsX12_hangs_wsX12_hangs_r2 _ (List.mem_of_getElem? (i := 14) rfl)) (x_mc (sb_wsX12_hangs_wsX12_hangs_r2 _ (List.mem_of_getElem? (i := 15) rfl)) (x_mc (sb_wsX12_hangs_wsX12_hangs_r2 _ (List.mem_of_getElem? (i := 16) rfl)) x_mn))))))))))))) (fun _ h => sb_wsX12_hangs_wsX120 _ h))) (by decide +kernel)
set_option maxRecDepth 20000 in
theorem gX12_hangs_X12_standsBy : GoodIn wsX12_hangs (wsV RX12 441 RX12 yX12_standsBy wsX12_standsBy) := goodIn_app (goodIn_of _ (by decide +kernel)) ggX12_hangs_X12_standsBy
theorem dX12_hangs_0 : decode cX12_hangs 0 = .ok (.iconst (-1), 1) := by decide +kernel
theorem dX12_hangs_1 : decode cX12_hangs 1 = .ok (.istore_n 1, 1) := by decide +kernel
theorem dX12_hangs_2 : decode cX12_hangs 2 = .ok (.iconst 0, 1) := by decide +kernel
theorem dX12_hangs_3 : decode cX12_hangs 3 = .ok (.istore_n 2, 1) := by decide +kernel
theorem dX12_hangs_4 : decode cX12_hangs 4 = .ok (.iconst 0, 1) := by decide +kernel
theorem dX12_hangs_5 : decode cX12_hangs 5 = .ok (.istore_n 3, 1) := by decide +kernel
theorem dX12_hangs_6 : decode cX12_hangs 6 = .ok (.iload_n 3, 1) := by decide +kernel
theorem dX12_hangs_7 : decode cX12_hangs 7 = .ok (.aload_n 0, 1) := by decide +kernel
theorem dX12_hangs_8 : decode cX12_hangs 8 = .ok (.getfield 166, 3) := by decide +kernel
theorem dX12_hangs_11 : decode cX12_hangs 11 = .ok (.if_icmp .ge 83, 3) := by decide +kernel
theorem dX12_hangs_14 : decode cX12_hangs 14 = .ok (.aload_n 0, 1) := by decide +kernel
theorem dX12_hangs_15 : decode cX12_hangs 15 = .ok (.iload_n 3, 1) := by decide +kernel
theorem dX12_hangs_16 : decode cX12_hangs 16 = .ok (.invokevirtual 441, 3) := by decide +kernel
theorem dX12_hangs_19 : decode cX12_hangs 19 = .ok (.istore 4, 2) := by decide +kernel
theorem dX12_hangs_21 : decode cX12_hangs 21 = .ok (.iconst 0, 1) := by decide +kernel
theorem dX12_hangs_22 : decode cX12_hangs 22 = .ok (.istore 5, 2) := by decide +kernel
theorem dX12_hangs_24 : decode cX12_hangs 24 = .ok (.iconst 0, 1) := by decide +kernel
theorem dX12_hangs_25 : decode cX12_hangs 25 = .ok (.istore 6, 2) := by decide +kernel
theorem dX12_hangs_27 : decode cX12_hangs 27 = .ok (.iload 6, 2) := by decide +kernel
theorem dX12_hangs_29 : decode cX12_hangs 29 = .ok (.aload_n 0, 1) := by decide +kernel
theorem dX12_hangs_30 : decode cX12_hangs 30 = .ok (.getfield 160, 3) := by decide +kernel
theorem dX12_hangs_33 : decode cX12_hangs 33 = .ok (.if_icmp .ge 41, 3) := by decide +kernel
theorem dX12_hangs_36 : decode cX12_hangs 36 = .ok (.iload 5, 2) := by decide +kernel
theorem dX12_hangs_38 : decode cX12_hangs 38 = .ok (.aload_n 0, 1) := by decide +kernel
theorem dX12_hangs_39 : decode cX12_hangs 39 = .ok (.getfield 44, 3) := by decide +kernel
theorem dX12_hangs_42 : decode cX12_hangs 42 = .ok (.iload 6, 2) := by decide +kernel
theorem dX12_hangs_44 : decode cX12_hangs 44 = .ok (.iaload, 1) := by decide +kernel
theorem dX12_hangs_45 : decode cX12_hangs 45 = .ok (.iconst 1, 1) := by decide +kernel
theorem dX12_hangs_46 : decode cX12_hangs 46 = .ok (.if_icmp .ne 18, 3) := by decide +kernel
theorem dX12_hangs_49 : decode cX12_hangs 49 = .ok (.iload 4, 2) := by decide +kernel
theorem dX12_hangs_51 : decode cX12_hangs 51 = .ok (.iload 6, 2) := by decide +kernel
theorem dX12_hangs_53 : decode cX12_hangs 53 = .ok (.ishr, 1) := by decide +kernel
theorem dX12_hangs_54 : decode cX12_hangs 54 = .ok (.iconst 1, 1) := by decide +kernel
theorem dX12_hangs_55 : decode cX12_hangs 55 = .ok (.iand, 1) := by decide +kernel
theorem dX12_hangs_56 : decode cX12_hangs 56 = .ok (.iconst 1, 1) := by decide +kernel
theorem dX12_hangs_57 : decode cX12_hangs 57 = .ok (.if_icmp .ne 7, 3) := by decide +kernel
theorem dX12_hangs_60 : decode cX12_hangs 60 = .ok (.iconst 1, 1) := by decide +kernel
theorem dX12_hangs_61 : decode cX12_hangs 61 = .ok (.goto 4, 3) := by decide +kernel
theorem dX12_hangs_64 : decode cX12_hangs 64 = .ok (.iconst 0, 1) := by decide +kernel
theorem dX12_hangs_65 : decode cX12_hangs 65 = .ok (.iadd, 1) := by decide +kernel
theorem dX12_hangs_66 : decode cX12_hangs 66 = .ok (.istore 5, 2) := by decide +kernel
theorem dX12_hangs_68 : decode cX12_hangs 68 = .ok (.iinc 6 1, 3) := by decide +kernel
theorem dX12_hangs_71 : decode cX12_hangs 71 = .ok (.goto (-44), 3) := by decide +kernel
theorem dX12_hangs_74 : decode cX12_hangs 74 = .ok (.iload 5, 2) := by decide +kernel
theorem dX12_hangs_76 : decode cX12_hangs 76 = .ok (.iload_n 2, 1) := by decide +kernel
theorem dX12_hangs_77 : decode cX12_hangs 77 = .ok (.if_icmp .gt 6, 3) := by decide +kernel
theorem dX12_hangs_80 : decode cX12_hangs 80 = .ok (.goto 8, 3) := by decide +kernel
theorem dX12_hangs_83 : decode cX12_hangs 83 = .ok (.iload 5, 2) := by decide +kernel
theorem dX12_hangs_85 : decode cX12_hangs 85 = .ok (.istore_n 2, 1) := by decide +kernel
theorem dX12_hangs_86 : decode cX12_hangs 86 = .ok (.iload_n 3, 1) := by decide +kernel
theorem dX12_hangs_87 : decode cX12_hangs 87 = .ok (.istore_n 1, 1) := by decide +kernel
theorem dX12_hangs_88 : decode cX12_hangs 88 = .ok (.iinc 3 1, 3) := by decide +kernel
theorem dX12_hangs_91 : decode cX12_hangs 91 = .ok (.goto (-85), 3) := by decide +kernel
theorem dX12_hangs_94 : decode cX12_hangs 94 = .ok (.iload_n 1, 1) := by decide +kernel
theorem dX12_hangs_95 : decode cX12_hangs 95 = .ok (.ireturn, 1) := by decide +kernel
theorem sb_wsX12_bite_wsX12_bite_r1 : ∀ w ∈ wsX12_bite_r1, w ∈ wsX12_bite := fun _ h => (List.mem_cons_of_mem _ (List.mem_append_left _ (List.mem_append_left _ h)))
theorem sb_wsX12_bite_wsX12_bite_r2 : ∀ w ∈ wsX12_bite_r2, w ∈ wsX12_bite := fun _ h => (List.mem_cons_of_mem _ (List.mem_append_left _ (List.mem_append_right _ (List.mem_append_left _ h))))
theorem sb_wsX12_bite_wsX12_bite_r3 : ∀ w ∈ wsX12_bite_r3, w ∈ wsX12_bite := fun _ h => (List.mem_cons_of_mem _ (List.mem_append_left _ (List.mem_append_right _ (List.mem_append_right _ (List.mem_append_left _ h)))))
theorem sb_wsX12_bite_wsX12_bite_r4 : ∀ w ∈ wsX12_bite_r4, w ∈ wsX12_bite := fun _ h => (List.mem_cons_of_mem _ (List.mem_append_left _ (List.mem_append_right _ (List.mem_append_right _ (List.mem_append_right _ (List.mem_append_left _ h))))))
theorem sb_wsX12_bite_wsX12_bite_r5 : ∀ w ∈ wsX12_bite_r5, w ∈ wsX12_bite := fun _ h => (List.mem_cons_of_mem _ (List.mem_append_left _ (List.mem_append_right _ (List.mem_append_right _ (List.mem_append_right _ (List.mem_append_right _ (List.mem_append_left _ h)))))))
theorem sb_wsX12_bite_wsX12_bite_r6 : ∀ w ∈ wsX12_bite_r6, w ∈ wsX12_bite := fun _ h => (List.mem_cons_of_mem _ (List.mem_append_left _ (List.mem_append_right _ (List.mem_append_right _ (List.mem_append_right _ (List.mem_append_right _ (List.mem_append_right _ (List.mem_append_left _ h))))))))
theorem sb_wsX12_bite_wsX12_bite_r7 : ∀ w ∈ wsX12_bite_r7, w ∈ wsX12_bite := fun _ h => (List.mem_cons_of_mem _ (List.mem_append_left _ (List.mem_append_right _ (List.mem_append_right _ (List.mem_append_right _ (List.mem_append_right _ (List.mem_append_right _ (List.mem_append_right _ h))))))))
theorem sb_wsX12_bite_wsX120 : ∀ w ∈ wsX120, w ∈ wsX12_bite := fun _ h => (List.mem_cons_of_mem _ (List.mem_append_right _ h))
set_option maxRecDepth 20000 in
theorem ggX12_bite_X12_isMachine : GoodIn wsX12_bite wsX12_isMachine := goodIn_sub (x_mc (sb_wsX12_bite_wsX12_bite_r1 _ (List.mem_of_getElem? (i := 15) rfl)) (x_ina (x_mc (sb_wsX12_bite_wsX12_bite_r1 _ (List.mem_of_getElem? (i := 4) rfl)) (x_mc (sb_wsX12_bite_wsX12_bite_r1 _ (List.mem_of_getElem? (i := 16) rfl)) (x_mc (sb_wsX12_bite_wsX12_bite_r1 _ (List.mem_of_getElem? (i := 17) rfl)) (x_mc (sb_wsX12_bite_wsX12_bite_r1 _ (List.mem_of_getElem? (i := 14) rfl)) (x_mc (sb_wsX12_bite_wsX12_bite_r1 _ (List.mem_of_getElem? (i := 18) rfl)) x_mn))))) (fun _ h => sb_wsX12_bite_wsX120 _ h))) (by decide +kernel)
set_option maxRecDepth 20000 in
theorem gX12_bite_X12_isMachine : GoodIn wsX12_bite (wsV RX12 183 RX12 yX12_isMachine wsX12_isMachine) := goodIn_app (goodIn_of _ (by decide +kernel)) ggX12_bite_X12_isMachine
set_option maxRecDepth 20000 in
theorem ggX12_bite_X12_in : GoodIn wsX12_bite wsX12_in := goodIn_sub (x_mc (sb_wsX12_bite_wsX12_bite_r1 _ (List.mem_of_getElem? (i := 18) rfl)) x_mn) (by decide +kernel)
set_option maxRecDepth 20000 in
theorem gX12_bite_X12_in : GoodIn wsX12_bite (va_wsS RX12 156 yX12_in wsX12_in) := goodIn_app (goodIn_of _ (by decide +kernel)) ggX12_bite_X12_in
set_option maxRecDepth 20000 in
theorem ggX12_bite_X12_lays : GoodIn wsX12_bite wsX12_lays := goodIn_sub (x_mc (sb_wsX12_bite_wsX12_bite_r1 _ (List.mem_of_getElem? (i := 22) rfl)) (x_ina (x_ina (x_mc (sb_wsX12_bite_wsX12_bite_r1 _ (List.mem_of_getElem? (i := 23) rfl)) (x_mc (sb_wsX12_bite_wsX12_bite_r2 _ (List.mem_of_getElem? (i := 0) rfl)) (x_mc (sb_wsX12_bite_wsX12_bite_r2 _ (List.mem_of_getElem? (i := 1) rfl)) (x_mc (sb_wsX12_bite_wsX12_bite_r1 _ (List.mem_of_getElem? (i := 7) rfl)) (x_mc (sb_wsX12_bite_wsX12_bite_r2 _ (List.mem_of_getElem? (i := 2) rfl)) (x_mc (sb_wsX12_bite_wsX12_bite_r2 _ (List.mem_of_getElem? (i := 3) rfl)) (x_mc (sb_wsX12_bite_wsX12_bite_r2 _ (List.mem_of_getElem? (i := 4) rfl)) (x_mc (sb_wsX12_bite_wsX12_bite_r2 _ (List.mem_of_getElem? (i := 5) rfl)) (x_mc (sb_wsX12_bite_wsX12_bite_r2 _ (List.mem_of_getElem? (i := 6) rfl)) (x_mc (sb_wsX12_bite_wsX12_bite_r2 _ (List.mem_of_getElem? (i := 7) rfl)) (x_mc (sb_wsX12_bite_wsX12_bite_r2 _ (List.mem_of_getElem? (i := 8) rfl)) (x_mc (sb_wsX12_bite_wsX12_bite_r2 _ (List.mem_of_getElem? (i := 9) rfl)) (x_mc (sb_wsX12_bite_wsX12_bite_r1 _ (List.mem_of_getElem? (i := 14) rfl)) (x_mc (sb_wsX12_bite_wsX12_bite_r2 _ (List.mem_of_getElem? (i := 10) rfl)) (x_mc (sb_wsX12_bite_wsX12_bite_r2 _ (List.mem_of_getElem? (i := 11) rfl)) (x_mc (sb_wsX12_bite_wsX12_bite_r2 _ (List.mem_of_getElem? (i := 12) rfl)) (x_mc (sb_wsX12_bite_wsX12_bite_r2 _ (List.mem_of_getElem? (i := 13) rfl)) (x_mc (sb_wsX12_bite_wsX12_bite_r2 _ (List.mem_of_getElem? (i := 14) rfl)) (x_mc (sb_wsX12_bite_wsX12_bite_r2 _ (List.mem_of_getElem? (i := 15) rfl)) (x_mc (sb_wsX12_bite_wsX12_bite_r2 _ (List.mem_of_getElem? (i := 16) rfl)) (x_mc (sb_wsX12_bite_wsX12_bite_r2 _ (List.mem_of_getElem? (i := 17) rfl)) (x_mc (sb_wsX12_bite_wsX12_bite_r2 _ (List.mem_of_getElem? (i := 18) rfl)) (x_mc (sb_wsX12_bite_wsX12_bite_r2 _ (List.mem_of_getElem? (i := 19) rfl)) (x_mc (sb_wsX12_bite_wsX12_bite_r2 _ (List.mem_of_getElem? (i := 20) rfl)) x_mn)))))))))))))))))))))))) (x_mc (sb_wsX12_bite_wsX12_bite_r2 _ (List.mem_of_getElem? (i := 21) rfl)) (x_mc (sb_wsX12_bite_wsX12_bite_r2 _ (List.mem_of_getElem? (i := 22) rfl)) x_mn))) (fun _ h => sb_wsX12_bite_wsX120 _ h))) (by decide +kernel)
set_option maxRecDepth 20000 in
theorem gX12_bite_X12_lays : GoodIn wsX12_bite (wsV RX12 247 RX12 yX12_lays wsX12_lays) := goodIn_app (goodIn_of _ (by decide +kernel)) ggX12_bite_X12_lays
set_option maxRecDepth 20000 in
theorem ggX12_bite_X12_allLoaded : GoodIn wsX12_bite wsX12_allLoaded := goodIn_sub (x_mc (sb_wsX12_bite_wsX12_bite_r3 _ (List.mem_of_getElem? (i := 2) rfl)) (x_ina (x_mc (sb_wsX12_bite_wsX12_bite_r1 _ (List.mem_of_getElem? (i := 4) rfl)) (x_mc (sb_wsX12_bite_wsX12_bite_r3 _ (List.mem_of_getElem? (i := 3) rfl)) (x_mc (sb_wsX12_bite_wsX12_bite_r3 _ (List.mem_of_getElem? (i := 4) rfl)) (x_mc (sb_wsX12_bite_wsX12_bite_r3 _ (List.mem_of_getElem? (i := 5) rfl)) (x_mc (sb_wsX12_bite_wsX12_bite_r1 _ (List.mem_of_getElem? (i := 14) rfl)) (x_mc (sb_wsX12_bite_wsX12_bite_r3 _ (List.mem_of_getElem? (i := 6) rfl)) (x_mc (sb_wsX12_bite_wsX12_bite_r1 _ (List.mem_of_getElem? (i := 6) rfl)) (x_mc (sb_wsX12_bite_wsX12_bite_r1 _ (List.mem_of_getElem? (i := 9) rfl)) (x_mc (sb_wsX12_bite_wsX12_bite_r1 _ (List.mem_of_getElem? (i := 1) rfl)) (x_mc (sb_wsX12_bite_wsX12_bite_r1 _ (List.mem_of_getElem? (i := 2) rfl)) (x_mc (sb_wsX12_bite_wsX12_bite_r1 _ (List.mem_of_getElem? (i := 5) rfl)) (x_mc (sb_wsX12_bite_wsX12_bite_r3 _ (List.mem_of_getElem? (i := 7) rfl)) (x_mc (sb_wsX12_bite_wsX12_bite_r3 _ (List.mem_of_getElem? (i := 8) rfl)) (x_mc (sb_wsX12_bite_wsX12_bite_r3 _ (List.mem_of_getElem? (i := 9) rfl)) (x_mc (sb_wsX12_bite_wsX12_bite_r3 _ (List.mem_of_getElem? (i := 10) rfl)) (x_mc (sb_wsX12_bite_wsX12_bite_r3 _ (List.mem_of_getElem? (i := 11) rfl)) (x_mc (sb_wsX12_bite_wsX12_bite_r1 _ (List.mem_of_getElem? (i := 23) rfl)) (x_mc (sb_wsX12_bite_wsX12_bite_r2 _ (List.mem_of_getElem? (i := 1) rfl)) (x_mc (sb_wsX12_bite_wsX12_bite_r3 _ (List.mem_of_getElem? (i := 12) rfl)) x_mn))))))))))))))))))) (fun _ h => sb_wsX12_bite_wsX120 _ h))) (by decide +kernel)
set_option maxRecDepth 20000 in
theorem gX12_bite_X12_allLoaded : GoodIn wsX12_bite (wsV RX12 269 RX12 yX12_allLoaded wsX12_allLoaded) := goodIn_app (goodIn_of _ (by decide +kernel)) ggX12_bite_X12_allLoaded
set_option maxRecDepth 20000 in
theorem ggX12_bite_X12_cutTurns : GoodIn wsX12_bite wsX12_cutTurns := goodIn_sub (x_mc (sb_wsX12_bite_wsX12_bite_r3 _ (List.mem_of_getElem? (i := 11) rfl)) (x_ina (x_mc (sb_wsX12_bite_wsX12_bite_r1 _ (List.mem_of_getElem? (i := 23) rfl)) (x_mc (sb_wsX12_bite_wsX12_bite_r2 _ (List.mem_of_getElem? (i := 1) rfl)) (x_mc (sb_wsX12_bite_wsX12_bite_r3 _ (List.mem_of_getElem? (i := 12) rfl)) x_mn))) (fun _ h => sb_wsX12_bite_wsX120 _ h))) (by decide +kernel)
set_option maxRecDepth 20000 in
theorem gX12_bite_X12_cutTurns : GoodIn wsX12_bite (wsV RX12 219 RX12 yX12_cutTurns wsX12_cutTurns) := goodIn_app (goodIn_of _ (by decide +kernel)) ggX12_bite_X12_cutTurns
set_option maxRecDepth 20000 in
theorem ggX12_bite_X12_read : GoodIn wsX12_bite wsX12_read := goodIn_sub (x_mc (sb_wsX12_bite_wsX12_bite_r3 _ (List.mem_of_getElem? (i := 16) rfl)) (x_ina (x_ina (x_mc (sb_wsX12_bite_wsX12_bite_r3 _ (List.mem_of_getElem? (i := 17) rfl)) (x_mc (sb_wsX12_bite_wsX12_bite_r3 _ (List.mem_of_getElem? (i := 18) rfl)) (x_mc (sb_wsX12_bite_wsX12_bite_r3 _ (List.mem_of_getElem? (i := 19) rfl)) (x_mc (sb_wsX12_bite_wsX12_bite_r3 _ (List.mem_of_getElem? (i := 20) rfl)) (x_mc (sb_wsX12_bite_wsX12_bite_r3 _ (List.mem_of_getElem? (i := 21) rfl)) (x_mc (sb_wsX12_bite_wsX12_bite_r3 _ (List.mem_of_getElem? (i := 22) rfl)) (x_mc (sb_wsX12_bite_wsX12_bite_r3 _ (List.mem_of_getElem? (i := 23) rfl)) (x_mc (sb_wsX12_bite_wsX12_bite_r4 _ (List.mem_of_getElem? (i := 0) rfl)) (x_mc (sb_wsX12_bite_wsX12_bite_r4 _ (List.mem_of_getElem? (i := 1) rfl)) (x_mc (sb_wsX12_bite_wsX12_bite_r4 _ (List.mem_of_getElem? (i := 2) rfl)) (x_mc (sb_wsX12_bite_wsX12_bite_r4 _ (List.mem_of_getElem? (i := 3) rfl)) (x_mc (sb_wsX12_bite_wsX12_bite_r4 _ (List.mem_of_getElem? (i := 4) rfl)) (x_mc (sb_wsX12_bite_wsX12_bite_r4 _ (List.mem_of_getElem? (i := 5) rfl)) (x_mc (sb_wsX12_bite_wsX12_bite_r4 _ (List.mem_of_getElem? (i := 6) rfl)) (x_mc (sb_wsX12_bite_wsX12_bite_r4 _ (List.mem_of_getElem? (i := 7) rfl)) (x_mc (sb_wsX12_bite_wsX12_bite_r4 _ (List.mem_of_getElem? (i := 8) rfl)) (x_mc (sb_wsX12_bite_wsX12_bite_r4 _ (List.mem_of_getElem? (i := 9) rfl)) (x_mc (sb_wsX12_bite_wsX12_bite_r4 _ (List.mem_of_getElem? (i := 10) rfl)) (x_mc (sb_wsX12_bite_wsX12_bite_r4 _ (List.mem_of_getElem? (i := 11) rfl)) (x_mc (sb_wsX12_bite_wsX12_bite_r1 _ (List.mem_of_getElem? (i := 14) rfl)) (x_mc (sb_wsX12_bite_wsX12_bite_r4 _ (List.mem_of_getElem? (i := 12) rfl)) (x_mc (sb_wsX12_bite_wsX12_bite_r4 _ (List.mem_of_getElem? (i := 13) rfl)) (x_mc (sb_wsX12_bite_wsX12_bite_r4 _ (List.mem_of_getElem? (i := 14) rfl)) (x_mc (sb_wsX12_bite_wsX12_bite_r4 _ (List.mem_of_getElem? (i := 15) rfl)) x_mn)))))))))))))))))))))))) (x_ina (x_mc (sb_wsX12_bite_wsX12_bite_r4 _ (List.mem_of_getElem? (i := 16) rfl)) (x_mc (sb_wsX12_bite_wsX12_bite_r4 _ (List.mem_of_getElem? (i := 17) rfl)) (x_mc (sb_wsX12_bite_wsX12_bite_r4 _ (List.mem_of_getElem? (i := 18) rfl)) (x_mc (sb_wsX12_bite_wsX12_bite_r4 _ (List.mem_of_getElem? (i := 19) rfl)) (x_mc (sb_wsX12_bite_wsX12_bite_r4 _ (List.mem_of_getElem? (i := 20) rfl)) (x_mc (sb_wsX12_bite_wsX12_bite_r4 _ (List.mem_of_getElem? (i := 21) rfl)) (x_mc (sb_wsX12_bite_wsX12_bite_r4 _ (List.mem_of_getElem? (i := 22) rfl)) (x_mc (sb_wsX12_bite_wsX12_bite_r4 _ (List.mem_of_getElem? (i := 23) rfl)) (x_mc (sb_wsX12_bite_wsX12_bite_r5 _ (List.mem_of_getElem? (i := 0) rfl)) (x_mc (sb_wsX12_bite_wsX12_bite_r5 _ (List.mem_of_getElem? (i := 1) rfl)) (x_mc (sb_wsX12_bite_wsX12_bite_r5 _ (List.mem_of_getElem? (i := 2) rfl)) (x_mc (sb_wsX12_bite_wsX12_bite_r5 _ (List.mem_of_getElem? (i := 3) rfl)) (x_mc (sb_wsX12_bite_wsX12_bite_r1 _ (List.mem_of_getElem? (i := 16) rfl)) (x_mc (sb_wsX12_bite_wsX12_bite_r1 _ (List.mem_of_getElem? (i := 17) rfl)) (x_mc (sb_wsX12_bite_wsX12_bite_r1 _ (List.mem_of_getElem? (i := 18) rfl)) (x_mc (sb_wsX12_bite_wsX12_bite_r5 _ (List.mem_of_getElem? (i := 4) rfl)) (x_mc (sb_wsX12_bite_wsX12_bite_r5 _ (List.mem_of_getElem? (i := 5) rfl)) (x_mc (sb_wsX12_bite_wsX12_bite_r5 _ (List.mem_of_getElem? (i := 6) rfl)) (x_mc (sb_wsX12_bite_wsX12_bite_r5 _ (List.mem_of_getElem? (i := 7) rfl)) (x_mc (sb_wsX12_bite_wsX12_bite_r5 _ (List.mem_of_getElem? (i := 8) rfl)) (x_mc (sb_wsX12_bite_wsX12_bite_r5 _ (List.mem_of_getElem? (i := 9) rfl)) (x_mc (sb_wsX12_bite_wsX12_bite_r5 _ (List.mem_of_getElem? (i := 10) rfl)) (x_mc (sb_wsX12_bite_wsX12_bite_r5 _ (List.mem_of_getElem? (i := 11) rfl)) (x_mc (sb_wsX12_bite_wsX12_bite_r5 _ (List.mem_of_getElem? (i := 12) rfl)) x_mn)))))))))))))))))))))))) (x_ina (x_mc (sb_wsX12_bite_wsX12_bite_r5 _ (List.mem_of_getElem? (i := 13) rfl)) (x_mc (sb_wsX12_bite_wsX12_bite_r5 _ (List.mem_of_getElem? (i := 14) rfl)) (x_mc (sb_wsX12_bite_wsX12_bite_r5 _ (List.mem_of_getElem? (i := 15) rfl)) (x_mc (sb_wsX12_bite_wsX12_bite_r5 _ (List.mem_of_getElem? (i := 16) rfl)) (x_mc (sb_wsX12_bite_wsX12_bite_r5 _ (List.mem_of_getElem? (i := 17) rfl)) (x_mc (sb_wsX12_bite_wsX12_bite_r5 _ (List.mem_of_getElem? (i := 18) rfl)) (x_mc (sb_wsX12_bite_wsX12_bite_r5 _ (List.mem_of_getElem? (i := 19) rfl)) (x_mc (sb_wsX12_bite_wsX12_bite_r5 _ (List.mem_of_getElem? (i := 20) rfl)) (x_mc (sb_wsX12_bite_wsX12_bite_r5 _ (List.mem_of_getElem? (i := 21) rfl)) (x_mc (sb_wsX12_bite_wsX12_bite_r5 _ (List.mem_of_getElem? (i := 22) rfl)) (x_mc (sb_wsX12_bite_wsX12_bite_r5 _ (List.mem_of_getElem? (i := 23) rfl)) (x_mc (sb_wsX12_bite_wsX12_bite_r6 _ (List.mem_of_getElem? (i := 0) rfl)) (x_mc (sb_wsX12_bite_wsX12_bite_r6 _ (List.mem_of_getElem? (i := 1) rfl)) (x_mc (sb_wsX12_bite_wsX12_bite_r6 _ (List.mem_of_getElem? (i := 2) rfl)) (x_mc (sb_wsX12_bite_wsX12_bite_r6 _ (List.mem_of_getElem? (i := 3) rfl)) (x_mc (sb_wsX12_bite_wsX12_bite_r6 _ (List.mem_of_getElem? (i := 4) rfl)) (x_mc (sb_wsX12_bite_wsX12_bite_r6 _ (List.mem_of_getElem? (i := 5) rfl)) (x_mc (sb_wsX12_bite_wsX12_bite_r6 _ (List.mem_of_getElem? (i := 6) rfl)) (x_mc (sb_wsX12_bite_wsX12_bite_r6 _ (List.mem_of_getElem? (i := 7) rfl)) (x_mc (sb_wsX12_bite_wsX12_bite_r6 _ (List.mem_of_getElem? (i := 8) rfl)) (x_mc (sb_wsX12_bite_wsX12_bite_r6 _ (List.mem_of_getElem? (i := 9) rfl)) (x_mc (sb_wsX12_bite_wsX12_bite_r6 _ (List.mem_of_getElem? (i := 10) rfl)) (x_mc (sb_wsX12_bite_wsX12_bite_r6 _ (List.mem_of_getElem? (i := 11) rfl)) (x_mc (sb_wsX12_bite_wsX12_bite_r6 _ (List.mem_of_getElem? (i := 12) rfl)) x_mn)))))))))))))))))))))))) (x_ina (x_mc (sb_wsX12_bite_wsX12_bite_r6 _ (List.mem_of_getElem? (i := 13) rfl)) (x_mc (sb_wsX12_bite_wsX12_bite_r6 _ (List.mem_of_getElem? (i := 14) rfl)) (x_mc (sb_wsX12_bite_wsX12_bite_r6 _ (List.mem_of_getElem? (i := 15) rfl)) (x_mc (sb_wsX12_bite_wsX12_bite_r6 _ (List.mem_of_getElem? (i := 16) rfl)) (x_mc (sb_wsX12_bite_wsX12_bite_r6 _ (List.mem_of_getElem? (i := 17) rfl)) (x_mc (sb_wsX12_bite_wsX12_bite_r6 _ (List.mem_of_getElem? (i := 18) rfl)) (x_mc (sb_wsX12_bite_wsX12_bite_r6 _ (List.mem_of_getElem? (i := 19) rfl)) (x_mc (sb_wsX12_bite_wsX12_bite_r6 _ (List.mem_of_getElem? (i := 20) rfl)) (x_mc (sb_wsX12_bite_wsX12_bite_r6 _ (List.mem_of_getElem? (i := 21) rfl)) (x_mc (sb_wsX12_bite_wsX12_bite_r6 _ (List.mem_of_getElem? (i := 22) rfl)) (x_mc (sb_wsX12_bite_wsX12_bite_r6 _ (List.mem_of_getElem? (i := 23) rfl)) (x_mc (sb_wsX12_bite_wsX12_bite_r7 _ (List.mem_of_getElem? (i := 0) rfl)) (x_mc (sb_wsX12_bite_wsX12_bite_r7 _ (List.mem_of_getElem? (i := 1) rfl)) (x_mc (sb_wsX12_bite_wsX12_bite_r7 _ (List.mem_of_getElem? (i := 2) rfl)) (x_mc (sb_wsX12_bite_wsX12_bite_r7 _ (List.mem_of_getElem? (i := 3) rfl)) (x_mc (sb_wsX12_bite_wsX12_bite_r7 _ (List.mem_of_getElem? (i := 4) rfl)) (x_mc (sb_wsX12_bite_wsX12_bite_r7 _ (List.mem_of_getElem? (i := 5) rfl)) (x_mc (sb_wsX12_bite_wsX12_bite_r7 _ (List.mem_of_getElem? (i := 6) rfl)) (x_mc (sb_wsX12_bite_wsX12_bite_r7 _ (List.mem_of_getElem? (i := 7) rfl)) (x_mc (sb_wsX12_bite_wsX12_bite_r7 _ (List.mem_of_getElem? (i := 8) rfl)) (x_mc (sb_wsX12_bite_wsX12_bite_r7 _ (List.mem_of_getElem? (i := 9) rfl)) (x_mc (sb_wsX12_bite_wsX12_bite_r7 _ (List.mem_of_getElem? (i := 10) rfl)) (x_mc (sb_wsX12_bite_wsX12_bite_r7 _ (List.mem_of_getElem? (i := 11) rfl)) (x_mc (sb_wsX12_bite_wsX12_bite_r7 _ (List.mem_of_getElem? (i := 12) rfl)) x_mn)))))))))))))))))))))))) (x_mc (sb_wsX12_bite_wsX12_bite_r7 _ (List.mem_of_getElem? (i := 13) rfl)) (x_mc (sb_wsX12_bite_wsX12_bite_r7 _ (List.mem_of_getElem? (i := 14) rfl)) (x_mc (sb_wsX12_bite_wsX12_bite_r7 _ (List.mem_of_getElem? (i := 15) rfl)) x_mn))))))) (fun _ h => sb_wsX12_bite_wsX120 _ h))) (by decide +kernel)
set_option maxRecDepth 20000 in
theorem gX12_bite_X12_read : GoodIn wsX12_bite (wsV RX12 239 RX12 yX12_read wsX12_read) := goodIn_app (goodIn_of _ (by decide +kernel)) ggX12_bite_X12_read
theorem dX12_bite_0 : decode cX12_bite 0 = .ok (.aload_n 0, 1) := by decide +kernel
theorem dX12_bite_1 : decode cX12_bite 1 = .ok (.iload_n 1, 1) := by decide +kernel
theorem dX12_bite_2 : decode cX12_bite 2 = .ok (.invokevirtual 183, 3) := by decide +kernel
theorem dX12_bite_5 : decode cX12_bite 5 = .ok (.ifCond .eq 15, 3) := by decide +kernel
theorem dX12_bite_8 : decode cX12_bite 8 = .ok (.iload_n 2, 1) := by decide +kernel
theorem dX12_bite_9 : decode cX12_bite 9 = .ok (.i2l, 1) := by decide +kernel
theorem dX12_bite_10 : decode cX12_bite 10 = .ok (.lconst 0, 1) := by decide +kernel
theorem dX12_bite_11 : decode cX12_bite 11 = .ok (.ldc2_w 171, 3) := by decide +kernel
theorem dX12_bite_14 : decode cX12_bite 14 = .ok (.invokestatic 156, 3) := by decide +kernel
theorem dX12_bite_17 : decode cX12_bite 17 = .ok (.ifCond .ne 6, 3) := by decide +kernel
theorem dX12_bite_20 : decode cX12_bite 20 = .ok (.bipush (-2), 2) := by decide +kernel
theorem dX12_bite_22 : decode cX12_bite 22 = .ok (.ireturn, 1) := by decide +kernel
theorem dX12_bite_23 : decode cX12_bite 23 = .ok (.aload_n 0, 1) := by decide +kernel
theorem dX12_bite_24 : decode cX12_bite 24 = .ok (.invokevirtual 247, 3) := by decide +kernel
theorem dX12_bite_27 : decode cX12_bite 27 = .ok (.aload_n 0, 1) := by decide +kernel
theorem dX12_bite_28 : decode cX12_bite 28 = .ok (.iload_n 1, 1) := by decide +kernel
theorem dX12_bite_29 : decode cX12_bite 29 = .ok (.putfield 84, 3) := by decide +kernel
theorem dX12_bite_32 : decode cX12_bite 32 = .ok (.aload_n 0, 1) := by decide +kernel
theorem dX12_bite_33 : decode cX12_bite 33 = .ok (.iload_n 2, 1) := by decide +kernel
theorem dX12_bite_34 : decode cX12_bite 34 = .ok (.putfield 216, 3) := by decide +kernel
theorem dX12_bite_37 : decode cX12_bite 37 = .ok (.aload_n 0, 1) := by decide +kernel
theorem dX12_bite_38 : decode cX12_bite 38 = .ok (.invokevirtual 269, 3) := by decide +kernel
theorem dX12_bite_41 : decode cX12_bite 41 = .ok (.i2l, 1) := by decide +kernel
theorem dX12_bite_42 : decode cX12_bite 42 = .ok (.lstore_n 3, 1) := by decide +kernel
theorem dX12_bite_43 : decode cX12_bite 43 = .ok (.aload_n 0, 1) := by decide +kernel
theorem dX12_bite_44 : decode cX12_bite 44 = .ok (.iconst (-1), 1) := by decide +kernel
theorem dX12_bite_45 : decode cX12_bite 45 = .ok (.putfield 84, 3) := by decide +kernel
theorem dX12_bite_48 : decode cX12_bite 48 = .ok (.lload_n 3, 1) := by decide +kernel
theorem dX12_bite_49 : decode cX12_bite 49 = .ok (.aload_n 0, 1) := by decide +kernel
theorem dX12_bite_50 : decode cX12_bite 50 = .ok (.getfield 148, 3) := by decide +kernel
theorem dX12_bite_53 : decode cX12_bite 53 = .ok (.i2l, 1) := by decide +kernel
theorem dX12_bite_54 : decode cX12_bite 54 = .ok (.lcmp, 1) := by decide +kernel
theorem dX12_bite_55 : decode cX12_bite 55 = .ok (.ifCond .gt 5, 3) := by decide +kernel
theorem dX12_bite_58 : decode cX12_bite 58 = .ok (.iconst 0, 1) := by decide +kernel
theorem dX12_bite_59 : decode cX12_bite 59 = .ok (.ireturn, 1) := by decide +kernel
theorem dX12_bite_60 : decode cX12_bite 60 = .ok (.iconst 0, 1) := by decide +kernel
theorem dX12_bite_61 : decode cX12_bite 61 = .ok (.istore 5, 2) := by decide +kernel
theorem dX12_bite_63 : decode cX12_bite 63 = .ok (.iconst 0, 1) := by decide +kernel
theorem dX12_bite_64 : decode cX12_bite 64 = .ok (.istore 6, 2) := by decide +kernel
theorem dX12_bite_66 : decode cX12_bite 66 = .ok (.iload 6, 2) := by decide +kernel
theorem dX12_bite_68 : decode cX12_bite 68 = .ok (.aload_n 0, 1) := by decide +kernel
theorem dX12_bite_69 : decode cX12_bite 69 = .ok (.getfield 160, 3) := by decide +kernel
theorem dX12_bite_72 : decode cX12_bite 72 = .ok (.if_icmp .ge 116, 3) := by decide +kernel
theorem dX12_bite_75 : decode cX12_bite 75 = .ok (.aload_n 0, 1) := by decide +kernel
theorem dX12_bite_76 : decode cX12_bite 76 = .ok (.getfield 29, 3) := by decide +kernel
theorem dX12_bite_79 : decode cX12_bite 79 = .ok (.iload 6, 2) := by decide +kernel
theorem dX12_bite_81 : decode cX12_bite 81 = .ok (.iaload, 1) := by decide +kernel
theorem dX12_bite_82 : decode cX12_bite 82 = .ok (.istore 7, 2) := by decide +kernel
theorem dX12_bite_84 : decode cX12_bite 84 = .ok (.iload 6, 2) := by decide +kernel
theorem dX12_bite_86 : decode cX12_bite 86 = .ok (.iload_n 1, 1) := by decide +kernel
theorem dX12_bite_87 : decode cX12_bite 87 = .ok (.if_icmp .eq 95, 3) := by decide +kernel
theorem dX12_bite_90 : decode cX12_bite 90 = .ok (.aload_n 0, 1) := by decide +kernel
theorem dX12_bite_91 : decode cX12_bite 91 = .ok (.getfield 44, 3) := by decide +kernel
theorem dX12_bite_94 : decode cX12_bite 94 = .ok (.iload 6, 2) := by decide +kernel
theorem dX12_bite_96 : decode cX12_bite 96 = .ok (.iaload, 1) := by decide +kernel
theorem dX12_bite_97 : decode cX12_bite 97 = .ok (.ifCond .eq 85, 3) := by decide +kernel
theorem dX12_bite_100 : decode cX12_bite 100 = .ok (.aload_n 0, 1) := by decide +kernel
theorem dX12_bite_101 : decode cX12_bite 101 = .ok (.getfield 81, 3) := by decide +kernel
theorem dX12_bite_104 : decode cX12_bite 104 = .ok (.iload 7, 2) := by decide +kernel
theorem dX12_bite_106 : decode cX12_bite 106 = .ok (.iaload, 1) := by decide +kernel
theorem dX12_bite_107 : decode cX12_bite 107 = .ok (.ifCond .ne 6, 3) := by decide +kernel
theorem dX12_bite_110 : decode cX12_bite 110 = .ok (.goto 72, 3) := by decide +kernel
theorem dX12_bite_113 : decode cX12_bite 113 = .ok (.lload_n 3, 1) := by decide +kernel
theorem dX12_bite_114 : decode cX12_bite 114 = .ok (.aload_n 0, 1) := by decide +kernel
theorem dX12_bite_115 : decode cX12_bite 115 = .ok (.getfield 148, 3) := by decide +kernel
theorem dX12_bite_118 : decode cX12_bite 118 = .ok (.i2l, 1) := by decide +kernel
theorem dX12_bite_119 : decode cX12_bite 119 = .ok (.lsub, 1) := by decide +kernel
theorem dX12_bite_120 : decode cX12_bite 120 = .ok (.aload_n 0, 1) := by decide +kernel
theorem dX12_bite_121 : decode cX12_bite 121 = .ok (.iload 7, 2) := by decide +kernel
theorem dX12_bite_123 : decode cX12_bite 123 = .ok (.invokevirtual 219, 3) := by decide +kernel
theorem dX12_bite_126 : decode cX12_bite 126 = .ok (.i2l, 1) := by decide +kernel
theorem dX12_bite_127 : decode cX12_bite 127 = .ok (.lmul, 1) := by decide +kernel
theorem dX12_bite_128 : decode cX12_bite 128 = .ok (.lload_n 3, 1) := by decide +kernel
theorem dX12_bite_129 : decode cX12_bite 129 = .ok (.ldiv, 1) := by decide +kernel
theorem dX12_bite_130 : decode cX12_bite 130 = .ok (.l2i, 1) := by decide +kernel
theorem dX12_bite_131 : decode cX12_bite 131 = .ok (.istore 8, 2) := by decide +kernel
theorem dX12_bite_133 : decode cX12_bite 133 = .ok (.iload 5, 2) := by decide +kernel
theorem dX12_bite_135 : decode cX12_bite 135 = .ok (.aload_n 0, 1) := by decide +kernel
theorem dX12_bite_136 : decode cX12_bite 136 = .ok (.aload_n 0, 1) := by decide +kernel
theorem dX12_bite_137 : decode cX12_bite 137 = .ok (.getfield 236, 3) := by decide +kernel
theorem dX12_bite_140 : decode cX12_bite 140 = .ok (.iconst 0, 1) := by decide +kernel
theorem dX12_bite_141 : decode cX12_bite 141 = .ok (.aload_n 0, 1) := by decide +kernel
theorem dX12_bite_142 : decode cX12_bite 142 = .ok (.iload 7, 2) := by decide +kernel
theorem dX12_bite_144 : decode cX12_bite 144 = .ok (.invokevirtual 219, 3) := by decide +kernel
theorem dX12_bite_147 : decode cX12_bite 147 = .ok (.iload 8, 2) := by decide +kernel
theorem dX12_bite_149 : decode cX12_bite 149 = .ok (.aload_n 0, 1) := by decide +kernel
theorem dX12_bite_150 : decode cX12_bite 150 = .ok (.getfield 32, 3) := by decide +kernel
theorem dX12_bite_153 : decode cX12_bite 153 = .ok (.iload 6, 2) := by decide +kernel
theorem dX12_bite_155 : decode cX12_bite 155 = .ok (.iaload, 1) := by decide +kernel
theorem dX12_bite_156 : decode cX12_bite 156 = .ok (.iconst 0, 1) := by decide +kernel
theorem dX12_bite_157 : decode cX12_bite 157 = .ok (.aload_n 0, 1) := by decide +kernel
theorem dX12_bite_158 : decode cX12_bite 158 = .ok (.getfield 41, 3) := by decide +kernel
theorem dX12_bite_161 : decode cX12_bite 161 = .ok (.iload 6, 2) := by decide +kernel
theorem dX12_bite_163 : decode cX12_bite 163 = .ok (.iaload, 1) := by decide +kernel
theorem dX12_bite_164 : decode cX12_bite 164 = .ok (.iconst 1, 1) := by decide +kernel
theorem dX12_bite_165 : decode cX12_bite 165 = .ok (.invokevirtual 239, 3) := by decide +kernel
theorem dX12_bite_168 : decode cX12_bite 168 = .ok (.ifCond .eq 10, 3) := by decide +kernel
theorem dX12_bite_171 : decode cX12_bite 171 = .ok (.iconst 1, 1) := by decide +kernel
theorem dX12_bite_172 : decode cX12_bite 172 = .ok (.iload 6, 2) := by decide +kernel
theorem dX12_bite_174 : decode cX12_bite 174 = .ok (.ishl, 1) := by decide +kernel
theorem dX12_bite_175 : decode cX12_bite 175 = .ok (.goto 4, 3) := by decide +kernel
theorem dX12_bite_178 : decode cX12_bite 178 = .ok (.iconst 0, 1) := by decide +kernel
theorem dX12_bite_179 : decode cX12_bite 179 = .ok (.ior, 1) := by decide +kernel
theorem dX12_bite_180 : decode cX12_bite 180 = .ok (.istore 5, 2) := by decide +kernel
theorem dX12_bite_182 : decode cX12_bite 182 = .ok (.iinc 6 1, 3) := by decide +kernel
theorem dX12_bite_185 : decode cX12_bite 185 = .ok (.goto (-119), 3) := by decide +kernel
theorem dX12_bite_188 : decode cX12_bite 188 = .ok (.iload 5, 2) := by decide +kernel
theorem dX12_bite_190 : decode cX12_bite 190 = .ok (.ireturn, 1) := by decide +kernel
theorem sb_wsX12_daysOf_wsX12_daysOf_r1 : ∀ w ∈ wsX12_daysOf_r1, w ∈ wsX12_daysOf := fun _ h => (List.mem_cons_of_mem _ (List.mem_append_left _ (List.mem_append_left _ h)))
theorem sb_wsX12_daysOf_wsX12_daysOf_r2 : ∀ w ∈ wsX12_daysOf_r2, w ∈ wsX12_daysOf := fun _ h => (List.mem_cons_of_mem _ (List.mem_append_left _ (List.mem_append_right _ (List.mem_append_left _ h))))
theorem sb_wsX12_daysOf_wsX12_daysOf_r3 : ∀ w ∈ wsX12_daysOf_r3, w ∈ wsX12_daysOf := fun _ h => (List.mem_cons_of_mem _ (List.mem_append_left _ (List.mem_append_right _ (List.mem_append_right _ (List.mem_append_left _ h)))))
theorem sb_wsX12_daysOf_wsX12_daysOf_r4 : ∀ w ∈ wsX12_daysOf_r4, w ∈ wsX12_daysOf := fun _ h => (List.mem_cons_of_mem _ (List.mem_append_left _ (List.mem_append_right _ (List.mem_append_right _ (List.mem_append_right _ (List.mem_append_left _ h))))))
theorem sb_wsX12_daysOf_wsX12_daysOf_r5 : ∀ w ∈ wsX12_daysOf_r5, w ∈ wsX12_daysOf := fun _ h => (List.mem_cons_of_mem _ (List.mem_append_left _ (List.mem_append_right _ (List.mem_append_right _ (List.mem_append_right _ (List.mem_append_right _ (List.mem_append_left _ h)))))))
theorem sb_wsX12_daysOf_wsX12_daysOf_r6 : ∀ w ∈ wsX12_daysOf_r6, w ∈ wsX12_daysOf := fun _ h => (List.mem_cons_of_mem _ (List.mem_append_left _ (List.mem_append_right _ (List.mem_append_right _ (List.mem_append_right _ (List.mem_append_right _ (List.mem_append_right _ (List.mem_append_left _ h))))))))
theorem sb_wsX12_daysOf_wsX12_daysOf_r7 : ∀ w ∈ wsX12_daysOf_r7, w ∈ wsX12_daysOf := fun _ h => (List.mem_cons_of_mem _ (List.mem_append_left _ (List.mem_append_right _ (List.mem_append_right _ (List.mem_append_right _ (List.mem_append_right _ (List.mem_append_right _ (List.mem_append_right _ h))))))))
theorem sb_wsX12_daysOf_wsX120 : ∀ w ∈ wsX120, w ∈ wsX12_daysOf := fun _ h => (List.mem_cons_of_mem _ (List.mem_append_right _ h))
set_option maxRecDepth 20000 in
theorem ggX12_daysOf_X12_wearOf : GoodIn wsX12_daysOf wsX12_wearOf := goodIn_sub (x_mc (sb_wsX12_daysOf_wsX12_daysOf_r1 _ (List.mem_of_getElem? (i := 4) rfl)) (x_ina (x_ina (x_mc (sb_wsX12_daysOf_wsX12_daysOf_r1 _ (List.mem_of_getElem? (i := 5) rfl)) (x_mc (sb_wsX12_daysOf_wsX12_daysOf_r1 _ (List.mem_of_getElem? (i := 6) rfl)) (x_mc (sb_wsX12_daysOf_wsX12_daysOf_r1 _ (List.mem_of_getElem? (i := 7) rfl)) (x_mc (sb_wsX12_daysOf_wsX12_daysOf_r1 _ (List.mem_of_getElem? (i := 8) rfl)) (x_mc (sb_wsX12_daysOf_wsX12_daysOf_r1 _ (List.mem_of_getElem? (i := 9) rfl)) (x_mc (sb_wsX12_daysOf_wsX12_daysOf_r1 _ (List.mem_of_getElem? (i := 10) rfl)) (x_mc (sb_wsX12_daysOf_wsX12_daysOf_r1 _ (List.mem_of_getElem? (i := 11) rfl)) (x_mc (sb_wsX12_daysOf_wsX12_daysOf_r1 _ (List.mem_of_getElem? (i := 12) rfl)) (x_mc (sb_wsX12_daysOf_wsX12_daysOf_r1 _ (List.mem_of_getElem? (i := 13) rfl)) (x_mc (sb_wsX12_daysOf_wsX12_daysOf_r1 _ (List.mem_of_getElem? (i := 14) rfl)) (x_mc (sb_wsX12_daysOf_wsX12_daysOf_r1 _ (List.mem_of_getElem? (i := 15) rfl)) (x_mc (sb_wsX12_daysOf_wsX12_daysOf_r1 _ (List.mem_of_getElem? (i := 16) rfl)) (x_mc (sb_wsX12_daysOf_wsX12_daysOf_r1 _ (List.mem_of_getElem? (i := 3) rfl)) (x_mc (sb_wsX12_daysOf_wsX12_daysOf_r1 _ (List.mem_of_getElem? (i := 17) rfl)) (x_mc (sb_wsX12_daysOf_wsX12_daysOf_r1 _ (List.mem_of_getElem? (i := 18) rfl)) (x_mc (sb_wsX12_daysOf_wsX12_daysOf_r1 _ (List.mem_of_getElem? (i := 19) rfl)) (x_mc (sb_wsX12_daysOf_wsX12_daysOf_r1 _ (List.mem_of_getElem? (i := 20) rfl)) (x_mc (sb_wsX12_daysOf_wsX12_daysOf_r1 _ (List.mem_of_getElem? (i := 21) rfl)) (x_mc (sb_wsX12_daysOf_wsX12_daysOf_r1 _ (List.mem_of_getElem? (i := 22) rfl)) (x_mc (sb_wsX12_daysOf_wsX12_daysOf_r1 _ (List.mem_of_getElem? (i := 23) rfl)) (x_mc (sb_wsX12_daysOf_wsX12_daysOf_r2 _ (List.mem_of_getElem? (i := 0) rfl)) (x_mc (sb_wsX12_daysOf_wsX12_daysOf_r2 _ (List.mem_of_getElem? (i := 1) rfl)) (x_mc (sb_wsX12_daysOf_wsX12_daysOf_r2 _ (List.mem_of_getElem? (i := 2) rfl)) (x_mc (sb_wsX12_daysOf_wsX12_daysOf_r2 _ (List.mem_of_getElem? (i := 3) rfl)) x_mn)))))))))))))))))))))))) (x_ina (x_mc (sb_wsX12_daysOf_wsX12_daysOf_r2 _ (List.mem_of_getElem? (i := 4) rfl)) (x_mc (sb_wsX12_daysOf_wsX12_daysOf_r2 _ (List.mem_of_getElem? (i := 5) rfl)) (x_mc (sb_wsX12_daysOf_wsX12_daysOf_r2 _ (List.mem_of_getElem? (i := 6) rfl)) (x_mc (sb_wsX12_daysOf_wsX12_daysOf_r2 _ (List.mem_of_getElem? (i := 7) rfl)) (x_mc (sb_wsX12_daysOf_wsX12_daysOf_r2 _ (List.mem_of_getElem? (i := 8) rfl)) (x_mc (sb_wsX12_daysOf_wsX12_daysOf_r2 _ (List.mem_of_getElem? (i := 9) rfl)) (x_mc (sb_wsX12_daysOf_wsX12_daysOf_r2 _ (List.mem_of_getElem? (i := 10) rfl)) (x_mc (sb_wsX12_daysOf_wsX12_daysOf_r2 _ (List.mem_of_getElem? (i := 11) rfl)) (x_mc (sb_wsX12_daysOf_wsX12_daysOf_r2 _ (List.mem_of_getElem? (i := 12) rfl)) (x_mc (sb_wsX12_daysOf_wsX12_daysOf_r2 _ (List.mem_of_getElem? (i := 13) rfl)) (x_mc (sb_wsX12_daysOf_wsX12_daysOf_r2 _ (List.mem_of_getElem? (i := 14) rfl)) (x_mc (sb_wsX12_daysOf_wsX12_daysOf_r2 _ (List.mem_of_getElem? (i := 15) rfl)) (x_mc (sb_wsX12_daysOf_wsX12_daysOf_r2 _ (List.mem_of_getElem? (i := 16) rfl)) (x_mc (sb_wsX12_daysOf_wsX12_daysOf_r2 _ (List.mem_of_getElem? (i := 17) rfl)) (x_mc (sb_wsX12_daysOf_wsX12_daysOf_r2 _ (List.mem_of_getElem? (i := 18) rfl)) (x_mc (sb_wsX12_daysOf_wsX12_daysOf_r2 _ (List.mem_of_getElem? (i := 19) rfl)) (x_mc (sb_wsX12_daysOf_wsX12_daysOf_r2 _ (List.mem_of_getElem? (i := 20) rfl)) (x_mc (sb_wsX12_daysOf_wsX12_daysOf_r2 _ (List.mem_of_getElem? (i := 21) rfl)) (x_mc (sb_wsX12_daysOf_wsX12_daysOf_r2 _ (List.mem_of_getElem? (i := 22) rfl)) (x_mc (sb_wsX12_daysOf_wsX12_daysOf_r2 _ (List.mem_of_getElem? (i := 23) rfl)) (x_mc (sb_wsX12_daysOf_wsX12_daysOf_r3 _ (List.mem_of_getElem? (i := 0) rfl)) (x_mc (sb_wsX12_daysOf_wsX12_daysOf_r3 _ (List.mem_of_getElem? (i := 1) rfl)) (x_mc (sb_wsX12_daysOf_wsX12_daysOf_r3 _ (List.mem_of_getElem? (i := 2) rfl)) (x_mc (sb_wsX12_daysOf_wsX12_daysOf_r3 _ (List.mem_of_getElem? (i := 3) rfl)) x_mn)))))))))))))))))))))))) (x_ina (x_mc (sb_wsX12_daysOf_wsX12_daysOf_r3 _ (List.mem_of_getElem? (i := 4) rfl)) (x_mc (sb_wsX12_daysOf_wsX12_daysOf_r3 _ (List.mem_of_getElem? (i := 5) rfl)) (x_mc (sb_wsX12_daysOf_wsX12_daysOf_r3 _ (List.mem_of_getElem? (i := 6) rfl)) (x_mc (sb_wsX12_daysOf_wsX12_daysOf_r3 _ (List.mem_of_getElem? (i := 7) rfl)) (x_mc (sb_wsX12_daysOf_wsX12_daysOf_r3 _ (List.mem_of_getElem? (i := 8) rfl)) (x_mc (sb_wsX12_daysOf_wsX12_daysOf_r3 _ (List.mem_of_getElem? (i := 9) rfl)) (x_mc (sb_wsX12_daysOf_wsX12_daysOf_r3 _ (List.mem_of_getElem? (i := 10) rfl)) (x_mc (sb_wsX12_daysOf_wsX12_daysOf_r3 _ (List.mem_of_getElem? (i := 11) rfl)) (x_mc (sb_wsX12_daysOf_wsX12_daysOf_r3 _ (List.mem_of_getElem? (i := 12) rfl)) (x_mc (sb_wsX12_daysOf_wsX12_daysOf_r3 _ (List.mem_of_getElem? (i := 13) rfl)) (x_mc (sb_wsX12_daysOf_wsX12_daysOf_r3 _ (List.mem_of_getElem? (i := 14) rfl)) (x_mc (sb_wsX12_daysOf_wsX12_daysOf_r3 _ (List.mem_of_getElem? (i := 15) rfl)) (x_mc (sb_wsX12_daysOf_wsX12_daysOf_r3 _ (List.mem_of_getElem? (i := 16) rfl)) (x_mc (sb_wsX12_daysOf_wsX12_daysOf_r3 _ (List.mem_of_getElem? (i := 17) rfl)) (x_mc (sb_wsX12_daysOf_wsX12_daysOf_r3 _ (List.mem_of_getElem? (i := 18) rfl)) (x_mc (sb_wsX12_daysOf_wsX12_daysOf_r3 _ (List.mem_of_getElem? (i := 19) rfl)) (x_mc (sb_wsX12_daysOf_wsX12_daysOf_r3 _ (List.mem_of_getElem? (i := 20) rfl)) (x_mc (sb_wsX12_daysOf_wsX12_daysOf_r3 _ (List.mem_of_getElem? (i := 21) rfl)) (x_mc (sb_wsX12_daysOf_wsX12_daysOf_r3 _ (List.mem_of_getElem? (i := 22) rfl)) (x_mc (sb_wsX12_daysOf_wsX12_daysOf_r3 _ (List.mem_of_getElem? (i := 23) rfl)) (x_mc (sb_wsX12_daysOf_wsX12_daysOf_r4 _ (List.mem_of_getElem? (i := 0) rfl)) (x_mc (sb_wsX12_daysOf_wsX12_daysOf_r4 _ (List.mem_of_getElem? (i := 1) rfl)) (x_mc (sb_wsX12_daysOf_wsX12_daysOf_r4 _ (List.mem_of_getElem? (i := 2) rfl)) (x_mc (sb_wsX12_daysOf_wsX12_daysOf_r4 _ (List.mem_of_getElem? (i := 3) rfl)) x_mn)))))))))))))))))))))))) (x_ina (x_mc (sb_wsX12_daysOf_wsX12_daysOf_r4 _ (List.mem_of_getElem? (i := 4) rfl)) (x_mc (sb_wsX12_daysOf_wsX12_daysOf_r4 _ (List.mem_of_getElem? (i := 5) rfl)) (x_mc (sb_wsX12_daysOf_wsX12_daysOf_r4 _ (List.mem_of_getElem? (i := 6) rfl)) (x_mc (sb_wsX12_daysOf_wsX12_daysOf_r4 _ (List.mem_of_getElem? (i := 7) rfl)) (x_mc (sb_wsX12_daysOf_wsX12_daysOf_r4 _ (List.mem_of_getElem? (i := 8) rfl)) (x_mc (sb_wsX12_daysOf_wsX12_daysOf_r4 _ (List.mem_of_getElem? (i := 9) rfl)) (x_mc (sb_wsX12_daysOf_wsX12_daysOf_r4 _ (List.mem_of_getElem? (i := 10) rfl)) (x_mc (sb_wsX12_daysOf_wsX12_daysOf_r4 _ (List.mem_of_getElem? (i := 11) rfl)) (x_mc (sb_wsX12_daysOf_wsX12_daysOf_r4 _ (List.mem_of_getElem? (i := 12) rfl)) (x_mc (sb_wsX12_daysOf_wsX12_daysOf_r4 _ (List.mem_of_getElem? (i := 13) rfl)) (x_mc (sb_wsX12_daysOf_wsX12_daysOf_r4 _ (List.mem_of_getElem? (i := 14) rfl)) (x_mc (sb_wsX12_daysOf_wsX12_daysOf_r4 _ (List.mem_of_getElem? (i := 15) rfl)) (x_mc (sb_wsX12_daysOf_wsX12_daysOf_r4 _ (List.mem_of_getElem? (i := 16) rfl)) (x_mc (sb_wsX12_daysOf_wsX12_daysOf_r4 _ (List.mem_of_getElem? (i := 17) rfl)) (x_mc (sb_wsX12_daysOf_wsX12_daysOf_r4 _ (List.mem_of_getElem? (i := 18) rfl)) (x_mc (sb_wsX12_daysOf_wsX12_daysOf_r4 _ (List.mem_of_getElem? (i := 19) rfl)) (x_mc (sb_wsX12_daysOf_wsX12_daysOf_r4 _ (List.mem_of_getElem? (i := 20) rfl)) (x_mc (sb_wsX12_daysOf_wsX12_daysOf_r4 _ (List.mem_of_getElem? (i := 21) rfl)) (x_mc (sb_wsX12_daysOf_wsX12_daysOf_r4 _ (List.mem_of_getElem? (i := 22) rfl)) (x_mc (sb_wsX12_daysOf_wsX12_daysOf_r4 _ (List.mem_of_getElem? (i := 23) rfl)) (x_mc (sb_wsX12_daysOf_wsX12_daysOf_r5 _ (List.mem_of_getElem? (i := 0) rfl)) (x_mc (sb_wsX12_daysOf_wsX12_daysOf_r5 _ (List.mem_of_getElem? (i := 1) rfl)) (x_mc (sb_wsX12_daysOf_wsX12_daysOf_r5 _ (List.mem_of_getElem? (i := 2) rfl)) (x_mc (sb_wsX12_daysOf_wsX12_daysOf_r5 _ (List.mem_of_getElem? (i := 3) rfl)) x_mn)))))))))))))))))))))))) (x_ina (x_mc (sb_wsX12_daysOf_wsX12_daysOf_r5 _ (List.mem_of_getElem? (i := 4) rfl)) (x_mc (sb_wsX12_daysOf_wsX12_daysOf_r5 _ (List.mem_of_getElem? (i := 5) rfl)) (x_mc (sb_wsX12_daysOf_wsX12_daysOf_r5 _ (List.mem_of_getElem? (i := 6) rfl)) (x_mc (sb_wsX12_daysOf_wsX12_daysOf_r5 _ (List.mem_of_getElem? (i := 7) rfl)) (x_mc (sb_wsX12_daysOf_wsX12_daysOf_r5 _ (List.mem_of_getElem? (i := 8) rfl)) (x_mc (sb_wsX12_daysOf_wsX12_daysOf_r5 _ (List.mem_of_getElem? (i := 9) rfl)) (x_mc (sb_wsX12_daysOf_wsX12_daysOf_r5 _ (List.mem_of_getElem? (i := 10) rfl)) (x_mc (sb_wsX12_daysOf_wsX12_daysOf_r5 _ (List.mem_of_getElem? (i := 11) rfl)) (x_mc (sb_wsX12_daysOf_wsX12_daysOf_r5 _ (List.mem_of_getElem? (i := 12) rfl)) (x_mc (sb_wsX12_daysOf_wsX12_daysOf_r5 _ (List.mem_of_getElem? (i := 13) rfl)) (x_mc (sb_wsX12_daysOf_wsX12_daysOf_r5 _ (List.mem_of_getElem? (i := 14) rfl)) (x_mc (sb_wsX12_daysOf_wsX12_daysOf_r5 _ (List.mem_of_getElem? (i := 15) rfl)) (x_mc (sb_wsX12_daysOf_wsX12_daysOf_r5 _ (List.mem_of_getElem? (i := 16) rfl)) (x_mc (sb_wsX12_daysOf_wsX12_daysOf_r5 _ (List.mem_of_getElem? (i := 17) rfl)) (x_mc (sb_wsX12_daysOf_wsX12_daysOf_r5 _ (List.mem_of_getElem? (i := 18) rfl)) (x_mc (sb_wsX12_daysOf_wsX12_daysOf_r5 _ (List.mem_of_getElem? (i := 19) rfl)) (x_mc (sb_wsX12_daysOf_wsX12_daysOf_r5 _ (List.mem_of_getElem? (i := 20) rfl)) (x_mc (sb_wsX12_daysOf_wsX12_daysOf_r5 _ (List.mem_of_getElem? (i := 21) rfl)) (x_mc (sb_wsX12_daysOf_wsX12_daysOf_r5 _ (List.mem_of_getElem? (i := 22) rfl)) (x_mc (sb_wsX12_daysOf_wsX12_daysOf_r5 _ (List.mem_of_getElem? (i := 23) rfl)) (x_mc (sb_wsX12_daysOf_wsX12_daysOf_r6 _ (List.mem_of_getElem? (i := 0) rfl)) (x_mc (sb_wsX12_daysOf_wsX12_daysOf_r6 _ (List.mem_of_getElem? (i := 1) rfl)) (x_mc (sb_wsX12_daysOf_wsX12_daysOf_r6 _ (List.mem_of_getElem? (i := 2) rfl)) (x_mc (sb_wsX12_daysOf_wsX12_daysOf_r6 _ (List.mem_of_getElem? (i := 3) rfl)) x_mn)))))))))))))))))))))))) (x_ina (x_mc (sb_wsX12_daysOf_wsX12_daysOf_r6 _ (List.mem_of_getElem? (i := 4) rfl)) (x_mc (sb_wsX12_daysOf_wsX12_daysOf_r6 _ (List.mem_of_getElem? (i := 5) rfl)) (x_mc (sb_wsX12_daysOf_wsX12_daysOf_r6 _ (List.mem_of_getElem? (i := 6) rfl)) (x_mc (sb_wsX12_daysOf_wsX12_daysOf_r6 _ (List.mem_of_getElem? (i := 7) rfl)) (x_mc (sb_wsX12_daysOf_wsX12_daysOf_r6 _ (List.mem_of_getElem? (i := 8) rfl)) (x_mc (sb_wsX12_daysOf_wsX12_daysOf_r6 _ (List.mem_of_getElem? (i := 9) rfl)) (x_mc (sb_wsX12_daysOf_wsX12_daysOf_r6 _ (List.mem_of_getElem? (i := 10) rfl)) (x_mc (sb_wsX12_daysOf_wsX12_daysOf_r6 _ (List.mem_of_getElem? (i := 11) rfl)) (x_mc (sb_wsX12_daysOf_wsX12_daysOf_r6 _ (List.mem_of_getElem? (i := 12) rfl)) (x_mc (sb_wsX12_daysOf_wsX12_daysOf_r6 _ (List.mem_of_getElem? (i := 13) rfl)) (x_mc (sb_wsX12_daysOf_wsX12_daysOf_r6 _ (List.mem_of_getElem? (i := 14) rfl)) (x_mc (sb_wsX12_daysOf_wsX12_daysOf_r6 _ (List.mem_of_getElem? (i := 15) rfl)) (x_mc (sb_wsX12_daysOf_wsX12_daysOf_r6 _ (List.mem_of_getElem? (i := 16) rfl)) (x_mc (sb_wsX12_daysOf_wsX12_daysOf_r6 _ (List.mem_of_getElem? (i := 17) rfl)) (x_mc (sb_wsX12_daysOf_wsX12_daysOf_r6 _ (List.mem_of_getElem? (i := 18) rfl)) (x_mc (sb_wsX12_daysOf_wsX12_daysOf_r6 _ (List.mem_of_getElem? (i := 19) rfl)) (x_mc (sb_wsX12_daysOf_wsX12_daysOf_r6 _ (List.mem_of_getElem? (i := 20) rfl)) (x_mc (sb_wsX12_daysOf_wsX12_daysOf_r6 _ (List.mem_of_getElem? (i := 21) rfl)) (x_mc (sb_wsX12_daysOf_wsX12_daysOf_r6 _ (List.mem_of_getElem? (i := 22) rfl)) (x_mc (sb_wsX12_daysOf_wsX12_daysOf_r6 _ (List.mem_of_getElem? (i := 23) rfl)) (x_mc (sb_wsX12_daysOf_wsX12_daysOf_r7 _ (List.mem_of_getElem? (i := 0) rfl)) (x_mc (sb_wsX12_daysOf_wsX12_daysOf_r7 _ (List.mem_of_getElem? (i := 1) rfl)) (x_mc (sb_wsX12_daysOf_wsX12_daysOf_r7 _ (List.mem_of_getElem? (i := 2) rfl)) (x_mc (sb_wsX12_daysOf_wsX12_daysOf_r7 _ (List.mem_of_getElem? (i := 3) rfl)) x_mn)))))))))))))))))))))))) (x_mc (sb_wsX12_daysOf_wsX12_daysOf_r7 _ (List.mem_of_getElem? (i := 4) rfl)) (x_mc (sb_wsX12_daysOf_wsX12_daysOf_r7 _ (List.mem_of_getElem? (i := 5) rfl)) (x_mc (sb_wsX12_daysOf_wsX12_daysOf_r7 _ (List.mem_of_getElem? (i := 6) rfl)) (x_mc (sb_wsX12_daysOf_wsX12_daysOf_r7 _ (List.mem_of_getElem? (i := 7) rfl)) (x_mc (sb_wsX12_daysOf_wsX12_daysOf_r7 _ (List.mem_of_getElem? (i := 8) rfl)) (x_mc (sb_wsX12_daysOf_wsX12_daysOf_r7 _ (List.mem_of_getElem? (i := 9) rfl)) (x_mc (sb_wsX12_daysOf_wsX12_daysOf_r7 _ (List.mem_of_getElem? (i := 10) rfl)) (x_mc (sb_wsX12_daysOf_wsX12_daysOf_r7 _ (List.mem_of_getElem? (i := 11) rfl)) (x_mc (sb_wsX12_daysOf_wsX12_daysOf_r7 _ (List.mem_of_getElem? (i := 12) rfl)) (x_mc (sb_wsX12_daysOf_wsX12_daysOf_r7 _ (List.mem_of_getElem? (i := 13) rfl)) (x_mc (sb_wsX12_daysOf_wsX12_daysOf_r7 _ (List.mem_of_getElem? (i := 14) rfl)) (x_mc (sb_wsX12_daysOf_wsX12_daysOf_r7 _ (List.mem_of_getElem? (i := 15) rfl)) x_mn)))))))))))))))))) (fun _ h => sb_wsX12_daysOf_wsX120 _ h))) (by decide +kernel)
set_option maxRecDepth 20000 in
theorem gX12_daysOf_X12_wearOf : GoodIn wsX12_daysOf (wsV RX12 256 RX12 yX12_wearOf wsX12_wearOf) := goodIn_app (goodIn_of _ (by decide +kernel)) ggX12_daysOf_X12_wearOf
theorem dX12_daysOf_0 : decode cX12_daysOf 0 = .ok (.aload_n 0, 1) := by decide +kernel
theorem dX12_daysOf_1 : decode cX12_daysOf 1 = .ok (.iload_n 1, 1) := by decide +kernel
theorem dX12_daysOf_2 : decode cX12_daysOf 2 = .ok (.invokevirtual 256, 3) := by decide +kernel
theorem dX12_daysOf_5 : decode cX12_daysOf 5 = .ok (.istore_n 3, 1) := by decide +kernel
theorem dX12_daysOf_6 : decode cX12_daysOf 6 = .ok (.iload_n 3, 1) := by decide +kernel
theorem dX12_daysOf_7 : decode cX12_daysOf 7 = .ok (.ifCond .ne 7, 3) := by decide +kernel
theorem dX12_daysOf_10 : decode cX12_daysOf 10 = .ok (.iconst (-1), 1) := by decide +kernel
theorem dX12_daysOf_11 : decode cX12_daysOf 11 = .ok (.goto 10, 3) := by decide +kernel
theorem dX12_daysOf_14 : decode cX12_daysOf 14 = .ok (.iload_n 2, 1) := by decide +kernel
theorem dX12_daysOf_15 : decode cX12_daysOf 15 = .ok (.iload_n 3, 1) := by decide +kernel
theorem dX12_daysOf_16 : decode cX12_daysOf 16 = .ok (.iadd, 1) := by decide +kernel
theorem dX12_daysOf_17 : decode cX12_daysOf 17 = .ok (.iconst 1, 1) := by decide +kernel
theorem dX12_daysOf_18 : decode cX12_daysOf 18 = .ok (.isub, 1) := by decide +kernel
theorem dX12_daysOf_19 : decode cX12_daysOf 19 = .ok (.iload_n 3, 1) := by decide +kernel
theorem dX12_daysOf_20 : decode cX12_daysOf 20 = .ok (.idiv, 1) := by decide +kernel
theorem dX12_daysOf_21 : decode cX12_daysOf 21 = .ok (.ireturn, 1) := by decide +kernel
theorem sb_wsX12_years_wsX12_years_r1 : ∀ w ∈ wsX12_years_r1, w ∈ wsX12_years := fun _ h => (List.mem_cons_of_mem _ (List.mem_append_left _ (List.mem_append_left _ h)))
theorem sb_wsX12_years_wsX12_years_r2 : ∀ w ∈ wsX12_years_r2, w ∈ wsX12_years := fun _ h => (List.mem_cons_of_mem _ (List.mem_append_left _ (List.mem_append_right _ (List.mem_append_left _ h))))
theorem sb_wsX12_years_wsX12_years_r3 : ∀ w ∈ wsX12_years_r3, w ∈ wsX12_years := fun _ h => (List.mem_cons_of_mem _ (List.mem_append_left _ (List.mem_append_right _ (List.mem_append_right _ (List.mem_append_left _ h)))))
theorem sb_wsX12_years_wsX12_years_r4 : ∀ w ∈ wsX12_years_r4, w ∈ wsX12_years := fun _ h => (List.mem_cons_of_mem _ (List.mem_append_left _ (List.mem_append_right _ (List.mem_append_right _ (List.mem_append_right _ (List.mem_append_left _ h))))))
theorem sb_wsX12_years_wsX12_years_r5 : ∀ w ∈ wsX12_years_r5, w ∈ wsX12_years := fun _ h => (List.mem_cons_of_mem _ (List.mem_append_left _ (List.mem_append_right _ (List.mem_append_right _ (List.mem_append_right _ (List.mem_append_right _ (List.mem_append_left _ h)))))))
theorem sb_wsX12_years_wsX12_years_r6 : ∀ w ∈ wsX12_years_r6, w ∈ wsX12_years := fun _ h => (List.mem_cons_of_mem _ (List.mem_append_left _ (List.mem_append_right _ (List.mem_append_right _ (List.mem_append_right _ (List.mem_append_right _ (List.mem_append_right _ (List.mem_append_left _ h))))))))
theorem sb_wsX12_years_wsX12_years_r7 : ∀ w ∈ wsX12_years_r7, w ∈ wsX12_years := fun _ h => (List.mem_cons_of_mem _ (List.mem_append_left _ (List.mem_append_right _ (List.mem_append_right _ (List.mem_append_right _ (List.mem_append_right _ (List.mem_append_right _ (List.mem_append_right _ (List.mem_append_left _ h)))))))))
theorem sb_wsX12_years_wsX12_years_r8 : ∀ w ∈ wsX12_years_r8, w ∈ wsX12_years := fun _ h => (List.mem_cons_of_mem _ (List.mem_append_left _ (List.mem_append_right _ (List.mem_append_right _ (List.mem_append_right _ (List.mem_append_right _ (List.mem_append_right _ (List.mem_append_right _ (List.mem_append_right _ h)))))))))
theorem sb_wsX12_years_wsX120 : ∀ w ∈ wsX120, w ∈ wsX12_years := fun _ h => (List.mem_cons_of_mem _ (List.mem_append_right _ h))
set_option maxRecDepth 20000 in
theorem ggX12_years_X12_in : GoodIn wsX12_years wsX12_in := goodIn_sub (x_mc (sb_wsX12_years_wsX12_years_r1 _ (List.mem_of_getElem? (i := 5) rfl)) x_mn) (by decide +kernel)
set_option maxRecDepth 20000 in
theorem gX12_years_X12_in : GoodIn wsX12_years (va_wsS RX12 156 yX12_in wsX12_in) := goodIn_app (goodIn_of _ (by decide +kernel)) ggX12_years_X12_in
set_option maxRecDepth 20000 in
theorem ggX12_years_X12_isBelt : GoodIn wsX12_years wsX12_isBelt := goodIn_sub (x_mc (sb_wsX12_years_wsX12_years_r1 _ (List.mem_of_getElem? (i := 9) rfl)) (x_ina (x_mc (sb_wsX12_years_wsX12_years_r1 _ (List.mem_of_getElem? (i := 1) rfl)) (x_mc (sb_wsX12_years_wsX12_years_r1 _ (List.mem_of_getElem? (i := 2) rfl)) (x_mc (sb_wsX12_years_wsX12_years_r1 _ (List.mem_of_getElem? (i := 3) rfl)) (x_mc (sb_wsX12_years_wsX12_years_r1 _ (List.mem_of_getElem? (i := 4) rfl)) (x_mc (sb_wsX12_years_wsX12_years_r1 _ (List.mem_of_getElem? (i := 5) rfl)) x_mn))))) (fun _ h => sb_wsX12_years_wsX120 _ h))) (by decide +kernel)
set_option maxRecDepth 20000 in
theorem gX12_years_X12_isBelt : GoodIn wsX12_years (wsV RX12 197 RX12 yX12_isBelt wsX12_isBelt) := goodIn_app (goodIn_of _ (by decide +kernel)) ggX12_years_X12_isBelt
set_option maxRecDepth 20000 in
theorem ggX12_years_X12_lays : GoodIn wsX12_years wsX12_lays := goodIn_sub (x_mc (sb_wsX12_years_wsX12_years_r1 _ (List.mem_of_getElem? (i := 13) rfl)) (x_ina (x_ina (x_mc (sb_wsX12_years_wsX12_years_r1 _ (List.mem_of_getElem? (i := 14) rfl)) (x_mc (sb_wsX12_years_wsX12_years_r1 _ (List.mem_of_getElem? (i := 15) rfl)) (x_mc (sb_wsX12_years_wsX12_years_r1 _ (List.mem_of_getElem? (i := 16) rfl)) (x_mc (sb_wsX12_years_wsX12_years_r1 _ (List.mem_of_getElem? (i := 17) rfl)) (x_mc (sb_wsX12_years_wsX12_years_r1 _ (List.mem_of_getElem? (i := 1) rfl)) (x_mc (sb_wsX12_years_wsX12_years_r1 _ (List.mem_of_getElem? (i := 18) rfl)) (x_mc (sb_wsX12_years_wsX12_years_r1 _ (List.mem_of_getElem? (i := 19) rfl)) (x_mc (sb_wsX12_years_wsX12_years_r1 _ (List.mem_of_getElem? (i := 20) rfl)) (x_mc (sb_wsX12_years_wsX12_years_r1 _ (List.mem_of_getElem? (i := 21) rfl)) (x_mc (sb_wsX12_years_wsX12_years_r1 _ (List.mem_of_getElem? (i := 22) rfl)) (x_mc (sb_wsX12_years_wsX12_years_r1 _ (List.mem_of_getElem? (i := 23) rfl)) (x_mc (sb_wsX12_years_wsX12_years_r2 _ (List.mem_of_getElem? (i := 0) rfl)) (x_mc (sb_wsX12_years_wsX12_years_r1 _ (List.mem_of_getElem? (i := 4) rfl)) (x_mc (sb_wsX12_years_wsX12_years_r2 _ (List.mem_of_getElem? (i := 1) rfl)) (x_mc (sb_wsX12_years_wsX12_years_r2 _ (List.mem_of_getElem? (i := 2) rfl)) (x_mc (sb_wsX12_years_wsX12_years_r2 _ (List.mem_of_getElem? (i := 3) rfl)) (x_mc (sb_wsX12_years_wsX12_years_r2 _ (List.mem_of_getElem? (i := 4) rfl)) (x_mc (sb_wsX12_years_wsX12_years_r2 _ (List.mem_of_getElem? (i := 5) rfl)) (x_mc (sb_wsX12_years_wsX12_years_r2 _ (List.mem_of_getElem? (i := 6) rfl)) (x_mc (sb_wsX12_years_wsX12_years_r2 _ (List.mem_of_getElem? (i := 7) rfl)) (x_mc (sb_wsX12_years_wsX12_years_r2 _ (List.mem_of_getElem? (i := 8) rfl)) (x_mc (sb_wsX12_years_wsX12_years_r2 _ (List.mem_of_getElem? (i := 9) rfl)) (x_mc (sb_wsX12_years_wsX12_years_r2 _ (List.mem_of_getElem? (i := 10) rfl)) (x_mc (sb_wsX12_years_wsX12_years_r2 _ (List.mem_of_getElem? (i := 11) rfl)) x_mn)))))))))))))))))))))))) (x_mc (sb_wsX12_years_wsX12_years_r2 _ (List.mem_of_getElem? (i := 12) rfl)) (x_mc (sb_wsX12_years_wsX12_years_r2 _ (List.mem_of_getElem? (i := 13) rfl)) x_mn))) (fun _ h => sb_wsX12_years_wsX120 _ h))) (by decide +kernel)
set_option maxRecDepth 20000 in
theorem gX12_years_X12_lays : GoodIn wsX12_years (wsV RX12 247 RX12 yX12_lays wsX12_lays) := goodIn_app (goodIn_of _ (by decide +kernel)) ggX12_years_X12_lays
set_option maxRecDepth 20000 in
theorem ggX12_years_X12_daysOf : GoodIn wsX12_years wsX12_daysOf := goodIn_sub (x_mc (sb_wsX12_years_wsX12_years_r2 _ (List.mem_of_getElem? (i := 17) rfl)) (x_ina (x_ina (x_mc (sb_wsX12_years_wsX12_years_r2 _ (List.mem_of_getElem? (i := 18) rfl)) (x_mc (sb_wsX12_years_wsX12_years_r2 _ (List.mem_of_getElem? (i := 19) rfl)) (x_mc (sb_wsX12_years_wsX12_years_r2 _ (List.mem_of_getElem? (i := 20) rfl)) (x_mc (sb_wsX12_years_wsX12_years_r1 _ (List.mem_of_getElem? (i := 4) rfl)) (x_mc (sb_wsX12_years_wsX12_years_r2 _ (List.mem_of_getElem? (i := 21) rfl)) (x_mc (sb_wsX12_years_wsX12_years_r1 _ (List.mem_of_getElem? (i := 18) rfl)) (x_mc (sb_wsX12_years_wsX12_years_r1 _ (List.mem_of_getElem? (i := 20) rfl)) (x_mc (sb_wsX12_years_wsX12_years_r2 _ (List.mem_of_getElem? (i := 22) rfl)) (x_mc (sb_wsX12_years_wsX12_years_r2 _ (List.mem_of_getElem? (i := 23) rfl)) (x_mc (sb_wsX12_years_wsX12_years_r3 _ (List.mem_of_getElem? (i := 0) rfl)) (x_mc (sb_wsX12_years_wsX12_years_r3 _ (List.mem_of_getElem? (i := 1) rfl)) (x_mc (sb_wsX12_years_wsX12_years_r3 _ (List.mem_of_getElem? (i := 2) rfl)) (x_mc (sb_wsX12_years_wsX12_years_r1 _ (List.mem_of_getElem? (i := 21) rfl)) (x_mc (sb_wsX12_years_wsX12_years_r1 _ (List.mem_of_getElem? (i := 19) rfl)) (x_mc (sb_wsX12_years_wsX12_years_r3 _ (List.mem_of_getElem? (i := 3) rfl)) (x_mc (sb_wsX12_years_wsX12_years_r3 _ (List.mem_of_getElem? (i := 4) rfl)) (x_mc (sb_wsX12_years_wsX12_years_r3 _ (List.mem_of_getElem? (i := 5) rfl)) (x_mc (sb_wsX12_years_wsX12_years_r3 _ (List.mem_of_getElem? (i := 6) rfl)) (x_mc (sb_wsX12_years_wsX12_years_r1 _ (List.mem_of_getElem? (i := 1) rfl)) (x_mc (sb_wsX12_years_wsX12_years_r3 _ (List.mem_of_getElem? (i := 7) rfl)) (x_mc (sb_wsX12_years_wsX12_years_r3 _ (List.mem_of_getElem? (i := 8) rfl)) (x_mc (sb_wsX12_years_wsX12_years_r3 _ (List.mem_of_getElem? (i := 9) rfl)) (x_mc (sb_wsX12_years_wsX12_years_r3 _ (List.mem_of_getElem? (i := 10) rfl)) (x_mc (sb_wsX12_years_wsX12_years_r1 _ (List.mem_of_getElem? (i := 14) rfl)) x_mn)))))))))))))))))))))))) (x_ina (x_mc (sb_wsX12_years_wsX12_years_r1 _ (List.mem_of_getElem? (i := 16) rfl)) (x_mc (sb_wsX12_years_wsX12_years_r3 _ (List.mem_of_getElem? (i := 11) rfl)) (x_mc (sb_wsX12_years_wsX12_years_r3 _ (List.mem_of_getElem? (i := 12) rfl)) (x_mc (sb_wsX12_years_wsX12_years_r3 _ (List.mem_of_getElem? (i := 13) rfl)) (x_mc (sb_wsX12_years_wsX12_years_r3 _ (List.mem_of_getElem? (i := 14) rfl)) (x_mc (sb_wsX12_years_wsX12_years_r3 _ (List.mem_of_getElem? (i := 15) rfl)) (x_mc (sb_wsX12_years_wsX12_years_r2 _ (List.mem_of_getElem? (i := 4) rfl)) (x_mc (sb_wsX12_years_wsX12_years_r2 _ (List.mem_of_getElem? (i := 5) rfl)) (x_mc (sb_wsX12_years_wsX12_years_r2 _ (List.mem_of_getElem? (i := 6) rfl)) (x_mc (sb_wsX12_years_wsX12_years_r2 _ (List.mem_of_getElem? (i := 7) rfl)) (x_mc (sb_wsX12_years_wsX12_years_r2 _ (List.mem_of_getElem? (i := 8) rfl)) (x_mc (sb_wsX12_years_wsX12_years_r2 _ (List.mem_of_getElem? (i := 9) rfl)) (x_mc (sb_wsX12_years_wsX12_years_r2 _ (List.mem_of_getElem? (i := 2) rfl)) (x_mc (sb_wsX12_years_wsX12_years_r2 _ (List.mem_of_getElem? (i := 10) rfl)) (x_mc (sb_wsX12_years_wsX12_years_r1 _ (List.mem_of_getElem? (i := 22) rfl)) (x_mc (sb_wsX12_years_wsX12_years_r1 _ (List.mem_of_getElem? (i := 23) rfl)) (x_mc (sb_wsX12_years_wsX12_years_r2 _ (List.mem_of_getElem? (i := 0) rfl)) (x_mc (sb_wsX12_years_wsX12_years_r2 _ (List.mem_of_getElem? (i := 1) rfl)) (x_mc (sb_wsX12_years_wsX12_years_r2 _ (List.mem_of_getElem? (i := 3) rfl)) (x_mc (sb_wsX12_years_wsX12_years_r3 _ (List.mem_of_getElem? (i := 16) rfl)) (x_mc (sb_wsX12_years_wsX12_years_r3 _ (List.mem_of_getElem? (i := 17) rfl)) (x_mc (sb_wsX12_years_wsX12_years_r3 _ (List.mem_of_getElem? (i := 18) rfl)) (x_mc (sb_wsX12_years_wsX12_years_r3 _ (List.mem_of_getElem? (i := 19) rfl)) (x_mc (sb_wsX12_years_wsX12_years_r3 _ (List.mem_of_getElem? (i := 20) rfl)) x_mn)))))))))))))))))))))))) (x_ina (x_mc (sb_wsX12_years_wsX12_years_r3 _ (List.mem_of_getElem? (i := 21) rfl)) (x_mc (sb_wsX12_years_wsX12_years_r3 _ (List.mem_of_getElem? (i := 22) rfl)) (x_mc (sb_wsX12_years_wsX12_years_r3 _ (List.mem_of_getElem? (i := 23) rfl)) (x_mc (sb_wsX12_years_wsX12_years_r4 _ (List.mem_of_getElem? (i := 0) rfl)) (x_mc (sb_wsX12_years_wsX12_years_r4 _ (List.mem_of_getElem? (i := 1) rfl)) (x_mc (sb_wsX12_years_wsX12_years_r4 _ (List.mem_of_getElem? (i := 2) rfl)) (x_mc (sb_wsX12_years_wsX12_years_r4 _ (List.mem_of_getElem? (i := 3) rfl)) (x_mc (sb_wsX12_years_wsX12_years_r4 _ (List.mem_of_getElem? (i := 4) rfl)) (x_mc (sb_wsX12_years_wsX12_years_r4 _ (List.mem_of_getElem? (i := 5) rfl)) (x_mc (sb_wsX12_years_wsX12_years_r4 _ (List.mem_of_getElem? (i := 6) rfl)) (x_mc (sb_wsX12_years_wsX12_years_r4 _ (List.mem_of_getElem? (i := 7) rfl)) (x_mc (sb_wsX12_years_wsX12_years_r4 _ (List.mem_of_getElem? (i := 8) rfl)) (x_mc (sb_wsX12_years_wsX12_years_r4 _ (List.mem_of_getElem? (i := 9) rfl)) (x_mc (sb_wsX12_years_wsX12_years_r4 _ (List.mem_of_getElem? (i := 10) rfl)) (x_mc (sb_wsX12_years_wsX12_years_r4 _ (List.mem_of_getElem? (i := 11) rfl)) (x_mc (sb_wsX12_years_wsX12_years_r4 _ (List.mem_of_getElem? (i := 12) rfl)) (x_mc (sb_wsX12_years_wsX12_years_r4 _ (List.mem_of_getElem? (i := 13) rfl)) (x_mc (sb_wsX12_years_wsX12_years_r4 _ (List.mem_of_getElem? (i := 14) rfl)) (x_mc (sb_wsX12_years_wsX12_years_r4 _ (List.mem_of_getElem? (i := 15) rfl)) (x_mc (sb_wsX12_years_wsX12_years_r4 _ (List.mem_of_getElem? (i := 16) rfl)) (x_mc (sb_wsX12_years_wsX12_years_r4 _ (List.mem_of_getElem? (i := 17) rfl)) (x_mc (sb_wsX12_years_wsX12_years_r4 _ (List.mem_of_getElem? (i := 18) rfl)) (x_mc (sb_wsX12_years_wsX12_years_r4 _ (List.mem_of_getElem? (i := 19) rfl)) (x_mc (sb_wsX12_years_wsX12_years_r4 _ (List.mem_of_getElem? (i := 20) rfl)) x_mn)))))))))))))))))))))))) (x_ina (x_mc (sb_wsX12_years_wsX12_years_r4 _ (List.mem_of_getElem? (i := 21) rfl)) (x_mc (sb_wsX12_years_wsX12_years_r4 _ (List.mem_of_getElem? (i := 22) rfl)) (x_mc (sb_wsX12_years_wsX12_years_r4 _ (List.mem_of_getElem? (i := 23) rfl)) (x_mc (sb_wsX12_years_wsX12_years_r5 _ (List.mem_of_getElem? (i := 0) rfl)) (x_mc (sb_wsX12_years_wsX12_years_r5 _ (List.mem_of_getElem? (i := 1) rfl)) (x_mc (sb_wsX12_years_wsX12_years_r5 _ (List.mem_of_getElem? (i := 2) rfl)) (x_mc (sb_wsX12_years_wsX12_years_r5 _ (List.mem_of_getElem? (i := 3) rfl)) (x_mc (sb_wsX12_years_wsX12_years_r5 _ (List.mem_of_getElem? (i := 4) rfl)) (x_mc (sb_wsX12_years_wsX12_years_r5 _ (List.mem_of_getElem? (i := 5) rfl)) (x_mc (sb_wsX12_years_wsX12_years_r5 _ (List.mem_of_getElem? (i := 6) rfl)) (x_mc (sb_wsX12_years_wsX12_years_r5 _ (List.mem_of_getElem? (i := 7) rfl)) (x_mc (sb_wsX12_years_wsX12_years_r5 _ (List.mem_of_getElem? (i := 8) rfl)) (x_mc (sb_wsX12_years_wsX12_years_r5 _ (List.mem_of_getElem? (i := 9) rfl)) (x_mc (sb_wsX12_years_wsX12_years_r5 _ (List.mem_of_getElem? (i := 10) rfl)) (x_mc (sb_wsX12_years_wsX12_years_r5 _ (List.mem_of_getElem? (i := 11) rfl)) (x_mc (sb_wsX12_years_wsX12_years_r5 _ (List.mem_of_getElem? (i := 12) rfl)) (x_mc (sb_wsX12_years_wsX12_years_r5 _ (List.mem_of_getElem? (i := 13) rfl)) (x_mc (sb_wsX12_years_wsX12_years_r5 _ (List.mem_of_getElem? (i := 14) rfl)) (x_mc (sb_wsX12_years_wsX12_years_r5 _ (List.mem_of_getElem? (i := 15) rfl)) (x_mc (sb_wsX12_years_wsX12_years_r5 _ (List.mem_of_getElem? (i := 16) rfl)) (x_mc (sb_wsX12_years_wsX12_years_r5 _ (List.mem_of_getElem? (i := 17) rfl)) (x_mc (sb_wsX12_years_wsX12_years_r5 _ (List.mem_of_getElem? (i := 18) rfl)) (x_mc (sb_wsX12_years_wsX12_years_r1 _ (List.mem_of_getElem? (i := 2) rfl)) (x_mc (sb_wsX12_years_wsX12_years_r1 _ (List.mem_of_getElem? (i := 3) rfl)) x_mn)))))))))))))))))))))))) (x_ina (x_mc (sb_wsX12_years_wsX12_years_r1 _ (List.mem_of_getElem? (i := 5) rfl)) (x_mc (sb_wsX12_years_wsX12_years_r5 _ (List.mem_of_getElem? (i := 19) rfl)) (x_mc (sb_wsX12_years_wsX12_years_r5 _ (List.mem_of_getElem? (i := 20) rfl)) (x_mc (sb_wsX12_years_wsX12_years_r5 _ (List.mem_of_getElem? (i := 21) rfl)) (x_mc (sb_wsX12_years_wsX12_years_r5 _ (List.mem_of_getElem? (i := 22) rfl)) (x_mc (sb_wsX12_years_wsX12_years_r5 _ (List.mem_of_getElem? (i := 23) rfl)) (x_mc (sb_wsX12_years_wsX12_years_r6 _ (List.mem_of_getElem? (i := 0) rfl)) (x_mc (sb_wsX12_years_wsX12_years_r6 _ (List.mem_of_getElem? (i := 1) rfl)) (x_mc (sb_wsX12_years_wsX12_years_r6 _ (List.mem_of_getElem? (i := 2) rfl)) (x_mc (sb_wsX12_years_wsX12_years_r6 _ (List.mem_of_getElem? (i := 3) rfl)) (x_mc (sb_wsX12_years_wsX12_years_r6 _ (List.mem_of_getElem? (i := 4) rfl)) (x_mc (sb_wsX12_years_wsX12_years_r6 _ (List.mem_of_getElem? (i := 5) rfl)) (x_mc (sb_wsX12_years_wsX12_years_r6 _ (List.mem_of_getElem? (i := 6) rfl)) (x_mc (sb_wsX12_years_wsX12_years_r6 _ (List.mem_of_getElem? (i := 7) rfl)) (x_mc (sb_wsX12_years_wsX12_years_r6 _ (List.mem_of_getElem? (i := 8) rfl)) (x_mc (sb_wsX12_years_wsX12_years_r6 _ (List.mem_of_getElem? (i := 9) rfl)) (x_mc (sb_wsX12_years_wsX12_years_r6 _ (List.mem_of_getElem? (i := 10) rfl)) (x_mc (sb_wsX12_years_wsX12_years_r6 _ (List.mem_of_getElem? (i := 11) rfl)) (x_mc (sb_wsX12_years_wsX12_years_r6 _ (List.mem_of_getElem? (i := 12) rfl)) (x_mc (sb_wsX12_years_wsX12_years_r6 _ (List.mem_of_getElem? (i := 13) rfl)) (x_mc (sb_wsX12_years_wsX12_years_r6 _ (List.mem_of_getElem? (i := 14) rfl)) (x_mc (sb_wsX12_years_wsX12_years_r6 _ (List.mem_of_getElem? (i := 15) rfl)) (x_mc (sb_wsX12_years_wsX12_years_r6 _ (List.mem_of_getElem? (i := 16) rfl)) (x_mc (sb_wsX12_years_wsX12_years_r6 _ (List.mem_of_getElem? (i := 17) rfl)) x_mn)))))))))))))))))))))))) (x_ina (x_mc (sb_wsX12_years_wsX12_years_r6 _ (List.mem_of_getElem? (i := 18) rfl)) (x_mc (sb_wsX12_years_wsX12_years_r6 _ (List.mem_of_getElem? (i := 19) rfl)) (x_mc (sb_wsX12_years_wsX12_years_r6 _ (List.mem_of_getElem? (i := 20) rfl)) (x_mc (sb_wsX12_years_wsX12_years_r6 _ (List.mem_of_getElem? (i := 21) rfl)) (x_mc (sb_wsX12_years_wsX12_years_r6 _ (List.mem_of_getElem? (i := 22) rfl)) (x_mc (sb_wsX12_years_wsX12_years_r6 _ (List.mem_of_getElem? (i := 23) rfl)) (x_mc (sb_wsX12_years_wsX12_years_r7 _ (List.mem_of_getElem? (i := 0) rfl)) (x_mc (sb_wsX12_years_wsX12_years_r7 _ (List.mem_of_getElem? (i := 1) rfl)) (x_mc (sb_wsX12_years_wsX12_years_r7 _ (List.mem_of_getElem? (i := 2) rfl)) (x_mc (sb_wsX12_years_wsX12_years_r7 _ (List.mem_of_getElem? (i := 3) rfl)) (x_mc (sb_wsX12_years_wsX12_years_r7 _ (List.mem_of_getElem? (i := 4) rfl)) (x_mc (sb_wsX12_years_wsX12_years_r7 _ (List.mem_of_getElem? (i := 5) rfl)) (x_mc (sb_wsX12_years_wsX12_years_r7 _ (List.mem_of_getElem? (i := 6) rfl)) (x_mc (sb_wsX12_years_wsX12_years_r7 _ (List.mem_of_getElem? (i := 7) rfl)) (x_mc (sb_wsX12_years_wsX12_years_r7 _ (List.mem_of_getElem? (i := 8) rfl)) (x_mc (sb_wsX12_years_wsX12_years_r7 _ (List.mem_of_getElem? (i := 9) rfl)) (x_mc (sb_wsX12_years_wsX12_years_r7 _ (List.mem_of_getElem? (i := 10) rfl)) (x_mc (sb_wsX12_years_wsX12_years_r7 _ (List.mem_of_getElem? (i := 11) rfl)) (x_mc (sb_wsX12_years_wsX12_years_r7 _ (List.mem_of_getElem? (i := 12) rfl)) (x_mc (sb_wsX12_years_wsX12_years_r7 _ (List.mem_of_getElem? (i := 13) rfl)) (x_mc (sb_wsX12_years_wsX12_years_r7 _ (List.mem_of_getElem? (i := 14) rfl)) (x_mc (sb_wsX12_years_wsX12_years_r7 _ (List.mem_of_getElem? (i := 15) rfl)) (x_mc (sb_wsX12_years_wsX12_years_r7 _ (List.mem_of_getElem? (i := 16) rfl)) (x_mc (sb_wsX12_years_wsX12_years_r7 _ (List.mem_of_getElem? (i := 17) rfl)) x_mn)))))))))))))))))))))))) (x_mc (sb_wsX12_years_wsX12_years_r7 _ (List.mem_of_getElem? (i := 18) rfl)) (x_mc (sb_wsX12_years_wsX12_years_r7 _ (List.mem_of_getElem? (i := 19) rfl)) (x_mc (sb_wsX12_years_wsX12_years_r7 _ (List.mem_of_getElem? (i := 20) rfl)) (x_mc (sb_wsX12_years_wsX12_years_r7 _ (List.mem_of_getElem? (i := 21) rfl)) (x_mc (sb_wsX12_years_wsX12_years_r7 _ (List.mem_of_getElem? (i := 22) rfl)) (x_mc (sb_wsX12_years_wsX12_years_r7 _ (List.mem_of_getElem? (i := 23) rfl)) (x_mc (sb_wsX12_years_wsX12_years_r8 _ (List.mem_of_getElem? (i := 0) rfl)) (x_mc (sb_wsX12_years_wsX12_years_r8 _ (List.mem_of_getElem? (i := 1) rfl)) (x_mc (sb_wsX12_years_wsX12_years_r8 _ (List.mem_of_getElem? (i := 2) rfl)) (x_mc (sb_wsX12_years_wsX12_years_r8 _ (List.mem_of_getElem? (i := 3) rfl)) (x_mc (sb_wsX12_years_wsX12_years_r8 _ (List.mem_of_getElem? (i := 4) rfl)) (x_mc (sb_wsX12_years_wsX12_years_r8 _ (List.mem_of_getElem? (i := 5) rfl)) (x_mc (sb_wsX12_years_wsX12_years_r8 _ (List.mem_of_getElem? (i := 6) rfl)) (x_mc (sb_wsX12_years_wsX12_years_r8 _ (List.mem_of_getElem? (i := 7) rfl)) (x_mc (sb_wsX12_years_wsX12_years_r8 _ (List.mem_of_getElem? (i := 8) rfl)) (x_mc (sb_wsX12_years_wsX12_years_r8 _ (List.mem_of_getElem? (i := 9) rfl)) x_mn)))))))))))))))))))))) (fun _ h => sb_wsX12_years_wsX120 _ h))) (by decide +kernel)
set_option maxRecDepth 20000 in
theorem gX12_years_X12_daysOf : GoodIn wsX12_years (wsV RX12 446 RX12 yX12_daysOf wsX12_daysOf) := goodIn_app (goodIn_of _ (by decide +kernel)) ggX12_years_X12_daysOf
theorem dX12_years_0 : decode cX12_years 0 = .ok (.iload_n 3, 1) := by decide +kernel
theorem dX12_years_1 : decode cX12_years 1 = .ok (.i2l, 1) := by decide +kernel
theorem dX12_years_2 : decode cX12_years 2 = .ok (.lconst 0, 1) := by decide +kernel
theorem dX12_years_3 : decode cX12_years 3 = .ok (.lconst 1, 1) := by decide +kernel
theorem dX12_years_4 : decode cX12_years 4 = .ok (.invokestatic 156, 3) := by decide +kernel
theorem dX12_years_7 : decode cX12_years 7 = .ok (.ifCond .eq 27, 3) := by decide +kernel
theorem dX12_years_10 : decode cX12_years 10 = .ok (.iload_n 3, 1) := by decide +kernel
theorem dX12_years_11 : decode cX12_years 11 = .ok (.ifCond .ne 11, 3) := by decide +kernel
theorem dX12_years_14 : decode cX12_years 14 = .ok (.aload_n 0, 1) := by decide +kernel
theorem dX12_years_15 : decode cX12_years 15 = .ok (.iload_n 1, 1) := by decide +kernel
theorem dX12_years_16 : decode cX12_years 16 = .ok (.invokevirtual 197, 3) := by decide +kernel
theorem dX12_years_19 : decode cX12_years 19 = .ok (.ifCond .eq 15, 3) := by decide +kernel
theorem dX12_years_22 : decode cX12_years 22 = .ok (.iload_n 2, 1) := by decide +kernel
theorem dX12_years_23 : decode cX12_years 23 = .ok (.i2l, 1) := by decide +kernel
theorem dX12_years_24 : decode cX12_years 24 = .ok (.lconst 1, 1) := by decide +kernel
theorem dX12_years_25 : decode cX12_years 25 = .ok (.ldc2_w 444, 3) := by decide +kernel
theorem dX12_years_28 : decode cX12_years 28 = .ok (.invokestatic 156, 3) := by decide +kernel
theorem dX12_years_31 : decode cX12_years 31 = .ok (.ifCond .ne 6, 3) := by decide +kernel
theorem dX12_years_34 : decode cX12_years 34 = .ok (.bipush (-2), 2) := by decide +kernel
theorem dX12_years_36 : decode cX12_years 36 = .ok (.ireturn, 1) := by decide +kernel
theorem dX12_years_37 : decode cX12_years 37 = .ok (.aload_n 0, 1) := by decide +kernel
theorem dX12_years_38 : decode cX12_years 38 = .ok (.invokevirtual 247, 3) := by decide +kernel
theorem dX12_years_41 : decode cX12_years 41 = .ok (.iload_n 3, 1) := by decide +kernel
theorem dX12_years_42 : decode cX12_years 42 = .ok (.ifCond .ne 10, 3) := by decide +kernel
theorem dX12_years_45 : decode cX12_years 45 = .ok (.aload_n 0, 1) := by decide +kernel
theorem dX12_years_46 : decode cX12_years 46 = .ok (.iload_n 1, 1) := by decide +kernel
theorem dX12_years_47 : decode cX12_years 47 = .ok (.iload_n 2, 1) := by decide +kernel
theorem dX12_years_48 : decode cX12_years 48 = .ok (.invokevirtual 446, 3) := by decide +kernel
theorem dX12_years_51 : decode cX12_years 51 = .ok (.ireturn, 1) := by decide +kernel
theorem dX12_years_52 : decode cX12_years 52 = .ok (.iconst (-1), 1) := by decide +kernel
theorem dX12_years_53 : decode cX12_years 53 = .ok (.istore 4, 2) := by decide +kernel
theorem dX12_years_55 : decode cX12_years 55 = .ok (.iconst 0, 1) := by decide +kernel
theorem dX12_years_56 : decode cX12_years 56 = .ok (.istore 5, 2) := by decide +kernel
theorem dX12_years_58 : decode cX12_years 58 = .ok (.iload 5, 2) := by decide +kernel
theorem dX12_years_60 : decode cX12_years 60 = .ok (.aload_n 0, 1) := by decide +kernel
theorem dX12_years_61 : decode cX12_years 61 = .ok (.getfield 166, 3) := by decide +kernel
theorem dX12_years_64 : decode cX12_years 64 = .ok (.if_icmp .ge 46, 3) := by decide +kernel
theorem dX12_years_67 : decode cX12_years 67 = .ok (.aload_n 0, 1) := by decide +kernel
theorem dX12_years_68 : decode cX12_years 68 = .ok (.iload 5, 2) := by decide +kernel
theorem dX12_years_70 : decode cX12_years 70 = .ok (.iload_n 2, 1) := by decide +kernel
theorem dX12_years_71 : decode cX12_years 71 = .ok (.invokevirtual 446, 3) := by decide +kernel
theorem dX12_years_74 : decode cX12_years 74 = .ok (.istore 6, 2) := by decide +kernel
theorem dX12_years_76 : decode cX12_years 76 = .ok (.iload 6, 2) := by decide +kernel
theorem dX12_years_78 : decode cX12_years 78 = .ok (.iconst (-1), 1) := by decide +kernel
theorem dX12_years_79 : decode cX12_years 79 = .ok (.if_icmp .eq 25, 3) := by decide +kernel
theorem dX12_years_82 : decode cX12_years 82 = .ok (.iload 4, 2) := by decide +kernel
theorem dX12_years_84 : decode cX12_years 84 = .ok (.iconst (-1), 1) := by decide +kernel
theorem dX12_years_85 : decode cX12_years 85 = .ok (.if_icmp .eq 15, 3) := by decide +kernel
theorem dX12_years_88 : decode cX12_years 88 = .ok (.iload 6, 2) := by decide +kernel
theorem dX12_years_90 : decode cX12_years 90 = .ok (.aload_n 0, 1) := by decide +kernel
theorem dX12_years_91 : decode cX12_years 91 = .ok (.iload 4, 2) := by decide +kernel
theorem dX12_years_93 : decode cX12_years 93 = .ok (.iload_n 2, 1) := by decide +kernel
theorem dX12_years_94 : decode cX12_years 94 = .ok (.invokevirtual 446, 3) := by decide +kernel
theorem dX12_years_97 : decode cX12_years 97 = .ok (.if_icmp .ge 7, 3) := by decide +kernel
theorem dX12_years_100 : decode cX12_years 100 = .ok (.iload 5, 2) := by decide +kernel
theorem dX12_years_102 : decode cX12_years 102 = .ok (.istore 4, 2) := by decide +kernel
theorem dX12_years_104 : decode cX12_years 104 = .ok (.iinc 5 1, 3) := by decide +kernel
theorem dX12_years_107 : decode cX12_years 107 = .ok (.goto (-49), 3) := by decide +kernel
theorem dX12_years_110 : decode cX12_years 110 = .ok (.iload 4, 2) := by decide +kernel
theorem dX12_years_112 : decode cX12_years 112 = .ok (.ireturn, 1) := by decide +kernel
theorem dX12_nextOn_0 : decode cX12_nextOn 0 = .ok (.iconst 0, 1) := by decide +kernel
theorem dX12_nextOn_1 : decode cX12_nextOn 1 = .ok (.istore_n 1, 1) := by decide +kernel
theorem dX12_nextOn_2 : decode cX12_nextOn 2 = .ok (.iload_n 1, 1) := by decide +kernel
theorem dX12_nextOn_3 : decode cX12_nextOn 3 = .ok (.aload_n 0, 1) := by decide +kernel
theorem dX12_nextOn_4 : decode cX12_nextOn 4 = .ok (.getfield 166, 3) := by decide +kernel
theorem dX12_nextOn_7 : decode cX12_nextOn 7 = .ok (.if_icmp .ge 44, 3) := by decide +kernel
theorem dX12_nextOn_10 : decode cX12_nextOn 10 = .ok (.aload_n 0, 1) := by decide +kernel
theorem dX12_nextOn_11 : decode cX12_nextOn 11 = .ok (.getfield 93, 3) := by decide +kernel
theorem dX12_nextOn_14 : decode cX12_nextOn 14 = .ok (.iload_n 1, 1) := by decide +kernel
theorem dX12_nextOn_15 : decode cX12_nextOn 15 = .ok (.iaload, 1) := by decide +kernel
theorem dX12_nextOn_16 : decode cX12_nextOn 16 = .ok (.iconst 1, 1) := by decide +kernel
theorem dX12_nextOn_17 : decode cX12_nextOn 17 = .ok (.if_icmp .ne 28, 3) := by decide +kernel
theorem dX12_nextOn_20 : decode cX12_nextOn 20 = .ok (.aload_n 0, 1) := by decide +kernel
theorem dX12_nextOn_21 : decode cX12_nextOn 21 = .ok (.getfield 68, 3) := by decide +kernel
theorem dX12_nextOn_24 : decode cX12_nextOn 24 = .ok (.iload_n 1, 1) := by decide +kernel
theorem dX12_nextOn_25 : decode cX12_nextOn 25 = .ok (.iaload, 1) := by decide +kernel
theorem dX12_nextOn_26 : decode cX12_nextOn 26 = .ok (.ifCond .ne 19, 3) := by decide +kernel
theorem dX12_nextOn_29 : decode cX12_nextOn 29 = .ok (.aload_n 0, 1) := by decide +kernel
theorem dX12_nextOn_30 : decode cX12_nextOn 30 = .ok (.getfield 81, 3) := by decide +kernel
theorem dX12_nextOn_33 : decode cX12_nextOn 33 = .ok (.aload_n 0, 1) := by decide +kernel
theorem dX12_nextOn_34 : decode cX12_nextOn 34 = .ok (.getfield 53, 3) := by decide +kernel
theorem dX12_nextOn_37 : decode cX12_nextOn 37 = .ok (.iload_n 1, 1) := by decide +kernel
theorem dX12_nextOn_38 : decode cX12_nextOn 38 = .ok (.iaload, 1) := by decide +kernel
theorem dX12_nextOn_39 : decode cX12_nextOn 39 = .ok (.iaload, 1) := by decide +kernel
theorem dX12_nextOn_40 : decode cX12_nextOn 40 = .ok (.ifCond .eq 5, 3) := by decide +kernel
theorem dX12_nextOn_43 : decode cX12_nextOn 43 = .ok (.iload_n 1, 1) := by decide +kernel
theorem dX12_nextOn_44 : decode cX12_nextOn 44 = .ok (.ireturn, 1) := by decide +kernel
theorem dX12_nextOn_45 : decode cX12_nextOn 45 = .ok (.iinc 1 1, 3) := by decide +kernel
theorem dX12_nextOn_48 : decode cX12_nextOn 48 = .ok (.goto (-46), 3) := by decide +kernel
theorem dX12_nextOn_51 : decode cX12_nextOn 51 = .ok (.iconst (-1), 1) := by decide +kernel
theorem dX12_nextOn_52 : decode cX12_nextOn 52 = .ok (.ireturn, 1) := by decide +kernel
theorem sb_wsX12_start_wsX12_start_r1 : ∀ w ∈ wsX12_start_r1, w ∈ wsX12_start := fun _ h => (List.mem_cons_of_mem _ (List.mem_append_left _ (List.mem_append_left _ h)))
theorem sb_wsX12_start_wsX12_start_r2 : ∀ w ∈ wsX12_start_r2, w ∈ wsX12_start := fun _ h => (List.mem_cons_of_mem _ (List.mem_append_left _ (List.mem_append_right _ (List.mem_append_left _ h))))
theorem sb_wsX12_start_wsX12_start_r3 : ∀ w ∈ wsX12_start_r3, w ∈ wsX12_start := fun _ h => (List.mem_cons_of_mem _ (List.mem_append_left _ (List.mem_append_right _ (List.mem_append_right _ h))))
theorem sb_wsX12_start_wsX120 : ∀ w ∈ wsX120, w ∈ wsX12_start := fun _ h => (List.mem_cons_of_mem _ (List.mem_append_right _ h))
set_option maxRecDepth 20000 in
theorem ggX12_start_X12_in : GoodIn wsX12_start wsX12_in := goodIn_sub (x_mc (sb_wsX12_start_wsX12_start_r1 _ (List.mem_of_getElem? (i := 7) rfl)) x_mn) (by decide +kernel)
set_option maxRecDepth 20000 in
theorem gX12_start_X12_in : GoodIn wsX12_start (va_wsS RX12 156 yX12_in wsX12_in) := goodIn_app (goodIn_of _ (by decide +kernel)) ggX12_start_X12_in
set_option maxRecDepth 20000 in
theorem ggX12_start_X12_lays : GoodIn wsX12_start wsX12_lays := goodIn_sub (x_mc (sb_wsX12_start_wsX12_start_r1 _ (List.mem_of_getElem? (i := 11) rfl)) (x_ina (x_ina (x_mc (sb_wsX12_start_wsX12_start_r1 _ (List.mem_of_getElem? (i := 12) rfl)) (x_mc (sb_wsX12_start_wsX12_start_r1 _ (List.mem_of_getElem? (i := 13) rfl)) (x_mc (sb_wsX12_start_wsX12_start_r1 _ (List.mem_of_getElem? (i := 14) rfl)) (x_mc (sb_wsX12_start_wsX12_start_r1 _ (List.mem_of_getElem? (i := 15) rfl)) (x_mc (sb_wsX12_start_wsX12_start_r1 _ (List.mem_of_getElem? (i := 0) rfl)) (x_mc (sb_wsX12_start_wsX12_start_r1 _ (List.mem_of_getElem? (i := 2) rfl)) (x_mc (sb_wsX12_start_wsX12_start_r1 _ (List.mem_of_getElem? (i := 16) rfl)) (x_mc (sb_wsX12_start_wsX12_start_r1 _ (List.mem_of_getElem? (i := 17) rfl)) (x_mc (sb_wsX12_start_wsX12_start_r1 _ (List.mem_of_getElem? (i := 18) rfl)) (x_mc (sb_wsX12_start_wsX12_start_r1 _ (List.mem_of_getElem? (i := 19) rfl)) (x_mc (sb_wsX12_start_wsX12_start_r1 _ (List.mem_of_getElem? (i := 20) rfl)) (x_mc (sb_wsX12_start_wsX12_start_r1 _ (List.mem_of_getElem? (i := 21) rfl)) (x_mc (sb_wsX12_start_wsX12_start_r1 _ (List.mem_of_getElem? (i := 6) rfl)) (x_mc (sb_wsX12_start_wsX12_start_r1 _ (List.mem_of_getElem? (i := 22) rfl)) (x_mc (sb_wsX12_start_wsX12_start_r1 _ (List.mem_of_getElem? (i := 23) rfl)) (x_mc (sb_wsX12_start_wsX12_start_r2 _ (List.mem_of_getElem? (i := 0) rfl)) (x_mc (sb_wsX12_start_wsX12_start_r2 _ (List.mem_of_getElem? (i := 1) rfl)) (x_mc (sb_wsX12_start_wsX12_start_r2 _ (List.mem_of_getElem? (i := 2) rfl)) (x_mc (sb_wsX12_start_wsX12_start_r2 _ (List.mem_of_getElem? (i := 3) rfl)) (x_mc (sb_wsX12_start_wsX12_start_r2 _ (List.mem_of_getElem? (i := 4) rfl)) (x_mc (sb_wsX12_start_wsX12_start_r2 _ (List.mem_of_getElem? (i := 5) rfl)) (x_mc (sb_wsX12_start_wsX12_start_r2 _ (List.mem_of_getElem? (i := 6) rfl)) (x_mc (sb_wsX12_start_wsX12_start_r2 _ (List.mem_of_getElem? (i := 7) rfl)) (x_mc (sb_wsX12_start_wsX12_start_r2 _ (List.mem_of_getElem? (i := 8) rfl)) x_mn)))))))))))))))))))))))) (x_mc (sb_wsX12_start_wsX12_start_r2 _ (List.mem_of_getElem? (i := 9) rfl)) (x_mc (sb_wsX12_start_wsX12_start_r2 _ (List.mem_of_getElem? (i := 10) rfl)) x_mn))) (fun _ h => sb_wsX12_start_wsX120 _ h))) (by decide +kernel)
set_option maxRecDepth 20000 in
theorem gX12_start_X12_lays : GoodIn wsX12_start (wsV RX12 247 RX12 yX12_lays wsX12_lays) := goodIn_app (goodIn_of _ (by decide +kernel)) ggX12_start_X12_lays
set_option maxRecDepth 20000 in
theorem ggX12_start_X12_allLoaded : GoodIn wsX12_start wsX12_allLoaded := goodIn_sub (x_mc (sb_wsX12_start_wsX12_start_r2 _ (List.mem_of_getElem? (i := 14) rfl)) (x_ina (x_mc (sb_wsX12_start_wsX12_start_r2 _ (List.mem_of_getElem? (i := 15) rfl)) (x_mc (sb_wsX12_start_wsX12_start_r2 _ (List.mem_of_getElem? (i := 16) rfl)) (x_mc (sb_wsX12_start_wsX12_start_r2 _ (List.mem_of_getElem? (i := 17) rfl)) (x_mc (sb_wsX12_start_wsX12_start_r2 _ (List.mem_of_getElem? (i := 18) rfl)) (x_mc (sb_wsX12_start_wsX12_start_r1 _ (List.mem_of_getElem? (i := 6) rfl)) (x_mc (sb_wsX12_start_wsX12_start_r2 _ (List.mem_of_getElem? (i := 19) rfl)) (x_mc (sb_wsX12_start_wsX12_start_r2 _ (List.mem_of_getElem? (i := 20) rfl)) (x_mc (sb_wsX12_start_wsX12_start_r2 _ (List.mem_of_getElem? (i := 21) rfl)) (x_mc (sb_wsX12_start_wsX12_start_r2 _ (List.mem_of_getElem? (i := 22) rfl)) (x_mc (sb_wsX12_start_wsX12_start_r2 _ (List.mem_of_getElem? (i := 23) rfl)) (x_mc (sb_wsX12_start_wsX12_start_r3 _ (List.mem_of_getElem? (i := 0) rfl)) (x_mc (sb_wsX12_start_wsX12_start_r3 _ (List.mem_of_getElem? (i := 1) rfl)) (x_mc (sb_wsX12_start_wsX12_start_r3 _ (List.mem_of_getElem? (i := 2) rfl)) (x_mc (sb_wsX12_start_wsX12_start_r3 _ (List.mem_of_getElem? (i := 3) rfl)) (x_mc (sb_wsX12_start_wsX12_start_r3 _ (List.mem_of_getElem? (i := 4) rfl)) (x_mc (sb_wsX12_start_wsX12_start_r3 _ (List.mem_of_getElem? (i := 5) rfl)) (x_mc (sb_wsX12_start_wsX12_start_r1 _ (List.mem_of_getElem? (i := 12) rfl)) (x_mc (sb_wsX12_start_wsX12_start_r1 _ (List.mem_of_getElem? (i := 14) rfl)) (x_mc (sb_wsX12_start_wsX12_start_r3 _ (List.mem_of_getElem? (i := 6) rfl)) x_mn))))))))))))))))))) (fun _ h => sb_wsX12_start_wsX120 _ h))) (by decide +kernel)
set_option maxRecDepth 20000 in
theorem gX12_start_X12_allLoaded : GoodIn wsX12_start (wsV RX12 269 RX12 yX12_allLoaded wsX12_allLoaded) := goodIn_app (goodIn_of _ (by decide +kernel)) ggX12_start_X12_allLoaded
set_option maxRecDepth 20000 in
theorem ggX12_start_X12_nextOn : GoodIn wsX12_start wsX12_nextOn := goodIn_sub (x_mc (sb_wsX12_start_wsX12_start_r3 _ (List.mem_of_getElem? (i := 10) rfl)) (x_ina (x_mc (sb_wsX12_start_wsX12_start_r1 _ (List.mem_of_getElem? (i := 0) rfl)) (x_mc (sb_wsX12_start_wsX12_start_r1 _ (List.mem_of_getElem? (i := 1) rfl)) (x_mc (sb_wsX12_start_wsX12_start_r1 _ (List.mem_of_getElem? (i := 2) rfl)) (x_mc (sb_wsX12_start_wsX12_start_r1 _ (List.mem_of_getElem? (i := 15) rfl)) (x_mc (sb_wsX12_start_wsX12_start_r1 _ (List.mem_of_getElem? (i := 16) rfl)) x_mn))))) (fun _ h => sb_wsX12_start_wsX120 _ h))) (by decide +kernel)
set_option maxRecDepth 20000 in
theorem gX12_start_X12_nextOn : GoodIn wsX12_start (wsV RX12 450 RX12 yX12_nextOn wsX12_nextOn) := goodIn_app (goodIn_of _ (by decide +kernel)) ggX12_start_X12_nextOn
theorem dX12_start_0 : decode cX12_start 0 = .ok (.iload_n 1, 1) := by decide +kernel
theorem dX12_start_1 : decode cX12_start 1 = .ok (.i2l, 1) := by decide +kernel
theorem dX12_start_2 : decode cX12_start 2 = .ok (.lconst 0, 1) := by decide +kernel
theorem dX12_start_3 : decode cX12_start 3 = .ok (.lconst 1, 1) := by decide +kernel
theorem dX12_start_4 : decode cX12_start 4 = .ok (.invokestatic 156, 3) := by decide +kernel
theorem dX12_start_7 : decode cX12_start 7 = .ok (.ifCond .ne 6, 3) := by decide +kernel
theorem dX12_start_10 : decode cX12_start 10 = .ok (.bipush (-2), 2) := by decide +kernel
theorem dX12_start_12 : decode cX12_start 12 = .ok (.ireturn, 1) := by decide +kernel
theorem dX12_start_13 : decode cX12_start 13 = .ok (.iconst 0, 1) := by decide +kernel
theorem dX12_start_14 : decode cX12_start 14 = .ok (.istore_n 2, 1) := by decide +kernel
theorem dX12_start_15 : decode cX12_start 15 = .ok (.iconst 0, 1) := by decide +kernel
theorem dX12_start_16 : decode cX12_start 16 = .ok (.istore_n 3, 1) := by decide +kernel
theorem dX12_start_17 : decode cX12_start 17 = .ok (.iload_n 3, 1) := by decide +kernel
theorem dX12_start_18 : decode cX12_start 18 = .ok (.aload_n 0, 1) := by decide +kernel
theorem dX12_start_19 : decode cX12_start 19 = .ok (.getfield 166, 3) := by decide +kernel
theorem dX12_start_22 : decode cX12_start 22 = .ok (.if_icmp .ge 37, 3) := by decide +kernel
theorem dX12_start_25 : decode cX12_start 25 = .ok (.aload_n 0, 1) := by decide +kernel
theorem dX12_start_26 : decode cX12_start 26 = .ok (.getfield 93, 3) := by decide +kernel
theorem dX12_start_29 : decode cX12_start 29 = .ok (.iload_n 3, 1) := by decide +kernel
theorem dX12_start_30 : decode cX12_start 30 = .ok (.aload_n 0, 1) := by decide +kernel
theorem dX12_start_31 : decode cX12_start 31 = .ok (.getfield 68, 3) := by decide +kernel
theorem dX12_start_34 : decode cX12_start 34 = .ok (.iload_n 3, 1) := by decide +kernel
theorem dX12_start_35 : decode cX12_start 35 = .ok (.iaload, 1) := by decide +kernel
theorem dX12_start_36 : decode cX12_start 36 = .ok (.iastore, 1) := by decide +kernel
theorem dX12_start_37 : decode cX12_start 37 = .ok (.iload_n 2, 1) := by decide +kernel
theorem dX12_start_38 : decode cX12_start 38 = .ok (.aload_n 0, 1) := by decide +kernel
theorem dX12_start_39 : decode cX12_start 39 = .ok (.getfield 68, 3) := by decide +kernel
theorem dX12_start_42 : decode cX12_start 42 = .ok (.iload_n 3, 1) := by decide +kernel
theorem dX12_start_43 : decode cX12_start 43 = .ok (.iaload, 1) := by decide +kernel
theorem dX12_start_44 : decode cX12_start 44 = .ok (.iadd, 1) := by decide +kernel
theorem dX12_start_45 : decode cX12_start 45 = .ok (.istore_n 2, 1) := by decide +kernel
theorem dX12_start_46 : decode cX12_start 46 = .ok (.aload_n 0, 1) := by decide +kernel
theorem dX12_start_47 : decode cX12_start 47 = .ok (.getfield 68, 3) := by decide +kernel
theorem dX12_start_50 : decode cX12_start 50 = .ok (.iload_n 3, 1) := by decide +kernel
theorem dX12_start_51 : decode cX12_start 51 = .ok (.iconst 0, 1) := by decide +kernel
theorem dX12_start_52 : decode cX12_start 52 = .ok (.iastore, 1) := by decide +kernel
theorem dX12_start_53 : decode cX12_start 53 = .ok (.iinc 3 1, 3) := by decide +kernel
theorem dX12_start_56 : decode cX12_start 56 = .ok (.goto (-39), 3) := by decide +kernel
theorem dX12_start_59 : decode cX12_start 59 = .ok (.aload_n 0, 1) := by decide +kernel
theorem dX12_start_60 : decode cX12_start 60 = .ok (.invokevirtual 247, 3) := by decide +kernel
theorem dX12_start_63 : decode cX12_start 63 = .ok (.aload_n 0, 1) := by decide +kernel
theorem dX12_start_64 : decode cX12_start 64 = .ok (.invokevirtual 269, 3) := by decide +kernel
theorem dX12_start_67 : decode cX12_start 67 = .ok (.istore_n 3, 1) := by decide +kernel
theorem dX12_start_68 : decode cX12_start 68 = .ok (.iload_n 3, 1) := by decide +kernel
theorem dX12_start_69 : decode cX12_start 69 = .ok (.aload_n 0, 1) := by decide +kernel
theorem dX12_start_70 : decode cX12_start 70 = .ok (.getfield 148, 3) := by decide +kernel
theorem dX12_start_73 : decode cX12_start 73 = .ok (.if_icmp .le 7, 3) := by decide +kernel
theorem dX12_start_76 : decode cX12_start 76 = .ok (.iconst 1, 1) := by decide +kernel
theorem dX12_start_77 : decode cX12_start 77 = .ok (.goto 4, 3) := by decide +kernel
theorem dX12_start_80 : decode cX12_start 80 = .ok (.iconst 0, 1) := by decide +kernel
theorem dX12_start_81 : decode cX12_start 81 = .ok (.istore 4, 2) := by decide +kernel
theorem dX12_start_83 : decode cX12_start 83 = .ok (.iconst 0, 1) := by decide +kernel
theorem dX12_start_84 : decode cX12_start 84 = .ok (.istore 5, 2) := by decide +kernel
theorem dX12_start_86 : decode cX12_start 86 = .ok (.iconst 0, 1) := by decide +kernel
theorem dX12_start_87 : decode cX12_start 87 = .ok (.istore 6, 2) := by decide +kernel
theorem dX12_start_89 : decode cX12_start 89 = .ok (.aload_n 0, 1) := by decide +kernel
theorem dX12_start_90 : decode cX12_start 90 = .ok (.invokevirtual 450, 3) := by decide +kernel
theorem dX12_start_93 : decode cX12_start 93 = .ok (.istore 7, 2) := by decide +kernel
theorem dX12_start_95 : decode cX12_start 95 = .ok (.iload 4, 2) := by decide +kernel
theorem dX12_start_97 : decode cX12_start 97 = .ok (.ifCond .ne 87, 3) := by decide +kernel
theorem dX12_start_100 : decode cX12_start 100 = .ok (.iload 7, 2) := by decide +kernel
theorem dX12_start_102 : decode cX12_start 102 = .ok (.iconst (-1), 1) := by decide +kernel
theorem dX12_start_103 : decode cX12_start 103 = .ok (.if_icmp .eq 81, 3) := by decide +kernel
theorem dX12_start_106 : decode cX12_start 106 = .ok (.aload_n 0, 1) := by decide +kernel
theorem dX12_start_107 : decode cX12_start 107 = .ok (.getfield 68, 3) := by decide +kernel
theorem dX12_start_110 : decode cX12_start 110 = .ok (.iload 7, 2) := by decide +kernel
theorem dX12_start_112 : decode cX12_start 112 = .ok (.iconst 1, 1) := by decide +kernel
theorem dX12_start_113 : decode cX12_start 113 = .ok (.iastore, 1) := by decide +kernel
theorem dX12_start_114 : decode cX12_start 114 = .ok (.iinc 2 (-1), 3) := by decide +kernel
theorem dX12_start_117 : decode cX12_start 117 = .ok (.bipush 10, 2) := by decide +kernel
theorem dX12_start_119 : decode cX12_start 119 = .ok (.iload 5, 2) := by decide +kernel
theorem dX12_start_121 : decode cX12_start 121 = .ok (.imul, 1) := by decide +kernel
theorem dX12_start_122 : decode cX12_start 122 = .ok (.iload 7, 2) := by decide +kernel
theorem dX12_start_124 : decode cX12_start 124 = .ok (.iadd, 1) := by decide +kernel
theorem dX12_start_125 : decode cX12_start 125 = .ok (.istore 5, 2) := by decide +kernel
theorem dX12_start_127 : decode cX12_start 127 = .ok (.aload_n 0, 1) := by decide +kernel
theorem dX12_start_128 : decode cX12_start 128 = .ok (.invokevirtual 247, 3) := by decide +kernel
theorem dX12_start_131 : decode cX12_start 131 = .ok (.aload_n 0, 1) := by decide +kernel
theorem dX12_start_132 : decode cX12_start 132 = .ok (.invokevirtual 269, 3) := by decide +kernel
theorem dX12_start_135 : decode cX12_start 135 = .ok (.istore 8, 2) := by decide +kernel
theorem dX12_start_137 : decode cX12_start 137 = .ok (.iload 8, 2) := by decide +kernel
theorem dX12_start_139 : decode cX12_start 139 = .ok (.iload_n 3, 1) := by decide +kernel
theorem dX12_start_140 : decode cX12_start 140 = .ok (.isub, 1) := by decide +kernel
theorem dX12_start_141 : decode cX12_start 141 = .ok (.iload 6, 2) := by decide +kernel
theorem dX12_start_143 : decode cX12_start 143 = .ok (.if_icmp .le 10, 3) := by decide +kernel
theorem dX12_start_146 : decode cX12_start 146 = .ok (.iload 8, 2) := by decide +kernel
theorem dX12_start_148 : decode cX12_start 148 = .ok (.iload_n 3, 1) := by decide +kernel
theorem dX12_start_149 : decode cX12_start 149 = .ok (.isub, 1) := by decide +kernel
theorem dX12_start_150 : decode cX12_start 150 = .ok (.goto 5, 3) := by decide +kernel
theorem dX12_start_153 : decode cX12_start 153 = .ok (.iload 6, 2) := by decide +kernel
theorem dX12_start_155 : decode cX12_start 155 = .ok (.istore 6, 2) := by decide +kernel
theorem dX12_start_157 : decode cX12_start 157 = .ok (.iload 8, 2) := by decide +kernel
theorem dX12_start_159 : decode cX12_start 159 = .ok (.istore_n 3, 1) := by decide +kernel
theorem dX12_start_160 : decode cX12_start 160 = .ok (.iload_n 3, 1) := by decide +kernel
theorem dX12_start_161 : decode cX12_start 161 = .ok (.aload_n 0, 1) := by decide +kernel
theorem dX12_start_162 : decode cX12_start 162 = .ok (.getfield 148, 3) := by decide +kernel
theorem dX12_start_165 : decode cX12_start 165 = .ok (.if_icmp .le 7, 3) := by decide +kernel
theorem dX12_start_168 : decode cX12_start 168 = .ok (.iconst 1, 1) := by decide +kernel
theorem dX12_start_169 : decode cX12_start 169 = .ok (.goto 4, 3) := by decide +kernel
theorem dX12_start_172 : decode cX12_start 172 = .ok (.iconst 0, 1) := by decide +kernel
theorem dX12_start_173 : decode cX12_start 173 = .ok (.istore 4, 2) := by decide +kernel
theorem dX12_start_175 : decode cX12_start 175 = .ok (.aload_n 0, 1) := by decide +kernel
theorem dX12_start_176 : decode cX12_start 176 = .ok (.invokevirtual 450, 3) := by decide +kernel
theorem dX12_start_179 : decode cX12_start 179 = .ok (.istore 7, 2) := by decide +kernel
theorem dX12_start_181 : decode cX12_start 181 = .ok (.goto (-86), 3) := by decide +kernel
theorem dX12_start_184 : decode cX12_start 184 = .ok (.iconst 0, 1) := by decide +kernel
theorem dX12_start_185 : decode cX12_start 185 = .ok (.istore 8, 2) := by decide +kernel
theorem dX12_start_187 : decode cX12_start 187 = .ok (.iload 8, 2) := by decide +kernel
theorem dX12_start_189 : decode cX12_start 189 = .ok (.aload_n 0, 1) := by decide +kernel
theorem dX12_start_190 : decode cX12_start 190 = .ok (.getfield 166, 3) := by decide +kernel
theorem dX12_start_193 : decode cX12_start 193 = .ok (.if_icmp .ge 23, 3) := by decide +kernel
theorem dX12_start_196 : decode cX12_start 196 = .ok (.aload_n 0, 1) := by decide +kernel
theorem dX12_start_197 : decode cX12_start 197 = .ok (.getfield 68, 3) := by decide +kernel
theorem dX12_start_200 : decode cX12_start 200 = .ok (.iload 8, 2) := by decide +kernel
theorem dX12_start_202 : decode cX12_start 202 = .ok (.aload_n 0, 1) := by decide +kernel
theorem dX12_start_203 : decode cX12_start 203 = .ok (.getfield 93, 3) := by decide +kernel
theorem dX12_start_206 : decode cX12_start 206 = .ok (.iload 8, 2) := by decide +kernel
theorem dX12_start_208 : decode cX12_start 208 = .ok (.iaload, 1) := by decide +kernel
theorem dX12_start_209 : decode cX12_start 209 = .ok (.iastore, 1) := by decide +kernel
theorem dX12_start_210 : decode cX12_start 210 = .ok (.iinc 8 1, 3) := by decide +kernel
theorem dX12_start_213 : decode cX12_start 213 = .ok (.goto (-26), 3) := by decide +kernel
theorem dX12_start_216 : decode cX12_start 216 = .ok (.iload 4, 2) := by decide +kernel
theorem dX12_start_218 : decode cX12_start 218 = .ok (.ifCond .ne 7, 3) := by decide +kernel
theorem dX12_start_221 : decode cX12_start 221 = .ok (.iload_n 2, 1) := by decide +kernel
theorem dX12_start_222 : decode cX12_start 222 = .ok (.ifCond .le 7, 3) := by decide +kernel
theorem dX12_start_225 : decode cX12_start 225 = .ok (.iconst (-1), 1) := by decide +kernel
theorem dX12_start_226 : decode cX12_start 226 = .ok (.goto 14, 3) := by decide +kernel
theorem dX12_start_229 : decode cX12_start 229 = .ok (.iload_n 1, 1) := by decide +kernel
theorem dX12_start_230 : decode cX12_start 230 = .ok (.ifCond .ne 8, 3) := by decide +kernel
theorem dX12_start_233 : decode cX12_start 233 = .ok (.iload 5, 2) := by decide +kernel
theorem dX12_start_235 : decode cX12_start 235 = .ok (.goto 5, 3) := by decide +kernel
theorem dX12_start_238 : decode cX12_start 238 = .ok (.iload 6, 2) := by decide +kernel
theorem dX12_start_240 : decode cX12_start 240 = .ok (.ireturn, 1) := by decide +kernel
theorem sb_wsX12_save_wsX12_save_r1 : ∀ w ∈ wsX12_save_r1, w ∈ wsX12_save := fun _ h => (List.mem_cons_of_mem _ (List.mem_append_left _ (List.mem_append_left _ h)))
theorem sb_wsX12_save_wsX12_save_r2 : ∀ w ∈ wsX12_save_r2, w ∈ wsX12_save := fun _ h => (List.mem_cons_of_mem _ (List.mem_append_left _ (List.mem_append_right _ h)))
theorem sb_wsX12_save_wsX120 : ∀ w ∈ wsX120, w ∈ wsX12_save := fun _ h => (List.mem_cons_of_mem _ (List.mem_append_right _ h))
set_option maxRecDepth 20000 in
theorem ggX12_save_X12_lays : GoodIn wsX12_save wsX12_lays := goodIn_sub (x_mc (sb_wsX12_save_wsX12_save_r1 _ (List.mem_of_getElem? (i := 9) rfl)) (x_ina (x_ina (x_mc (sb_wsX12_save_wsX12_save_r1 _ (List.mem_of_getElem? (i := 10) rfl)) (x_mc (sb_wsX12_save_wsX12_save_r1 _ (List.mem_of_getElem? (i := 11) rfl)) (x_mc (sb_wsX12_save_wsX12_save_r1 _ (List.mem_of_getElem? (i := 12) rfl)) (x_mc (sb_wsX12_save_wsX12_save_r1 _ (List.mem_of_getElem? (i := 1) rfl)) (x_mc (sb_wsX12_save_wsX12_save_r1 _ (List.mem_of_getElem? (i := 13) rfl)) (x_mc (sb_wsX12_save_wsX12_save_r1 _ (List.mem_of_getElem? (i := 14) rfl)) (x_mc (sb_wsX12_save_wsX12_save_r1 _ (List.mem_of_getElem? (i := 15) rfl)) (x_mc (sb_wsX12_save_wsX12_save_r1 _ (List.mem_of_getElem? (i := 16) rfl)) (x_mc (sb_wsX12_save_wsX12_save_r1 _ (List.mem_of_getElem? (i := 17) rfl)) (x_mc (sb_wsX12_save_wsX12_save_r1 _ (List.mem_of_getElem? (i := 18) rfl)) (x_mc (sb_wsX12_save_wsX12_save_r1 _ (List.mem_of_getElem? (i := 19) rfl)) (x_mc (sb_wsX12_save_wsX12_save_r1 _ (List.mem_of_getElem? (i := 20) rfl)) (x_mc (sb_wsX12_save_wsX12_save_r1 _ (List.mem_of_getElem? (i := 8) rfl)) (x_mc (sb_wsX12_save_wsX12_save_r1 _ (List.mem_of_getElem? (i := 21) rfl)) (x_mc (sb_wsX12_save_wsX12_save_r1 _ (List.mem_of_getElem? (i := 22) rfl)) (x_mc (sb_wsX12_save_wsX12_save_r1 _ (List.mem_of_getElem? (i := 23) rfl)) (x_mc (sb_wsX12_save_wsX12_save_r2 _ (List.mem_of_getElem? (i := 0) rfl)) (x_mc (sb_wsX12_save_wsX12_save_r2 _ (List.mem_of_getElem? (i := 1) rfl)) (x_mc (sb_wsX12_save_wsX12_save_r2 _ (List.mem_of_getElem? (i := 2) rfl)) (x_mc (sb_wsX12_save_wsX12_save_r2 _ (List.mem_of_getElem? (i := 3) rfl)) (x_mc (sb_wsX12_save_wsX12_save_r2 _ (List.mem_of_getElem? (i := 4) rfl)) (x_mc (sb_wsX12_save_wsX12_save_r2 _ (List.mem_of_getElem? (i := 5) rfl)) (x_mc (sb_wsX12_save_wsX12_save_r2 _ (List.mem_of_getElem? (i := 6) rfl)) (x_mc (sb_wsX12_save_wsX12_save_r2 _ (List.mem_of_getElem? (i := 7) rfl)) x_mn)))))))))))))))))))))))) (x_mc (sb_wsX12_save_wsX12_save_r2 _ (List.mem_of_getElem? (i := 8) rfl)) (x_mc (sb_wsX12_save_wsX12_save_r2 _ (List.mem_of_getElem? (i := 9) rfl)) x_mn))) (fun _ h => sb_wsX12_save_wsX120 _ h))) (by decide +kernel)
set_option maxRecDepth 20000 in
theorem gX12_save_X12_lays : GoodIn wsX12_save (wsV RX12 247 RX12 yX12_lays wsX12_lays) := goodIn_app (goodIn_of _ (by decide +kernel)) ggX12_save_X12_lays
set_option maxRecDepth 20000 in
theorem ggX12_save_X12_from : GoodIn wsX12_save wsX12_from := goodIn_sub (x_mc (sb_wsX12_save_wsX12_save_r2 _ (List.mem_of_getElem? (i := 13) rfl)) (x_ina (x_mc (sb_wsX12_save_wsX12_save_r1 _ (List.mem_of_getElem? (i := 13) rfl)) (x_mc (sb_wsX12_save_wsX12_save_r1 _ (List.mem_of_getElem? (i := 14) rfl)) (x_mc (sb_wsX12_save_wsX12_save_r1 _ (List.mem_of_getElem? (i := 15) rfl)) (x_mc (sb_wsX12_save_wsX12_save_r1 _ (List.mem_of_getElem? (i := 16) rfl)) x_mn)))) (fun _ h => sb_wsX12_save_wsX120 _ h))) (by decide +kernel)
set_option maxRecDepth 20000 in
theorem gX12_save_X12_from : GoodIn wsX12_save (wsV RX12 227 RX12 yX12_from wsX12_from) := goodIn_app (goodIn_of _ (by decide +kernel)) ggX12_save_X12_from
theorem dX12_save_0 : decode cX12_save 0 = .ok (.aload_n 0, 1) := by decide +kernel
theorem dX12_save_1 : decode cX12_save 1 = .ok (.invokevirtual 247, 3) := by decide +kernel
theorem dX12_save_4 : decode cX12_save 4 = .ok (.iconst 0, 1) := by decide +kernel
theorem dX12_save_5 : decode cX12_save 5 = .ok (.istore_n 1, 1) := by decide +kernel
theorem dX12_save_6 : decode cX12_save 6 = .ok (.iconst 1, 1) := by decide +kernel
theorem dX12_save_7 : decode cX12_save 7 = .ok (.istore_n 2, 1) := by decide +kernel
theorem dX12_save_8 : decode cX12_save 8 = .ok (.iload_n 2, 1) := by decide +kernel
theorem dX12_save_9 : decode cX12_save 9 = .ok (.aload_n 0, 1) := by decide +kernel
theorem dX12_save_10 : decode cX12_save 10 = .ok (.getfield 153, 3) := by decide +kernel
theorem dX12_save_13 : decode cX12_save 13 = .ok (.if_icmp .ge 100, 3) := by decide +kernel
theorem dX12_save_16 : decode cX12_save 16 = .ok (.aload_n 0, 1) := by decide +kernel
theorem dX12_save_17 : decode cX12_save 17 = .ok (.iload_n 2, 1) := by decide +kernel
theorem dX12_save_18 : decode cX12_save 18 = .ok (.invokevirtual 227, 3) := by decide +kernel
theorem dX12_save_21 : decode cX12_save 21 = .ok (.istore_n 3, 1) := by decide +kernel
theorem dX12_save_22 : decode cX12_save 22 = .ok (.aload_n 0, 1) := by decide +kernel
theorem dX12_save_23 : decode cX12_save 23 = .ok (.getfield 81, 3) := by decide +kernel
theorem dX12_save_26 : decode cX12_save 26 = .ok (.iload_n 2, 1) := by decide +kernel
theorem dX12_save_27 : decode cX12_save 27 = .ok (.iaload, 1) := by decide +kernel
theorem dX12_save_28 : decode cX12_save 28 = .ok (.ifCond .eq 7, 3) := by decide +kernel
theorem dX12_save_31 : decode cX12_save 31 = .ok (.iconst 1, 1) := by decide +kernel
theorem dX12_save_32 : decode cX12_save 32 = .ok (.goto 4, 3) := by decide +kernel
theorem dX12_save_35 : decode cX12_save 35 = .ok (.iconst 0, 1) := by decide +kernel
theorem dX12_save_36 : decode cX12_save 36 = .ok (.istore 4, 2) := by decide +kernel
theorem dX12_save_38 : decode cX12_save 38 = .ok (.iconst 0, 1) := by decide +kernel
theorem dX12_save_39 : decode cX12_save 39 = .ok (.istore 5, 2) := by decide +kernel
theorem dX12_save_41 : decode cX12_save 41 = .ok (.iload 5, 2) := by decide +kernel
theorem dX12_save_43 : decode cX12_save 43 = .ok (.aload_n 0, 1) := by decide +kernel
theorem dX12_save_44 : decode cX12_save 44 = .ok (.getfield 160, 3) := by decide +kernel
theorem dX12_save_47 : decode cX12_save 47 = .ok (.if_icmp .ge 45, 3) := by decide +kernel
theorem dX12_save_50 : decode cX12_save 50 = .ok (.iload 4, 2) := by decide +kernel
theorem dX12_save_52 : decode cX12_save 52 = .ok (.ifCond .eq 31, 3) := by decide +kernel
theorem dX12_save_55 : decode cX12_save 55 = .ok (.aload_n 0, 1) := by decide +kernel
theorem dX12_save_56 : decode cX12_save 56 = .ok (.getfield 44, 3) := by decide +kernel
theorem dX12_save_59 : decode cX12_save 59 = .ok (.iload 5, 2) := by decide +kernel
theorem dX12_save_61 : decode cX12_save 61 = .ok (.iaload, 1) := by decide +kernel
theorem dX12_save_62 : decode cX12_save 62 = .ok (.ifCond .eq 17, 3) := by decide +kernel
theorem dX12_save_65 : decode cX12_save 65 = .ok (.iload_n 3, 1) := by decide +kernel
theorem dX12_save_66 : decode cX12_save 66 = .ok (.aload_n 0, 1) := by decide +kernel
theorem dX12_save_67 : decode cX12_save 67 = .ok (.getfield 29, 3) := by decide +kernel
theorem dX12_save_70 : decode cX12_save 70 = .ok (.iload 5, 2) := by decide +kernel
theorem dX12_save_72 : decode cX12_save 72 = .ok (.iaload, 1) := by decide +kernel
theorem dX12_save_73 : decode cX12_save 73 = .ok (.ishr, 1) := by decide +kernel
theorem dX12_save_74 : decode cX12_save 74 = .ok (.iconst 1, 1) := by decide +kernel
theorem dX12_save_75 : decode cX12_save 75 = .ok (.iand, 1) := by decide +kernel
theorem dX12_save_76 : decode cX12_save 76 = .ok (.ifCond .ne 7, 3) := by decide +kernel
theorem dX12_save_79 : decode cX12_save 79 = .ok (.iconst 1, 1) := by decide +kernel
theorem dX12_save_80 : decode cX12_save 80 = .ok (.goto 4, 3) := by decide +kernel
theorem dX12_save_83 : decode cX12_save 83 = .ok (.iconst 0, 1) := by decide +kernel
theorem dX12_save_84 : decode cX12_save 84 = .ok (.istore 4, 2) := by decide +kernel
theorem dX12_save_86 : decode cX12_save 86 = .ok (.iinc 5 1, 3) := by decide +kernel
theorem dX12_save_89 : decode cX12_save 89 = .ok (.goto (-48), 3) := by decide +kernel
theorem dX12_save_92 : decode cX12_save 92 = .ok (.iload_n 1, 1) := by decide +kernel
theorem dX12_save_93 : decode cX12_save 93 = .ok (.iload 4, 2) := by decide +kernel
theorem dX12_save_95 : decode cX12_save 95 = .ok (.ifCond .eq 9, 3) := by decide +kernel
theorem dX12_save_98 : decode cX12_save 98 = .ok (.iconst 1, 1) := by decide +kernel
theorem dX12_save_99 : decode cX12_save 99 = .ok (.iload_n 2, 1) := by decide +kernel
theorem dX12_save_100 : decode cX12_save 100 = .ok (.ishl, 1) := by decide +kernel
theorem dX12_save_101 : decode cX12_save 101 = .ok (.goto 4, 3) := by decide +kernel
theorem dX12_save_104 : decode cX12_save 104 = .ok (.iconst 0, 1) := by decide +kernel
theorem dX12_save_105 : decode cX12_save 105 = .ok (.ior, 1) := by decide +kernel
theorem dX12_save_106 : decode cX12_save 106 = .ok (.istore_n 1, 1) := by decide +kernel
theorem dX12_save_107 : decode cX12_save 107 = .ok (.iinc 2 1, 3) := by decide +kernel
theorem dX12_save_110 : decode cX12_save 110 = .ok (.goto (-102), 3) := by decide +kernel
theorem dX12_save_113 : decode cX12_save 113 = .ok (.iload_n 1, 1) := by decide +kernel
theorem dX12_save_114 : decode cX12_save 114 = .ok (.ireturn, 1) := by decide +kernel
theorem dX12_image_0 : decode cX12_image 0 = .ok (.aload_n 0, 1) := by decide +kernel
theorem dX12_image_1 : decode cX12_image 1 = .ok (.iconst 1, 1) := by decide +kernel
theorem dX12_image_2 : decode cX12_image 2 = .ok (.putfield 453, 3) := by decide +kernel
theorem dX12_image_5 : decode cX12_image 5 = .ok (.aload_n 0, 1) := by decide +kernel
theorem dX12_image_6 : decode cX12_image 6 = .ok (.aload_n 0, 1) := by decide +kernel
theorem dX12_image_7 : decode cX12_image 7 = .ok (.getfield 166, 3) := by decide +kernel
theorem dX12_image_10 : decode cX12_image 10 = .ok (.putfield 456, 3) := by decide +kernel
theorem dX12_image_13 : decode cX12_image 13 = .ok (.aload_n 0, 1) := by decide +kernel
theorem dX12_image_14 : decode cX12_image 14 = .ok (.aload_n 0, 1) := by decide +kernel
theorem dX12_image_15 : decode cX12_image 15 = .ok (.getfield 160, 3) := by decide +kernel
theorem dX12_image_18 : decode cX12_image 18 = .ok (.putfield 459, 3) := by decide +kernel
theorem dX12_image_21 : decode cX12_image 21 = .ok (.aload_n 0, 1) := by decide +kernel
theorem dX12_image_22 : decode cX12_image 22 = .ok (.aload_n 0, 1) := by decide +kernel
theorem dX12_image_23 : decode cX12_image 23 = .ok (.getfield 145, 3) := by decide +kernel
theorem dX12_image_26 : decode cX12_image 26 = .ok (.putfield 462, 3) := by decide +kernel
theorem dX12_image_29 : decode cX12_image 29 = .ok (.aload_n 0, 1) := by decide +kernel
theorem dX12_image_30 : decode cX12_image 30 = .ok (.aload_n 0, 1) := by decide +kernel
theorem dX12_image_31 : decode cX12_image 31 = .ok (.getfield 148, 3) := by decide +kernel
theorem dX12_image_34 : decode cX12_image 34 = .ok (.putfield 465, 3) := by decide +kernel
theorem dX12_image_37 : decode cX12_image 37 = .ok (.aload_n 0, 1) := by decide +kernel
theorem dX12_image_38 : decode cX12_image 38 = .ok (.aload_n 0, 1) := by decide +kernel
theorem dX12_image_39 : decode cX12_image 39 = .ok (.getfield 236, 3) := by decide +kernel
theorem dX12_image_42 : decode cX12_image 42 = .ok (.putfield 468, 3) := by decide +kernel
theorem dX12_image_45 : decode cX12_image 45 = .ok (.iconst 0, 1) := by decide +kernel
theorem dX12_image_46 : decode cX12_image 46 = .ok (.istore_n 1, 1) := by decide +kernel
theorem dX12_image_47 : decode cX12_image 47 = .ok (.iload_n 1, 1) := by decide +kernel
theorem dX12_image_48 : decode cX12_image 48 = .ok (.aload_n 0, 1) := by decide +kernel
theorem dX12_image_49 : decode cX12_image 49 = .ok (.getfield 166, 3) := by decide +kernel
theorem dX12_image_52 : decode cX12_image 52 = .ok (.if_icmp .ge 45, 3) := by decide +kernel
theorem dX12_image_55 : decode cX12_image 55 = .ok (.aload_n 0, 1) := by decide +kernel
theorem dX12_image_56 : decode cX12_image 56 = .ok (.getfield 96, 3) := by decide +kernel
theorem dX12_image_59 : decode cX12_image 59 = .ok (.iload_n 1, 1) := by decide +kernel
theorem dX12_image_60 : decode cX12_image 60 = .ok (.aload_n 0, 1) := by decide +kernel
theorem dX12_image_61 : decode cX12_image 61 = .ok (.getfield 59, 3) := by decide +kernel
theorem dX12_image_64 : decode cX12_image 64 = .ok (.iload_n 1, 1) := by decide +kernel
theorem dX12_image_65 : decode cX12_image 65 = .ok (.iaload, 1) := by decide +kernel
theorem dX12_image_66 : decode cX12_image 66 = .ok (.iastore, 1) := by decide +kernel
theorem dX12_image_67 : decode cX12_image 67 = .ok (.aload_n 0, 1) := by decide +kernel
theorem dX12_image_68 : decode cX12_image 68 = .ok (.getfield 99, 3) := by decide +kernel
theorem dX12_image_71 : decode cX12_image 71 = .ok (.iload_n 1, 1) := by decide +kernel
theorem dX12_image_72 : decode cX12_image 72 = .ok (.aload_n 0, 1) := by decide +kernel
theorem dX12_image_73 : decode cX12_image 73 = .ok (.getfield 62, 3) := by decide +kernel
theorem dX12_image_76 : decode cX12_image 76 = .ok (.iload_n 1, 1) := by decide +kernel
theorem dX12_image_77 : decode cX12_image 77 = .ok (.iaload, 1) := by decide +kernel
theorem dX12_image_78 : decode cX12_image 78 = .ok (.iastore, 1) := by decide +kernel
theorem dX12_image_79 : decode cX12_image 79 = .ok (.aload_n 0, 1) := by decide +kernel
theorem dX12_image_80 : decode cX12_image 80 = .ok (.getfield 102, 3) := by decide +kernel
theorem dX12_image_83 : decode cX12_image 83 = .ok (.iload_n 1, 1) := by decide +kernel
theorem dX12_image_84 : decode cX12_image 84 = .ok (.aload_n 0, 1) := by decide +kernel
theorem dX12_image_85 : decode cX12_image 85 = .ok (.getfield 68, 3) := by decide +kernel
theorem dX12_image_88 : decode cX12_image 88 = .ok (.iload_n 1, 1) := by decide +kernel
theorem dX12_image_89 : decode cX12_image 89 = .ok (.iaload, 1) := by decide +kernel
theorem dX12_image_90 : decode cX12_image 90 = .ok (.iastore, 1) := by decide +kernel
theorem dX12_image_91 : decode cX12_image 91 = .ok (.iinc 1 1, 3) := by decide +kernel
theorem dX12_image_94 : decode cX12_image 94 = .ok (.goto (-47), 3) := by decide +kernel
theorem dX12_image_97 : decode cX12_image 97 = .ok (.iconst 0, 1) := by decide +kernel
theorem dX12_image_98 : decode cX12_image 98 = .ok (.istore_n 1, 1) := by decide +kernel
theorem dX12_image_99 : decode cX12_image 99 = .ok (.iload_n 1, 1) := by decide +kernel
theorem dX12_image_100 : decode cX12_image 100 = .ok (.aload_n 0, 1) := by decide +kernel
theorem dX12_image_101 : decode cX12_image 101 = .ok (.getfield 160, 3) := by decide +kernel
theorem dX12_image_104 : decode cX12_image 104 = .ok (.if_icmp .ge 33, 3) := by decide +kernel
theorem dX12_image_107 : decode cX12_image 107 = .ok (.aload_n 0, 1) := by decide +kernel
theorem dX12_image_108 : decode cX12_image 108 = .ok (.getfield 105, 3) := by decide +kernel
theorem dX12_image_111 : decode cX12_image 111 = .ok (.iload_n 1, 1) := by decide +kernel
theorem dX12_image_112 : decode cX12_image 112 = .ok (.aload_n 0, 1) := by decide +kernel
theorem dX12_image_113 : decode cX12_image 113 = .ok (.getfield 32, 3) := by decide +kernel
theorem dX12_image_116 : decode cX12_image 116 = .ok (.iload_n 1, 1) := by decide +kernel
theorem dX12_image_117 : decode cX12_image 117 = .ok (.iaload, 1) := by decide +kernel
theorem dX12_image_118 : decode cX12_image 118 = .ok (.iastore, 1) := by decide +kernel
theorem dX12_image_119 : decode cX12_image 119 = .ok (.aload_n 0, 1) := by decide +kernel
theorem dX12_image_120 : decode cX12_image 120 = .ok (.getfield 108, 3) := by decide +kernel
theorem dX12_image_123 : decode cX12_image 123 = .ok (.iload_n 1, 1) := by decide +kernel
theorem dX12_image_124 : decode cX12_image 124 = .ok (.aload_n 0, 1) := by decide +kernel
theorem dX12_image_125 : decode cX12_image 125 = .ok (.getfield 44, 3) := by decide +kernel
theorem dX12_image_128 : decode cX12_image 128 = .ok (.iload_n 1, 1) := by decide +kernel
theorem dX12_image_129 : decode cX12_image 129 = .ok (.iaload, 1) := by decide +kernel
theorem dX12_image_130 : decode cX12_image 130 = .ok (.iastore, 1) := by decide +kernel
theorem dX12_image_131 : decode cX12_image 131 = .ok (.iinc 1 1, 3) := by decide +kernel
theorem dX12_image_134 : decode cX12_image 134 = .ok (.goto (-35), 3) := by decide +kernel
theorem dX12_image_137 : decode cX12_image 137 = .ok (.aload_n 0, 1) := by decide +kernel
theorem dX12_image_138 : decode cX12_image 138 = .ok (.getfield 166, 3) := by decide +kernel
theorem dX12_image_141 : decode cX12_image 141 = .ok (.ireturn, 1) := by decide +kernel
theorem dX12_back_0 : decode cX12_back 0 = .ok (.aload_n 0, 1) := by decide +kernel
theorem dX12_back_1 : decode cX12_back 1 = .ok (.getfield 453, 3) := by decide +kernel
theorem dX12_back_4 : decode cX12_back 4 = .ok (.ifCond .ne 6, 3) := by decide +kernel
theorem dX12_back_7 : decode cX12_back 7 = .ok (.bipush (-3), 2) := by decide +kernel
theorem dX12_back_9 : decode cX12_back 9 = .ok (.ireturn, 1) := by decide +kernel
theorem dX12_back_10 : decode cX12_back 10 = .ok (.aload_n 0, 1) := by decide +kernel
theorem dX12_back_11 : decode cX12_back 11 = .ok (.aload_n 0, 1) := by decide +kernel
theorem dX12_back_12 : decode cX12_back 12 = .ok (.getfield 462, 3) := by decide +kernel
theorem dX12_back_15 : decode cX12_back 15 = .ok (.putfield 145, 3) := by decide +kernel
theorem dX12_back_18 : decode cX12_back 18 = .ok (.aload_n 0, 1) := by decide +kernel
theorem dX12_back_19 : decode cX12_back 19 = .ok (.aload_n 0, 1) := by decide +kernel
theorem dX12_back_20 : decode cX12_back 20 = .ok (.getfield 465, 3) := by decide +kernel
theorem dX12_back_23 : decode cX12_back 23 = .ok (.putfield 148, 3) := by decide +kernel
theorem dX12_back_26 : decode cX12_back 26 = .ok (.aload_n 0, 1) := by decide +kernel
theorem dX12_back_27 : decode cX12_back 27 = .ok (.aload_n 0, 1) := by decide +kernel
theorem dX12_back_28 : decode cX12_back 28 = .ok (.getfield 468, 3) := by decide +kernel
theorem dX12_back_31 : decode cX12_back 31 = .ok (.putfield 236, 3) := by decide +kernel
theorem dX12_back_34 : decode cX12_back 34 = .ok (.iconst 0, 1) := by decide +kernel
theorem dX12_back_35 : decode cX12_back 35 = .ok (.istore_n 1, 1) := by decide +kernel
theorem dX12_back_36 : decode cX12_back 36 = .ok (.iload_n 1, 1) := by decide +kernel
theorem dX12_back_37 : decode cX12_back 37 = .ok (.aload_n 0, 1) := by decide +kernel
theorem dX12_back_38 : decode cX12_back 38 = .ok (.getfield 456, 3) := by decide +kernel
theorem dX12_back_41 : decode cX12_back 41 = .ok (.if_icmp .ge 45, 3) := by decide +kernel
theorem dX12_back_44 : decode cX12_back 44 = .ok (.aload_n 0, 1) := by decide +kernel
theorem dX12_back_45 : decode cX12_back 45 = .ok (.getfield 59, 3) := by decide +kernel
theorem dX12_back_48 : decode cX12_back 48 = .ok (.iload_n 1, 1) := by decide +kernel
theorem dX12_back_49 : decode cX12_back 49 = .ok (.aload_n 0, 1) := by decide +kernel
theorem dX12_back_50 : decode cX12_back 50 = .ok (.getfield 96, 3) := by decide +kernel
theorem dX12_back_53 : decode cX12_back 53 = .ok (.iload_n 1, 1) := by decide +kernel
theorem dX12_back_54 : decode cX12_back 54 = .ok (.iaload, 1) := by decide +kernel
theorem dX12_back_55 : decode cX12_back 55 = .ok (.iastore, 1) := by decide +kernel
theorem dX12_back_56 : decode cX12_back 56 = .ok (.aload_n 0, 1) := by decide +kernel
theorem dX12_back_57 : decode cX12_back 57 = .ok (.getfield 62, 3) := by decide +kernel
theorem dX12_back_60 : decode cX12_back 60 = .ok (.iload_n 1, 1) := by decide +kernel
theorem dX12_back_61 : decode cX12_back 61 = .ok (.aload_n 0, 1) := by decide +kernel
theorem dX12_back_62 : decode cX12_back 62 = .ok (.getfield 99, 3) := by decide +kernel
theorem dX12_back_65 : decode cX12_back 65 = .ok (.iload_n 1, 1) := by decide +kernel
theorem dX12_back_66 : decode cX12_back 66 = .ok (.iaload, 1) := by decide +kernel
theorem dX12_back_67 : decode cX12_back 67 = .ok (.iastore, 1) := by decide +kernel
theorem dX12_back_68 : decode cX12_back 68 = .ok (.aload_n 0, 1) := by decide +kernel
theorem dX12_back_69 : decode cX12_back 69 = .ok (.getfield 68, 3) := by decide +kernel
theorem dX12_back_72 : decode cX12_back 72 = .ok (.iload_n 1, 1) := by decide +kernel
theorem dX12_back_73 : decode cX12_back 73 = .ok (.aload_n 0, 1) := by decide +kernel
theorem dX12_back_74 : decode cX12_back 74 = .ok (.getfield 102, 3) := by decide +kernel
theorem dX12_back_77 : decode cX12_back 77 = .ok (.iload_n 1, 1) := by decide +kernel
theorem dX12_back_78 : decode cX12_back 78 = .ok (.iaload, 1) := by decide +kernel
theorem dX12_back_79 : decode cX12_back 79 = .ok (.iastore, 1) := by decide +kernel
theorem dX12_back_80 : decode cX12_back 80 = .ok (.iinc 1 1, 3) := by decide +kernel
theorem dX12_back_83 : decode cX12_back 83 = .ok (.goto (-47), 3) := by decide +kernel
theorem dX12_back_86 : decode cX12_back 86 = .ok (.iconst 0, 1) := by decide +kernel
theorem dX12_back_87 : decode cX12_back 87 = .ok (.istore_n 1, 1) := by decide +kernel
theorem dX12_back_88 : decode cX12_back 88 = .ok (.iload_n 1, 1) := by decide +kernel
theorem dX12_back_89 : decode cX12_back 89 = .ok (.aload_n 0, 1) := by decide +kernel
theorem dX12_back_90 : decode cX12_back 90 = .ok (.getfield 459, 3) := by decide +kernel
theorem dX12_back_93 : decode cX12_back 93 = .ok (.if_icmp .ge 33, 3) := by decide +kernel
theorem dX12_back_96 : decode cX12_back 96 = .ok (.aload_n 0, 1) := by decide +kernel
theorem dX12_back_97 : decode cX12_back 97 = .ok (.getfield 32, 3) := by decide +kernel
theorem dX12_back_100 : decode cX12_back 100 = .ok (.iload_n 1, 1) := by decide +kernel
theorem dX12_back_101 : decode cX12_back 101 = .ok (.aload_n 0, 1) := by decide +kernel
theorem dX12_back_102 : decode cX12_back 102 = .ok (.getfield 105, 3) := by decide +kernel
theorem dX12_back_105 : decode cX12_back 105 = .ok (.iload_n 1, 1) := by decide +kernel
theorem dX12_back_106 : decode cX12_back 106 = .ok (.iaload, 1) := by decide +kernel
theorem dX12_back_107 : decode cX12_back 107 = .ok (.iastore, 1) := by decide +kernel
theorem dX12_back_108 : decode cX12_back 108 = .ok (.aload_n 0, 1) := by decide +kernel
theorem dX12_back_109 : decode cX12_back 109 = .ok (.getfield 44, 3) := by decide +kernel
theorem dX12_back_112 : decode cX12_back 112 = .ok (.iload_n 1, 1) := by decide +kernel
theorem dX12_back_113 : decode cX12_back 113 = .ok (.aload_n 0, 1) := by decide +kernel
theorem dX12_back_114 : decode cX12_back 114 = .ok (.getfield 108, 3) := by decide +kernel
theorem dX12_back_117 : decode cX12_back 117 = .ok (.iload_n 1, 1) := by decide +kernel
theorem dX12_back_118 : decode cX12_back 118 = .ok (.iaload, 1) := by decide +kernel
theorem dX12_back_119 : decode cX12_back 119 = .ok (.iastore, 1) := by decide +kernel
theorem dX12_back_120 : decode cX12_back 120 = .ok (.iinc 1 1, 3) := by decide +kernel
theorem dX12_back_123 : decode cX12_back 123 = .ok (.goto (-35), 3) := by decide +kernel
theorem dX12_back_126 : decode cX12_back 126 = .ok (.aload_n 0, 1) := by decide +kernel
theorem dX12_back_127 : decode cX12_back 127 = .ok (.getfield 166, 3) := by decide +kernel
theorem dX12_back_130 : decode cX12_back 130 = .ok (.ireturn, 1) := by decide +kernel
theorem dX12_count_0 : decode cX12_count 0 = .ok (.iload_n 1, 1) := by decide +kernel
theorem dX12_count_1 : decode cX12_count 1 = .ok (.tableswitch 78 0 6 #[43, 48, 53, 58, 63, 68, 73], 43) := by decide +kernel
theorem dX12_count_44 : decode cX12_count 44 = .ok (.aload_n 0, 1) := by decide +kernel
theorem dX12_count_45 : decode cX12_count 45 = .ok (.getfield 153, 3) := by decide +kernel
theorem dX12_count_48 : decode cX12_count 48 = .ok (.ireturn, 1) := by decide +kernel
theorem dX12_count_49 : decode cX12_count 49 = .ok (.aload_n 0, 1) := by decide +kernel
theorem dX12_count_50 : decode cX12_count 50 = .ok (.getfield 160, 3) := by decide +kernel
theorem dX12_count_53 : decode cX12_count 53 = .ok (.ireturn, 1) := by decide +kernel
theorem dX12_count_54 : decode cX12_count 54 = .ok (.aload_n 0, 1) := by decide +kernel
theorem dX12_count_55 : decode cX12_count 55 = .ok (.getfield 163, 3) := by decide +kernel
theorem dX12_count_58 : decode cX12_count 58 = .ok (.ireturn, 1) := by decide +kernel
theorem dX12_count_59 : decode cX12_count 59 = .ok (.aload_n 0, 1) := by decide +kernel
theorem dX12_count_60 : decode cX12_count 60 = .ok (.getfield 166, 3) := by decide +kernel
theorem dX12_count_63 : decode cX12_count 63 = .ok (.ireturn, 1) := by decide +kernel
theorem dX12_count_64 : decode cX12_count 64 = .ok (.aload_n 0, 1) := by decide +kernel
theorem dX12_count_65 : decode cX12_count 65 = .ok (.getfield 142, 3) := by decide +kernel
theorem dX12_count_68 : decode cX12_count 68 = .ok (.ireturn, 1) := by decide +kernel
theorem dX12_count_69 : decode cX12_count 69 = .ok (.aload_n 0, 1) := by decide +kernel
theorem dX12_count_70 : decode cX12_count 70 = .ok (.getfield 275, 3) := by decide +kernel
theorem dX12_count_73 : decode cX12_count 73 = .ok (.ireturn, 1) := by decide +kernel
theorem dX12_count_74 : decode cX12_count 74 = .ok (.aload_n 0, 1) := by decide +kernel
theorem dX12_count_75 : decode cX12_count 75 = .ok (.getfield 236, 3) := by decide +kernel
theorem dX12_count_78 : decode cX12_count 78 = .ok (.ireturn, 1) := by decide +kernel
theorem dX12_count_79 : decode cX12_count 79 = .ok (.bipush (-2), 2) := by decide +kernel
theorem dX12_count_81 : decode cX12_count 81 = .ok (.ireturn, 1) := by decide +kernel
set_option maxRecDepth 20000 in
theorem ggX12_isSheet_X12_in : GoodIn wsX12_isSheet wsX12_in := goodIn_sub (x_mc (List.mem_cons_of_mem _ (List.mem_of_getElem? (i := 4) rfl)) x_mn) (by decide +kernel)
set_option maxRecDepth 20000 in
theorem gX12_isSheet_X12_in : GoodIn wsX12_isSheet (va_wsS RX12 156 yX12_in wsX12_in) := goodIn_app (goodIn_of _ (by decide +kernel)) ggX12_isSheet_X12_in
theorem dX12_isSheet_0 : decode cX12_isSheet 0 = .ok (.iload_n 0, 1) := by decide +kernel
theorem dX12_isSheet_1 : decode cX12_isSheet 1 = .ok (.i2l, 1) := by decide +kernel
theorem dX12_isSheet_2 : decode cX12_isSheet 2 = .ok (.lconst 0, 1) := by decide +kernel
theorem dX12_isSheet_3 : decode cX12_isSheet 3 = .ok (.ldc2_w 471, 3) := by decide +kernel
theorem dX12_isSheet_6 : decode cX12_isSheet 6 = .ok (.invokestatic 156, 3) := by decide +kernel
theorem dX12_isSheet_9 : decode cX12_isSheet 9 = .ok (.ireturn, 1) := by decide +kernel
theorem sb_wsX12_sheet_wsX120 : ∀ w ∈ wsX120, w ∈ wsX12_sheet := fun _ h => (List.mem_cons_of_mem _ (List.mem_append_right _ h))
set_option maxRecDepth 20000 in
theorem ggX12_sheet_X12_isSheet : GoodIn wsX12_sheet wsX12_isSheet := goodIn_sub (x_mc (List.mem_cons_of_mem _ (List.mem_append_left _ (List.mem_of_getElem? (i := 9) rfl))) (x_mc (List.mem_cons_of_mem _ (List.mem_append_left _ (List.mem_of_getElem? (i := 10) rfl))) (x_mc (List.mem_cons_of_mem _ (List.mem_append_left _ (List.mem_of_getElem? (i := 11) rfl))) (x_mc (List.mem_cons_of_mem _ (List.mem_append_left _ (List.mem_of_getElem? (i := 12) rfl))) (x_mc (List.mem_cons_of_mem _ (List.mem_append_left _ (List.mem_of_getElem? (i := 8) rfl))) (x_mc (List.mem_cons_of_mem _ (List.mem_append_left _ (List.mem_of_getElem? (i := 13) rfl))) x_mn)))))) (by decide +kernel)
set_option maxRecDepth 20000 in
theorem gX12_sheet_X12_isSheet : GoodIn wsX12_sheet (va_wsS RX12 473 yX12_isSheet wsX12_isSheet) := goodIn_app (goodIn_of _ (by decide +kernel)) ggX12_sheet_X12_isSheet
set_option maxRecDepth 20000 in
theorem ggX12_sheet_X12_in : GoodIn wsX12_sheet wsX12_in := goodIn_sub (x_mc (List.mem_cons_of_mem _ (List.mem_append_left _ (List.mem_of_getElem? (i := 13) rfl))) x_mn) (by decide +kernel)
set_option maxRecDepth 20000 in
theorem gX12_sheet_X12_in : GoodIn wsX12_sheet (va_wsS RX12 156 yX12_in wsX12_in) := goodIn_app (goodIn_of _ (by decide +kernel)) ggX12_sheet_X12_in
theorem dX12_sheet_0 : decode cX12_sheet 0 = .ok (.iload_n 1, 1) := by decide +kernel
theorem dX12_sheet_1 : decode cX12_sheet 1 = .ok (.invokestatic 473, 3) := by decide +kernel
theorem dX12_sheet_4 : decode cX12_sheet 4 = .ok (.ifCond .eq 27, 3) := by decide +kernel
theorem dX12_sheet_7 : decode cX12_sheet 7 = .ok (.iload_n 2, 1) := by decide +kernel
theorem dX12_sheet_8 : decode cX12_sheet 8 = .ok (.i2l, 1) := by decide +kernel
theorem dX12_sheet_9 : decode cX12_sheet 9 = .ok (.ldc2_w 308, 3) := by decide +kernel
theorem dX12_sheet_12 : decode cX12_sheet 12 = .ok (.ldc2_w 186, 3) := by decide +kernel
theorem dX12_sheet_15 : decode cX12_sheet 15 = .ok (.invokestatic 156, 3) := by decide +kernel
theorem dX12_sheet_18 : decode cX12_sheet 18 = .ok (.ifCond .eq 13, 3) := by decide +kernel
theorem dX12_sheet_21 : decode cX12_sheet 21 = .ok (.iload_n 2, 1) := by decide +kernel
theorem dX12_sheet_22 : decode cX12_sheet 22 = .ok (.ifCond .lt 12, 3) := by decide +kernel
theorem dX12_sheet_25 : decode cX12_sheet 25 = .ok (.iload_n 3, 1) := by decide +kernel
theorem dX12_sheet_26 : decode cX12_sheet 26 = .ok (.bipush 40, 2) := by decide +kernel
theorem dX12_sheet_28 : decode cX12_sheet 28 = .ok (.if_icmp .le 6, 3) := by decide +kernel
theorem dX12_sheet_31 : decode cX12_sheet 31 = .ok (.bipush (-2), 2) := by decide +kernel
theorem dX12_sheet_33 : decode cX12_sheet 33 = .ok (.ireturn, 1) := by decide +kernel
theorem dX12_sheet_34 : decode cX12_sheet 34 = .ok (.iload_n 2, 1) := by decide +kernel
theorem dX12_sheet_35 : decode cX12_sheet 35 = .ok (.ifCond .lt 10, 3) := by decide +kernel
theorem dX12_sheet_38 : decode cX12_sheet 38 = .ok (.iload_n 3, 1) := by decide +kernel
theorem dX12_sheet_39 : decode cX12_sheet 39 = .ok (.ifCond .ge 6, 3) := by decide +kernel
theorem dX12_sheet_42 : decode cX12_sheet 42 = .ok (.bipush (-14), 2) := by decide +kernel
theorem dX12_sheet_44 : decode cX12_sheet 44 = .ok (.ireturn, 1) := by decide +kernel
theorem dX12_sheet_45 : decode cX12_sheet 45 = .ok (.aload_n 0, 1) := by decide +kernel
theorem dX12_sheet_46 : decode cX12_sheet 46 = .ok (.getfield 111, 3) := by decide +kernel
theorem dX12_sheet_49 : decode cX12_sheet 49 = .ok (.iload_n 1, 1) := by decide +kernel
theorem dX12_sheet_50 : decode cX12_sheet 50 = .ok (.iload_n 2, 1) := by decide +kernel
theorem dX12_sheet_51 : decode cX12_sheet 51 = .ok (.ifCond .lt 7, 3) := by decide +kernel
theorem dX12_sheet_54 : decode cX12_sheet 54 = .ok (.iconst 1, 1) := by decide +kernel
theorem dX12_sheet_55 : decode cX12_sheet 55 = .ok (.goto 4, 3) := by decide +kernel
theorem dX12_sheet_58 : decode cX12_sheet 58 = .ok (.iconst 0, 1) := by decide +kernel
theorem dX12_sheet_59 : decode cX12_sheet 59 = .ok (.bastore, 1) := by decide +kernel
theorem dX12_sheet_60 : decode cX12_sheet 60 = .ok (.aload_n 0, 1) := by decide +kernel
theorem dX12_sheet_61 : decode cX12_sheet 61 = .ok (.getfield 115, 3) := by decide +kernel
theorem dX12_sheet_64 : decode cX12_sheet 64 = .ok (.iload_n 1, 1) := by decide +kernel
theorem dX12_sheet_65 : decode cX12_sheet 65 = .ok (.iload_n 2, 1) := by decide +kernel
theorem dX12_sheet_66 : decode cX12_sheet 66 = .ok (.iastore, 1) := by decide +kernel
theorem dX12_sheet_67 : decode cX12_sheet 67 = .ok (.aload_n 0, 1) := by decide +kernel
theorem dX12_sheet_68 : decode cX12_sheet 68 = .ok (.getfield 118, 3) := by decide +kernel
theorem dX12_sheet_71 : decode cX12_sheet 71 = .ok (.iload_n 1, 1) := by decide +kernel
theorem dX12_sheet_72 : decode cX12_sheet 72 = .ok (.iload_n 3, 1) := by decide +kernel
theorem dX12_sheet_73 : decode cX12_sheet 73 = .ok (.iastore, 1) := by decide +kernel
theorem dX12_sheet_74 : decode cX12_sheet 74 = .ok (.iconst 0, 1) := by decide +kernel
theorem dX12_sheet_75 : decode cX12_sheet 75 = .ok (.istore 4, 2) := by decide +kernel
theorem dX12_sheet_77 : decode cX12_sheet 77 = .ok (.iload 4, 2) := by decide +kernel
theorem dX12_sheet_79 : decode cX12_sheet 79 = .ok (.iload_n 3, 1) := by decide +kernel
theorem dX12_sheet_80 : decode cX12_sheet 80 = .ok (.if_icmp .ge 26, 3) := by decide +kernel
theorem dX12_sheet_83 : decode cX12_sheet 83 = .ok (.iload_n 2, 1) := by decide +kernel
theorem dX12_sheet_84 : decode cX12_sheet 84 = .ok (.ifCond .lt 22, 3) := by decide +kernel
theorem dX12_sheet_87 : decode cX12_sheet 87 = .ok (.aload_n 0, 1) := by decide +kernel
theorem dX12_sheet_88 : decode cX12_sheet 88 = .ok (.getfield 121, 3) := by decide +kernel
theorem dX12_sheet_91 : decode cX12_sheet 91 = .ok (.bipush 40, 2) := by decide +kernel
theorem dX12_sheet_93 : decode cX12_sheet 93 = .ok (.iload_n 1, 1) := by decide +kernel
theorem dX12_sheet_94 : decode cX12_sheet 94 = .ok (.imul, 1) := by decide +kernel
theorem dX12_sheet_95 : decode cX12_sheet 95 = .ok (.iload 4, 2) := by decide +kernel
theorem dX12_sheet_97 : decode cX12_sheet 97 = .ok (.iadd, 1) := by decide +kernel
theorem dX12_sheet_98 : decode cX12_sheet 98 = .ok (.iconst 0, 1) := by decide +kernel
theorem dX12_sheet_99 : decode cX12_sheet 99 = .ok (.iastore, 1) := by decide +kernel
theorem dX12_sheet_100 : decode cX12_sheet 100 = .ok (.iinc 4 1, 3) := by decide +kernel
theorem dX12_sheet_103 : decode cX12_sheet 103 = .ok (.goto (-26), 3) := by decide +kernel
theorem dX12_sheet_106 : decode cX12_sheet 106 = .ok (.iconst 1, 1) := by decide +kernel
theorem dX12_sheet_107 : decode cX12_sheet 107 = .ok (.ireturn, 1) := by decide +kernel
theorem sb_wsX12_cell_wsX120 : ∀ w ∈ wsX120, w ∈ wsX12_cell := fun _ h => (List.mem_cons_of_mem _ (List.mem_append_right _ h))
set_option maxRecDepth 20000 in
theorem ggX12_cell_X12_isSheet : GoodIn wsX12_cell wsX12_isSheet := goodIn_sub (x_mc (List.mem_cons_of_mem _ (List.mem_append_left _ (List.mem_of_getElem? (i := 7) rfl))) (x_mc (List.mem_cons_of_mem _ (List.mem_append_left _ (List.mem_of_getElem? (i := 8) rfl))) (x_mc (List.mem_cons_of_mem _ (List.mem_append_left _ (List.mem_of_getElem? (i := 9) rfl))) (x_mc (List.mem_cons_of_mem _ (List.mem_append_left _ (List.mem_of_getElem? (i := 10) rfl))) (x_mc (List.mem_cons_of_mem _ (List.mem_append_left _ (List.mem_of_getElem? (i := 6) rfl))) (x_mc (List.mem_cons_of_mem _ (List.mem_append_left _ (List.mem_of_getElem? (i := 11) rfl))) x_mn)))))) (by decide +kernel)
set_option maxRecDepth 20000 in
theorem gX12_cell_X12_isSheet : GoodIn wsX12_cell (va_wsS RX12 473 yX12_isSheet wsX12_isSheet) := goodIn_app (goodIn_of _ (by decide +kernel)) ggX12_cell_X12_isSheet
set_option maxRecDepth 20000 in
theorem ggX12_cell_X12_in : GoodIn wsX12_cell wsX12_in := goodIn_sub (x_mc (List.mem_cons_of_mem _ (List.mem_append_left _ (List.mem_of_getElem? (i := 11) rfl))) x_mn) (by decide +kernel)
set_option maxRecDepth 20000 in
theorem gX12_cell_X12_in : GoodIn wsX12_cell (va_wsS RX12 156 yX12_in wsX12_in) := goodIn_app (goodIn_of _ (by decide +kernel)) ggX12_cell_X12_in
theorem dX12_cell_0 : decode cX12_cell 0 = .ok (.iload_n 1, 1) := by decide +kernel
theorem dX12_cell_1 : decode cX12_cell 1 = .ok (.invokestatic 473, 3) := by decide +kernel
theorem dX12_cell_4 : decode cX12_cell 4 = .ok (.ifCond .ne 6, 3) := by decide +kernel
theorem dX12_cell_7 : decode cX12_cell 7 = .ok (.bipush (-2), 2) := by decide +kernel
theorem dX12_cell_9 : decode cX12_cell 9 = .ok (.ireturn, 1) := by decide +kernel
theorem dX12_cell_10 : decode cX12_cell 10 = .ok (.aload_n 0, 1) := by decide +kernel
theorem dX12_cell_11 : decode cX12_cell 11 = .ok (.getfield 111, 3) := by decide +kernel
theorem dX12_cell_14 : decode cX12_cell 14 = .ok (.iload_n 1, 1) := by decide +kernel
theorem dX12_cell_15 : decode cX12_cell 15 = .ok (.baload, 1) := by decide +kernel
theorem dX12_cell_16 : decode cX12_cell 16 = .ok (.ifCond .ne 6, 3) := by decide +kernel
theorem dX12_cell_19 : decode cX12_cell 19 = .ok (.bipush (-11), 2) := by decide +kernel
theorem dX12_cell_21 : decode cX12_cell 21 = .ok (.ireturn, 1) := by decide +kernel
theorem dX12_cell_22 : decode cX12_cell 22 = .ok (.iload_n 2, 1) := by decide +kernel
theorem dX12_cell_23 : decode cX12_cell 23 = .ok (.i2l, 1) := by decide +kernel
theorem dX12_cell_24 : decode cX12_cell 24 = .ok (.lconst 0, 1) := by decide +kernel
theorem dX12_cell_25 : decode cX12_cell 25 = .ok (.aload_n 0, 1) := by decide +kernel
theorem dX12_cell_26 : decode cX12_cell 26 = .ok (.getfield 118, 3) := by decide +kernel
theorem dX12_cell_29 : decode cX12_cell 29 = .ok (.iload_n 1, 1) := by decide +kernel
theorem dX12_cell_30 : decode cX12_cell 30 = .ok (.iaload, 1) := by decide +kernel
theorem dX12_cell_31 : decode cX12_cell 31 = .ok (.iconst 1, 1) := by decide +kernel
theorem dX12_cell_32 : decode cX12_cell 32 = .ok (.isub, 1) := by decide +kernel
theorem dX12_cell_33 : decode cX12_cell 33 = .ok (.i2l, 1) := by decide +kernel
theorem dX12_cell_34 : decode cX12_cell 34 = .ok (.invokestatic 156, 3) := by decide +kernel
theorem dX12_cell_37 : decode cX12_cell 37 = .ok (.ifCond .ne 6, 3) := by decide +kernel
theorem dX12_cell_40 : decode cX12_cell 40 = .ok (.bipush (-12), 2) := by decide +kernel
theorem dX12_cell_42 : decode cX12_cell 42 = .ok (.ireturn, 1) := by decide +kernel
theorem dX12_cell_43 : decode cX12_cell 43 = .ok (.aload_n 0, 1) := by decide +kernel
theorem dX12_cell_44 : decode cX12_cell 44 = .ok (.getfield 121, 3) := by decide +kernel
theorem dX12_cell_47 : decode cX12_cell 47 = .ok (.bipush 40, 2) := by decide +kernel
theorem dX12_cell_49 : decode cX12_cell 49 = .ok (.iload_n 1, 1) := by decide +kernel
theorem dX12_cell_50 : decode cX12_cell 50 = .ok (.imul, 1) := by decide +kernel
theorem dX12_cell_51 : decode cX12_cell 51 = .ok (.iload_n 2, 1) := by decide +kernel
theorem dX12_cell_52 : decode cX12_cell 52 = .ok (.iadd, 1) := by decide +kernel
theorem dX12_cell_53 : decode cX12_cell 53 = .ok (.aload_n 0, 1) := by decide +kernel
theorem dX12_cell_54 : decode cX12_cell 54 = .ok (.getfield 115, 3) := by decide +kernel
theorem dX12_cell_57 : decode cX12_cell 57 = .ok (.iload_n 1, 1) := by decide +kernel
theorem dX12_cell_58 : decode cX12_cell 58 = .ok (.iaload, 1) := by decide +kernel
theorem dX12_cell_59 : decode cX12_cell 59 = .ok (.ifCond .ne 8, 3) := by decide +kernel
theorem dX12_cell_62 : decode cX12_cell 62 = .ok (.iload_n 3, 1) := by decide +kernel
theorem dX12_cell_63 : decode cX12_cell 63 = .ok (.i2b, 1) := by decide +kernel
theorem dX12_cell_64 : decode cX12_cell 64 = .ok (.goto 19, 3) := by decide +kernel
theorem dX12_cell_67 : decode cX12_cell 67 = .ok (.aload_n 0, 1) := by decide +kernel
theorem dX12_cell_68 : decode cX12_cell 68 = .ok (.getfield 115, 3) := by decide +kernel
theorem dX12_cell_71 : decode cX12_cell 71 = .ok (.iload_n 1, 1) := by decide +kernel
theorem dX12_cell_72 : decode cX12_cell 72 = .ok (.iaload, 1) := by decide +kernel
theorem dX12_cell_73 : decode cX12_cell 73 = .ok (.iconst 1, 1) := by decide +kernel
theorem dX12_cell_74 : decode cX12_cell 74 = .ok (.if_icmp .ne 8, 3) := by decide +kernel
theorem dX12_cell_77 : decode cX12_cell 77 = .ok (.iload_n 3, 1) := by decide +kernel
theorem dX12_cell_78 : decode cX12_cell 78 = .ok (.i2s, 1) := by decide +kernel
theorem dX12_cell_79 : decode cX12_cell 79 = .ok (.goto 4, 3) := by decide +kernel
theorem dX12_cell_82 : decode cX12_cell 82 = .ok (.iload_n 3, 1) := by decide +kernel
theorem dX12_cell_83 : decode cX12_cell 83 = .ok (.iastore, 1) := by decide +kernel
theorem dX12_cell_84 : decode cX12_cell 84 = .ok (.iconst 1, 1) := by decide +kernel
theorem dX12_cell_85 : decode cX12_cell 85 = .ok (.ireturn, 1) := by decide +kernel
theorem sb_wsX12_copy_wsX120 : ∀ w ∈ wsX120, w ∈ wsX12_copy := fun _ h => (List.mem_cons_of_mem _ (List.mem_append_right _ h))
set_option maxRecDepth 20000 in
theorem ggX12_copy_X12_isSheet : GoodIn wsX12_copy wsX12_isSheet := goodIn_sub (x_mc (List.mem_cons_of_mem _ (List.mem_append_left _ (List.mem_of_getElem? (i := 7) rfl))) (x_mc (List.mem_cons_of_mem _ (List.mem_append_left _ (List.mem_of_getElem? (i := 8) rfl))) (x_mc (List.mem_cons_of_mem _ (List.mem_append_left _ (List.mem_of_getElem? (i := 9) rfl))) (x_mc (List.mem_cons_of_mem _ (List.mem_append_left _ (List.mem_of_getElem? (i := 10) rfl))) (x_mc (List.mem_cons_of_mem _ (List.mem_append_left _ (List.mem_of_getElem? (i := 6) rfl))) (x_mc (List.mem_cons_of_mem _ (List.mem_append_left _ (List.mem_of_getElem? (i := 11) rfl))) x_mn)))))) (by decide +kernel)
set_option maxRecDepth 20000 in
theorem gX12_copy_X12_isSheet : GoodIn wsX12_copy (va_wsS RX12 473 yX12_isSheet wsX12_isSheet) := goodIn_app (goodIn_of _ (by decide +kernel)) ggX12_copy_X12_isSheet
theorem dX12_copy_0 : decode cX12_copy 0 = .ok (.iload_n 1, 1) := by decide +kernel
theorem dX12_copy_1 : decode cX12_copy 1 = .ok (.invokestatic 473, 3) := by decide +kernel
theorem dX12_copy_4 : decode cX12_copy 4 = .ok (.ifCond .eq 10, 3) := by decide +kernel
theorem dX12_copy_7 : decode cX12_copy 7 = .ok (.iload_n 3, 1) := by decide +kernel
theorem dX12_copy_8 : decode cX12_copy 8 = .ok (.invokestatic 473, 3) := by decide +kernel
theorem dX12_copy_11 : decode cX12_copy 11 = .ok (.ifCond .ne 6, 3) := by decide +kernel
theorem dX12_copy_14 : decode cX12_copy 14 = .ok (.bipush (-2), 2) := by decide +kernel
theorem dX12_copy_16 : decode cX12_copy 16 = .ok (.ireturn, 1) := by decide +kernel
theorem dX12_copy_17 : decode cX12_copy 17 = .ok (.aload_n 0, 1) := by decide +kernel
theorem dX12_copy_18 : decode cX12_copy 18 = .ok (.getfield 111, 3) := by decide +kernel
theorem dX12_copy_21 : decode cX12_copy 21 = .ok (.iload_n 1, 1) := by decide +kernel
theorem dX12_copy_22 : decode cX12_copy 22 = .ok (.baload, 1) := by decide +kernel
theorem dX12_copy_23 : decode cX12_copy 23 = .ok (.ifCond .eq 12, 3) := by decide +kernel
theorem dX12_copy_26 : decode cX12_copy 26 = .ok (.aload_n 0, 1) := by decide +kernel
theorem dX12_copy_27 : decode cX12_copy 27 = .ok (.getfield 111, 3) := by decide +kernel
theorem dX12_copy_30 : decode cX12_copy 30 = .ok (.iload_n 3, 1) := by decide +kernel
theorem dX12_copy_31 : decode cX12_copy 31 = .ok (.baload, 1) := by decide +kernel
theorem dX12_copy_32 : decode cX12_copy 32 = .ok (.ifCond .ne 6, 3) := by decide +kernel
theorem dX12_copy_35 : decode cX12_copy 35 = .ok (.bipush (-11), 2) := by decide +kernel
theorem dX12_copy_37 : decode cX12_copy 37 = .ok (.ireturn, 1) := by decide +kernel
theorem dX12_copy_38 : decode cX12_copy 38 = .ok (.aload_n 0, 1) := by decide +kernel
theorem dX12_copy_39 : decode cX12_copy 39 = .ok (.getfield 115, 3) := by decide +kernel
theorem dX12_copy_42 : decode cX12_copy 42 = .ok (.iload_n 1, 1) := by decide +kernel
theorem dX12_copy_43 : decode cX12_copy 43 = .ok (.iaload, 1) := by decide +kernel
theorem dX12_copy_44 : decode cX12_copy 44 = .ok (.aload_n 0, 1) := by decide +kernel
theorem dX12_copy_45 : decode cX12_copy 45 = .ok (.getfield 115, 3) := by decide +kernel
theorem dX12_copy_48 : decode cX12_copy 48 = .ok (.iload_n 3, 1) := by decide +kernel
theorem dX12_copy_49 : decode cX12_copy 49 = .ok (.iaload, 1) := by decide +kernel
theorem dX12_copy_50 : decode cX12_copy 50 = .ok (.if_icmp .eq 6, 3) := by decide +kernel
theorem dX12_copy_53 : decode cX12_copy 53 = .ok (.bipush (-13), 2) := by decide +kernel
theorem dX12_copy_55 : decode cX12_copy 55 = .ok (.ireturn, 1) := by decide +kernel
theorem dX12_copy_56 : decode cX12_copy 56 = .ok (.iload 5, 2) := by decide +kernel
theorem dX12_copy_58 : decode cX12_copy 58 = .ok (.ifCond .lt 39, 3) := by decide +kernel
theorem dX12_copy_61 : decode cX12_copy 61 = .ok (.iload_n 2, 1) := by decide +kernel
theorem dX12_copy_62 : decode cX12_copy 62 = .ok (.ifCond .lt 35, 3) := by decide +kernel
theorem dX12_copy_65 : decode cX12_copy 65 = .ok (.iload 4, 2) := by decide +kernel
theorem dX12_copy_67 : decode cX12_copy 67 = .ok (.ifCond .lt 30, 3) := by decide +kernel
theorem dX12_copy_70 : decode cX12_copy 70 = .ok (.iload_n 2, 1) := by decide +kernel
theorem dX12_copy_71 : decode cX12_copy 71 = .ok (.aload_n 0, 1) := by decide +kernel
theorem dX12_copy_72 : decode cX12_copy 72 = .ok (.getfield 118, 3) := by decide +kernel
theorem dX12_copy_75 : decode cX12_copy 75 = .ok (.iload_n 1, 1) := by decide +kernel
theorem dX12_copy_76 : decode cX12_copy 76 = .ok (.iaload, 1) := by decide +kernel
theorem dX12_copy_77 : decode cX12_copy 77 = .ok (.iload 5, 2) := by decide +kernel
theorem dX12_copy_79 : decode cX12_copy 79 = .ok (.isub, 1) := by decide +kernel
theorem dX12_copy_80 : decode cX12_copy 80 = .ok (.if_icmp .gt 17, 3) := by decide +kernel
theorem dX12_copy_83 : decode cX12_copy 83 = .ok (.iload 4, 2) := by decide +kernel
theorem dX12_copy_85 : decode cX12_copy 85 = .ok (.aload_n 0, 1) := by decide +kernel
theorem dX12_copy_86 : decode cX12_copy 86 = .ok (.getfield 118, 3) := by decide +kernel
theorem dX12_copy_89 : decode cX12_copy 89 = .ok (.iload_n 3, 1) := by decide +kernel
theorem dX12_copy_90 : decode cX12_copy 90 = .ok (.iaload, 1) := by decide +kernel
theorem dX12_copy_91 : decode cX12_copy 91 = .ok (.iload 5, 2) := by decide +kernel
theorem dX12_copy_93 : decode cX12_copy 93 = .ok (.isub, 1) := by decide +kernel
theorem dX12_copy_94 : decode cX12_copy 94 = .ok (.if_icmp .le 6, 3) := by decide +kernel
theorem dX12_copy_97 : decode cX12_copy 97 = .ok (.bipush (-12), 2) := by decide +kernel
theorem dX12_copy_99 : decode cX12_copy 99 = .ok (.ireturn, 1) := by decide +kernel
theorem dX12_copy_100 : decode cX12_copy 100 = .ok (.iload_n 1, 1) := by decide +kernel
theorem dX12_copy_101 : decode cX12_copy 101 = .ok (.iload_n 3, 1) := by decide +kernel
theorem dX12_copy_102 : decode cX12_copy 102 = .ok (.if_icmp .ne 13, 3) := by decide +kernel
theorem dX12_copy_105 : decode cX12_copy 105 = .ok (.iload_n 2, 1) := by decide +kernel
theorem dX12_copy_106 : decode cX12_copy 106 = .ok (.iload 4, 2) := by decide +kernel
theorem dX12_copy_108 : decode cX12_copy 108 = .ok (.if_icmp .ge 7, 3) := by decide +kernel
theorem dX12_copy_111 : decode cX12_copy 111 = .ok (.iconst 1, 1) := by decide +kernel
theorem dX12_copy_112 : decode cX12_copy 112 = .ok (.goto 4, 3) := by decide +kernel
theorem dX12_copy_115 : decode cX12_copy 115 = .ok (.iconst 0, 1) := by decide +kernel
theorem dX12_copy_116 : decode cX12_copy 116 = .ok (.istore 6, 2) := by decide +kernel
theorem dX12_copy_118 : decode cX12_copy 118 = .ok (.iconst 0, 1) := by decide +kernel
theorem dX12_copy_119 : decode cX12_copy 119 = .ok (.istore 7, 2) := by decide +kernel
theorem dX12_copy_121 : decode cX12_copy 121 = .ok (.iload 7, 2) := by decide +kernel
theorem dX12_copy_123 : decode cX12_copy 123 = .ok (.iload 5, 2) := by decide +kernel
theorem dX12_copy_125 : decode cX12_copy 125 = .ok (.if_icmp .ge 57, 3) := by decide +kernel
theorem dX12_copy_128 : decode cX12_copy 128 = .ok (.iload 6, 2) := by decide +kernel
theorem dX12_copy_130 : decode cX12_copy 130 = .ok (.ifCond .eq 13, 3) := by decide +kernel
theorem dX12_copy_133 : decode cX12_copy 133 = .ok (.iload 5, 2) := by decide +kernel
theorem dX12_copy_135 : decode cX12_copy 135 = .ok (.iconst 1, 1) := by decide +kernel
theorem dX12_copy_136 : decode cX12_copy 136 = .ok (.isub, 1) := by decide +kernel
theorem dX12_copy_137 : decode cX12_copy 137 = .ok (.iload 7, 2) := by decide +kernel
theorem dX12_copy_139 : decode cX12_copy 139 = .ok (.isub, 1) := by decide +kernel
theorem dX12_copy_140 : decode cX12_copy 140 = .ok (.goto 5, 3) := by decide +kernel
theorem dX12_copy_143 : decode cX12_copy 143 = .ok (.iload 7, 2) := by decide +kernel
theorem dX12_copy_145 : decode cX12_copy 145 = .ok (.istore 8, 2) := by decide +kernel
theorem dX12_copy_147 : decode cX12_copy 147 = .ok (.aload_n 0, 1) := by decide +kernel
theorem dX12_copy_148 : decode cX12_copy 148 = .ok (.getfield 121, 3) := by decide +kernel
theorem dX12_copy_151 : decode cX12_copy 151 = .ok (.bipush 40, 2) := by decide +kernel
theorem dX12_copy_153 : decode cX12_copy 153 = .ok (.iload_n 3, 1) := by decide +kernel
theorem dX12_copy_154 : decode cX12_copy 154 = .ok (.imul, 1) := by decide +kernel
theorem dX12_copy_155 : decode cX12_copy 155 = .ok (.iload 4, 2) := by decide +kernel
theorem dX12_copy_157 : decode cX12_copy 157 = .ok (.iadd, 1) := by decide +kernel
theorem dX12_copy_158 : decode cX12_copy 158 = .ok (.iload 8, 2) := by decide +kernel
theorem dX12_copy_160 : decode cX12_copy 160 = .ok (.iadd, 1) := by decide +kernel
theorem dX12_copy_161 : decode cX12_copy 161 = .ok (.aload_n 0, 1) := by decide +kernel
theorem dX12_copy_162 : decode cX12_copy 162 = .ok (.getfield 121, 3) := by decide +kernel
theorem dX12_copy_165 : decode cX12_copy 165 = .ok (.bipush 40, 2) := by decide +kernel
theorem dX12_copy_167 : decode cX12_copy 167 = .ok (.iload_n 1, 1) := by decide +kernel
theorem dX12_copy_168 : decode cX12_copy 168 = .ok (.imul, 1) := by decide +kernel
theorem dX12_copy_169 : decode cX12_copy 169 = .ok (.iload_n 2, 1) := by decide +kernel
theorem dX12_copy_170 : decode cX12_copy 170 = .ok (.iadd, 1) := by decide +kernel
theorem dX12_copy_171 : decode cX12_copy 171 = .ok (.iload 8, 2) := by decide +kernel
theorem dX12_copy_173 : decode cX12_copy 173 = .ok (.iadd, 1) := by decide +kernel
theorem dX12_copy_174 : decode cX12_copy 174 = .ok (.iaload, 1) := by decide +kernel
theorem dX12_copy_175 : decode cX12_copy 175 = .ok (.iastore, 1) := by decide +kernel
theorem dX12_copy_176 : decode cX12_copy 176 = .ok (.iinc 7 1, 3) := by decide +kernel
theorem dX12_copy_179 : decode cX12_copy 179 = .ok (.goto (-58), 3) := by decide +kernel
theorem dX12_copy_182 : decode cX12_copy 182 = .ok (.iload 5, 2) := by decide +kernel
theorem dX12_copy_184 : decode cX12_copy 184 = .ok (.ireturn, 1) := by decide +kernel
theorem sb_wsX12_drums_wsX120 : ∀ w ∈ wsX120, w ∈ wsX12_drums := fun _ h => (List.mem_cons_of_mem _ (List.mem_append_right _ h))
set_option maxRecDepth 20000 in
theorem ggX12_drums_X12_isSheet : GoodIn wsX12_drums wsX12_isSheet := goodIn_sub (x_mc (List.mem_cons_of_mem _ (List.mem_append_left _ (List.mem_of_getElem? (i := 9) rfl))) (x_mc (List.mem_cons_of_mem _ (List.mem_append_left _ (List.mem_of_getElem? (i := 10) rfl))) (x_mc (List.mem_cons_of_mem _ (List.mem_append_left _ (List.mem_of_getElem? (i := 11) rfl))) (x_mc (List.mem_cons_of_mem _ (List.mem_append_left _ (List.mem_of_getElem? (i := 12) rfl))) (x_mc (List.mem_cons_of_mem _ (List.mem_append_left _ (List.mem_of_getElem? (i := 8) rfl))) (x_mc (List.mem_cons_of_mem _ (List.mem_append_left _ (List.mem_of_getElem? (i := 13) rfl))) x_mn)))))) (by decide +kernel)
set_option maxRecDepth 20000 in
theorem gX12_drums_X12_isSheet : GoodIn wsX12_drums (va_wsS RX12 473 yX12_isSheet wsX12_isSheet) := goodIn_app (goodIn_of _ (by decide +kernel)) ggX12_drums_X12_isSheet
set_option maxRecDepth 20000 in
theorem ggX12_drums_X12_in : GoodIn wsX12_drums wsX12_in := goodIn_sub (x_mc (List.mem_cons_of_mem _ (List.mem_append_left _ (List.mem_of_getElem? (i := 13) rfl))) x_mn) (by decide +kernel)
set_option maxRecDepth 20000 in
theorem gX12_drums_X12_in : GoodIn wsX12_drums (va_wsS RX12 156 yX12_in wsX12_in) := goodIn_app (goodIn_of _ (by decide +kernel)) ggX12_drums_X12_in
set_option maxRecDepth 20000 in
theorem ggX12_drums_X12_drum : GoodIn wsX12_drums wsX12_drum := goodIn_sub (x_mc (List.mem_cons_of_mem _ (List.mem_append_left _ (List.mem_of_getElem? (i := 17) rfl))) (x_ina (x_mc (List.mem_cons_of_mem _ (List.mem_append_left _ (List.mem_of_getElem? (i := 18) rfl))) (x_mc (List.mem_cons_of_mem _ (List.mem_append_left _ (List.mem_of_getElem? (i := 19) rfl))) (x_mc (List.mem_cons_of_mem _ (List.mem_append_left _ (List.mem_of_getElem? (i := 20) rfl))) (x_mc (List.mem_cons_of_mem _ (List.mem_append_left _ (List.mem_of_getElem? (i := 11) rfl))) (x_mc (List.mem_cons_of_mem _ (List.mem_append_left _ (List.mem_of_getElem? (i := 12) rfl))) (x_mc (List.mem_cons_of_mem _ (List.mem_append_left _ (List.mem_of_getElem? (i := 8) rfl))) (x_mc (List.mem_cons_of_mem _ (List.mem_append_left _ (List.mem_of_getElem? (i := 13) rfl))) x_mn))))))) (fun _ h => sb_wsX12_drums_wsX120 _ h))) (by decide +kernel)
set_option maxRecDepth 20000 in
theorem gX12_drums_X12_drum : GoodIn wsX12_drums (wsV RX12 478 RX12 yX12_drum wsX12_drum) := goodIn_app (goodIn_of _ (by decide +kernel)) ggX12_drums_X12_drum
theorem dX12_drums_0 : decode cX12_drums 0 = .ok (.iload_n 1, 1) := by decide +kernel
theorem dX12_drums_1 : decode cX12_drums 1 = .ok (.invokestatic 473, 3) := by decide +kernel
theorem dX12_drums_4 : decode cX12_drums 4 = .ok (.ifCond .eq 28, 3) := by decide +kernel
theorem dX12_drums_7 : decode cX12_drums 7 = .ok (.iload_n 2, 1) := by decide +kernel
theorem dX12_drums_8 : decode cX12_drums 8 = .ok (.i2l, 1) := by decide +kernel
theorem dX12_drums_9 : decode cX12_drums 9 = .ok (.lconst 0, 1) := by decide +kernel
theorem dX12_drums_10 : decode cX12_drums 10 = .ok (.ldc2_w 186, 3) := by decide +kernel
theorem dX12_drums_13 : decode cX12_drums 13 = .ok (.invokestatic 156, 3) := by decide +kernel
theorem dX12_drums_16 : decode cX12_drums 16 = .ok (.ifCond .eq 16, 3) := by decide +kernel
theorem dX12_drums_19 : decode cX12_drums 19 = .ok (.iload 4, 2) := by decide +kernel
theorem dX12_drums_21 : decode cX12_drums 21 = .ok (.i2l, 1) := by decide +kernel
theorem dX12_drums_22 : decode cX12_drums 22 = .ok (.lconst 0, 1) := by decide +kernel
theorem dX12_drums_23 : decode cX12_drums 23 = .ok (.ldc2_w 476, 3) := by decide +kernel
theorem dX12_drums_26 : decode cX12_drums 26 = .ok (.invokestatic 156, 3) := by decide +kernel
theorem dX12_drums_29 : decode cX12_drums 29 = .ok (.ifCond .ne 6, 3) := by decide +kernel
theorem dX12_drums_32 : decode cX12_drums 32 = .ok (.bipush (-2), 2) := by decide +kernel
theorem dX12_drums_34 : decode cX12_drums 34 = .ok (.ireturn, 1) := by decide +kernel
theorem dX12_drums_35 : decode cX12_drums 35 = .ok (.aload_n 0, 1) := by decide +kernel
theorem dX12_drums_36 : decode cX12_drums 36 = .ok (.getfield 111, 3) := by decide +kernel
theorem dX12_drums_39 : decode cX12_drums 39 = .ok (.iload_n 1, 1) := by decide +kernel
theorem dX12_drums_40 : decode cX12_drums 40 = .ok (.baload, 1) := by decide +kernel
theorem dX12_drums_41 : decode cX12_drums 41 = .ok (.ifCond .eq 16, 3) := by decide +kernel
theorem dX12_drums_44 : decode cX12_drums 44 = .ok (.aload_n 0, 1) := by decide +kernel
theorem dX12_drums_45 : decode cX12_drums 45 = .ok (.getfield 115, 3) := by decide +kernel
theorem dX12_drums_48 : decode cX12_drums 48 = .ok (.iload_n 1, 1) := by decide +kernel
theorem dX12_drums_49 : decode cX12_drums 49 = .ok (.iaload, 1) := by decide +kernel
theorem dX12_drums_50 : decode cX12_drums 50 = .ok (.iload_n 2, 1) := by decide +kernel
theorem dX12_drums_51 : decode cX12_drums 51 = .ok (.if_icmp .eq 6, 3) := by decide +kernel
theorem dX12_drums_54 : decode cX12_drums 54 = .ok (.bipush (-13), 2) := by decide +kernel
theorem dX12_drums_56 : decode cX12_drums 56 = .ok (.ireturn, 1) := by decide +kernel
theorem dX12_drums_57 : decode cX12_drums 57 = .ok (.aload_n 0, 1) := by decide +kernel
theorem dX12_drums_58 : decode cX12_drums 58 = .ok (.getfield 111, 3) := by decide +kernel
theorem dX12_drums_61 : decode cX12_drums 61 = .ok (.iload_n 1, 1) := by decide +kernel
theorem dX12_drums_62 : decode cX12_drums 62 = .ok (.baload, 1) := by decide +kernel
theorem dX12_drums_63 : decode cX12_drums 63 = .ok (.ifCond .ne 6, 3) := by decide +kernel
theorem dX12_drums_66 : decode cX12_drums 66 = .ok (.bipush (-11), 2) := by decide +kernel
theorem dX12_drums_68 : decode cX12_drums 68 = .ok (.ireturn, 1) := by decide +kernel
theorem dX12_drums_69 : decode cX12_drums 69 = .ok (.iconst 0, 1) := by decide +kernel
theorem dX12_drums_70 : decode cX12_drums 70 = .ok (.istore 5, 2) := by decide +kernel
theorem dX12_drums_72 : decode cX12_drums 72 = .ok (.iconst 0, 1) := by decide +kernel
theorem dX12_drums_73 : decode cX12_drums 73 = .ok (.istore 6, 2) := by decide +kernel
theorem dX12_drums_75 : decode cX12_drums 75 = .ok (.iload 6, 2) := by decide +kernel
theorem dX12_drums_77 : decode cX12_drums 77 = .ok (.iload 4, 2) := by decide +kernel
theorem dX12_drums_79 : decode cX12_drums 79 = .ok (.if_icmp .ge 62, 3) := by decide +kernel
theorem dX12_drums_82 : decode cX12_drums 82 = .ok (.iload_n 3, 1) := by decide +kernel
theorem dX12_drums_83 : decode cX12_drums 83 = .ok (.ifCond .lt 18, 3) := by decide +kernel
theorem dX12_drums_86 : decode cX12_drums 86 = .ok (.iload_n 3, 1) := by decide +kernel
theorem dX12_drums_87 : decode cX12_drums 87 = .ok (.aload_n 0, 1) := by decide +kernel
theorem dX12_drums_88 : decode cX12_drums 88 = .ok (.getfield 118, 3) := by decide +kernel
theorem dX12_drums_91 : decode cX12_drums 91 = .ok (.iload_n 1, 1) := by decide +kernel
theorem dX12_drums_92 : decode cX12_drums 92 = .ok (.iaload, 1) := by decide +kernel
theorem dX12_drums_93 : decode cX12_drums 93 = .ok (.iload 6, 2) := by decide +kernel
theorem dX12_drums_95 : decode cX12_drums 95 = .ok (.isub, 1) := by decide +kernel
theorem dX12_drums_96 : decode cX12_drums 96 = .ok (.iconst 1, 1) := by decide +kernel
theorem dX12_drums_97 : decode cX12_drums 97 = .ok (.isub, 1) := by decide +kernel
theorem dX12_drums_98 : decode cX12_drums 98 = .ok (.if_icmp .le 6, 3) := by decide +kernel
theorem dX12_drums_101 : decode cX12_drums 101 = .ok (.bipush (-12), 2) := by decide +kernel
theorem dX12_drums_103 : decode cX12_drums 103 = .ok (.ireturn, 1) := by decide +kernel
theorem dX12_drums_104 : decode cX12_drums 104 = .ok (.iload 5, 2) := by decide +kernel
theorem dX12_drums_106 : decode cX12_drums 106 = .ok (.aload_n 0, 1) := by decide +kernel
theorem dX12_drums_107 : decode cX12_drums 107 = .ok (.aload_n 0, 1) := by decide +kernel
theorem dX12_drums_108 : decode cX12_drums 108 = .ok (.getfield 121, 3) := by decide +kernel
theorem dX12_drums_111 : decode cX12_drums 111 = .ok (.bipush 40, 2) := by decide +kernel
theorem dX12_drums_113 : decode cX12_drums 113 = .ok (.iload_n 1, 1) := by decide +kernel
theorem dX12_drums_114 : decode cX12_drums 114 = .ok (.imul, 1) := by decide +kernel
theorem dX12_drums_115 : decode cX12_drums 115 = .ok (.iload_n 3, 1) := by decide +kernel
theorem dX12_drums_116 : decode cX12_drums 116 = .ok (.iadd, 1) := by decide +kernel
theorem dX12_drums_117 : decode cX12_drums 117 = .ok (.iload 6, 2) := by decide +kernel
theorem dX12_drums_119 : decode cX12_drums 119 = .ok (.iadd, 1) := by decide +kernel
theorem dX12_drums_120 : decode cX12_drums 120 = .ok (.iaload, 1) := by decide +kernel
theorem dX12_drums_121 : decode cX12_drums 121 = .ok (.invokevirtual 478, 3) := by decide +kernel
theorem dX12_drums_124 : decode cX12_drums 124 = .ok (.ifCond .lt 7, 3) := by decide +kernel
theorem dX12_drums_127 : decode cX12_drums 127 = .ok (.iconst 1, 1) := by decide +kernel
theorem dX12_drums_128 : decode cX12_drums 128 = .ok (.goto 4, 3) := by decide +kernel
theorem dX12_drums_131 : decode cX12_drums 131 = .ok (.iconst 0, 1) := by decide +kernel
theorem dX12_drums_132 : decode cX12_drums 132 = .ok (.iadd, 1) := by decide +kernel
theorem dX12_drums_133 : decode cX12_drums 133 = .ok (.istore 5, 2) := by decide +kernel
theorem dX12_drums_135 : decode cX12_drums 135 = .ok (.iinc 6 1, 3) := by decide +kernel
theorem dX12_drums_138 : decode cX12_drums 138 = .ok (.goto (-63), 3) := by decide +kernel
theorem dX12_drums_141 : decode cX12_drums 141 = .ok (.iload 5, 2) := by decide +kernel
theorem dX12_drums_143 : decode cX12_drums 143 = .ok (.ireturn, 1) := by decide +kernel
theorem dX12_over_0 : decode cX12_over 0 = .ok (.iload_n 0, 1) := by decide +kernel
theorem dX12_over_1 : decode cX12_over 1 = .ok (.ifCond .ne 7, 3) := by decide +kernel
theorem dX12_over_4 : decode cX12_over 4 = .ok (.iconst (-1), 1) := by decide +kernel
theorem dX12_over_5 : decode cX12_over 5 = .ok (.goto 22, 3) := by decide +kernel
theorem dX12_over_8 : decode cX12_over 8 = .ok (.iload_n 0, 1) := by decide +kernel
theorem dX12_over_9 : decode cX12_over 9 = .ok (.iconst 4, 1) := by decide +kernel
theorem dX12_over_10 : decode cX12_over 10 = .ok (.if_icmp .ne 7, 3) := by decide +kernel
theorem dX12_over_13 : decode cX12_over 13 = .ok (.iconst 2, 1) := by decide +kernel
theorem dX12_over_14 : decode cX12_over 14 = .ok (.goto 13, 3) := by decide +kernel
theorem dX12_over_17 : decode cX12_over 17 = .ok (.iload_n 0, 1) := by decide +kernel
theorem dX12_over_18 : decode cX12_over 18 = .ok (.iconst 5, 1) := by decide +kernel
theorem dX12_over_19 : decode cX12_over 19 = .ok (.if_icmp .ne 7, 3) := by decide +kernel
theorem dX12_over_22 : decode cX12_over 22 = .ok (.iconst 1, 1) := by decide +kernel
theorem dX12_over_23 : decode cX12_over 23 = .ok (.goto 4, 3) := by decide +kernel
theorem dX12_over_26 : decode cX12_over 26 = .ok (.iconst 0, 1) := by decide +kernel
