theorem dX11_cost_29 : decode cX11_cost 29 = .ok (.aload_n 0, 1) := by decide +kernel
theorem dX11_cost_30 : decode cX11_cost 30 = .ok (.getfield 54, 3) := by decide +kernel
theorem dX11_cost_33 : decode cX11_cost 33 = .ok (.invokevirtual 391, 3) := by decide +kernel
theorem dX11_cost_36 : decode cX11_cost 36 = .ok (.invokestatic 395, 3) := by decide +kernel
theorem dX11_cost_39 : decode cX11_cost 39 = .ok (.invokestatic 400, 3) := by decide +kernel
theorem dX11_cost_42 : decode cX11_cost 42 = .ok (.ireturn, 1) := by decide +kernel
theorem dX11_freeBelts_0 : decode cX11_freeBelts 0 = .ok (.iconst 4, 1) := by decide +kernel
theorem dX11_freeBelts_1 : decode cX11_freeBelts 1 = .ok (.aload_n 0, 1) := by decide +kernel
theorem dX11_freeBelts_2 : decode cX11_freeBelts 2 = .ok (.getfield 10, 3) := by decide +kernel
theorem dX11_freeBelts_5 : decode cX11_freeBelts 5 = .ok (.getfield 145, 3) := by decide +kernel
theorem dX11_freeBelts_8 : decode cX11_freeBelts 8 = .ok (.invokestatic 395, 3) := by decide +kernel
theorem dX11_freeBelts_11 : decode cX11_freeBelts 11 = .ok (.ireturn, 1) := by decide +kernel
theorem sb_wsX11_findChosen_wsX11_findChosen_r1 : ∀ w ∈ wsX11_findChosen_r1, w ∈ wsX11_findChosen := fun _ h => (List.mem_cons_of_mem _ (List.mem_append_left _ (List.mem_append_left _ (List.mem_append_left _ (List.mem_append_left _ (List.mem_append_left _ (List.mem_append_left _ (List.mem_append_left _ (List.mem_append_left _ (List.mem_append_left _ (List.mem_append_left _ h)))))))))))
theorem sb_wsX11_findChosen_wsX11_findChosen_r2 : ∀ w ∈ wsX11_findChosen_r2, w ∈ wsX11_findChosen := fun _ h => (List.mem_cons_of_mem _ (List.mem_append_left _ (List.mem_append_left _ (List.mem_append_left _ (List.mem_append_left _ (List.mem_append_left _ (List.mem_append_left _ (List.mem_append_left _ (List.mem_append_left _ (List.mem_append_left _ (List.mem_append_right _ (List.mem_append_left _ h))))))))))))
theorem sb_wsX11_findChosen_wsX11_findChosen_r3 : ∀ w ∈ wsX11_findChosen_r3, w ∈ wsX11_findChosen := fun _ h => (List.mem_cons_of_mem _ (List.mem_append_left _ (List.mem_append_left _ (List.mem_append_left _ (List.mem_append_left _ (List.mem_append_left _ (List.mem_append_left _ (List.mem_append_left _ (List.mem_append_left _ (List.mem_append_left _ (List.mem_append_right _ (List.mem_append_right _ (List.mem_append_left _ h)))))))))))))
theorem sb_wsX11_findChosen_wsX11_findChosen_r4 : ∀ w ∈ wsX11_findChosen_r4, w ∈ wsX11_findChosen := fun _ h => (List.mem_cons_of_mem _ (List.mem_append_left _ (List.mem_append_left _ (List.mem_append_left _ (List.mem_append_left _ (List.mem_append_left _ (List.mem_append_left _ (List.mem_append_left _ (List.mem_append_left _ (List.mem_append_left _ (List.mem_append_right _ (List.mem_append_right _ (List.mem_append_right _ (List.mem_append_left _ h))))))))))))))
theorem sb_wsX11_findChosen_wsX11_findChosen_r5 : ∀ w ∈ wsX11_findChosen_r5, w ∈ wsX11_findChosen := fun _ h => (List.mem_cons_of_mem _ (List.mem_append_left _ (List.mem_append_left _ (List.mem_append_left _ (List.mem_append_left _ (List.mem_append_left _ (List.mem_append_left _ (List.mem_append_left _ (List.mem_append_left _ (List.mem_append_left _ (List.mem_append_right _ (List.mem_append_right _ (List.mem_append_right _ (List.mem_append_right _ (List.mem_append_left _ h)))))))))))))))
theorem sb_wsX11_findChosen_wsX11_findChosen_r6 : ∀ w ∈ wsX11_findChosen_r6, w ∈ wsX11_findChosen := fun _ h => (List.mem_cons_of_mem _ (List.mem_append_left _ (List.mem_append_left _ (List.mem_append_left _ (List.mem_append_left _ (List.mem_append_left _ (List.mem_append_left _ (List.mem_append_left _ (List.mem_append_left _ (List.mem_append_left _ (List.mem_append_right _ (List.mem_append_right _ (List.mem_append_right _ (List.mem_append_right _ (List.mem_append_right _ h)))))))))))))))
theorem sb_wsX11_findChosen_wsX110 : ∀ w ∈ wsX110, w ∈ wsX11_findChosen := fun _ h => (List.mem_cons_of_mem _ (List.mem_append_left _ (List.mem_append_left _ (List.mem_append_left _ (List.mem_append_left _ (List.mem_append_left _ (List.mem_append_left _ (List.mem_append_left _ (List.mem_append_left _ (List.mem_append_right _ h))))))))))
theorem sb_wsX11_findChosen_wsX60 : ∀ w ∈ wsX60, w ∈ wsX11_findChosen := fun _ h => (List.mem_cons_of_mem _ (List.mem_append_left _ (List.mem_append_left _ (List.mem_append_left _ (List.mem_append_left _ (List.mem_append_left _ (List.mem_append_left _ (List.mem_append_left _ (List.mem_append_right _ h)))))))))
theorem sb_wsX11_findChosen_wsX00 : ∀ w ∈ wsX00, w ∈ wsX11_findChosen := fun _ h => (List.mem_cons_of_mem _ (List.mem_append_left _ (List.mem_append_left _ (List.mem_append_left _ (List.mem_append_left _ (List.mem_append_left _ (List.mem_append_left _ (List.mem_append_right _ h))))))))
theorem sb_wsX11_findChosen_wsX10 : ∀ w ∈ wsX10, w ∈ wsX11_findChosen := fun _ h => (List.mem_cons_of_mem _ (List.mem_append_left _ (List.mem_append_left _ (List.mem_append_left _ (List.mem_append_left _ (List.mem_append_left _ (List.mem_append_right _ h)))))))
theorem sb_wsX11_findChosen_wsX20 : ∀ w ∈ wsX20, w ∈ wsX11_findChosen := fun _ h => (List.mem_cons_of_mem _ (List.mem_append_left _ (List.mem_append_left _ (List.mem_append_left _ (List.mem_append_left _ (List.mem_append_right _ h))))))
theorem sb_wsX11_findChosen_wsX30 : ∀ w ∈ wsX30, w ∈ wsX11_findChosen := fun _ h => (List.mem_cons_of_mem _ (List.mem_append_left _ (List.mem_append_left _ (List.mem_append_left _ (List.mem_append_right _ h)))))
theorem sb_wsX11_findChosen_wsX40 : ∀ w ∈ wsX40, w ∈ wsX11_findChosen := fun _ h => (List.mem_cons_of_mem _ (List.mem_append_left _ (List.mem_append_left _ (List.mem_append_right _ h))))
theorem sb_wsX11_findChosen_wsX100 : ∀ w ∈ wsX100, w ∈ wsX11_findChosen := fun _ h => (List.mem_cons_of_mem _ (List.mem_append_left _ (List.mem_append_right _ h)))
theorem sb_wsX11_findChosen_wsX50 : ∀ w ∈ wsX50, w ∈ wsX11_findChosen := fun _ h => (List.mem_cons_of_mem _ (List.mem_append_right _ h))
set_option maxRecDepth 20000 in
theorem ggX11_findChosen_X11_stayingDrums : GoodIn wsX11_findChosen wsX11_stayingDrums := goodIn_sub (x_mc (sb_wsX11_findChosen_wsX11_findChosen_r1 _ (List.mem_of_getElem? (i := 8) rfl)) (x_ina (x_ina (x_ina (x_ina (x_ina (x_ina (x_ina (x_ina (x_mc (sb_wsX11_findChosen_wsX11_findChosen_r1 _ (List.mem_of_getElem? (i := 1) rfl)) (x_mc (sb_wsX11_findChosen_wsX11_findChosen_r1 _ (List.mem_of_getElem? (i := 9) rfl)) (x_mc (sb_wsX11_findChosen_wsX11_findChosen_r1 _ (List.mem_of_getElem? (i := 2) rfl)) (x_mc (sb_wsX11_findChosen_wsX11_findChosen_r1 _ (List.mem_of_getElem? (i := 10) rfl)) (x_mc (sb_wsX11_findChosen_wsX11_findChosen_r1 _ (List.mem_of_getElem? (i := 3) rfl)) x_mn))))) (fun _ h => sb_wsX11_findChosen_wsX110 _ h)) (fun _ h => sb_wsX11_findChosen_wsX60 _ h)) (fun _ h => sb_wsX11_findChosen_wsX00 _ h)) (fun _ h => sb_wsX11_findChosen_wsX10 _ h)) (fun _ h => sb_wsX11_findChosen_wsX20 _ h)) (fun _ h => sb_wsX11_findChosen_wsX30 _ h)) (fun _ h => sb_wsX11_findChosen_wsX40 _ h)) (fun _ h => sb_wsX11_findChosen_wsX100 _ h))) (by decide +kernel)
set_option maxRecDepth 20000 in
theorem gX11_findChosen_X11_stayingDrums : GoodIn wsX11_findChosen (wsV RX11 412 RX11 yX11_stayingDrums wsX11_stayingDrums) := goodIn_app (goodIn_of _ (by decide +kernel)) ggX11_findChosen_X11_stayingDrums
set_option maxRecDepth 20000 in
theorem ggX11_findChosen_X11_tryDrums : GoodIn wsX11_findChosen wsX11_tryDrums := goodIn_sub (x_mc (sb_wsX11_findChosen_wsX11_findChosen_r1 _ (List.mem_of_getElem? (i := 14) rfl)) (x_ina (x_ina (x_ina (x_ina (x_ina (x_ina (x_ina (x_ina (x_ina (x_ina (x_mc (sb_wsX11_findChosen_wsX11_findChosen_r1 _ (List.mem_of_getElem? (i := 1) rfl)) (x_mc (sb_wsX11_findChosen_wsX11_findChosen_r1 _ (List.mem_of_getElem? (i := 2) rfl)) (x_mc (sb_wsX11_findChosen_wsX11_findChosen_r1 _ (List.mem_of_getElem? (i := 15) rfl)) (x_mc (sb_wsX11_findChosen_wsX11_findChosen_r1 _ (List.mem_of_getElem? (i := 16) rfl)) (x_mc (sb_wsX11_findChosen_wsX11_findChosen_r1 _ (List.mem_of_getElem? (i := 17) rfl)) (x_mc (sb_wsX11_findChosen_wsX11_findChosen_r1 _ (List.mem_of_getElem? (i := 18) rfl)) (x_mc (sb_wsX11_findChosen_wsX11_findChosen_r1 _ (List.mem_of_getElem? (i := 3) rfl)) (x_mc (sb_wsX11_findChosen_wsX11_findChosen_r1 _ (List.mem_of_getElem? (i := 19) rfl)) (x_mc (sb_wsX11_findChosen_wsX11_findChosen_r1 _ (List.mem_of_getElem? (i := 20) rfl)) (x_mc (sb_wsX11_findChosen_wsX11_findChosen_r1 _ (List.mem_of_getElem? (i := 21) rfl)) (x_mc (sb_wsX11_findChosen_wsX11_findChosen_r1 _ (List.mem_of_getElem? (i := 7) rfl)) (x_mc (sb_wsX11_findChosen_wsX11_findChosen_r1 _ (List.mem_of_getElem? (i := 22) rfl)) (x_mc (sb_wsX11_findChosen_wsX11_findChosen_r1 _ (List.mem_of_getElem? (i := 9) rfl)) (x_mc (sb_wsX11_findChosen_wsX11_findChosen_r1 _ (List.mem_of_getElem? (i := 23) rfl)) (x_mc (sb_wsX11_findChosen_wsX11_findChosen_r2 _ (List.mem_of_getElem? (i := 0) rfl)) (x_mc (sb_wsX11_findChosen_wsX11_findChosen_r2 _ (List.mem_of_getElem? (i := 1) rfl)) (x_mc (sb_wsX11_findChosen_wsX11_findChosen_r2 _ (List.mem_of_getElem? (i := 2) rfl)) (x_mc (sb_wsX11_findChosen_wsX11_findChosen_r2 _ (List.mem_of_getElem? (i := 3) rfl)) (x_mc (sb_wsX11_findChosen_wsX11_findChosen_r2 _ (List.mem_of_getElem? (i := 4) rfl)) (x_mc (sb_wsX11_findChosen_wsX11_findChosen_r2 _ (List.mem_of_getElem? (i := 5) rfl)) (x_mc (sb_wsX11_findChosen_wsX11_findChosen_r2 _ (List.mem_of_getElem? (i := 6) rfl)) (x_mc (sb_wsX11_findChosen_wsX11_findChosen_r1 _ (List.mem_of_getElem? (i := 0) rfl)) (x_mc (sb_wsX11_findChosen_wsX11_findChosen_r2 _ (List.mem_of_getElem? (i := 7) rfl)) (x_mc (sb_wsX11_findChosen_wsX11_findChosen_r2 _ (List.mem_of_getElem? (i := 8) rfl)) x_mn)))))))))))))))))))))))) (x_ina (x_mc (sb_wsX11_findChosen_wsX11_findChosen_r2 _ (List.mem_of_getElem? (i := 9) rfl)) (x_mc (sb_wsX11_findChosen_wsX11_findChosen_r2 _ (List.mem_of_getElem? (i := 10) rfl)) (x_mc (sb_wsX11_findChosen_wsX11_findChosen_r2 _ (List.mem_of_getElem? (i := 11) rfl)) (x_mc (sb_wsX11_findChosen_wsX11_findChosen_r2 _ (List.mem_of_getElem? (i := 12) rfl)) (x_mc (sb_wsX11_findChosen_wsX11_findChosen_r2 _ (List.mem_of_getElem? (i := 13) rfl)) (x_mc (sb_wsX11_findChosen_wsX11_findChosen_r2 _ (List.mem_of_getElem? (i := 14) rfl)) (x_mc (sb_wsX11_findChosen_wsX11_findChosen_r2 _ (List.mem_of_getElem? (i := 15) rfl)) (x_mc (sb_wsX11_findChosen_wsX11_findChosen_r2 _ (List.mem_of_getElem? (i := 16) rfl)) (x_mc (sb_wsX11_findChosen_wsX11_findChosen_r2 _ (List.mem_of_getElem? (i := 17) rfl)) (x_mc (sb_wsX11_findChosen_wsX11_findChosen_r2 _ (List.mem_of_getElem? (i := 18) rfl)) (x_mc (sb_wsX11_findChosen_wsX11_findChosen_r2 _ (List.mem_of_getElem? (i := 19) rfl)) (x_mc (sb_wsX11_findChosen_wsX11_findChosen_r2 _ (List.mem_of_getElem? (i := 20) rfl)) (x_mc (sb_wsX11_findChosen_wsX11_findChosen_r2 _ (List.mem_of_getElem? (i := 21) rfl)) (x_mc (sb_wsX11_findChosen_wsX11_findChosen_r2 _ (List.mem_of_getElem? (i := 22) rfl)) (x_mc (sb_wsX11_findChosen_wsX11_findChosen_r2 _ (List.mem_of_getElem? (i := 23) rfl)) (x_mc (sb_wsX11_findChosen_wsX11_findChosen_r3 _ (List.mem_of_getElem? (i := 0) rfl)) (x_mc (sb_wsX11_findChosen_wsX11_findChosen_r3 _ (List.mem_of_getElem? (i := 1) rfl)) (x_mc (sb_wsX11_findChosen_wsX11_findChosen_r3 _ (List.mem_of_getElem? (i := 2) rfl)) (x_mc (sb_wsX11_findChosen_wsX11_findChosen_r3 _ (List.mem_of_getElem? (i := 3) rfl)) (x_mc (sb_wsX11_findChosen_wsX11_findChosen_r3 _ (List.mem_of_getElem? (i := 4) rfl)) (x_mc (sb_wsX11_findChosen_wsX11_findChosen_r3 _ (List.mem_of_getElem? (i := 5) rfl)) (x_mc (sb_wsX11_findChosen_wsX11_findChosen_r3 _ (List.mem_of_getElem? (i := 6) rfl)) (x_mc (sb_wsX11_findChosen_wsX11_findChosen_r3 _ (List.mem_of_getElem? (i := 7) rfl)) (x_mc (sb_wsX11_findChosen_wsX11_findChosen_r3 _ (List.mem_of_getElem? (i := 8) rfl)) x_mn)))))))))))))))))))))))) (x_ina (x_mc (sb_wsX11_findChosen_wsX11_findChosen_r3 _ (List.mem_of_getElem? (i := 9) rfl)) (x_mc (sb_wsX11_findChosen_wsX11_findChosen_r3 _ (List.mem_of_getElem? (i := 10) rfl)) (x_mc (sb_wsX11_findChosen_wsX11_findChosen_r3 _ (List.mem_of_getElem? (i := 11) rfl)) (x_mc (sb_wsX11_findChosen_wsX11_findChosen_r3 _ (List.mem_of_getElem? (i := 12) rfl)) (x_mc (sb_wsX11_findChosen_wsX11_findChosen_r3 _ (List.mem_of_getElem? (i := 13) rfl)) (x_mc (sb_wsX11_findChosen_wsX11_findChosen_r3 _ (List.mem_of_getElem? (i := 14) rfl)) (x_mc (sb_wsX11_findChosen_wsX11_findChosen_r3 _ (List.mem_of_getElem? (i := 15) rfl)) (x_mc (sb_wsX11_findChosen_wsX11_findChosen_r3 _ (List.mem_of_getElem? (i := 16) rfl)) (x_mc (sb_wsX11_findChosen_wsX11_findChosen_r3 _ (List.mem_of_getElem? (i := 17) rfl)) (x_mc (sb_wsX11_findChosen_wsX11_findChosen_r3 _ (List.mem_of_getElem? (i := 18) rfl)) (x_mc (sb_wsX11_findChosen_wsX11_findChosen_r3 _ (List.mem_of_getElem? (i := 19) rfl)) (x_mc (sb_wsX11_findChosen_wsX11_findChosen_r3 _ (List.mem_of_getElem? (i := 20) rfl)) (x_mc (sb_wsX11_findChosen_wsX11_findChosen_r3 _ (List.mem_of_getElem? (i := 21) rfl)) (x_mc (sb_wsX11_findChosen_wsX11_findChosen_r3 _ (List.mem_of_getElem? (i := 22) rfl)) (x_mc (sb_wsX11_findChosen_wsX11_findChosen_r3 _ (List.mem_of_getElem? (i := 23) rfl)) (x_mc (sb_wsX11_findChosen_wsX11_findChosen_r4 _ (List.mem_of_getElem? (i := 0) rfl)) (x_mc (sb_wsX11_findChosen_wsX11_findChosen_r4 _ (List.mem_of_getElem? (i := 1) rfl)) (x_mc (sb_wsX11_findChosen_wsX11_findChosen_r4 _ (List.mem_of_getElem? (i := 2) rfl)) (x_mc (sb_wsX11_findChosen_wsX11_findChosen_r4 _ (List.mem_of_getElem? (i := 3) rfl)) (x_mc (sb_wsX11_findChosen_wsX11_findChosen_r4 _ (List.mem_of_getElem? (i := 4) rfl)) (x_mc (sb_wsX11_findChosen_wsX11_findChosen_r4 _ (List.mem_of_getElem? (i := 5) rfl)) (x_mc (sb_wsX11_findChosen_wsX11_findChosen_r4 _ (List.mem_of_getElem? (i := 6) rfl)) (x_mc (sb_wsX11_findChosen_wsX11_findChosen_r4 _ (List.mem_of_getElem? (i := 7) rfl)) (x_mc (sb_wsX11_findChosen_wsX11_findChosen_r4 _ (List.mem_of_getElem? (i := 8) rfl)) x_mn)))))))))))))))))))))))) (x_ina (x_mc (sb_wsX11_findChosen_wsX11_findChosen_r4 _ (List.mem_of_getElem? (i := 9) rfl)) (x_mc (sb_wsX11_findChosen_wsX11_findChosen_r4 _ (List.mem_of_getElem? (i := 10) rfl)) (x_mc (sb_wsX11_findChosen_wsX11_findChosen_r4 _ (List.mem_of_getElem? (i := 11) rfl)) (x_mc (sb_wsX11_findChosen_wsX11_findChosen_r4 _ (List.mem_of_getElem? (i := 12) rfl)) (x_mc (sb_wsX11_findChosen_wsX11_findChosen_r4 _ (List.mem_of_getElem? (i := 13) rfl)) (x_mc (sb_wsX11_findChosen_wsX11_findChosen_r4 _ (List.mem_of_getElem? (i := 14) rfl)) (x_mc (sb_wsX11_findChosen_wsX11_findChosen_r4 _ (List.mem_of_getElem? (i := 15) rfl)) (x_mc (sb_wsX11_findChosen_wsX11_findChosen_r4 _ (List.mem_of_getElem? (i := 16) rfl)) (x_mc (sb_wsX11_findChosen_wsX11_findChosen_r4 _ (List.mem_of_getElem? (i := 17) rfl)) (x_mc (sb_wsX11_findChosen_wsX11_findChosen_r4 _ (List.mem_of_getElem? (i := 18) rfl)) (x_mc (sb_wsX11_findChosen_wsX11_findChosen_r4 _ (List.mem_of_getElem? (i := 19) rfl)) (x_mc (sb_wsX11_findChosen_wsX11_findChosen_r4 _ (List.mem_of_getElem? (i := 20) rfl)) (x_mc (sb_wsX11_findChosen_wsX11_findChosen_r4 _ (List.mem_of_getElem? (i := 21) rfl)) (x_mc (sb_wsX11_findChosen_wsX11_findChosen_r4 _ (List.mem_of_getElem? (i := 22) rfl)) (x_mc (sb_wsX11_findChosen_wsX11_findChosen_r4 _ (List.mem_of_getElem? (i := 23) rfl)) (x_mc (sb_wsX11_findChosen_wsX11_findChosen_r5 _ (List.mem_of_getElem? (i := 0) rfl)) (x_mc (sb_wsX11_findChosen_wsX11_findChosen_r5 _ (List.mem_of_getElem? (i := 1) rfl)) (x_mc (sb_wsX11_findChosen_wsX11_findChosen_r5 _ (List.mem_of_getElem? (i := 2) rfl)) (x_mc (sb_wsX11_findChosen_wsX11_findChosen_r5 _ (List.mem_of_getElem? (i := 3) rfl)) (x_mc (sb_wsX11_findChosen_wsX11_findChosen_r5 _ (List.mem_of_getElem? (i := 4) rfl)) (x_mc (sb_wsX11_findChosen_wsX11_findChosen_r5 _ (List.mem_of_getElem? (i := 5) rfl)) (x_mc (sb_wsX11_findChosen_wsX11_findChosen_r5 _ (List.mem_of_getElem? (i := 6) rfl)) (x_mc (sb_wsX11_findChosen_wsX11_findChosen_r5 _ (List.mem_of_getElem? (i := 7) rfl)) (x_mc (sb_wsX11_findChosen_wsX11_findChosen_r5 _ (List.mem_of_getElem? (i := 8) rfl)) x_mn)))))))))))))))))))))))) (x_ina (x_mc (sb_wsX11_findChosen_wsX11_findChosen_r5 _ (List.mem_of_getElem? (i := 9) rfl)) (x_mc (sb_wsX11_findChosen_wsX11_findChosen_r5 _ (List.mem_of_getElem? (i := 10) rfl)) (x_mc (sb_wsX11_findChosen_wsX11_findChosen_r5 _ (List.mem_of_getElem? (i := 11) rfl)) (x_mc (sb_wsX11_findChosen_wsX11_findChosen_r5 _ (List.mem_of_getElem? (i := 12) rfl)) (x_mc (sb_wsX11_findChosen_wsX11_findChosen_r5 _ (List.mem_of_getElem? (i := 13) rfl)) (x_mc (sb_wsX11_findChosen_wsX11_findChosen_r5 _ (List.mem_of_getElem? (i := 14) rfl)) (x_mc (sb_wsX11_findChosen_wsX11_findChosen_r5 _ (List.mem_of_getElem? (i := 15) rfl)) (x_mc (sb_wsX11_findChosen_wsX11_findChosen_r5 _ (List.mem_of_getElem? (i := 16) rfl)) (x_mc (sb_wsX11_findChosen_wsX11_findChosen_r5 _ (List.mem_of_getElem? (i := 17) rfl)) (x_mc (sb_wsX11_findChosen_wsX11_findChosen_r5 _ (List.mem_of_getElem? (i := 18) rfl)) (x_mc (sb_wsX11_findChosen_wsX11_findChosen_r5 _ (List.mem_of_getElem? (i := 19) rfl)) (x_mc (sb_wsX11_findChosen_wsX11_findChosen_r5 _ (List.mem_of_getElem? (i := 20) rfl)) (x_mc (sb_wsX11_findChosen_wsX11_findChosen_r5 _ (List.mem_of_getElem? (i := 21) rfl)) (x_mc (sb_wsX11_findChosen_wsX11_findChosen_r5 _ (List.mem_of_getElem? (i := 22) rfl)) (x_mc (sb_wsX11_findChosen_wsX11_findChosen_r5 _ (List.mem_of_getElem? (i := 23) rfl)) (x_mc (sb_wsX11_findChosen_wsX11_findChosen_r6 _ (List.mem_of_getElem? (i := 0) rfl)) (x_mc (sb_wsX11_findChosen_wsX11_findChosen_r6 _ (List.mem_of_getElem? (i := 1) rfl)) (x_mc (sb_wsX11_findChosen_wsX11_findChosen_r6 _ (List.mem_of_getElem? (i := 2) rfl)) (x_mc (sb_wsX11_findChosen_wsX11_findChosen_r6 _ (List.mem_of_getElem? (i := 3) rfl)) (x_mc (sb_wsX11_findChosen_wsX11_findChosen_r6 _ (List.mem_of_getElem? (i := 4) rfl)) (x_mc (sb_wsX11_findChosen_wsX11_findChosen_r6 _ (List.mem_of_getElem? (i := 5) rfl)) (x_mc (sb_wsX11_findChosen_wsX11_findChosen_r6 _ (List.mem_of_getElem? (i := 6) rfl)) (x_mc (sb_wsX11_findChosen_wsX11_findChosen_r1 _ (List.mem_of_getElem? (i := 11) rfl)) (x_mc (sb_wsX11_findChosen_wsX11_findChosen_r1 _ (List.mem_of_getElem? (i := 12) rfl)) x_mn)))))))))))))))))))))))) (x_mc (sb_wsX11_findChosen_wsX11_findChosen_r1 _ (List.mem_of_getElem? (i := 13) rfl)) x_mn)))))) (fun _ h => sb_wsX11_findChosen_wsX110 _ h)) (fun _ h => sb_wsX11_findChosen_wsX60 _ h)) (fun _ h => sb_wsX11_findChosen_wsX00 _ h)) (fun _ h => sb_wsX11_findChosen_wsX10 _ h)) (fun _ h => sb_wsX11_findChosen_wsX20 _ h)) (fun _ h => sb_wsX11_findChosen_wsX30 _ h)) (fun _ h => sb_wsX11_findChosen_wsX40 _ h)) (fun _ h => sb_wsX11_findChosen_wsX100 _ h)) (fun _ h => sb_wsX11_findChosen_wsX50 _ h))) (by decide +kernel)
set_option maxRecDepth 20000 in
theorem gX11_findChosen_X11_tryDrums : GoodIn wsX11_findChosen (wsV RX11 415 RX11 yX11_tryDrums wsX11_tryDrums) := goodIn_app (goodIn_of _ (by decide +kernel)) ggX11_findChosen_X11_tryDrums
set_option maxRecDepth 20000 in
theorem ggX11_findChosen_X11_freeBelts : GoodIn wsX11_findChosen wsX11_freeBelts := goodIn_sub (x_mc (sb_wsX11_findChosen_wsX11_findChosen_r1 _ (List.mem_of_getElem? (i := 22) rfl)) (x_ina (x_ina (x_mc (sb_wsX11_findChosen_wsX11_findChosen_r1 _ (List.mem_of_getElem? (i := 1) rfl)) (x_mc (sb_wsX11_findChosen_wsX11_findChosen_r1 _ (List.mem_of_getElem? (i := 9) rfl)) (x_mc (sb_wsX11_findChosen_wsX11_findChosen_r1 _ (List.mem_of_getElem? (i := 23) rfl)) (x_mc (sb_wsX11_findChosen_wsX11_findChosen_r2 _ (List.mem_of_getElem? (i := 0) rfl)) (x_mc (sb_wsX11_findChosen_wsX11_findChosen_r2 _ (List.mem_of_getElem? (i := 1) rfl)) (x_mc (sb_wsX11_findChosen_wsX11_findChosen_r2 _ (List.mem_of_getElem? (i := 2) rfl)) x_mn)))))) (fun _ h => sb_wsX11_findChosen_wsX110 _ h)) (fun _ h => sb_wsX11_findChosen_wsX60 _ h))) (by decide +kernel)
set_option maxRecDepth 20000 in
theorem gX11_findChosen_X11_freeBelts : GoodIn wsX11_findChosen (wsV RX11 258 RX11 yX11_freeBelts wsX11_freeBelts) := goodIn_app (goodIn_of _ (by decide +kernel)) ggX11_findChosen_X11_freeBelts
set_option maxRecDepth 20000 in
theorem ggX11_findChosen_X6_putDrum : GoodIn wsX11_findChosen wsX6_putDrum := goodIn_sub (x_mc (sb_wsX11_findChosen_wsX11_findChosen_r6 _ (List.mem_of_getElem? (i := 10) rfl)) (x_ina (x_ina (x_ina (x_ina (x_ina (x_ina (x_ina (x_mc (sb_wsX11_findChosen_wsX11_findChosen_r6 _ (List.mem_of_getElem? (i := 11) rfl)) (x_mc (sb_wsX11_findChosen_wsX11_findChosen_r6 _ (List.mem_of_getElem? (i := 12) rfl)) (x_mc (sb_wsX11_findChosen_wsX11_findChosen_r6 _ (List.mem_of_getElem? (i := 13) rfl)) (x_mc (sb_wsX11_findChosen_wsX11_findChosen_r6 _ (List.mem_of_getElem? (i := 14) rfl)) (x_mc (sb_wsX11_findChosen_wsX11_findChosen_r6 _ (List.mem_of_getElem? (i := 15) rfl)) x_mn))))) (fun _ h => sb_wsX11_findChosen_wsX00 _ h)) (fun _ h => sb_wsX11_findChosen_wsX10 _ h)) (fun _ h => sb_wsX11_findChosen_wsX20 _ h)) (fun _ h => sb_wsX11_findChosen_wsX30 _ h)) (fun _ h => sb_wsX11_findChosen_wsX40 _ h)) (fun _ h => sb_wsX11_findChosen_wsX100 _ h)) (fun _ h => sb_wsX11_findChosen_wsX60 _ h))) (by decide +kernel)
set_option maxRecDepth 20000 in
theorem gX11_findChosen_X6_putDrum : GoodIn wsX11_findChosen (wsV RX11 152 RX6 yX6_putDrum wsX6_putDrum) := goodIn_app (goodIn_of _ (by decide +kernel)) ggX11_findChosen_X6_putDrum
theorem dX11_findChosen_0 : decode cX11_findChosen 0 = .ok (.aload_n 0, 1) := by decide +kernel
theorem dX11_findChosen_1 : decode cX11_findChosen 1 = .ok (.iconst (-1), 1) := by decide +kernel
theorem dX11_findChosen_2 : decode cX11_findChosen 2 = .ok (.putfield 265, 3) := by decide +kernel
theorem dX11_findChosen_5 : decode cX11_findChosen 5 = .ok (.aload_n 0, 1) := by decide +kernel
theorem dX11_findChosen_6 : decode cX11_findChosen 6 = .ok (.invokevirtual 412, 3) := by decide +kernel
theorem dX11_findChosen_9 : decode cX11_findChosen 9 = .ok (.istore_n 1, 1) := by decide +kernel
theorem dX11_findChosen_10 : decode cX11_findChosen 10 = .ok (.iload_n 1, 1) := by decide +kernel
theorem dX11_findChosen_11 : decode cX11_findChosen 11 = .ok (.iconst (-1), 1) := by decide +kernel
theorem dX11_findChosen_12 : decode cX11_findChosen 12 = .ok (.if_icmp .ne 5, 3) := by decide +kernel
theorem dX11_findChosen_15 : decode cX11_findChosen 15 = .ok (.iconst 0, 1) := by decide +kernel
theorem dX11_findChosen_16 : decode cX11_findChosen 16 = .ok (.ireturn, 1) := by decide +kernel
theorem dX11_findChosen_17 : decode cX11_findChosen 17 = .ok (.aload_n 0, 1) := by decide +kernel
theorem dX11_findChosen_18 : decode cX11_findChosen 18 = .ok (.iconst 0, 1) := by decide +kernel
theorem dX11_findChosen_19 : decode cX11_findChosen 19 = .ok (.iload_n 1, 1) := by decide +kernel
theorem dX11_findChosen_20 : decode cX11_findChosen 20 = .ok (.iconst 0, 1) := by decide +kernel
theorem dX11_findChosen_21 : decode cX11_findChosen 21 = .ok (.invokevirtual 415, 3) := by decide +kernel
theorem dX11_findChosen_24 : decode cX11_findChosen 24 = .ok (.iconst 0, 1) := by decide +kernel
theorem dX11_findChosen_25 : decode cX11_findChosen 25 = .ok (.istore_n 2, 1) := by decide +kernel
theorem dX11_findChosen_26 : decode cX11_findChosen 26 = .ok (.iload_n 2, 1) := by decide +kernel
theorem dX11_findChosen_27 : decode cX11_findChosen 27 = .ok (.aload_n 0, 1) := by decide +kernel
theorem dX11_findChosen_28 : decode cX11_findChosen 28 = .ok (.invokevirtual 258, 3) := by decide +kernel
theorem dX11_findChosen_31 : decode cX11_findChosen 31 = .ok (.if_icmp .ge 38, 3) := by decide +kernel
theorem dX11_findChosen_34 : decode cX11_findChosen 34 = .ok (.aload_n 0, 1) := by decide +kernel
theorem dX11_findChosen_35 : decode cX11_findChosen 35 = .ok (.getfield 10, 3) := by decide +kernel
theorem dX11_findChosen_38 : decode cX11_findChosen 38 = .ok (.aload_n 0, 1) := by decide +kernel
theorem dX11_findChosen_39 : decode cX11_findChosen 39 = .ok (.getfield 10, 3) := by decide +kernel
theorem dX11_findChosen_42 : decode cX11_findChosen 42 = .ok (.getfield 163, 3) := by decide +kernel
theorem dX11_findChosen_45 : decode cX11_findChosen 45 = .ok (.iload_n 2, 1) := by decide +kernel
theorem dX11_findChosen_46 : decode cX11_findChosen 46 = .ok (.aaload, 1) := by decide +kernel
theorem dX11_findChosen_47 : decode cX11_findChosen 47 = .ok (.iconst 1, 1) := by decide +kernel
theorem dX11_findChosen_48 : decode cX11_findChosen 48 = .ok (.aload_n 0, 1) := by decide +kernel
theorem dX11_findChosen_49 : decode cX11_findChosen 49 = .ok (.getfield 10, 3) := by decide +kernel
theorem dX11_findChosen_52 : decode cX11_findChosen 52 = .ok (.getfield 163, 3) := by decide +kernel
theorem dX11_findChosen_55 : decode cX11_findChosen 55 = .ok (.iload_n 2, 1) := by decide +kernel
theorem dX11_findChosen_56 : decode cX11_findChosen 56 = .ok (.aaload, 1) := by decide +kernel
theorem dX11_findChosen_57 : decode cX11_findChosen 57 = .ok (.getfield 173, 3) := by decide +kernel
theorem dX11_findChosen_60 : decode cX11_findChosen 60 = .ok (.invokevirtual 152, 3) := by decide +kernel
theorem dX11_findChosen_63 : decode cX11_findChosen 63 = .ok (.iinc 2 1, 3) := by decide +kernel
theorem dX11_findChosen_66 : decode cX11_findChosen 66 = .ok (.goto (-40), 3) := by decide +kernel
theorem dX11_findChosen_69 : decode cX11_findChosen 69 = .ok (.aload_n 0, 1) := by decide +kernel
theorem dX11_findChosen_70 : decode cX11_findChosen 70 = .ok (.getfield 265, 3) := by decide +kernel
theorem dX11_findChosen_73 : decode cX11_findChosen 73 = .ok (.iconst (-1), 1) := by decide +kernel
theorem dX11_findChosen_74 : decode cX11_findChosen 74 = .ok (.if_icmp .eq 7, 3) := by decide +kernel
theorem dX11_findChosen_77 : decode cX11_findChosen 77 = .ok (.iconst 1, 1) := by decide +kernel
theorem dX11_findChosen_78 : decode cX11_findChosen 78 = .ok (.goto 4, 3) := by decide +kernel
theorem dX11_findChosen_81 : decode cX11_findChosen 81 = .ok (.iconst 0, 1) := by decide +kernel
theorem dX11_findChosen_82 : decode cX11_findChosen 82 = .ok (.ireturn, 1) := by decide +kernel
theorem dX11_stayingDrums_0 : decode cX11_stayingDrums 0 = .ok (.iconst 0, 1) := by decide +kernel
theorem dX11_stayingDrums_1 : decode cX11_stayingDrums 1 = .ok (.istore_n 1, 1) := by decide +kernel
theorem dX11_stayingDrums_2 : decode cX11_stayingDrums 2 = .ok (.iconst 0, 1) := by decide +kernel
theorem dX11_stayingDrums_3 : decode cX11_stayingDrums 3 = .ok (.istore_n 2, 1) := by decide +kernel
theorem dX11_stayingDrums_4 : decode cX11_stayingDrums 4 = .ok (.iload_n 2, 1) := by decide +kernel
theorem dX11_stayingDrums_5 : decode cX11_stayingDrums 5 = .ok (.aload_n 0, 1) := by decide +kernel
theorem dX11_stayingDrums_6 : decode cX11_stayingDrums 6 = .ok (.getfield 10, 3) := by decide +kernel
theorem dX11_stayingDrums_9 : decode cX11_stayingDrums 9 = .ok (.getfield 145, 3) := by decide +kernel
theorem dX11_stayingDrums_12 : decode cX11_stayingDrums 12 = .ok (.if_icmp .ge 57, 3) := by decide +kernel
theorem dX11_stayingDrums_15 : decode cX11_stayingDrums 15 = .ok (.aload_n 0, 1) := by decide +kernel
theorem dX11_stayingDrums_16 : decode cX11_stayingDrums 16 = .ok (.getfield 10, 3) := by decide +kernel
theorem dX11_stayingDrums_19 : decode cX11_stayingDrums 19 = .ok (.getfield 163, 3) := by decide +kernel
theorem dX11_stayingDrums_22 : decode cX11_stayingDrums 22 = .ok (.iload_n 2, 1) := by decide +kernel
theorem dX11_stayingDrums_23 : decode cX11_stayingDrums 23 = .ok (.aaload, 1) := by decide +kernel
theorem dX11_stayingDrums_24 : decode cX11_stayingDrums 24 = .ok (.astore_n 3, 1) := by decide +kernel
theorem dX11_stayingDrums_25 : decode cX11_stayingDrums 25 = .ok (.iconst 1, 1) := by decide +kernel
theorem dX11_stayingDrums_26 : decode cX11_stayingDrums 26 = .ok (.aload_n 3, 1) := by decide +kernel
theorem dX11_stayingDrums_27 : decode cX11_stayingDrums 27 = .ok (.getfield 170, 3) := by decide +kernel
theorem dX11_stayingDrums_30 : decode cX11_stayingDrums 30 = .ok (.ishl, 1) := by decide +kernel
theorem dX11_stayingDrums_31 : decode cX11_stayingDrums 31 = .ok (.istore 4, 2) := by decide +kernel
theorem dX11_stayingDrums_33 : decode cX11_stayingDrums 33 = .ok (.iload_n 2, 1) := by decide +kernel
theorem dX11_stayingDrums_34 : decode cX11_stayingDrums 34 = .ok (.iconst 4, 1) := by decide +kernel
theorem dX11_stayingDrums_35 : decode cX11_stayingDrums 35 = .ok (.if_icmp .lt 14, 3) := by decide +kernel
theorem dX11_stayingDrums_38 : decode cX11_stayingDrums 38 = .ok (.iload 4, 2) := by decide +kernel
theorem dX11_stayingDrums_40 : decode cX11_stayingDrums 40 = .ok (.iconst 1, 1) := by decide +kernel
theorem dX11_stayingDrums_41 : decode cX11_stayingDrums 41 = .ok (.aload_n 3, 1) := by decide +kernel
theorem dX11_stayingDrums_42 : decode cX11_stayingDrums 42 = .ok (.getfield 173, 3) := by decide +kernel
theorem dX11_stayingDrums_45 : decode cX11_stayingDrums 45 = .ok (.ishl, 1) := by decide +kernel
theorem dX11_stayingDrums_46 : decode cX11_stayingDrums 46 = .ok (.ior, 1) := by decide +kernel
theorem dX11_stayingDrums_47 : decode cX11_stayingDrums 47 = .ok (.istore 4, 2) := by decide +kernel
theorem dX11_stayingDrums_49 : decode cX11_stayingDrums 49 = .ok (.iload_n 1, 1) := by decide +kernel
theorem dX11_stayingDrums_50 : decode cX11_stayingDrums 50 = .ok (.iload 4, 2) := by decide +kernel
theorem dX11_stayingDrums_52 : decode cX11_stayingDrums 52 = .ok (.iand, 1) := by decide +kernel
theorem dX11_stayingDrums_53 : decode cX11_stayingDrums 53 = .ok (.ifCond .eq 5, 3) := by decide +kernel
theorem dX11_stayingDrums_56 : decode cX11_stayingDrums 56 = .ok (.iconst (-1), 1) := by decide +kernel
theorem dX11_stayingDrums_57 : decode cX11_stayingDrums 57 = .ok (.ireturn, 1) := by decide +kernel
theorem dX11_stayingDrums_58 : decode cX11_stayingDrums 58 = .ok (.iload_n 1, 1) := by decide +kernel
theorem dX11_stayingDrums_59 : decode cX11_stayingDrums 59 = .ok (.iload 4, 2) := by decide +kernel
theorem dX11_stayingDrums_61 : decode cX11_stayingDrums 61 = .ok (.ior, 1) := by decide +kernel
theorem dX11_stayingDrums_62 : decode cX11_stayingDrums 62 = .ok (.istore_n 1, 1) := by decide +kernel
theorem dX11_stayingDrums_63 : decode cX11_stayingDrums 63 = .ok (.iinc 2 1, 3) := by decide +kernel
theorem dX11_stayingDrums_66 : decode cX11_stayingDrums 66 = .ok (.goto (-62), 3) := by decide +kernel
theorem dX11_stayingDrums_69 : decode cX11_stayingDrums 69 = .ok (.iload_n 1, 1) := by decide +kernel
theorem dX11_stayingDrums_70 : decode cX11_stayingDrums 70 = .ok (.ireturn, 1) := by decide +kernel
theorem sb_wsX11_tryDrums_wsX11_tryDrums_r1 : ∀ w ∈ wsX11_tryDrums_r1, w ∈ wsX11_tryDrums := fun _ h => (List.mem_cons_of_mem _ (List.mem_append_left _ (List.mem_append_left _ (List.mem_append_left _ (List.mem_append_left _ (List.mem_append_left _ (List.mem_append_left _ (List.mem_append_left _ (List.mem_append_left _ (List.mem_append_left _ (List.mem_append_left _ h)))))))))))
theorem sb_wsX11_tryDrums_wsX11_tryDrums_r2 : ∀ w ∈ wsX11_tryDrums_r2, w ∈ wsX11_tryDrums := fun _ h => (List.mem_cons_of_mem _ (List.mem_append_left _ (List.mem_append_left _ (List.mem_append_left _ (List.mem_append_left _ (List.mem_append_left _ (List.mem_append_left _ (List.mem_append_left _ (List.mem_append_left _ (List.mem_append_left _ (List.mem_append_right _ (List.mem_append_left _ h))))))))))))
theorem sb_wsX11_tryDrums_wsX11_tryDrums_r3 : ∀ w ∈ wsX11_tryDrums_r3, w ∈ wsX11_tryDrums := fun _ h => (List.mem_cons_of_mem _ (List.mem_append_left _ (List.mem_append_left _ (List.mem_append_left _ (List.mem_append_left _ (List.mem_append_left _ (List.mem_append_left _ (List.mem_append_left _ (List.mem_append_left _ (List.mem_append_left _ (List.mem_append_right _ (List.mem_append_right _ (List.mem_append_left _ h)))))))))))))
theorem sb_wsX11_tryDrums_wsX11_tryDrums_r4 : ∀ w ∈ wsX11_tryDrums_r4, w ∈ wsX11_tryDrums := fun _ h => (List.mem_cons_of_mem _ (List.mem_append_left _ (List.mem_append_left _ (List.mem_append_left _ (List.mem_append_left _ (List.mem_append_left _ (List.mem_append_left _ (List.mem_append_left _ (List.mem_append_left _ (List.mem_append_left _ (List.mem_append_right _ (List.mem_append_right _ (List.mem_append_right _ (List.mem_append_left _ h))))))))))))))
theorem sb_wsX11_tryDrums_wsX11_tryDrums_r5 : ∀ w ∈ wsX11_tryDrums_r5, w ∈ wsX11_tryDrums := fun _ h => (List.mem_cons_of_mem _ (List.mem_append_left _ (List.mem_append_left _ (List.mem_append_left _ (List.mem_append_left _ (List.mem_append_left _ (List.mem_append_left _ (List.mem_append_left _ (List.mem_append_left _ (List.mem_append_left _ (List.mem_append_right _ (List.mem_append_right _ (List.mem_append_right _ (List.mem_append_right _ (List.mem_append_left _ h)))))))))))))))
theorem sb_wsX11_tryDrums_wsX11_tryDrums_r6 : ∀ w ∈ wsX11_tryDrums_r6, w ∈ wsX11_tryDrums := fun _ h => (List.mem_cons_of_mem _ (List.mem_append_left _ (List.mem_append_left _ (List.mem_append_left _ (List.mem_append_left _ (List.mem_append_left _ (List.mem_append_left _ (List.mem_append_left _ (List.mem_append_left _ (List.mem_append_left _ (List.mem_append_right _ (List.mem_append_right _ (List.mem_append_right _ (List.mem_append_right _ (List.mem_append_right _ h)))))))))))))))
theorem sb_wsX11_tryDrums_wsX110 : ∀ w ∈ wsX110, w ∈ wsX11_tryDrums := fun _ h => (List.mem_cons_of_mem _ (List.mem_append_left _ (List.mem_append_left _ (List.mem_append_left _ (List.mem_append_left _ (List.mem_append_left _ (List.mem_append_left _ (List.mem_append_left _ (List.mem_append_left _ (List.mem_append_right _ h))))))))))
theorem sb_wsX11_tryDrums_wsX60 : ∀ w ∈ wsX60, w ∈ wsX11_tryDrums := fun _ h => (List.mem_cons_of_mem _ (List.mem_append_left _ (List.mem_append_left _ (List.mem_append_left _ (List.mem_append_left _ (List.mem_append_left _ (List.mem_append_left _ (List.mem_append_left _ (List.mem_append_right _ h)))))))))
theorem sb_wsX11_tryDrums_wsX00 : ∀ w ∈ wsX00, w ∈ wsX11_tryDrums := fun _ h => (List.mem_cons_of_mem _ (List.mem_append_left _ (List.mem_append_left _ (List.mem_append_left _ (List.mem_append_left _ (List.mem_append_left _ (List.mem_append_left _ (List.mem_append_right _ h))))))))
theorem sb_wsX11_tryDrums_wsX10 : ∀ w ∈ wsX10, w ∈ wsX11_tryDrums := fun _ h => (List.mem_cons_of_mem _ (List.mem_append_left _ (List.mem_append_left _ (List.mem_append_left _ (List.mem_append_left _ (List.mem_append_left _ (List.mem_append_right _ h)))))))
theorem sb_wsX11_tryDrums_wsX20 : ∀ w ∈ wsX20, w ∈ wsX11_tryDrums := fun _ h => (List.mem_cons_of_mem _ (List.mem_append_left _ (List.mem_append_left _ (List.mem_append_left _ (List.mem_append_left _ (List.mem_append_right _ h))))))
theorem sb_wsX11_tryDrums_wsX30 : ∀ w ∈ wsX30, w ∈ wsX11_tryDrums := fun _ h => (List.mem_cons_of_mem _ (List.mem_append_left _ (List.mem_append_left _ (List.mem_append_left _ (List.mem_append_right _ h)))))
theorem sb_wsX11_tryDrums_wsX40 : ∀ w ∈ wsX40, w ∈ wsX11_tryDrums := fun _ h => (List.mem_cons_of_mem _ (List.mem_append_left _ (List.mem_append_left _ (List.mem_append_right _ h))))
theorem sb_wsX11_tryDrums_wsX100 : ∀ w ∈ wsX100, w ∈ wsX11_tryDrums := fun _ h => (List.mem_cons_of_mem _ (List.mem_append_left _ (List.mem_append_right _ h)))
theorem sb_wsX11_tryDrums_wsX50 : ∀ w ∈ wsX50, w ∈ wsX11_tryDrums := fun _ h => (List.mem_cons_of_mem _ (List.mem_append_right _ h))
set_option maxRecDepth 20000 in
theorem ggX11_tryDrums_X11_freeBelts : GoodIn wsX11_tryDrums wsX11_freeBelts := goodIn_sub (x_mc (sb_wsX11_tryDrums_wsX11_tryDrums_r1 _ (List.mem_of_getElem? (i := 11) rfl)) (x_ina (x_ina (x_mc (sb_wsX11_tryDrums_wsX11_tryDrums_r1 _ (List.mem_of_getElem? (i := 0) rfl)) (x_mc (sb_wsX11_tryDrums_wsX11_tryDrums_r1 _ (List.mem_of_getElem? (i := 12) rfl)) (x_mc (sb_wsX11_tryDrums_wsX11_tryDrums_r1 _ (List.mem_of_getElem? (i := 13) rfl)) (x_mc (sb_wsX11_tryDrums_wsX11_tryDrums_r1 _ (List.mem_of_getElem? (i := 14) rfl)) (x_mc (sb_wsX11_tryDrums_wsX11_tryDrums_r1 _ (List.mem_of_getElem? (i := 15) rfl)) (x_mc (sb_wsX11_tryDrums_wsX11_tryDrums_r1 _ (List.mem_of_getElem? (i := 16) rfl)) x_mn)))))) (fun _ h => sb_wsX11_tryDrums_wsX110 _ h)) (fun _ h => sb_wsX11_tryDrums_wsX60 _ h))) (by decide +kernel)
set_option maxRecDepth 20000 in
theorem gX11_tryDrums_X11_freeBelts : GoodIn wsX11_tryDrums (wsV RX11 258 RX11 yX11_freeBelts wsX11_freeBelts) := goodIn_app (goodIn_of _ (by decide +kernel)) ggX11_tryDrums_X11_freeBelts
set_option maxRecDepth 20000 in
theorem ggX11_tryDrums_X11_weigh : GoodIn wsX11_tryDrums wsX11_weigh := goodIn_sub (x_mc (sb_wsX11_tryDrums_wsX11_tryDrums_r1 _ (List.mem_of_getElem? (i := 20) rfl)) (x_ina (x_ina (x_ina (x_ina (x_ina (x_ina (x_ina (x_ina (x_ina (x_ina (x_mc (sb_wsX11_tryDrums_wsX11_tryDrums_r1 _ (List.mem_of_getElem? (i := 0) rfl)) (x_mc (sb_wsX11_tryDrums_wsX11_tryDrums_r1 _ (List.mem_of_getElem? (i := 21) rfl)) (x_mc (sb_wsX11_tryDrums_wsX11_tryDrums_r1 _ (List.mem_of_getElem? (i := 22) rfl)) (x_mc (sb_wsX11_tryDrums_wsX11_tryDrums_r1 _ (List.mem_of_getElem? (i := 3) rfl)) (x_mc (sb_wsX11_tryDrums_wsX11_tryDrums_r1 _ (List.mem_of_getElem? (i := 23) rfl)) (x_mc (sb_wsX11_tryDrums_wsX11_tryDrums_r2 _ (List.mem_of_getElem? (i := 0) rfl)) (x_mc (sb_wsX11_tryDrums_wsX11_tryDrums_r2 _ (List.mem_of_getElem? (i := 1) rfl)) (x_mc (sb_wsX11_tryDrums_wsX11_tryDrums_r2 _ (List.mem_of_getElem? (i := 2) rfl)) (x_mc (sb_wsX11_tryDrums_wsX11_tryDrums_r2 _ (List.mem_of_getElem? (i := 3) rfl)) (x_mc (sb_wsX11_tryDrums_wsX11_tryDrums_r2 _ (List.mem_of_getElem? (i := 4) rfl)) (x_mc (sb_wsX11_tryDrums_wsX11_tryDrums_r2 _ (List.mem_of_getElem? (i := 5) rfl)) (x_mc (sb_wsX11_tryDrums_wsX11_tryDrums_r2 _ (List.mem_of_getElem? (i := 6) rfl)) (x_mc (sb_wsX11_tryDrums_wsX11_tryDrums_r2 _ (List.mem_of_getElem? (i := 7) rfl)) (x_mc (sb_wsX11_tryDrums_wsX11_tryDrums_r2 _ (List.mem_of_getElem? (i := 8) rfl)) (x_mc (sb_wsX11_tryDrums_wsX11_tryDrums_r2 _ (List.mem_of_getElem? (i := 9) rfl)) (x_mc (sb_wsX11_tryDrums_wsX11_tryDrums_r2 _ (List.mem_of_getElem? (i := 10) rfl)) (x_mc (sb_wsX11_tryDrums_wsX11_tryDrums_r2 _ (List.mem_of_getElem? (i := 11) rfl)) (x_mc (sb_wsX11_tryDrums_wsX11_tryDrums_r2 _ (List.mem_of_getElem? (i := 12) rfl)) (x_mc (sb_wsX11_tryDrums_wsX11_tryDrums_r2 _ (List.mem_of_getElem? (i := 13) rfl)) (x_mc (sb_wsX11_tryDrums_wsX11_tryDrums_r2 _ (List.mem_of_getElem? (i := 14) rfl)) (x_mc (sb_wsX11_tryDrums_wsX11_tryDrums_r2 _ (List.mem_of_getElem? (i := 15) rfl)) (x_mc (sb_wsX11_tryDrums_wsX11_tryDrums_r2 _ (List.mem_of_getElem? (i := 16) rfl)) (x_mc (sb_wsX11_tryDrums_wsX11_tryDrums_r2 _ (List.mem_of_getElem? (i := 17) rfl)) (x_mc (sb_wsX11_tryDrums_wsX11_tryDrums_r2 _ (List.mem_of_getElem? (i := 18) rfl)) x_mn)))))))))))))))))))))))) (x_ina (x_mc (sb_wsX11_tryDrums_wsX11_tryDrums_r2 _ (List.mem_of_getElem? (i := 19) rfl)) (x_mc (sb_wsX11_tryDrums_wsX11_tryDrums_r2 _ (List.mem_of_getElem? (i := 20) rfl)) (x_mc (sb_wsX11_tryDrums_wsX11_tryDrums_r2 _ (List.mem_of_getElem? (i := 21) rfl)) (x_mc (sb_wsX11_tryDrums_wsX11_tryDrums_r2 _ (List.mem_of_getElem? (i := 22) rfl)) (x_mc (sb_wsX11_tryDrums_wsX11_tryDrums_r2 _ (List.mem_of_getElem? (i := 23) rfl)) (x_mc (sb_wsX11_tryDrums_wsX11_tryDrums_r3 _ (List.mem_of_getElem? (i := 0) rfl)) (x_mc (sb_wsX11_tryDrums_wsX11_tryDrums_r3 _ (List.mem_of_getElem? (i := 1) rfl)) (x_mc (sb_wsX11_tryDrums_wsX11_tryDrums_r3 _ (List.mem_of_getElem? (i := 2) rfl)) (x_mc (sb_wsX11_tryDrums_wsX11_tryDrums_r3 _ (List.mem_of_getElem? (i := 3) rfl)) (x_mc (sb_wsX11_tryDrums_wsX11_tryDrums_r3 _ (List.mem_of_getElem? (i := 4) rfl)) (x_mc (sb_wsX11_tryDrums_wsX11_tryDrums_r3 _ (List.mem_of_getElem? (i := 5) rfl)) (x_mc (sb_wsX11_tryDrums_wsX11_tryDrums_r3 _ (List.mem_of_getElem? (i := 6) rfl)) (x_mc (sb_wsX11_tryDrums_wsX11_tryDrums_r3 _ (List.mem_of_getElem? (i := 7) rfl)) (x_mc (sb_wsX11_tryDrums_wsX11_tryDrums_r3 _ (List.mem_of_getElem? (i := 8) rfl)) (x_mc (sb_wsX11_tryDrums_wsX11_tryDrums_r3 _ (List.mem_of_getElem? (i := 9) rfl)) (x_mc (sb_wsX11_tryDrums_wsX11_tryDrums_r3 _ (List.mem_of_getElem? (i := 10) rfl)) (x_mc (sb_wsX11_tryDrums_wsX11_tryDrums_r3 _ (List.mem_of_getElem? (i := 11) rfl)) (x_mc (sb_wsX11_tryDrums_wsX11_tryDrums_r3 _ (List.mem_of_getElem? (i := 12) rfl)) (x_mc (sb_wsX11_tryDrums_wsX11_tryDrums_r3 _ (List.mem_of_getElem? (i := 13) rfl)) (x_mc (sb_wsX11_tryDrums_wsX11_tryDrums_r3 _ (List.mem_of_getElem? (i := 14) rfl)) (x_mc (sb_wsX11_tryDrums_wsX11_tryDrums_r3 _ (List.mem_of_getElem? (i := 15) rfl)) (x_mc (sb_wsX11_tryDrums_wsX11_tryDrums_r3 _ (List.mem_of_getElem? (i := 16) rfl)) (x_mc (sb_wsX11_tryDrums_wsX11_tryDrums_r3 _ (List.mem_of_getElem? (i := 17) rfl)) (x_mc (sb_wsX11_tryDrums_wsX11_tryDrums_r3 _ (List.mem_of_getElem? (i := 18) rfl)) x_mn)))))))))))))))))))))))) (x_ina (x_mc (sb_wsX11_tryDrums_wsX11_tryDrums_r3 _ (List.mem_of_getElem? (i := 19) rfl)) (x_mc (sb_wsX11_tryDrums_wsX11_tryDrums_r3 _ (List.mem_of_getElem? (i := 20) rfl)) (x_mc (sb_wsX11_tryDrums_wsX11_tryDrums_r3 _ (List.mem_of_getElem? (i := 21) rfl)) (x_mc (sb_wsX11_tryDrums_wsX11_tryDrums_r3 _ (List.mem_of_getElem? (i := 22) rfl)) (x_mc (sb_wsX11_tryDrums_wsX11_tryDrums_r3 _ (List.mem_of_getElem? (i := 23) rfl)) (x_mc (sb_wsX11_tryDrums_wsX11_tryDrums_r4 _ (List.mem_of_getElem? (i := 0) rfl)) (x_mc (sb_wsX11_tryDrums_wsX11_tryDrums_r4 _ (List.mem_of_getElem? (i := 1) rfl)) (x_mc (sb_wsX11_tryDrums_wsX11_tryDrums_r4 _ (List.mem_of_getElem? (i := 2) rfl)) (x_mc (sb_wsX11_tryDrums_wsX11_tryDrums_r4 _ (List.mem_of_getElem? (i := 3) rfl)) (x_mc (sb_wsX11_tryDrums_wsX11_tryDrums_r4 _ (List.mem_of_getElem? (i := 4) rfl)) (x_mc (sb_wsX11_tryDrums_wsX11_tryDrums_r4 _ (List.mem_of_getElem? (i := 5) rfl)) (x_mc (sb_wsX11_tryDrums_wsX11_tryDrums_r4 _ (List.mem_of_getElem? (i := 6) rfl)) (x_mc (sb_wsX11_tryDrums_wsX11_tryDrums_r4 _ (List.mem_of_getElem? (i := 7) rfl)) (x_mc (sb_wsX11_tryDrums_wsX11_tryDrums_r4 _ (List.mem_of_getElem? (i := 8) rfl)) (x_mc (sb_wsX11_tryDrums_wsX11_tryDrums_r4 _ (List.mem_of_getElem? (i := 9) rfl)) (x_mc (sb_wsX11_tryDrums_wsX11_tryDrums_r4 _ (List.mem_of_getElem? (i := 10) rfl)) (x_mc (sb_wsX11_tryDrums_wsX11_tryDrums_r4 _ (List.mem_of_getElem? (i := 11) rfl)) (x_mc (sb_wsX11_tryDrums_wsX11_tryDrums_r4 _ (List.mem_of_getElem? (i := 12) rfl)) (x_mc (sb_wsX11_tryDrums_wsX11_tryDrums_r4 _ (List.mem_of_getElem? (i := 13) rfl)) (x_mc (sb_wsX11_tryDrums_wsX11_tryDrums_r4 _ (List.mem_of_getElem? (i := 14) rfl)) (x_mc (sb_wsX11_tryDrums_wsX11_tryDrums_r4 _ (List.mem_of_getElem? (i := 15) rfl)) (x_mc (sb_wsX11_tryDrums_wsX11_tryDrums_r4 _ (List.mem_of_getElem? (i := 16) rfl)) (x_mc (sb_wsX11_tryDrums_wsX11_tryDrums_r4 _ (List.mem_of_getElem? (i := 17) rfl)) (x_mc (sb_wsX11_tryDrums_wsX11_tryDrums_r4 _ (List.mem_of_getElem? (i := 18) rfl)) x_mn)))))))))))))))))))))))) (x_ina (x_mc (sb_wsX11_tryDrums_wsX11_tryDrums_r4 _ (List.mem_of_getElem? (i := 19) rfl)) (x_mc (sb_wsX11_tryDrums_wsX11_tryDrums_r4 _ (List.mem_of_getElem? (i := 20) rfl)) (x_mc (sb_wsX11_tryDrums_wsX11_tryDrums_r4 _ (List.mem_of_getElem? (i := 21) rfl)) (x_mc (sb_wsX11_tryDrums_wsX11_tryDrums_r4 _ (List.mem_of_getElem? (i := 22) rfl)) (x_mc (sb_wsX11_tryDrums_wsX11_tryDrums_r4 _ (List.mem_of_getElem? (i := 23) rfl)) (x_mc (sb_wsX11_tryDrums_wsX11_tryDrums_r5 _ (List.mem_of_getElem? (i := 0) rfl)) (x_mc (sb_wsX11_tryDrums_wsX11_tryDrums_r5 _ (List.mem_of_getElem? (i := 1) rfl)) (x_mc (sb_wsX11_tryDrums_wsX11_tryDrums_r5 _ (List.mem_of_getElem? (i := 2) rfl)) (x_mc (sb_wsX11_tryDrums_wsX11_tryDrums_r5 _ (List.mem_of_getElem? (i := 3) rfl)) (x_mc (sb_wsX11_tryDrums_wsX11_tryDrums_r5 _ (List.mem_of_getElem? (i := 4) rfl)) (x_mc (sb_wsX11_tryDrums_wsX11_tryDrums_r5 _ (List.mem_of_getElem? (i := 5) rfl)) (x_mc (sb_wsX11_tryDrums_wsX11_tryDrums_r5 _ (List.mem_of_getElem? (i := 6) rfl)) (x_mc (sb_wsX11_tryDrums_wsX11_tryDrums_r5 _ (List.mem_of_getElem? (i := 7) rfl)) (x_mc (sb_wsX11_tryDrums_wsX11_tryDrums_r5 _ (List.mem_of_getElem? (i := 8) rfl)) (x_mc (sb_wsX11_tryDrums_wsX11_tryDrums_r5 _ (List.mem_of_getElem? (i := 9) rfl)) (x_mc (sb_wsX11_tryDrums_wsX11_tryDrums_r5 _ (List.mem_of_getElem? (i := 10) rfl)) (x_mc (sb_wsX11_tryDrums_wsX11_tryDrums_r5 _ (List.mem_of_getElem? (i := 11) rfl)) (x_mc (sb_wsX11_tryDrums_wsX11_tryDrums_r5 _ (List.mem_of_getElem? (i := 12) rfl)) (x_mc (sb_wsX11_tryDrums_wsX11_tryDrums_r5 _ (List.mem_of_getElem? (i := 13) rfl)) (x_mc (sb_wsX11_tryDrums_wsX11_tryDrums_r5 _ (List.mem_of_getElem? (i := 14) rfl)) (x_mc (sb_wsX11_tryDrums_wsX11_tryDrums_r5 _ (List.mem_of_getElem? (i := 15) rfl)) (x_mc (sb_wsX11_tryDrums_wsX11_tryDrums_r5 _ (List.mem_of_getElem? (i := 16) rfl)) (x_mc (sb_wsX11_tryDrums_wsX11_tryDrums_r5 _ (List.mem_of_getElem? (i := 17) rfl)) (x_mc (sb_wsX11_tryDrums_wsX11_tryDrums_r5 _ (List.mem_of_getElem? (i := 18) rfl)) x_mn)))))))))))))))))))))))) (x_mc (sb_wsX11_tryDrums_wsX11_tryDrums_r5 _ (List.mem_of_getElem? (i := 19) rfl)) (x_mc (sb_wsX11_tryDrums_wsX11_tryDrums_r5 _ (List.mem_of_getElem? (i := 20) rfl)) (x_mc (sb_wsX11_tryDrums_wsX11_tryDrums_r5 _ (List.mem_of_getElem? (i := 21) rfl)) x_mn))))))) (fun _ h => sb_wsX11_tryDrums_wsX110 _ h)) (fun _ h => sb_wsX11_tryDrums_wsX60 _ h)) (fun _ h => sb_wsX11_tryDrums_wsX00 _ h)) (fun _ h => sb_wsX11_tryDrums_wsX10 _ h)) (fun _ h => sb_wsX11_tryDrums_wsX20 _ h)) (fun _ h => sb_wsX11_tryDrums_wsX30 _ h)) (fun _ h => sb_wsX11_tryDrums_wsX40 _ h)) (fun _ h => sb_wsX11_tryDrums_wsX100 _ h)) (fun _ h => sb_wsX11_tryDrums_wsX50 _ h))) (by decide +kernel)
set_option maxRecDepth 20000 in
theorem gX11_tryDrums_X11_weigh : GoodIn wsX11_tryDrums (wsV RX11 418 RX11 yX11_weigh wsX11_weigh) := goodIn_app (goodIn_of _ (by decide +kernel)) ggX11_tryDrums_X11_weigh
set_option maxRecDepth 20000 in
theorem ggX11_tryDrums_X11_tryDrums : GoodIn wsX11_tryDrums wsX11_tryDrums := goodIn_sub (x_mc List.mem_cons_self (x_ina (x_ina (x_ina (x_ina (x_ina (x_ina (x_ina (x_ina (x_ina (x_ina (x_mc (sb_wsX11_tryDrums_wsX11_tryDrums_r1 _ (List.mem_of_getElem? (i := 0) rfl)) (x_mc (sb_wsX11_tryDrums_wsX11_tryDrums_r1 _ (List.mem_of_getElem? (i := 1) rfl)) (x_mc (sb_wsX11_tryDrums_wsX11_tryDrums_r1 _ (List.mem_of_getElem? (i := 2) rfl)) (x_mc (sb_wsX11_tryDrums_wsX11_tryDrums_r1 _ (List.mem_of_getElem? (i := 3) rfl)) (x_mc (sb_wsX11_tryDrums_wsX11_tryDrums_r1 _ (List.mem_of_getElem? (i := 4) rfl)) (x_mc (sb_wsX11_tryDrums_wsX11_tryDrums_r1 _ (List.mem_of_getElem? (i := 5) rfl)) (x_mc (sb_wsX11_tryDrums_wsX11_tryDrums_r1 _ (List.mem_of_getElem? (i := 6) rfl)) (x_mc (sb_wsX11_tryDrums_wsX11_tryDrums_r1 _ (List.mem_of_getElem? (i := 7) rfl)) (x_mc (sb_wsX11_tryDrums_wsX11_tryDrums_r1 _ (List.mem_of_getElem? (i := 8) rfl)) (x_mc (sb_wsX11_tryDrums_wsX11_tryDrums_r1 _ (List.mem_of_getElem? (i := 9) rfl)) (x_mc (sb_wsX11_tryDrums_wsX11_tryDrums_r1 _ (List.mem_of_getElem? (i := 10) rfl)) (x_mc (sb_wsX11_tryDrums_wsX11_tryDrums_r1 _ (List.mem_of_getElem? (i := 11) rfl)) (x_mc (sb_wsX11_tryDrums_wsX11_tryDrums_r1 _ (List.mem_of_getElem? (i := 12) rfl)) (x_mc (sb_wsX11_tryDrums_wsX11_tryDrums_r1 _ (List.mem_of_getElem? (i := 13) rfl)) (x_mc (sb_wsX11_tryDrums_wsX11_tryDrums_r1 _ (List.mem_of_getElem? (i := 14) rfl)) (x_mc (sb_wsX11_tryDrums_wsX11_tryDrums_r1 _ (List.mem_of_getElem? (i := 15) rfl)) (x_mc (sb_wsX11_tryDrums_wsX11_tryDrums_r1 _ (List.mem_of_getElem? (i := 16) rfl)) (x_mc (sb_wsX11_tryDrums_wsX11_tryDrums_r1 _ (List.mem_of_getElem? (i := 17) rfl)) (x_mc (sb_wsX11_tryDrums_wsX11_tryDrums_r1 _ (List.mem_of_getElem? (i := 18) rfl)) (x_mc (sb_wsX11_tryDrums_wsX11_tryDrums_r1 _ (List.mem_of_getElem? (i := 19) rfl)) (x_mc (sb_wsX11_tryDrums_wsX11_tryDrums_r1 _ (List.mem_of_getElem? (i := 20) rfl)) (x_mc (sb_wsX11_tryDrums_wsX11_tryDrums_r1 _ (List.mem_of_getElem? (i := 21) rfl)) (x_mc (sb_wsX11_tryDrums_wsX11_tryDrums_r1 _ (List.mem_of_getElem? (i := 22) rfl)) (x_mc (sb_wsX11_tryDrums_wsX11_tryDrums_r1 _ (List.mem_of_getElem? (i := 23) rfl)) x_mn)))))))))))))))))))))))) (x_ina (x_mc (sb_wsX11_tryDrums_wsX11_tryDrums_r2 _ (List.mem_of_getElem? (i := 0) rfl)) (x_mc (sb_wsX11_tryDrums_wsX11_tryDrums_r2 _ (List.mem_of_getElem? (i := 1) rfl)) (x_mc (sb_wsX11_tryDrums_wsX11_tryDrums_r2 _ (List.mem_of_getElem? (i := 2) rfl)) (x_mc (sb_wsX11_tryDrums_wsX11_tryDrums_r2 _ (List.mem_of_getElem? (i := 3) rfl)) (x_mc (sb_wsX11_tryDrums_wsX11_tryDrums_r2 _ (List.mem_of_getElem? (i := 4) rfl)) (x_mc (sb_wsX11_tryDrums_wsX11_tryDrums_r2 _ (List.mem_of_getElem? (i := 5) rfl)) (x_mc (sb_wsX11_tryDrums_wsX11_tryDrums_r2 _ (List.mem_of_getElem? (i := 6) rfl)) (x_mc (sb_wsX11_tryDrums_wsX11_tryDrums_r2 _ (List.mem_of_getElem? (i := 7) rfl)) (x_mc (sb_wsX11_tryDrums_wsX11_tryDrums_r2 _ (List.mem_of_getElem? (i := 8) rfl)) (x_mc (sb_wsX11_tryDrums_wsX11_tryDrums_r2 _ (List.mem_of_getElem? (i := 9) rfl)) (x_mc (sb_wsX11_tryDrums_wsX11_tryDrums_r2 _ (List.mem_of_getElem? (i := 10) rfl)) (x_mc (sb_wsX11_tryDrums_wsX11_tryDrums_r2 _ (List.mem_of_getElem? (i := 11) rfl)) (x_mc (sb_wsX11_tryDrums_wsX11_tryDrums_r2 _ (List.mem_of_getElem? (i := 12) rfl)) (x_mc (sb_wsX11_tryDrums_wsX11_tryDrums_r2 _ (List.mem_of_getElem? (i := 13) rfl)) (x_mc (sb_wsX11_tryDrums_wsX11_tryDrums_r2 _ (List.mem_of_getElem? (i := 14) rfl)) (x_mc (sb_wsX11_tryDrums_wsX11_tryDrums_r2 _ (List.mem_of_getElem? (i := 15) rfl)) (x_mc (sb_wsX11_tryDrums_wsX11_tryDrums_r2 _ (List.mem_of_getElem? (i := 16) rfl)) (x_mc (sb_wsX11_tryDrums_wsX11_tryDrums_r2 _ (List.mem_of_getElem? (i := 17) rfl)) (x_mc (sb_wsX11_tryDrums_wsX11_tryDrums_r2 _ (List.mem_of_getElem? (i := 18) rfl)) (x_mc (sb_wsX11_tryDrums_wsX11_tryDrums_r2 _ (List.mem_of_getElem? (i := 19) rfl)) (x_mc (sb_wsX11_tryDrums_wsX11_tryDrums_r2 _ (List.mem_of_getElem? (i := 20) rfl)) (x_mc (sb_wsX11_tryDrums_wsX11_tryDrums_r2 _ (List.mem_of_getElem? (i := 21) rfl)) (x_mc (sb_wsX11_tryDrums_wsX11_tryDrums_r2 _ (List.mem_of_getElem? (i := 22) rfl)) (x_mc (sb_wsX11_tryDrums_wsX11_tryDrums_r2 _ (List.mem_of_getElem? (i := 23) rfl)) x_mn)))))))))))))))))))))))) (x_ina (x_mc (sb_wsX11_tryDrums_wsX11_tryDrums_r3 _ (List.mem_of_getElem? (i := 0) rfl)) (x_mc (sb_wsX11_tryDrums_wsX11_tryDrums_r3 _ (List.mem_of_getElem? (i := 1) rfl)) (x_mc (sb_wsX11_tryDrums_wsX11_tryDrums_r3 _ (List.mem_of_getElem? (i := 2) rfl)) (x_mc (sb_wsX11_tryDrums_wsX11_tryDrums_r3 _ (List.mem_of_getElem? (i := 3) rfl)) (x_mc (sb_wsX11_tryDrums_wsX11_tryDrums_r3 _ (List.mem_of_getElem? (i := 4) rfl)) (x_mc (sb_wsX11_tryDrums_wsX11_tryDrums_r3 _ (List.mem_of_getElem? (i := 5) rfl)) (x_mc (sb_wsX11_tryDrums_wsX11_tryDrums_r3 _ (List.mem_of_getElem? (i := 6) rfl)) (x_mc (sb_wsX11_tryDrums_wsX11_tryDrums_r3 _ (List.mem_of_getElem? (i := 7) rfl)) (x_mc (sb_wsX11_tryDrums_wsX11_tryDrums_r3 _ (List.mem_of_getElem? (i := 8) rfl)) (x_mc (sb_wsX11_tryDrums_wsX11_tryDrums_r3 _ (List.mem_of_getElem? (i := 9) rfl)) (x_mc (sb_wsX11_tryDrums_wsX11_tryDrums_r3 _ (List.mem_of_getElem? (i := 10) rfl)) (x_mc (sb_wsX11_tryDrums_wsX11_tryDrums_r3 _ (List.mem_of_getElem? (i := 11) rfl)) (x_mc (sb_wsX11_tryDrums_wsX11_tryDrums_r3 _ (List.mem_of_getElem? (i := 12) rfl)) (x_mc (sb_wsX11_tryDrums_wsX11_tryDrums_r3 _ (List.mem_of_getElem? (i := 13) rfl)) (x_mc (sb_wsX11_tryDrums_wsX11_tryDrums_r3 _ (List.mem_of_getElem? (i := 14) rfl)) (x_mc (sb_wsX11_tryDrums_wsX11_tryDrums_r3 _ (List.mem_of_getElem? (i := 15) rfl)) (x_mc (sb_wsX11_tryDrums_wsX11_tryDrums_r3 _ (List.mem_of_getElem? (i := 16) rfl)) (x_mc (sb_wsX11_tryDrums_wsX11_tryDrums_r3 _ (List.mem_of_getElem? (i := 17) rfl)) (x_mc (sb_wsX11_tryDrums_wsX11_tryDrums_r3 _ (List.mem_of_getElem? (i := 18) rfl)) (x_mc (sb_wsX11_tryDrums_wsX11_tryDrums_r3 _ (List.mem_of_getElem? (i := 19) rfl)) (x_mc (sb_wsX11_tryDrums_wsX11_tryDrums_r3 _ (List.mem_of_getElem? (i := 20) rfl)) (x_mc (sb_wsX11_tryDrums_wsX11_tryDrums_r3 _ (List.mem_of_getElem? (i := 21) rfl)) (x_mc (sb_wsX11_tryDrums_wsX11_tryDrums_r3 _ (List.mem_of_getElem? (i := 22) rfl)) (x_mc (sb_wsX11_tryDrums_wsX11_tryDrums_r3 _ (List.mem_of_getElem? (i := 23) rfl)) x_mn)))))))))))))))))))))))) (x_ina (x_mc (sb_wsX11_tryDrums_wsX11_tryDrums_r4 _ (List.mem_of_getElem? (i := 0) rfl)) (x_mc (sb_wsX11_tryDrums_wsX11_tryDrums_r4 _ (List.mem_of_getElem? (i := 1) rfl)) (x_mc (sb_wsX11_tryDrums_wsX11_tryDrums_r4 _ (List.mem_of_getElem? (i := 2) rfl)) (x_mc (sb_wsX11_tryDrums_wsX11_tryDrums_r4 _ (List.mem_of_getElem? (i := 3) rfl)) (x_mc (sb_wsX11_tryDrums_wsX11_tryDrums_r4 _ (List.mem_of_getElem? (i := 4) rfl)) (x_mc (sb_wsX11_tryDrums_wsX11_tryDrums_r4 _ (List.mem_of_getElem? (i := 5) rfl)) (x_mc (sb_wsX11_tryDrums_wsX11_tryDrums_r4 _ (List.mem_of_getElem? (i := 6) rfl)) (x_mc (sb_wsX11_tryDrums_wsX11_tryDrums_r4 _ (List.mem_of_getElem? (i := 7) rfl)) (x_mc (sb_wsX11_tryDrums_wsX11_tryDrums_r4 _ (List.mem_of_getElem? (i := 8) rfl)) (x_mc (sb_wsX11_tryDrums_wsX11_tryDrums_r4 _ (List.mem_of_getElem? (i := 9) rfl)) (x_mc (sb_wsX11_tryDrums_wsX11_tryDrums_r4 _ (List.mem_of_getElem? (i := 10) rfl)) (x_mc (sb_wsX11_tryDrums_wsX11_tryDrums_r4 _ (List.mem_of_getElem? (i := 11) rfl)) (x_mc (sb_wsX11_tryDrums_wsX11_tryDrums_r4 _ (List.mem_of_getElem? (i := 12) rfl)) (x_mc (sb_wsX11_tryDrums_wsX11_tryDrums_r4 _ (List.mem_of_getElem? (i := 13) rfl)) (x_mc (sb_wsX11_tryDrums_wsX11_tryDrums_r4 _ (List.mem_of_getElem? (i := 14) rfl)) (x_mc (sb_wsX11_tryDrums_wsX11_tryDrums_r4 _ (List.mem_of_getElem? (i := 15) rfl)) (x_mc (sb_wsX11_tryDrums_wsX11_tryDrums_r4 _ (List.mem_of_getElem? (i := 16) rfl)) (x_mc (sb_wsX11_tryDrums_wsX11_tryDrums_r4 _ (List.mem_of_getElem? (i := 17) rfl)) (x_mc (sb_wsX11_tryDrums_wsX11_tryDrums_r4 _ (List.mem_of_getElem? (i := 18) rfl)) (x_mc (sb_wsX11_tryDrums_wsX11_tryDrums_r4 _ (List.mem_of_getElem? (i := 19) rfl)) (x_mc (sb_wsX11_tryDrums_wsX11_tryDrums_r4 _ (List.mem_of_getElem? (i := 20) rfl)) (x_mc (sb_wsX11_tryDrums_wsX11_tryDrums_r4 _ (List.mem_of_getElem? (i := 21) rfl)) (x_mc (sb_wsX11_tryDrums_wsX11_tryDrums_r4 _ (List.mem_of_getElem? (i := 22) rfl)) (x_mc (sb_wsX11_tryDrums_wsX11_tryDrums_r4 _ (List.mem_of_getElem? (i := 23) rfl)) x_mn)))))))))))))))))))))))) (x_ina (x_mc (sb_wsX11_tryDrums_wsX11_tryDrums_r5 _ (List.mem_of_getElem? (i := 0) rfl)) (x_mc (sb_wsX11_tryDrums_wsX11_tryDrums_r5 _ (List.mem_of_getElem? (i := 1) rfl)) (x_mc (sb_wsX11_tryDrums_wsX11_tryDrums_r5 _ (List.mem_of_getElem? (i := 2) rfl)) (x_mc (sb_wsX11_tryDrums_wsX11_tryDrums_r5 _ (List.mem_of_getElem? (i := 3) rfl)) (x_mc (sb_wsX11_tryDrums_wsX11_tryDrums_r5 _ (List.mem_of_getElem? (i := 4) rfl)) (x_mc (sb_wsX11_tryDrums_wsX11_tryDrums_r5 _ (List.mem_of_getElem? (i := 5) rfl)) (x_mc (sb_wsX11_tryDrums_wsX11_tryDrums_r5 _ (List.mem_of_getElem? (i := 6) rfl)) (x_mc (sb_wsX11_tryDrums_wsX11_tryDrums_r5 _ (List.mem_of_getElem? (i := 7) rfl)) (x_mc (sb_wsX11_tryDrums_wsX11_tryDrums_r5 _ (List.mem_of_getElem? (i := 8) rfl)) (x_mc (sb_wsX11_tryDrums_wsX11_tryDrums_r5 _ (List.mem_of_getElem? (i := 9) rfl)) (x_mc (sb_wsX11_tryDrums_wsX11_tryDrums_r5 _ (List.mem_of_getElem? (i := 10) rfl)) (x_mc (sb_wsX11_tryDrums_wsX11_tryDrums_r5 _ (List.mem_of_getElem? (i := 11) rfl)) (x_mc (sb_wsX11_tryDrums_wsX11_tryDrums_r5 _ (List.mem_of_getElem? (i := 12) rfl)) (x_mc (sb_wsX11_tryDrums_wsX11_tryDrums_r5 _ (List.mem_of_getElem? (i := 13) rfl)) (x_mc (sb_wsX11_tryDrums_wsX11_tryDrums_r5 _ (List.mem_of_getElem? (i := 14) rfl)) (x_mc (sb_wsX11_tryDrums_wsX11_tryDrums_r5 _ (List.mem_of_getElem? (i := 15) rfl)) (x_mc (sb_wsX11_tryDrums_wsX11_tryDrums_r5 _ (List.mem_of_getElem? (i := 16) rfl)) (x_mc (sb_wsX11_tryDrums_wsX11_tryDrums_r5 _ (List.mem_of_getElem? (i := 17) rfl)) (x_mc (sb_wsX11_tryDrums_wsX11_tryDrums_r5 _ (List.mem_of_getElem? (i := 18) rfl)) (x_mc (sb_wsX11_tryDrums_wsX11_tryDrums_r5 _ (List.mem_of_getElem? (i := 19) rfl)) (x_mc (sb_wsX11_tryDrums_wsX11_tryDrums_r5 _ (List.mem_of_getElem? (i := 20) rfl)) (x_mc (sb_wsX11_tryDrums_wsX11_tryDrums_r5 _ (List.mem_of_getElem? (i := 21) rfl)) (x_mc (sb_wsX11_tryDrums_wsX11_tryDrums_r5 _ (List.mem_of_getElem? (i := 22) rfl)) (x_mc (sb_wsX11_tryDrums_wsX11_tryDrums_r5 _ (List.mem_of_getElem? (i := 23) rfl)) x_mn)))))))))))))))))))))))) (x_mc (sb_wsX11_tryDrums_wsX11_tryDrums_r6 _ (List.mem_of_getElem? (i := 0) rfl)) x_mn)))))) (fun _ h => sb_wsX11_tryDrums_wsX110 _ h)) (fun _ h => sb_wsX11_tryDrums_wsX60 _ h)) (fun _ h => sb_wsX11_tryDrums_wsX00 _ h)) (fun _ h => sb_wsX11_tryDrums_wsX10 _ h)) (fun _ h => sb_wsX11_tryDrums_wsX20 _ h)) (fun _ h => sb_wsX11_tryDrums_wsX30 _ h)) (fun _ h => sb_wsX11_tryDrums_wsX40 _ h)) (fun _ h => sb_wsX11_tryDrums_wsX100 _ h)) (fun _ h => sb_wsX11_tryDrums_wsX50 _ h))) (by decide +kernel)
set_option maxRecDepth 20000 in
theorem gX11_tryDrums_X11_tryDrums : GoodIn wsX11_tryDrums (wsV RX11 415 RX11 yX11_tryDrums wsX11_tryDrums) := goodIn_app (goodIn_of _ (by decide +kernel)) ggX11_tryDrums_X11_tryDrums
theorem dX11_tryDrums_0 : decode cX11_tryDrums 0 = .ok (.iload_n 1, 1) := by decide +kernel
theorem dX11_tryDrums_1 : decode cX11_tryDrums 1 = .ok (.aload_n 0, 1) := by decide +kernel
theorem dX11_tryDrums_2 : decode cX11_tryDrums 2 = .ok (.invokevirtual 258, 3) := by decide +kernel
theorem dX11_tryDrums_5 : decode cX11_tryDrums 5 = .ok (.if_icmp .lt 9, 3) := by decide +kernel
theorem dX11_tryDrums_8 : decode cX11_tryDrums 8 = .ok (.aload_n 0, 1) := by decide +kernel
theorem dX11_tryDrums_9 : decode cX11_tryDrums 9 = .ok (.iload_n 3, 1) := by decide +kernel
theorem dX11_tryDrums_10 : decode cX11_tryDrums 10 = .ok (.invokevirtual 418, 3) := by decide +kernel
theorem dX11_tryDrums_13 : decode cX11_tryDrums 13 = .ok (.return_, 1) := by decide +kernel
theorem dX11_tryDrums_14 : decode cX11_tryDrums 14 = .ok (.aload_n 0, 1) := by decide +kernel
theorem dX11_tryDrums_15 : decode cX11_tryDrums 15 = .ok (.getfield 10, 3) := by decide +kernel
theorem dX11_tryDrums_18 : decode cX11_tryDrums 18 = .ok (.getfield 163, 3) := by decide +kernel
theorem dX11_tryDrums_21 : decode cX11_tryDrums 21 = .ok (.iload_n 1, 1) := by decide +kernel
theorem dX11_tryDrums_22 : decode cX11_tryDrums 22 = .ok (.aaload, 1) := by decide +kernel
theorem dX11_tryDrums_23 : decode cX11_tryDrums 23 = .ok (.astore 4, 2) := by decide +kernel
theorem dX11_tryDrums_25 : decode cX11_tryDrums 25 = .ok (.iconst 0, 1) := by decide +kernel
theorem dX11_tryDrums_26 : decode cX11_tryDrums 26 = .ok (.istore 5, 2) := by decide +kernel
theorem dX11_tryDrums_28 : decode cX11_tryDrums 28 = .ok (.iload 5, 2) := by decide +kernel
theorem dX11_tryDrums_30 : decode cX11_tryDrums 30 = .ok (.aload_n 0, 1) := by decide +kernel
theorem dX11_tryDrums_31 : decode cX11_tryDrums 31 = .ok (.getfield 10, 3) := by decide +kernel
theorem dX11_tryDrums_34 : decode cX11_tryDrums 34 = .ok (.getfield 125, 3) := by decide +kernel
theorem dX11_tryDrums_37 : decode cX11_tryDrums 37 = .ok (.if_icmp .ge 71, 3) := by decide +kernel
theorem dX11_tryDrums_40 : decode cX11_tryDrums 40 = .ok (.iload_n 2, 1) := by decide +kernel
theorem dX11_tryDrums_41 : decode cX11_tryDrums 41 = .ok (.iload 5, 2) := by decide +kernel
theorem dX11_tryDrums_43 : decode cX11_tryDrums 43 = .ok (.ishr, 1) := by decide +kernel
theorem dX11_tryDrums_44 : decode cX11_tryDrums 44 = .ok (.iconst 1, 1) := by decide +kernel
theorem dX11_tryDrums_45 : decode cX11_tryDrums 45 = .ok (.iand, 1) := by decide +kernel
theorem dX11_tryDrums_46 : decode cX11_tryDrums 46 = .ok (.ifCond .ne 56, 3) := by decide +kernel
theorem dX11_tryDrums_49 : decode cX11_tryDrums 49 = .ok (.aload_n 0, 1) := by decide +kernel
theorem dX11_tryDrums_50 : decode cX11_tryDrums 50 = .ok (.getfield 65, 3) := by decide +kernel
theorem dX11_tryDrums_53 : decode cX11_tryDrums 53 = .ok (.iload_n 1, 1) := by decide +kernel
theorem dX11_tryDrums_54 : decode cX11_tryDrums 54 = .ok (.iload 5, 2) := by decide +kernel
theorem dX11_tryDrums_56 : decode cX11_tryDrums 56 = .ok (.iastore, 1) := by decide +kernel
theorem dX11_tryDrums_57 : decode cX11_tryDrums 57 = .ok (.aload 4, 2) := by decide +kernel
theorem dX11_tryDrums_59 : decode cX11_tryDrums 59 = .ok (.aload_n 0, 1) := by decide +kernel
theorem dX11_tryDrums_60 : decode cX11_tryDrums 60 = .ok (.getfield 10, 3) := by decide +kernel
theorem dX11_tryDrums_63 : decode cX11_tryDrums 63 = .ok (.getfield 421, 3) := by decide +kernel
theorem dX11_tryDrums_66 : decode cX11_tryDrums 66 = .ok (.iload 5, 2) := by decide +kernel
theorem dX11_tryDrums_68 : decode cX11_tryDrums 68 = .ok (.iaload, 1) := by decide +kernel
theorem dX11_tryDrums_69 : decode cX11_tryDrums 69 = .ok (.putfield 271, 3) := by decide +kernel
theorem dX11_tryDrums_72 : decode cX11_tryDrums 72 = .ok (.aload_n 0, 1) := by decide +kernel
theorem dX11_tryDrums_73 : decode cX11_tryDrums 73 = .ok (.iload_n 1, 1) := by decide +kernel
theorem dX11_tryDrums_74 : decode cX11_tryDrums 74 = .ok (.iconst 1, 1) := by decide +kernel
theorem dX11_tryDrums_75 : decode cX11_tryDrums 75 = .ok (.iadd, 1) := by decide +kernel
theorem dX11_tryDrums_76 : decode cX11_tryDrums 76 = .ok (.iload_n 2, 1) := by decide +kernel
theorem dX11_tryDrums_77 : decode cX11_tryDrums 77 = .ok (.iconst 1, 1) := by decide +kernel
theorem dX11_tryDrums_78 : decode cX11_tryDrums 78 = .ok (.iload 5, 2) := by decide +kernel
theorem dX11_tryDrums_80 : decode cX11_tryDrums 80 = .ok (.ishl, 1) := by decide +kernel
theorem dX11_tryDrums_81 : decode cX11_tryDrums 81 = .ok (.ior, 1) := by decide +kernel
theorem dX11_tryDrums_82 : decode cX11_tryDrums 82 = .ok (.iload 5, 2) := by decide +kernel
theorem dX11_tryDrums_84 : decode cX11_tryDrums 84 = .ok (.aload 4, 2) := by decide +kernel
theorem dX11_tryDrums_86 : decode cX11_tryDrums 86 = .ok (.getfield 173, 3) := by decide +kernel
theorem dX11_tryDrums_89 : decode cX11_tryDrums 89 = .ok (.if_icmp .ne 7, 3) := by decide +kernel
theorem dX11_tryDrums_92 : decode cX11_tryDrums 92 = .ok (.iload_n 3, 1) := by decide +kernel
theorem dX11_tryDrums_93 : decode cX11_tryDrums 93 = .ok (.goto 6, 3) := by decide +kernel
theorem dX11_tryDrums_96 : decode cX11_tryDrums 96 = .ok (.iload_n 3, 1) := by decide +kernel
theorem dX11_tryDrums_97 : decode cX11_tryDrums 97 = .ok (.iconst 1, 1) := by decide +kernel
theorem dX11_tryDrums_98 : decode cX11_tryDrums 98 = .ok (.iadd, 1) := by decide +kernel
theorem dX11_tryDrums_99 : decode cX11_tryDrums 99 = .ok (.invokevirtual 415, 3) := by decide +kernel
theorem dX11_tryDrums_102 : decode cX11_tryDrums 102 = .ok (.iinc 5 1, 3) := by decide +kernel
theorem dX11_tryDrums_105 : decode cX11_tryDrums 105 = .ok (.goto (-77), 3) := by decide +kernel
theorem dX11_tryDrums_108 : decode cX11_tryDrums 108 = .ok (.return_, 1) := by decide +kernel
theorem sb_wsX11_weigh_wsX11_weigh_r1 : ∀ w ∈ wsX11_weigh_r1, w ∈ wsX11_weigh := fun _ h => (List.mem_cons_of_mem _ (List.mem_append_left _ (List.mem_append_left _ (List.mem_append_left _ (List.mem_append_left _ (List.mem_append_left _ (List.mem_append_left _ (List.mem_append_left _ (List.mem_append_left _ (List.mem_append_left _ (List.mem_append_left _ h)))))))))))
theorem sb_wsX11_weigh_wsX11_weigh_r2 : ∀ w ∈ wsX11_weigh_r2, w ∈ wsX11_weigh := fun _ h => (List.mem_cons_of_mem _ (List.mem_append_left _ (List.mem_append_left _ (List.mem_append_left _ (List.mem_append_left _ (List.mem_append_left _ (List.mem_append_left _ (List.mem_append_left _ (List.mem_append_left _ (List.mem_append_left _ (List.mem_append_right _ (List.mem_append_left _ h))))))))))))
theorem sb_wsX11_weigh_wsX11_weigh_r3 : ∀ w ∈ wsX11_weigh_r3, w ∈ wsX11_weigh := fun _ h => (List.mem_cons_of_mem _ (List.mem_append_left _ (List.mem_append_left _ (List.mem_append_left _ (List.mem_append_left _ (List.mem_append_left _ (List.mem_append_left _ (List.mem_append_left _ (List.mem_append_left _ (List.mem_append_left _ (List.mem_append_right _ (List.mem_append_right _ (List.mem_append_left _ h)))))))))))))
theorem sb_wsX11_weigh_wsX11_weigh_r4 : ∀ w ∈ wsX11_weigh_r4, w ∈ wsX11_weigh := fun _ h => (List.mem_cons_of_mem _ (List.mem_append_left _ (List.mem_append_left _ (List.mem_append_left _ (List.mem_append_left _ (List.mem_append_left _ (List.mem_append_left _ (List.mem_append_left _ (List.mem_append_left _ (List.mem_append_left _ (List.mem_append_right _ (List.mem_append_right _ (List.mem_append_right _ (List.mem_append_left _ h))))))))))))))
theorem sb_wsX11_weigh_wsX11_weigh_r5 : ∀ w ∈ wsX11_weigh_r5, w ∈ wsX11_weigh := fun _ h => (List.mem_cons_of_mem _ (List.mem_append_left _ (List.mem_append_left _ (List.mem_append_left _ (List.mem_append_left _ (List.mem_append_left _ (List.mem_append_left _ (List.mem_append_left _ (List.mem_append_left _ (List.mem_append_left _ (List.mem_append_right _ (List.mem_append_right _ (List.mem_append_right _ (List.mem_append_right _ h))))))))))))))
theorem sb_wsX11_weigh_wsX110 : ∀ w ∈ wsX110, w ∈ wsX11_weigh := fun _ h => (List.mem_cons_of_mem _ (List.mem_append_left _ (List.mem_append_left _ (List.mem_append_left _ (List.mem_append_left _ (List.mem_append_left _ (List.mem_append_left _ (List.mem_append_left _ (List.mem_append_left _ (List.mem_append_right _ h))))))))))
theorem sb_wsX11_weigh_wsX60 : ∀ w ∈ wsX60, w ∈ wsX11_weigh := fun _ h => (List.mem_cons_of_mem _ (List.mem_append_left _ (List.mem_append_left _ (List.mem_append_left _ (List.mem_append_left _ (List.mem_append_left _ (List.mem_append_left _ (List.mem_append_left _ (List.mem_append_right _ h)))))))))
theorem sb_wsX11_weigh_wsX00 : ∀ w ∈ wsX00, w ∈ wsX11_weigh := fun _ h => (List.mem_cons_of_mem _ (List.mem_append_left _ (List.mem_append_left _ (List.mem_append_left _ (List.mem_append_left _ (List.mem_append_left _ (List.mem_append_left _ (List.mem_append_right _ h))))))))
theorem sb_wsX11_weigh_wsX10 : ∀ w ∈ wsX10, w ∈ wsX11_weigh := fun _ h => (List.mem_cons_of_mem _ (List.mem_append_left _ (List.mem_append_left _ (List.mem_append_left _ (List.mem_append_left _ (List.mem_append_left _ (List.mem_append_right _ h)))))))
theorem sb_wsX11_weigh_wsX20 : ∀ w ∈ wsX20, w ∈ wsX11_weigh := fun _ h => (List.mem_cons_of_mem _ (List.mem_append_left _ (List.mem_append_left _ (List.mem_append_left _ (List.mem_append_left _ (List.mem_append_right _ h))))))
theorem sb_wsX11_weigh_wsX30 : ∀ w ∈ wsX30, w ∈ wsX11_weigh := fun _ h => (List.mem_cons_of_mem _ (List.mem_append_left _ (List.mem_append_left _ (List.mem_append_left _ (List.mem_append_right _ h)))))
theorem sb_wsX11_weigh_wsX40 : ∀ w ∈ wsX40, w ∈ wsX11_weigh := fun _ h => (List.mem_cons_of_mem _ (List.mem_append_left _ (List.mem_append_left _ (List.mem_append_right _ h))))
theorem sb_wsX11_weigh_wsX100 : ∀ w ∈ wsX100, w ∈ wsX11_weigh := fun _ h => (List.mem_cons_of_mem _ (List.mem_append_left _ (List.mem_append_right _ h)))
theorem sb_wsX11_weigh_wsX50 : ∀ w ∈ wsX50, w ∈ wsX11_weigh := fun _ h => (List.mem_cons_of_mem _ (List.mem_append_right _ h))
set_option maxRecDepth 20000 in
theorem ggX11_weigh_X6_spin : GoodIn wsX11_weigh wsX6_spin := goodIn_sub (x_mc (sb_wsX11_weigh_wsX11_weigh_r1 _ (List.mem_of_getElem? (i := 13) rfl)) (x_ina (x_ina (x_ina (x_ina (x_ina (x_ina (x_ina (x_ina (x_mc (sb_wsX11_weigh_wsX11_weigh_r1 _ (List.mem_of_getElem? (i := 14) rfl)) (x_mc (sb_wsX11_weigh_wsX11_weigh_r1 _ (List.mem_of_getElem? (i := 15) rfl)) (x_mc (sb_wsX11_weigh_wsX11_weigh_r1 _ (List.mem_of_getElem? (i := 16) rfl)) (x_mc (sb_wsX11_weigh_wsX11_weigh_r1 _ (List.mem_of_getElem? (i := 17) rfl)) (x_mc (sb_wsX11_weigh_wsX11_weigh_r1 _ (List.mem_of_getElem? (i := 18) rfl)) (x_mc (sb_wsX11_weigh_wsX11_weigh_r1 _ (List.mem_of_getElem? (i := 19) rfl)) (x_mc (sb_wsX11_weigh_wsX11_weigh_r1 _ (List.mem_of_getElem? (i := 20) rfl)) (x_mc (sb_wsX11_weigh_wsX11_weigh_r1 _ (List.mem_of_getElem? (i := 21) rfl)) (x_mc (sb_wsX11_weigh_wsX11_weigh_r1 _ (List.mem_of_getElem? (i := 22) rfl)) (x_mc (sb_wsX11_weigh_wsX11_weigh_r1 _ (List.mem_of_getElem? (i := 23) rfl)) (x_mc (sb_wsX11_weigh_wsX11_weigh_r2 _ (List.mem_of_getElem? (i := 0) rfl)) (x_mc (sb_wsX11_weigh_wsX11_weigh_r2 _ (List.mem_of_getElem? (i := 1) rfl)) (x_mc (sb_wsX11_weigh_wsX11_weigh_r2 _ (List.mem_of_getElem? (i := 2) rfl)) (x_mc (sb_wsX11_weigh_wsX11_weigh_r2 _ (List.mem_of_getElem? (i := 3) rfl)) (x_mc (sb_wsX11_weigh_wsX11_weigh_r2 _ (List.mem_of_getElem? (i := 4) rfl)) (x_mc (sb_wsX11_weigh_wsX11_weigh_r2 _ (List.mem_of_getElem? (i := 5) rfl)) (x_mc (sb_wsX11_weigh_wsX11_weigh_r2 _ (List.mem_of_getElem? (i := 6) rfl)) (x_mc (sb_wsX11_weigh_wsX11_weigh_r2 _ (List.mem_of_getElem? (i := 7) rfl)) (x_mc (sb_wsX11_weigh_wsX11_weigh_r2 _ (List.mem_of_getElem? (i := 8) rfl)) (x_mc (sb_wsX11_weigh_wsX11_weigh_r2 _ (List.mem_of_getElem? (i := 9) rfl)) (x_mc (sb_wsX11_weigh_wsX11_weigh_r2 _ (List.mem_of_getElem? (i := 10) rfl)) (x_mc (sb_wsX11_weigh_wsX11_weigh_r2 _ (List.mem_of_getElem? (i := 11) rfl)) (x_mc (sb_wsX11_weigh_wsX11_weigh_r2 _ (List.mem_of_getElem? (i := 12) rfl)) (x_mc (sb_wsX11_weigh_wsX11_weigh_r2 _ (List.mem_of_getElem? (i := 13) rfl)) x_mn)))))))))))))))))))))))) (x_ina (x_mc (sb_wsX11_weigh_wsX11_weigh_r2 _ (List.mem_of_getElem? (i := 14) rfl)) (x_mc (sb_wsX11_weigh_wsX11_weigh_r2 _ (List.mem_of_getElem? (i := 15) rfl)) (x_mc (sb_wsX11_weigh_wsX11_weigh_r2 _ (List.mem_of_getElem? (i := 16) rfl)) (x_mc (sb_wsX11_weigh_wsX11_weigh_r2 _ (List.mem_of_getElem? (i := 17) rfl)) (x_mc (sb_wsX11_weigh_wsX11_weigh_r2 _ (List.mem_of_getElem? (i := 18) rfl)) (x_mc (sb_wsX11_weigh_wsX11_weigh_r2 _ (List.mem_of_getElem? (i := 19) rfl)) (x_mc (sb_wsX11_weigh_wsX11_weigh_r2 _ (List.mem_of_getElem? (i := 20) rfl)) (x_mc (sb_wsX11_weigh_wsX11_weigh_r2 _ (List.mem_of_getElem? (i := 21) rfl)) (x_mc (sb_wsX11_weigh_wsX11_weigh_r2 _ (List.mem_of_getElem? (i := 22) rfl)) (x_mc (sb_wsX11_weigh_wsX11_weigh_r2 _ (List.mem_of_getElem? (i := 23) rfl)) (x_mc (sb_wsX11_weigh_wsX11_weigh_r3 _ (List.mem_of_getElem? (i := 0) rfl)) (x_mc (sb_wsX11_weigh_wsX11_weigh_r3 _ (List.mem_of_getElem? (i := 1) rfl)) (x_mc (sb_wsX11_weigh_wsX11_weigh_r3 _ (List.mem_of_getElem? (i := 2) rfl)) (x_mc (sb_wsX11_weigh_wsX11_weigh_r3 _ (List.mem_of_getElem? (i := 3) rfl)) (x_mc (sb_wsX11_weigh_wsX11_weigh_r3 _ (List.mem_of_getElem? (i := 4) rfl)) (x_mc (sb_wsX11_weigh_wsX11_weigh_r3 _ (List.mem_of_getElem? (i := 5) rfl)) (x_mc (sb_wsX11_weigh_wsX11_weigh_r3 _ (List.mem_of_getElem? (i := 6) rfl)) (x_mc (sb_wsX11_weigh_wsX11_weigh_r3 _ (List.mem_of_getElem? (i := 7) rfl)) (x_mc (sb_wsX11_weigh_wsX11_weigh_r3 _ (List.mem_of_getElem? (i := 8) rfl)) (x_mc (sb_wsX11_weigh_wsX11_weigh_r3 _ (List.mem_of_getElem? (i := 9) rfl)) (x_mc (sb_wsX11_weigh_wsX11_weigh_r3 _ (List.mem_of_getElem? (i := 10) rfl)) (x_mc (sb_wsX11_weigh_wsX11_weigh_r3 _ (List.mem_of_getElem? (i := 11) rfl)) (x_mc (sb_wsX11_weigh_wsX11_weigh_r3 _ (List.mem_of_getElem? (i := 12) rfl)) (x_mc (sb_wsX11_weigh_wsX11_weigh_r3 _ (List.mem_of_getElem? (i := 13) rfl)) x_mn)))))))))))))))))))))))) (x_mc (sb_wsX11_weigh_wsX11_weigh_r3 _ (List.mem_of_getElem? (i := 14) rfl)) (x_mc (sb_wsX11_weigh_wsX11_weigh_r3 _ (List.mem_of_getElem? (i := 15) rfl)) (x_mc (sb_wsX11_weigh_wsX11_weigh_r3 _ (List.mem_of_getElem? (i := 16) rfl)) (x_mc (sb_wsX11_weigh_wsX11_weigh_r3 _ (List.mem_of_getElem? (i := 17) rfl)) (x_mc (sb_wsX11_weigh_wsX11_weigh_r3 _ (List.mem_of_getElem? (i := 18) rfl)) (x_mc (sb_wsX11_weigh_wsX11_weigh_r3 _ (List.mem_of_getElem? (i := 19) rfl)) (x_mc (sb_wsX11_weigh_wsX11_weigh_r3 _ (List.mem_of_getElem? (i := 20) rfl)) (x_mc (sb_wsX11_weigh_wsX11_weigh_r3 _ (List.mem_of_getElem? (i := 21) rfl)) (x_mc (sb_wsX11_weigh_wsX11_weigh_r3 _ (List.mem_of_getElem? (i := 22) rfl)) (x_mc (sb_wsX11_weigh_wsX11_weigh_r3 _ (List.mem_of_getElem? (i := 23) rfl)) (x_mc (sb_wsX11_weigh_wsX11_weigh_r4 _ (List.mem_of_getElem? (i := 0) rfl)) (x_mc (sb_wsX11_weigh_wsX11_weigh_r4 _ (List.mem_of_getElem? (i := 1) rfl)) (x_mc (sb_wsX11_weigh_wsX11_weigh_r4 _ (List.mem_of_getElem? (i := 2) rfl)) (x_mc (sb_wsX11_weigh_wsX11_weigh_r4 _ (List.mem_of_getElem? (i := 3) rfl)) (x_mc (sb_wsX11_weigh_wsX11_weigh_r4 _ (List.mem_of_getElem? (i := 4) rfl)) x_mn))))))))))))))))) (fun _ h => sb_wsX11_weigh_wsX60 _ h)) (fun _ h => sb_wsX11_weigh_wsX00 _ h)) (fun _ h => sb_wsX11_weigh_wsX10 _ h)) (fun _ h => sb_wsX11_weigh_wsX20 _ h)) (fun _ h => sb_wsX11_weigh_wsX30 _ h)) (fun _ h => sb_wsX11_weigh_wsX40 _ h)) (fun _ h => sb_wsX11_weigh_wsX100 _ h))) (by decide +kernel)
set_option maxRecDepth 20000 in
theorem gX11_weigh_X6_spin : GoodIn wsX11_weigh (wsV RX11 176 RX6 yX6_spin wsX6_spin) := goodIn_app (goodIn_of _ (by decide +kernel)) ggX11_weigh_X6_spin
set_option maxRecDepth 20000 in
theorem ggX11_weigh_X6_wellRunning : GoodIn wsX11_weigh wsX6_wellRunning := goodIn_sub (x_mc (sb_wsX11_weigh_wsX11_weigh_r4 _ (List.mem_of_getElem? (i := 8) rfl)) (x_ina (x_ina (x_mc (sb_wsX11_weigh_wsX11_weigh_r4 _ (List.mem_of_getElem? (i := 9) rfl)) (x_mc (sb_wsX11_weigh_wsX11_weigh_r4 _ (List.mem_of_getElem? (i := 10) rfl)) (x_mc (sb_wsX11_weigh_wsX11_weigh_r4 _ (List.mem_of_getElem? (i := 11) rfl)) (x_mc (sb_wsX11_weigh_wsX11_weigh_r1 _ (List.mem_of_getElem? (i := 15) rfl)) (x_mc (sb_wsX11_weigh_wsX11_weigh_r4 _ (List.mem_of_getElem? (i := 12) rfl)) (x_mc (sb_wsX11_weigh_wsX11_weigh_r1 _ (List.mem_of_getElem? (i := 16) rfl)) (x_mc (sb_wsX11_weigh_wsX11_weigh_r4 _ (List.mem_of_getElem? (i := 13) rfl)) (x_mc (sb_wsX11_weigh_wsX11_weigh_r4 _ (List.mem_of_getElem? (i := 14) rfl)) (x_mc (sb_wsX11_weigh_wsX11_weigh_r4 _ (List.mem_of_getElem? (i := 15) rfl)) (x_mc (sb_wsX11_weigh_wsX11_weigh_r4 _ (List.mem_of_getElem? (i := 16) rfl)) (x_mc (sb_wsX11_weigh_wsX11_weigh_r4 _ (List.mem_of_getElem? (i := 17) rfl)) (x_mc (sb_wsX11_weigh_wsX11_weigh_r4 _ (List.mem_of_getElem? (i := 18) rfl)) (x_mc (sb_wsX11_weigh_wsX11_weigh_r4 _ (List.mem_of_getElem? (i := 19) rfl)) x_mn))))))))))))) (fun _ h => sb_wsX11_weigh_wsX60 _ h)) (fun _ h => sb_wsX11_weigh_wsX50 _ h))) (by decide +kernel)
set_option maxRecDepth 20000 in
theorem gX11_weigh_X6_wellRunning : GoodIn wsX11_weigh (wsV RX11 231 RX6 yX6_wellRunning wsX6_wellRunning) := goodIn_app (goodIn_of _ (by decide +kernel)) ggX11_weigh_X6_wellRunning
set_option maxRecDepth 20000 in
theorem ggX11_weigh_J6_bitCount_0f7a4 : GoodIn wsX11_weigh wsJ6_bitCount_0f7a4 := goodIn_sub (x_mc (sb_wsX11_weigh_wsX11_weigh_r4 _ (List.mem_of_getElem? (i := 23) rfl)) (x_mc (sb_wsX11_weigh_wsX11_weigh_r5 _ (List.mem_of_getElem? (i := 0) rfl)) (x_mc (sb_wsX11_weigh_wsX11_weigh_r5 _ (List.mem_of_getElem? (i := 1) rfl)) (x_mc (sb_wsX11_weigh_wsX11_weigh_r5 _ (List.mem_of_getElem? (i := 2) rfl)) x_mn)))) (by decide +kernel)
set_option maxRecDepth 20000 in
theorem gX11_weigh_J6_bitCount_0f7a4 : GoodIn wsX11_weigh (va_wsS RX11 274 yJ6_bitCount_0f7a4 wsJ6_bitCount_0f7a4) := goodIn_app (goodIn_of _ (by decide +kernel)) ggX11_weigh_J6_bitCount_0f7a4
theorem dX11_weigh_0 : decode cX11_weigh 0 = .ok (.aload_n 0, 1) := by decide +kernel
theorem dX11_weigh_1 : decode cX11_weigh 1 = .ok (.getfield 10, 3) := by decide +kernel
theorem dX11_weigh_4 : decode cX11_weigh 4 = .ok (.invokevirtual 176, 3) := by decide +kernel
theorem dX11_weigh_7 : decode cX11_weigh 7 = .ok (.aload_n 0, 1) := by decide +kernel
theorem dX11_weigh_8 : decode cX11_weigh 8 = .ok (.getfield 10, 3) := by decide +kernel
theorem dX11_weigh_11 : decode cX11_weigh 11 = .ok (.invokevirtual 231, 3) := by decide +kernel
theorem dX11_weigh_14 : decode cX11_weigh 14 = .ok (.invokestatic 274, 3) := by decide +kernel
theorem dX11_weigh_17 : decode cX11_weigh 17 = .ok (.istore_n 2, 1) := by decide +kernel
theorem dX11_weigh_18 : decode cX11_weigh 18 = .ok (.iload_n 2, 1) := by decide +kernel
theorem dX11_weigh_19 : decode cX11_weigh 19 = .ok (.aload_n 0, 1) := by decide +kernel
theorem dX11_weigh_20 : decode cX11_weigh 20 = .ok (.getfield 265, 3) := by decide +kernel
theorem dX11_weigh_23 : decode cX11_weigh 23 = .ok (.if_icmp .gt 19, 3) := by decide +kernel
theorem dX11_weigh_26 : decode cX11_weigh 26 = .ok (.iload_n 2, 1) := by decide +kernel
theorem dX11_weigh_27 : decode cX11_weigh 27 = .ok (.aload_n 0, 1) := by decide +kernel
theorem dX11_weigh_28 : decode cX11_weigh 28 = .ok (.getfield 265, 3) := by decide +kernel
theorem dX11_weigh_31 : decode cX11_weigh 31 = .ok (.if_icmp .ne 35, 3) := by decide +kernel
theorem dX11_weigh_34 : decode cX11_weigh 34 = .ok (.iload_n 1, 1) := by decide +kernel
theorem dX11_weigh_35 : decode cX11_weigh 35 = .ok (.aload_n 0, 1) := by decide +kernel
theorem dX11_weigh_36 : decode cX11_weigh 36 = .ok (.getfield 268, 3) := by decide +kernel
theorem dX11_weigh_39 : decode cX11_weigh 39 = .ok (.if_icmp .ge 27, 3) := by decide +kernel
theorem dX11_weigh_42 : decode cX11_weigh 42 = .ok (.aload_n 0, 1) := by decide +kernel
theorem dX11_weigh_43 : decode cX11_weigh 43 = .ok (.iload_n 2, 1) := by decide +kernel
theorem dX11_weigh_44 : decode cX11_weigh 44 = .ok (.putfield 265, 3) := by decide +kernel
theorem dX11_weigh_47 : decode cX11_weigh 47 = .ok (.aload_n 0, 1) := by decide +kernel
theorem dX11_weigh_48 : decode cX11_weigh 48 = .ok (.iload_n 1, 1) := by decide +kernel
theorem dX11_weigh_49 : decode cX11_weigh 49 = .ok (.putfield 268, 3) := by decide +kernel
theorem dX11_weigh_52 : decode cX11_weigh 52 = .ok (.aload_n 0, 1) := by decide +kernel
theorem dX11_weigh_53 : decode cX11_weigh 53 = .ok (.getfield 65, 3) := by decide +kernel
theorem dX11_weigh_56 : decode cX11_weigh 56 = .ok (.iconst 0, 1) := by decide +kernel
theorem dX11_weigh_57 : decode cX11_weigh 57 = .ok (.aload_n 0, 1) := by decide +kernel
theorem dX11_weigh_58 : decode cX11_weigh 58 = .ok (.getfield 68, 3) := by decide +kernel
theorem dX11_weigh_61 : decode cX11_weigh 61 = .ok (.iconst 0, 1) := by decide +kernel
theorem dX11_weigh_62 : decode cX11_weigh 62 = .ok (.iconst 4, 1) := by decide +kernel
theorem dX11_weigh_63 : decode cX11_weigh 63 = .ok (.invokestatic 348, 3) := by decide +kernel
theorem dX11_weigh_66 : decode cX11_weigh 66 = .ok (.return_, 1) := by decide +kernel
theorem sb_wsX11_stoppedBy_wsX11_stoppedBy_r1 : ∀ w ∈ wsX11_stoppedBy_r1, w ∈ wsX11_stoppedBy := fun _ h => (List.mem_cons_of_mem _ (List.mem_append_left _ (List.mem_append_left _ (List.mem_append_left _ (List.mem_append_left _ (List.mem_append_left _ (List.mem_append_left _ (List.mem_append_left _ (List.mem_append_left _ (List.mem_append_left _ (List.mem_append_left _ h)))))))))))
theorem sb_wsX11_stoppedBy_wsX11_stoppedBy_r2 : ∀ w ∈ wsX11_stoppedBy_r2, w ∈ wsX11_stoppedBy := fun _ h => (List.mem_cons_of_mem _ (List.mem_append_left _ (List.mem_append_left _ (List.mem_append_left _ (List.mem_append_left _ (List.mem_append_left _ (List.mem_append_left _ (List.mem_append_left _ (List.mem_append_left _ (List.mem_append_left _ (List.mem_append_right _ (List.mem_append_left _ h))))))))))))
theorem sb_wsX11_stoppedBy_wsX11_stoppedBy_r3 : ∀ w ∈ wsX11_stoppedBy_r3, w ∈ wsX11_stoppedBy := fun _ h => (List.mem_cons_of_mem _ (List.mem_append_left _ (List.mem_append_left _ (List.mem_append_left _ (List.mem_append_left _ (List.mem_append_left _ (List.mem_append_left _ (List.mem_append_left _ (List.mem_append_left _ (List.mem_append_left _ (List.mem_append_right _ (List.mem_append_right _ (List.mem_append_left _ h)))))))))))))
theorem sb_wsX11_stoppedBy_wsX11_stoppedBy_r4 : ∀ w ∈ wsX11_stoppedBy_r4, w ∈ wsX11_stoppedBy := fun _ h => (List.mem_cons_of_mem _ (List.mem_append_left _ (List.mem_append_left _ (List.mem_append_left _ (List.mem_append_left _ (List.mem_append_left _ (List.mem_append_left _ (List.mem_append_left _ (List.mem_append_left _ (List.mem_append_left _ (List.mem_append_right _ (List.mem_append_right _ (List.mem_append_right _ h)))))))))))))
theorem sb_wsX11_stoppedBy_wsX110 : ∀ w ∈ wsX110, w ∈ wsX11_stoppedBy := fun _ h => (List.mem_cons_of_mem _ (List.mem_append_left _ (List.mem_append_left _ (List.mem_append_left _ (List.mem_append_left _ (List.mem_append_left _ (List.mem_append_left _ (List.mem_append_left _ (List.mem_append_left _ (List.mem_append_right _ h))))))))))
theorem sb_wsX11_stoppedBy_wsX00 : ∀ w ∈ wsX00, w ∈ wsX11_stoppedBy := fun _ h => (List.mem_cons_of_mem _ (List.mem_append_left _ (List.mem_append_left _ (List.mem_append_left _ (List.mem_append_left _ (List.mem_append_left _ (List.mem_append_left _ (List.mem_append_left _ (List.mem_append_right _ h)))))))))
theorem sb_wsX11_stoppedBy_wsX10 : ∀ w ∈ wsX10, w ∈ wsX11_stoppedBy := fun _ h => (List.mem_cons_of_mem _ (List.mem_append_left _ (List.mem_append_left _ (List.mem_append_left _ (List.mem_append_left _ (List.mem_append_left _ (List.mem_append_left _ (List.mem_append_right _ h))))))))
theorem sb_wsX11_stoppedBy_wsX20 : ∀ w ∈ wsX20, w ∈ wsX11_stoppedBy := fun _ h => (List.mem_cons_of_mem _ (List.mem_append_left _ (List.mem_append_left _ (List.mem_append_left _ (List.mem_append_left _ (List.mem_append_left _ (List.mem_append_right _ h)))))))
theorem sb_wsX11_stoppedBy_wsX30 : ∀ w ∈ wsX30, w ∈ wsX11_stoppedBy := fun _ h => (List.mem_cons_of_mem _ (List.mem_append_left _ (List.mem_append_left _ (List.mem_append_left _ (List.mem_append_left _ (List.mem_append_right _ h))))))
theorem sb_wsX11_stoppedBy_wsX40 : ∀ w ∈ wsX40, w ∈ wsX11_stoppedBy := fun _ h => (List.mem_cons_of_mem _ (List.mem_append_left _ (List.mem_append_left _ (List.mem_append_left _ (List.mem_append_right _ h)))))
theorem sb_wsX11_stoppedBy_wsX100 : ∀ w ∈ wsX100, w ∈ wsX11_stoppedBy := fun _ h => (List.mem_cons_of_mem _ (List.mem_append_left _ (List.mem_append_left _ (List.mem_append_right _ h))))
theorem sb_wsX11_stoppedBy_wsX60 : ∀ w ∈ wsX60, w ∈ wsX11_stoppedBy := fun _ h => (List.mem_cons_of_mem _ (List.mem_append_left _ (List.mem_append_right _ h)))
theorem sb_wsX11_stoppedBy_wsX50 : ∀ w ∈ wsX50, w ∈ wsX11_stoppedBy := fun _ h => (List.mem_cons_of_mem _ (List.mem_append_right _ h))
set_option maxRecDepth 20000 in
theorem ggX11_stoppedBy_X6_spin : GoodIn wsX11_stoppedBy wsX6_spin := goodIn_sub (x_mc (sb_wsX11_stoppedBy_wsX11_stoppedBy_r1 _ (List.mem_of_getElem? (i := 6) rfl)) (x_ina (x_ina (x_ina (x_ina (x_ina (x_ina (x_ina (x_ina (x_mc (sb_wsX11_stoppedBy_wsX11_stoppedBy_r1 _ (List.mem_of_getElem? (i := 7) rfl)) (x_mc (sb_wsX11_stoppedBy_wsX11_stoppedBy_r1 _ (List.mem_of_getElem? (i := 8) rfl)) (x_mc (sb_wsX11_stoppedBy_wsX11_stoppedBy_r1 _ (List.mem_of_getElem? (i := 9) rfl)) (x_mc (sb_wsX11_stoppedBy_wsX11_stoppedBy_r1 _ (List.mem_of_getElem? (i := 10) rfl)) (x_mc (sb_wsX11_stoppedBy_wsX11_stoppedBy_r1 _ (List.mem_of_getElem? (i := 11) rfl)) (x_mc (sb_wsX11_stoppedBy_wsX11_stoppedBy_r1 _ (List.mem_of_getElem? (i := 12) rfl)) (x_mc (sb_wsX11_stoppedBy_wsX11_stoppedBy_r1 _ (List.mem_of_getElem? (i := 13) rfl)) (x_mc (sb_wsX11_stoppedBy_wsX11_stoppedBy_r1 _ (List.mem_of_getElem? (i := 14) rfl)) (x_mc (sb_wsX11_stoppedBy_wsX11_stoppedBy_r1 _ (List.mem_of_getElem? (i := 15) rfl)) (x_mc (sb_wsX11_stoppedBy_wsX11_stoppedBy_r1 _ (List.mem_of_getElem? (i := 16) rfl)) (x_mc (sb_wsX11_stoppedBy_wsX11_stoppedBy_r1 _ (List.mem_of_getElem? (i := 17) rfl)) (x_mc (sb_wsX11_stoppedBy_wsX11_stoppedBy_r1 _ (List.mem_of_getElem? (i := 18) rfl)) (x_mc (sb_wsX11_stoppedBy_wsX11_stoppedBy_r1 _ (List.mem_of_getElem? (i := 19) rfl)) (x_mc (sb_wsX11_stoppedBy_wsX11_stoppedBy_r1 _ (List.mem_of_getElem? (i := 20) rfl)) (x_mc (sb_wsX11_stoppedBy_wsX11_stoppedBy_r1 _ (List.mem_of_getElem? (i := 21) rfl)) (x_mc (sb_wsX11_stoppedBy_wsX11_stoppedBy_r1 _ (List.mem_of_getElem? (i := 22) rfl)) (x_mc (sb_wsX11_stoppedBy_wsX11_stoppedBy_r1 _ (List.mem_of_getElem? (i := 23) rfl)) (x_mc (sb_wsX11_stoppedBy_wsX11_stoppedBy_r2 _ (List.mem_of_getElem? (i := 0) rfl)) (x_mc (sb_wsX11_stoppedBy_wsX11_stoppedBy_r2 _ (List.mem_of_getElem? (i := 1) rfl)) (x_mc (sb_wsX11_stoppedBy_wsX11_stoppedBy_r2 _ (List.mem_of_getElem? (i := 2) rfl)) (x_mc (sb_wsX11_stoppedBy_wsX11_stoppedBy_r2 _ (List.mem_of_getElem? (i := 3) rfl)) (x_mc (sb_wsX11_stoppedBy_wsX11_stoppedBy_r2 _ (List.mem_of_getElem? (i := 4) rfl)) (x_mc (sb_wsX11_stoppedBy_wsX11_stoppedBy_r2 _ (List.mem_of_getElem? (i := 5) rfl)) (x_mc (sb_wsX11_stoppedBy_wsX11_stoppedBy_r2 _ (List.mem_of_getElem? (i := 6) rfl)) x_mn)))))))))))))))))))))))) (x_ina (x_mc (sb_wsX11_stoppedBy_wsX11_stoppedBy_r2 _ (List.mem_of_getElem? (i := 7) rfl)) (x_mc (sb_wsX11_stoppedBy_wsX11_stoppedBy_r2 _ (List.mem_of_getElem? (i := 8) rfl)) (x_mc (sb_wsX11_stoppedBy_wsX11_stoppedBy_r2 _ (List.mem_of_getElem? (i := 9) rfl)) (x_mc (sb_wsX11_stoppedBy_wsX11_stoppedBy_r2 _ (List.mem_of_getElem? (i := 10) rfl)) (x_mc (sb_wsX11_stoppedBy_wsX11_stoppedBy_r2 _ (List.mem_of_getElem? (i := 11) rfl)) (x_mc (sb_wsX11_stoppedBy_wsX11_stoppedBy_r2 _ (List.mem_of_getElem? (i := 12) rfl)) (x_mc (sb_wsX11_stoppedBy_wsX11_stoppedBy_r2 _ (List.mem_of_getElem? (i := 13) rfl)) (x_mc (sb_wsX11_stoppedBy_wsX11_stoppedBy_r2 _ (List.mem_of_getElem? (i := 14) rfl)) (x_mc (sb_wsX11_stoppedBy_wsX11_stoppedBy_r2 _ (List.mem_of_getElem? (i := 15) rfl)) (x_mc (sb_wsX11_stoppedBy_wsX11_stoppedBy_r2 _ (List.mem_of_getElem? (i := 16) rfl)) (x_mc (sb_wsX11_stoppedBy_wsX11_stoppedBy_r2 _ (List.mem_of_getElem? (i := 17) rfl)) (x_mc (sb_wsX11_stoppedBy_wsX11_stoppedBy_r2 _ (List.mem_of_getElem? (i := 18) rfl)) (x_mc (sb_wsX11_stoppedBy_wsX11_stoppedBy_r2 _ (List.mem_of_getElem? (i := 19) rfl)) (x_mc (sb_wsX11_stoppedBy_wsX11_stoppedBy_r2 _ (List.mem_of_getElem? (i := 20) rfl)) (x_mc (sb_wsX11_stoppedBy_wsX11_stoppedBy_r2 _ (List.mem_of_getElem? (i := 21) rfl)) (x_mc (sb_wsX11_stoppedBy_wsX11_stoppedBy_r2 _ (List.mem_of_getElem? (i := 22) rfl)) (x_mc (sb_wsX11_stoppedBy_wsX11_stoppedBy_r2 _ (List.mem_of_getElem? (i := 23) rfl)) (x_mc (sb_wsX11_stoppedBy_wsX11_stoppedBy_r3 _ (List.mem_of_getElem? (i := 0) rfl)) (x_mc (sb_wsX11_stoppedBy_wsX11_stoppedBy_r3 _ (List.mem_of_getElem? (i := 1) rfl)) (x_mc (sb_wsX11_stoppedBy_wsX11_stoppedBy_r3 _ (List.mem_of_getElem? (i := 2) rfl)) (x_mc (sb_wsX11_stoppedBy_wsX11_stoppedBy_r3 _ (List.mem_of_getElem? (i := 3) rfl)) (x_mc (sb_wsX11_stoppedBy_wsX11_stoppedBy_r3 _ (List.mem_of_getElem? (i := 4) rfl)) (x_mc (sb_wsX11_stoppedBy_wsX11_stoppedBy_r3 _ (List.mem_of_getElem? (i := 5) rfl)) (x_mc (sb_wsX11_stoppedBy_wsX11_stoppedBy_r3 _ (List.mem_of_getElem? (i := 6) rfl)) x_mn)))))))))))))))))))))))) (x_mc (sb_wsX11_stoppedBy_wsX11_stoppedBy_r3 _ (List.mem_of_getElem? (i := 7) rfl)) (x_mc (sb_wsX11_stoppedBy_wsX11_stoppedBy_r3 _ (List.mem_of_getElem? (i := 8) rfl)) (x_mc (sb_wsX11_stoppedBy_wsX11_stoppedBy_r3 _ (List.mem_of_getElem? (i := 9) rfl)) (x_mc (sb_wsX11_stoppedBy_wsX11_stoppedBy_r3 _ (List.mem_of_getElem? (i := 10) rfl)) (x_mc (sb_wsX11_stoppedBy_wsX11_stoppedBy_r3 _ (List.mem_of_getElem? (i := 11) rfl)) (x_mc (sb_wsX11_stoppedBy_wsX11_stoppedBy_r3 _ (List.mem_of_getElem? (i := 12) rfl)) (x_mc (sb_wsX11_stoppedBy_wsX11_stoppedBy_r3 _ (List.mem_of_getElem? (i := 13) rfl)) (x_mc (sb_wsX11_stoppedBy_wsX11_stoppedBy_r3 _ (List.mem_of_getElem? (i := 14) rfl)) (x_mc (sb_wsX11_stoppedBy_wsX11_stoppedBy_r3 _ (List.mem_of_getElem? (i := 15) rfl)) (x_mc (sb_wsX11_stoppedBy_wsX11_stoppedBy_r3 _ (List.mem_of_getElem? (i := 16) rfl)) (x_mc (sb_wsX11_stoppedBy_wsX11_stoppedBy_r3 _ (List.mem_of_getElem? (i := 17) rfl)) (x_mc (sb_wsX11_stoppedBy_wsX11_stoppedBy_r3 _ (List.mem_of_getElem? (i := 18) rfl)) (x_mc (sb_wsX11_stoppedBy_wsX11_stoppedBy_r3 _ (List.mem_of_getElem? (i := 19) rfl)) (x_mc (sb_wsX11_stoppedBy_wsX11_stoppedBy_r3 _ (List.mem_of_getElem? (i := 20) rfl)) (x_mc (sb_wsX11_stoppedBy_wsX11_stoppedBy_r3 _ (List.mem_of_getElem? (i := 21) rfl)) x_mn))))))))))))))))) (fun _ h => sb_wsX11_stoppedBy_wsX60 _ h)) (fun _ h => sb_wsX11_stoppedBy_wsX00 _ h)) (fun _ h => sb_wsX11_stoppedBy_wsX10 _ h)) (fun _ h => sb_wsX11_stoppedBy_wsX20 _ h)) (fun _ h => sb_wsX11_stoppedBy_wsX30 _ h)) (fun _ h => sb_wsX11_stoppedBy_wsX40 _ h)) (fun _ h => sb_wsX11_stoppedBy_wsX100 _ h))) (by decide +kernel)
set_option maxRecDepth 20000 in
theorem gX11_stoppedBy_X6_spin : GoodIn wsX11_stoppedBy (wsV RX11 176 RX6 yX6_spin wsX6_spin) := goodIn_app (goodIn_of _ (by decide +kernel)) ggX11_stoppedBy_X6_spin
set_option maxRecDepth 20000 in
theorem ggX11_stoppedBy_X6_turning : GoodIn wsX11_stoppedBy wsX6_turning := goodIn_sub (x_mc (sb_wsX11_stoppedBy_wsX11_stoppedBy_r4 _ (List.mem_of_getElem? (i := 1) rfl)) (x_ina (x_ina (x_mc (sb_wsX11_stoppedBy_wsX11_stoppedBy_r4 _ (List.mem_of_getElem? (i := 2) rfl)) (x_mc (sb_wsX11_stoppedBy_wsX11_stoppedBy_r1 _ (List.mem_of_getElem? (i := 8) rfl)) (x_mc (sb_wsX11_stoppedBy_wsX11_stoppedBy_r4 _ (List.mem_of_getElem? (i := 3) rfl)) (x_mc (sb_wsX11_stoppedBy_wsX11_stoppedBy_r4 _ (List.mem_of_getElem? (i := 4) rfl)) x_mn)))) (fun _ h => sb_wsX11_stoppedBy_wsX60 _ h)) (fun _ h => sb_wsX11_stoppedBy_wsX50 _ h))) (by decide +kernel)
set_option maxRecDepth 20000 in
theorem gX11_stoppedBy_X6_turning : GoodIn wsX11_stoppedBy (wsV RX11 234 RX6 yX6_turning wsX6_turning) := goodIn_app (goodIn_of _ (by decide +kernel)) ggX11_stoppedBy_X6_turning
theorem dX11_stoppedBy_0 : decode cX11_stoppedBy 0 = .ok (.aload_n 0, 1) := by decide +kernel
theorem dX11_stoppedBy_1 : decode cX11_stoppedBy 1 = .ok (.getfield 10, 3) := by decide +kernel
theorem dX11_stoppedBy_4 : decode cX11_stoppedBy 4 = .ok (.invokevirtual 176, 3) := by decide +kernel
theorem dX11_stoppedBy_7 : decode cX11_stoppedBy 7 = .ok (.aload_n 0, 1) := by decide +kernel
theorem dX11_stoppedBy_8 : decode cX11_stoppedBy 8 = .ok (.getfield 10, 3) := by decide +kernel
theorem dX11_stoppedBy_11 : decode cX11_stoppedBy 11 = .ok (.invokevirtual 234, 3) := by decide +kernel
theorem dX11_stoppedBy_14 : decode cX11_stoppedBy 14 = .ok (.istore_n 2, 1) := by decide +kernel
theorem dX11_stoppedBy_15 : decode cX11_stoppedBy 15 = .ok (.aload_n 1, 1) := by decide +kernel
theorem dX11_stoppedBy_16 : decode cX11_stoppedBy 16 = .ok (.getfield 167, 3) := by decide +kernel
theorem dX11_stoppedBy_19 : decode cX11_stoppedBy 19 = .ok (.istore_n 3, 1) := by decide +kernel
theorem dX11_stoppedBy_20 : decode cX11_stoppedBy 20 = .ok (.aload_n 1, 1) := by decide +kernel
theorem dX11_stoppedBy_21 : decode cX11_stoppedBy 21 = .ok (.iconst 0, 1) := by decide +kernel
theorem dX11_stoppedBy_22 : decode cX11_stoppedBy 22 = .ok (.putfield 167, 3) := by decide +kernel
theorem dX11_stoppedBy_25 : decode cX11_stoppedBy 25 = .ok (.aload_n 0, 1) := by decide +kernel
theorem dX11_stoppedBy_26 : decode cX11_stoppedBy 26 = .ok (.getfield 10, 3) := by decide +kernel
theorem dX11_stoppedBy_29 : decode cX11_stoppedBy 29 = .ok (.invokevirtual 176, 3) := by decide +kernel
theorem dX11_stoppedBy_32 : decode cX11_stoppedBy 32 = .ok (.aload_n 0, 1) := by decide +kernel
theorem dX11_stoppedBy_33 : decode cX11_stoppedBy 33 = .ok (.getfield 10, 3) := by decide +kernel
theorem dX11_stoppedBy_36 : decode cX11_stoppedBy 36 = .ok (.invokevirtual 234, 3) := by decide +kernel
theorem dX11_stoppedBy_39 : decode cX11_stoppedBy 39 = .ok (.istore 4, 2) := by decide +kernel
theorem dX11_stoppedBy_41 : decode cX11_stoppedBy 41 = .ok (.aload_n 1, 1) := by decide +kernel
theorem dX11_stoppedBy_42 : decode cX11_stoppedBy 42 = .ok (.iload_n 3, 1) := by decide +kernel
theorem dX11_stoppedBy_43 : decode cX11_stoppedBy 43 = .ok (.putfield 167, 3) := by decide +kernel
theorem dX11_stoppedBy_46 : decode cX11_stoppedBy 46 = .ok (.iload_n 2, 1) := by decide +kernel
theorem dX11_stoppedBy_47 : decode cX11_stoppedBy 47 = .ok (.iload 4, 2) := by decide +kernel
theorem dX11_stoppedBy_49 : decode cX11_stoppedBy 49 = .ok (.iconst (-1), 1) := by decide +kernel
theorem dX11_stoppedBy_50 : decode cX11_stoppedBy 50 = .ok (.ixor, 1) := by decide +kernel
theorem dX11_stoppedBy_51 : decode cX11_stoppedBy 51 = .ok (.iand, 1) := by decide +kernel
theorem dX11_stoppedBy_52 : decode cX11_stoppedBy 52 = .ok (.ireturn, 1) := by decide +kernel
theorem sb_wsX11_minding_wsX11_minding_r1 : ∀ w ∈ wsX11_minding_r1, w ∈ wsX11_minding := fun _ h => (List.mem_cons_of_mem _ (List.mem_append_left _ (List.mem_append_left _ (List.mem_append_left _ (List.mem_append_left _ (List.mem_append_left _ h))))))
theorem sb_wsX11_minding_wsX11_minding_r2 : ∀ w ∈ wsX11_minding_r2, w ∈ wsX11_minding := fun _ h => (List.mem_cons_of_mem _ (List.mem_append_left _ (List.mem_append_left _ (List.mem_append_left _ (List.mem_append_left _ (List.mem_append_right _ (List.mem_append_left _ h)))))))
theorem sb_wsX11_minding_wsX11_minding_r3 : ∀ w ∈ wsX11_minding_r3, w ∈ wsX11_minding := fun _ h => (List.mem_cons_of_mem _ (List.mem_append_left _ (List.mem_append_left _ (List.mem_append_left _ (List.mem_append_left _ (List.mem_append_right _ (List.mem_append_right _ h)))))))
theorem sb_wsX11_minding_wsX110 : ∀ w ∈ wsX110, w ∈ wsX11_minding := fun _ h => (List.mem_cons_of_mem _ (List.mem_append_left _ (List.mem_append_left _ (List.mem_append_left _ (List.mem_append_right _ h)))))
theorem sb_wsX11_minding_wsX60 : ∀ w ∈ wsX60, w ∈ wsX11_minding := fun _ h => (List.mem_cons_of_mem _ (List.mem_append_left _ (List.mem_append_left _ (List.mem_append_right _ h))))
theorem sb_wsX11_minding_wsX50 : ∀ w ∈ wsX50, w ∈ wsX11_minding := fun _ h => (List.mem_cons_of_mem _ (List.mem_append_left _ (List.mem_append_right _ h)))
theorem sb_wsX11_minding_wsX90 : ∀ w ∈ wsX90, w ∈ wsX11_minding := fun _ h => (List.mem_cons_of_mem _ (List.mem_append_right _ h))
set_option maxRecDepth 20000 in
theorem ggX11_minding_X6_switchedOn : GoodIn wsX11_minding wsX6_switchedOn := goodIn_sub (x_mc (sb_wsX11_minding_wsX11_minding_r1 _ (List.mem_of_getElem? (i := 9) rfl)) (x_ina (x_ina (x_mc (sb_wsX11_minding_wsX11_minding_r1 _ (List.mem_of_getElem? (i := 10) rfl)) (x_mc (sb_wsX11_minding_wsX11_minding_r1 _ (List.mem_of_getElem? (i := 11) rfl)) (x_mc (sb_wsX11_minding_wsX11_minding_r1 _ (List.mem_of_getElem? (i := 12) rfl)) (x_mc (sb_wsX11_minding_wsX11_minding_r1 _ (List.mem_of_getElem? (i := 8) rfl)) (x_mc (sb_wsX11_minding_wsX11_minding_r1 _ (List.mem_of_getElem? (i := 13) rfl)) (x_mc (sb_wsX11_minding_wsX11_minding_r1 _ (List.mem_of_getElem? (i := 14) rfl)) (x_mc (sb_wsX11_minding_wsX11_minding_r1 _ (List.mem_of_getElem? (i := 15) rfl)) (x_mc (sb_wsX11_minding_wsX11_minding_r1 _ (List.mem_of_getElem? (i := 16) rfl)) (x_mc (sb_wsX11_minding_wsX11_minding_r1 _ (List.mem_of_getElem? (i := 17) rfl)) x_mn))))))))) (fun _ h => sb_wsX11_minding_wsX60 _ h)) (fun _ h => sb_wsX11_minding_wsX50 _ h))) (by decide +kernel)
set_option maxRecDepth 20000 in
theorem gX11_minding_X6_switchedOn : GoodIn wsX11_minding (wsV RX11 285 RX6 yX6_switchedOn wsX6_switchedOn) := goodIn_app (goodIn_of _ (by decide +kernel)) ggX11_minding_X6_switchedOn
set_option maxRecDepth 20000 in
theorem ggX11_minding_X6_turning : GoodIn wsX11_minding wsX6_turning := goodIn_sub (x_mc (sb_wsX11_minding_wsX11_minding_r1 _ (List.mem_of_getElem? (i := 21) rfl)) (x_ina (x_ina (x_mc (sb_wsX11_minding_wsX11_minding_r1 _ (List.mem_of_getElem? (i := 14) rfl)) (x_mc (sb_wsX11_minding_wsX11_minding_r1 _ (List.mem_of_getElem? (i := 22) rfl)) (x_mc (sb_wsX11_minding_wsX11_minding_r1 _ (List.mem_of_getElem? (i := 15) rfl)) (x_mc (sb_wsX11_minding_wsX11_minding_r1 _ (List.mem_of_getElem? (i := 17) rfl)) x_mn)))) (fun _ h => sb_wsX11_minding_wsX60 _ h)) (fun _ h => sb_wsX11_minding_wsX50 _ h))) (by decide +kernel)
set_option maxRecDepth 20000 in
theorem gX11_minding_X6_turning : GoodIn wsX11_minding (wsV RX11 234 RX6 yX6_turning wsX6_turning) := goodIn_app (goodIn_of _ (by decide +kernel)) ggX11_minding_X6_turning
set_option maxRecDepth 20000 in
theorem ggX11_minding_X6_cutTurns : GoodIn wsX11_minding wsX6_cutTurns := goodIn_sub (x_mc (sb_wsX11_minding_wsX11_minding_r2 _ (List.mem_of_getElem? (i := 2) rfl)) (x_ina (x_mc (sb_wsX11_minding_wsX11_minding_r2 _ (List.mem_of_getElem? (i := 3) rfl)) (x_mc (sb_wsX11_minding_wsX11_minding_r1 _ (List.mem_of_getElem? (i := 22) rfl)) (x_mc (sb_wsX11_minding_wsX11_minding_r2 _ (List.mem_of_getElem? (i := 4) rfl)) (x_mc (sb_wsX11_minding_wsX11_minding_r2 _ (List.mem_of_getElem? (i := 5) rfl)) (x_mc (sb_wsX11_minding_wsX11_minding_r2 _ (List.mem_of_getElem? (i := 6) rfl)) (x_mc (sb_wsX11_minding_wsX11_minding_r2 _ (List.mem_of_getElem? (i := 7) rfl)) (x_mc (sb_wsX11_minding_wsX11_minding_r2 _ (List.mem_of_getElem? (i := 8) rfl)) (x_mc (sb_wsX11_minding_wsX11_minding_r2 _ (List.mem_of_getElem? (i := 9) rfl)) (x_mc (sb_wsX11_minding_wsX11_minding_r2 _ (List.mem_of_getElem? (i := 10) rfl)) (x_mc (sb_wsX11_minding_wsX11_minding_r2 _ (List.mem_of_getElem? (i := 11) rfl)) x_mn)))))))))) (fun _ h => sb_wsX11_minding_wsX60 _ h))) (by decide +kernel)
set_option maxRecDepth 20000 in
theorem gX11_minding_X6_cutTurns : GoodIn wsX11_minding (wsV RX11 382 RX6 yX6_cutTurns wsX6_cutTurns) := goodIn_app (goodIn_of _ (by decide +kernel)) ggX11_minding_X6_cutTurns
set_option maxRecDepth 20000 in
theorem ggX11_minding_X11_minds : GoodIn wsX11_minding wsX11_minds := goodIn_sub (x_mc (sb_wsX11_minding_wsX11_minding_r2 _ (List.mem_of_getElem? (i := 16) rfl)) (x_ina (x_ina (x_ina (x_ina (x_ina (x_mc (sb_wsX11_minding_wsX11_minding_r2 _ (List.mem_of_getElem? (i := 17) rfl)) (x_mc (sb_wsX11_minding_wsX11_minding_r1 _ (List.mem_of_getElem? (i := 0) rfl)) (x_mc (sb_wsX11_minding_wsX11_minding_r1 _ (List.mem_of_getElem? (i := 4) rfl)) (x_mc (sb_wsX11_minding_wsX11_minding_r2 _ (List.mem_of_getElem? (i := 18) rfl)) (x_mc (sb_wsX11_minding_wsX11_minding_r2 _ (List.mem_of_getElem? (i := 19) rfl)) (x_mc (sb_wsX11_minding_wsX11_minding_r2 _ (List.mem_of_getElem? (i := 20) rfl)) (x_mc (sb_wsX11_minding_wsX11_minding_r2 _ (List.mem_of_getElem? (i := 21) rfl)) (x_mc (sb_wsX11_minding_wsX11_minding_r1 _ (List.mem_of_getElem? (i := 23) rfl)) (x_mc (sb_wsX11_minding_wsX11_minding_r2 _ (List.mem_of_getElem? (i := 0) rfl)) (x_mc (sb_wsX11_minding_wsX11_minding_r2 _ (List.mem_of_getElem? (i := 1) rfl)) (x_mc (sb_wsX11_minding_wsX11_minding_r1 _ (List.mem_of_getElem? (i := 8) rfl)) (x_mc (sb_wsX11_minding_wsX11_minding_r2 _ (List.mem_of_getElem? (i := 2) rfl)) (x_mc (sb_wsX11_minding_wsX11_minding_r2 _ (List.mem_of_getElem? (i := 3) rfl)) (x_mc (sb_wsX11_minding_wsX11_minding_r1 _ (List.mem_of_getElem? (i := 22) rfl)) (x_mc (sb_wsX11_minding_wsX11_minding_r2 _ (List.mem_of_getElem? (i := 4) rfl)) (x_mc (sb_wsX11_minding_wsX11_minding_r2 _ (List.mem_of_getElem? (i := 5) rfl)) (x_mc (sb_wsX11_minding_wsX11_minding_r2 _ (List.mem_of_getElem? (i := 6) rfl)) (x_mc (sb_wsX11_minding_wsX11_minding_r2 _ (List.mem_of_getElem? (i := 7) rfl)) (x_mc (sb_wsX11_minding_wsX11_minding_r2 _ (List.mem_of_getElem? (i := 8) rfl)) (x_mc (sb_wsX11_minding_wsX11_minding_r2 _ (List.mem_of_getElem? (i := 9) rfl)) (x_mc (sb_wsX11_minding_wsX11_minding_r2 _ (List.mem_of_getElem? (i := 10) rfl)) (x_mc (sb_wsX11_minding_wsX11_minding_r2 _ (List.mem_of_getElem? (i := 11) rfl)) (x_mc (sb_wsX11_minding_wsX11_minding_r2 _ (List.mem_of_getElem? (i := 22) rfl)) (x_mc (sb_wsX11_minding_wsX11_minding_r2 _ (List.mem_of_getElem? (i := 23) rfl)) x_mn)))))))))))))))))))))))) (x_mc (sb_wsX11_minding_wsX11_minding_r3 _ (List.mem_of_getElem? (i := 0) rfl)) (x_mc (sb_wsX11_minding_wsX11_minding_r3 _ (List.mem_of_getElem? (i := 1) rfl)) (x_mc (sb_wsX11_minding_wsX11_minding_r3 _ (List.mem_of_getElem? (i := 2) rfl)) (x_mc (sb_wsX11_minding_wsX11_minding_r3 _ (List.mem_of_getElem? (i := 3) rfl)) (x_mc (sb_wsX11_minding_wsX11_minding_r3 _ (List.mem_of_getElem? (i := 4) rfl)) (x_mc (sb_wsX11_minding_wsX11_minding_r3 _ (List.mem_of_getElem? (i := 5) rfl)) (x_mc (sb_wsX11_minding_wsX11_minding_r3 _ (List.mem_of_getElem? (i := 6) rfl)) (x_mc (sb_wsX11_minding_wsX11_minding_r3 _ (List.mem_of_getElem? (i := 7) rfl)) (x_mc (sb_wsX11_minding_wsX11_minding_r3 _ (List.mem_of_getElem? (i := 8) rfl)) (x_mc (sb_wsX11_minding_wsX11_minding_r3 _ (List.mem_of_getElem? (i := 9) rfl)) (x_mc (sb_wsX11_minding_wsX11_minding_r3 _ (List.mem_of_getElem? (i := 10) rfl)) (x_mc (sb_wsX11_minding_wsX11_minding_r3 _ (List.mem_of_getElem? (i := 11) rfl)) (x_mc (sb_wsX11_minding_wsX11_minding_r3 _ (List.mem_of_getElem? (i := 12) rfl)) (x_mc (sb_wsX11_minding_wsX11_minding_r3 _ (List.mem_of_getElem? (i := 13) rfl)) (x_mc (sb_wsX11_minding_wsX11_minding_r3 _ (List.mem_of_getElem? (i := 14) rfl)) (x_mc (sb_wsX11_minding_wsX11_minding_r3 _ (List.mem_of_getElem? (i := 15) rfl)) (x_mc (sb_wsX11_minding_wsX11_minding_r3 _ (List.mem_of_getElem? (i := 16) rfl)) (x_mc (sb_wsX11_minding_wsX11_minding_r3 _ (List.mem_of_getElem? (i := 17) rfl)) (x_mc (sb_wsX11_minding_wsX11_minding_r3 _ (List.mem_of_getElem? (i := 18) rfl)) (x_mc (sb_wsX11_minding_wsX11_minding_r3 _ (List.mem_of_getElem? (i := 19) rfl)) (x_mc (sb_wsX11_minding_wsX11_minding_r3 _ (List.mem_of_getElem? (i := 20) rfl)) (x_mc (sb_wsX11_minding_wsX11_minding_r3 _ (List.mem_of_getElem? (i := 21) rfl)) x_mn))))))))))))))))))))))) (fun _ h => sb_wsX11_minding_wsX110 _ h)) (fun _ h => sb_wsX11_minding_wsX50 _ h)) (fun _ h => sb_wsX11_minding_wsX60 _ h)) (fun _ h => sb_wsX11_minding_wsX90 _ h))) (by decide +kernel)
set_option maxRecDepth 20000 in
theorem gX11_minding_X11_minds : GoodIn wsX11_minding (wsV RX11 424 RX11 yX11_minds wsX11_minds) := goodIn_app (goodIn_of _ (by decide +kernel)) ggX11_minding_X11_minds
theorem dX11_minding_0 : decode cX11_minding 0 = .ok (.iload_n 1, 1) := by decide +kernel
theorem dX11_minding_1 : decode cX11_minding 1 = .ok (.aload_n 0, 1) := by decide +kernel
theorem dX11_minding_2 : decode cX11_minding 2 = .ok (.getfield 10, 3) := by decide +kernel
theorem dX11_minding_5 : decode cX11_minding 5 = .ok (.getfield 85, 3) := by decide +kernel
theorem dX11_minding_8 : decode cX11_minding 8 = .ok (.if_icmp .gt 5, 3) := by decide +kernel
theorem dX11_minding_11 : decode cX11_minding 11 = .ok (.iconst 0, 1) := by decide +kernel
theorem dX11_minding_12 : decode cX11_minding 12 = .ok (.ireturn, 1) := by decide +kernel
theorem dX11_minding_13 : decode cX11_minding 13 = .ok (.aload_n 0, 1) := by decide +kernel
theorem dX11_minding_14 : decode cX11_minding 14 = .ok (.getfield 10, 3) := by decide +kernel
theorem dX11_minding_17 : decode cX11_minding 17 = .ok (.invokevirtual 285, 3) := by decide +kernel
theorem dX11_minding_20 : decode cX11_minding 20 = .ok (.aload_n 0, 1) := by decide +kernel
theorem dX11_minding_21 : decode cX11_minding 21 = .ok (.getfield 10, 3) := by decide +kernel
theorem dX11_minding_24 : decode cX11_minding 24 = .ok (.invokevirtual 234, 3) := by decide +kernel
theorem dX11_minding_27 : decode cX11_minding 27 = .ok (.iand, 1) := by decide +kernel
theorem dX11_minding_28 : decode cX11_minding 28 = .ok (.istore_n 2, 1) := by decide +kernel
theorem dX11_minding_29 : decode cX11_minding 29 = .ok (.iload_n 1, 1) := by decide +kernel
theorem dX11_minding_30 : decode cX11_minding 30 = .ok (.aload_n 0, 1) := by decide +kernel
theorem dX11_minding_31 : decode cX11_minding 31 = .ok (.getfield 10, 3) := by decide +kernel
theorem dX11_minding_34 : decode cX11_minding 34 = .ok (.getfield 85, 3) := by decide +kernel
theorem dX11_minding_37 : decode cX11_minding 37 = .ok (.isub, 1) := by decide +kernel
theorem dX11_minding_38 : decode cX11_minding 38 = .ok (.i2l, 1) := by decide +kernel
theorem dX11_minding_39 : decode cX11_minding 39 = .ok (.lstore_n 3, 1) := by decide +kernel
theorem dX11_minding_40 : decode cX11_minding 40 = .ok (.iconst 0, 1) := by decide +kernel
theorem dX11_minding_41 : decode cX11_minding 41 = .ok (.istore 5, 2) := by decide +kernel
theorem dX11_minding_43 : decode cX11_minding 43 = .ok (.iconst 0, 1) := by decide +kernel
theorem dX11_minding_44 : decode cX11_minding 44 = .ok (.istore 6, 2) := by decide +kernel
theorem dX11_minding_46 : decode cX11_minding 46 = .ok (.iload 6, 2) := by decide +kernel
theorem dX11_minding_48 : decode cX11_minding 48 = .ok (.aload_n 0, 1) := by decide +kernel
theorem dX11_minding_49 : decode cX11_minding 49 = .ok (.getfield 10, 3) := by decide +kernel
theorem dX11_minding_52 : decode cX11_minding 52 = .ok (.getfield 92, 3) := by decide +kernel
theorem dX11_minding_55 : decode cX11_minding 55 = .ok (.if_icmp .ge 72, 3) := by decide +kernel
theorem dX11_minding_58 : decode cX11_minding 58 = .ok (.aload_n 0, 1) := by decide +kernel
theorem dX11_minding_59 : decode cX11_minding 59 = .ok (.getfield 10, 3) := by decide +kernel
theorem dX11_minding_62 : decode cX11_minding 62 = .ok (.getfield 113, 3) := by decide +kernel
theorem dX11_minding_65 : decode cX11_minding 65 = .ok (.iload 6, 2) := by decide +kernel
theorem dX11_minding_67 : decode cX11_minding 67 = .ok (.aaload, 1) := by decide +kernel
theorem dX11_minding_68 : decode cX11_minding 68 = .ok (.astore 7, 2) := by decide +kernel
theorem dX11_minding_70 : decode cX11_minding 70 = .ok (.lload_n 3, 1) := by decide +kernel
theorem dX11_minding_71 : decode cX11_minding 71 = .ok (.aload_n 0, 1) := by decide +kernel
theorem dX11_minding_72 : decode cX11_minding 72 = .ok (.getfield 10, 3) := by decide +kernel
theorem dX11_minding_75 : decode cX11_minding 75 = .ok (.aload 7, 2) := by decide +kernel
theorem dX11_minding_77 : decode cX11_minding 77 = .ok (.getfield 403, 3) := by decide +kernel
theorem dX11_minding_80 : decode cX11_minding 80 = .ok (.invokevirtual 382, 3) := by decide +kernel
theorem dX11_minding_83 : decode cX11_minding 83 = .ok (.i2l, 1) := by decide +kernel
theorem dX11_minding_84 : decode cX11_minding 84 = .ok (.lmul, 1) := by decide +kernel
theorem dX11_minding_85 : decode cX11_minding 85 = .ok (.iload_n 1, 1) := by decide +kernel
theorem dX11_minding_86 : decode cX11_minding 86 = .ok (.i2l, 1) := by decide +kernel
theorem dX11_minding_87 : decode cX11_minding 87 = .ok (.ldiv, 1) := by decide +kernel
theorem dX11_minding_88 : decode cX11_minding 88 = .ok (.l2i, 1) := by decide +kernel
theorem dX11_minding_89 : decode cX11_minding 89 = .ok (.istore 8, 2) := by decide +kernel
theorem dX11_minding_91 : decode cX11_minding 91 = .ok (.iload_n 2, 1) := by decide +kernel
theorem dX11_minding_92 : decode cX11_minding 92 = .ok (.iload 6, 2) := by decide +kernel
theorem dX11_minding_94 : decode cX11_minding 94 = .ok (.ishr, 1) := by decide +kernel
theorem dX11_minding_95 : decode cX11_minding 95 = .ok (.iconst 1, 1) := by decide +kernel
theorem dX11_minding_96 : decode cX11_minding 96 = .ok (.iand, 1) := by decide +kernel
theorem dX11_minding_97 : decode cX11_minding 97 = .ok (.iconst 1, 1) := by decide +kernel
theorem dX11_minding_98 : decode cX11_minding 98 = .ok (.if_icmp .ne 23, 3) := by decide +kernel
theorem dX11_minding_101 : decode cX11_minding 101 = .ok (.aload_n 0, 1) := by decide +kernel
theorem dX11_minding_102 : decode cX11_minding 102 = .ok (.aload 7, 2) := by decide +kernel
theorem dX11_minding_104 : decode cX11_minding 104 = .ok (.iload 8, 2) := by decide +kernel
theorem dX11_minding_106 : decode cX11_minding 106 = .ok (.invokevirtual 424, 3) := by decide +kernel
theorem dX11_minding_109 : decode cX11_minding 109 = .ok (.ifCond .eq 12, 3) := by decide +kernel
theorem dX11_minding_112 : decode cX11_minding 112 = .ok (.iload 5, 2) := by decide +kernel
theorem dX11_minding_114 : decode cX11_minding 114 = .ok (.iconst 1, 1) := by decide +kernel
theorem dX11_minding_115 : decode cX11_minding 115 = .ok (.iload 6, 2) := by decide +kernel
theorem dX11_minding_117 : decode cX11_minding 117 = .ok (.ishl, 1) := by decide +kernel
theorem dX11_minding_118 : decode cX11_minding 118 = .ok (.ior, 1) := by decide +kernel
theorem dX11_minding_119 : decode cX11_minding 119 = .ok (.istore 5, 2) := by decide +kernel
theorem dX11_minding_121 : decode cX11_minding 121 = .ok (.iinc 6 1, 3) := by decide +kernel
theorem dX11_minding_124 : decode cX11_minding 124 = .ok (.goto (-78), 3) := by decide +kernel
theorem dX11_minding_127 : decode cX11_minding 127 = .ok (.iload 5, 2) := by decide +kernel
theorem dX11_minding_129 : decode cX11_minding 129 = .ok (.ireturn, 1) := by decide +kernel
theorem sb_wsX11_days_wsX11_days_r1 : ∀ w ∈ wsX11_days_r1, w ∈ wsX11_days := fun _ h => (List.mem_cons_of_mem _ (List.mem_append_left _ (List.mem_append_left _ (List.mem_append_left _ (List.mem_append_left _ (List.mem_append_left _ (List.mem_append_left _ (List.mem_append_left _ (List.mem_append_left _ (List.mem_append_left _ (List.mem_append_left _ (List.mem_append_left _ h))))))))))))
theorem sb_wsX11_days_wsX11_days_r2 : ∀ w ∈ wsX11_days_r2, w ∈ wsX11_days := fun _ h => (List.mem_cons_of_mem _ (List.mem_append_left _ (List.mem_append_left _ (List.mem_append_left _ (List.mem_append_left _ (List.mem_append_left _ (List.mem_append_left _ (List.mem_append_left _ (List.mem_append_left _ (List.mem_append_left _ (List.mem_append_left _ (List.mem_append_right _ (List.mem_append_left _ h)))))))))))))
theorem sb_wsX11_days_wsX11_days_r3 : ∀ w ∈ wsX11_days_r3, w ∈ wsX11_days := fun _ h => (List.mem_cons_of_mem _ (List.mem_append_left _ (List.mem_append_left _ (List.mem_append_left _ (List.mem_append_left _ (List.mem_append_left _ (List.mem_append_left _ (List.mem_append_left _ (List.mem_append_left _ (List.mem_append_left _ (List.mem_append_left _ (List.mem_append_right _ (List.mem_append_right _ (List.mem_append_left _ h))))))))))))))
theorem sb_wsX11_days_wsX11_days_r4 : ∀ w ∈ wsX11_days_r4, w ∈ wsX11_days := fun _ h => (List.mem_cons_of_mem _ (List.mem_append_left _ (List.mem_append_left _ (List.mem_append_left _ (List.mem_append_left _ (List.mem_append_left _ (List.mem_append_left _ (List.mem_append_left _ (List.mem_append_left _ (List.mem_append_left _ (List.mem_append_left _ (List.mem_append_right _ (List.mem_append_right _ (List.mem_append_right _ (List.mem_append_left _ h)))))))))))))))
theorem sb_wsX11_days_wsX11_days_r5 : ∀ w ∈ wsX11_days_r5, w ∈ wsX11_days := fun _ h => (List.mem_cons_of_mem _ (List.mem_append_left _ (List.mem_append_left _ (List.mem_append_left _ (List.mem_append_left _ (List.mem_append_left _ (List.mem_append_left _ (List.mem_append_left _ (List.mem_append_left _ (List.mem_append_left _ (List.mem_append_left _ (List.mem_append_right _ (List.mem_append_right _ (List.mem_append_right _ (List.mem_append_right _ (List.mem_append_left _ h))))))))))))))))
theorem sb_wsX11_days_wsX11_days_r6 : ∀ w ∈ wsX11_days_r6, w ∈ wsX11_days := fun _ h => (List.mem_cons_of_mem _ (List.mem_append_left _ (List.mem_append_left _ (List.mem_append_left _ (List.mem_append_left _ (List.mem_append_left _ (List.mem_append_left _ (List.mem_append_left _ (List.mem_append_left _ (List.mem_append_left _ (List.mem_append_left _ (List.mem_append_right _ (List.mem_append_right _ (List.mem_append_right _ (List.mem_append_right _ (List.mem_append_right _ h))))))))))))))))
theorem sb_wsX11_days_wsX110 : ∀ w ∈ wsX110, w ∈ wsX11_days := fun _ h => (List.mem_cons_of_mem _ (List.mem_append_left _ (List.mem_append_left _ (List.mem_append_left _ (List.mem_append_left _ (List.mem_append_left _ (List.mem_append_left _ (List.mem_append_left _ (List.mem_append_left _ (List.mem_append_left _ (List.mem_append_right _ h)))))))))))
theorem sb_wsX11_days_wsX00 : ∀ w ∈ wsX00, w ∈ wsX11_days := fun _ h => (List.mem_cons_of_mem _ (List.mem_append_left _ (List.mem_append_left _ (List.mem_append_left _ (List.mem_append_left _ (List.mem_append_left _ (List.mem_append_left _ (List.mem_append_left _ (List.mem_append_left _ (List.mem_append_right _ h))))))))))
theorem sb_wsX11_days_wsX10 : ∀ w ∈ wsX10, w ∈ wsX11_days := fun _ h => (List.mem_cons_of_mem _ (List.mem_append_left _ (List.mem_append_left _ (List.mem_append_left _ (List.mem_append_left _ (List.mem_append_left _ (List.mem_append_left _ (List.mem_append_left _ (List.mem_append_right _ h)))))))))
theorem sb_wsX11_days_wsX20 : ∀ w ∈ wsX20, w ∈ wsX11_days := fun _ h => (List.mem_cons_of_mem _ (List.mem_append_left _ (List.mem_append_left _ (List.mem_append_left _ (List.mem_append_left _ (List.mem_append_left _ (List.mem_append_left _ (List.mem_append_right _ h))))))))
theorem sb_wsX11_days_wsX30 : ∀ w ∈ wsX30, w ∈ wsX11_days := fun _ h => (List.mem_cons_of_mem _ (List.mem_append_left _ (List.mem_append_left _ (List.mem_append_left _ (List.mem_append_left _ (List.mem_append_left _ (List.mem_append_right _ h)))))))
theorem sb_wsX11_days_wsX40 : ∀ w ∈ wsX40, w ∈ wsX11_days := fun _ h => (List.mem_cons_of_mem _ (List.mem_append_left _ (List.mem_append_left _ (List.mem_append_left _ (List.mem_append_left _ (List.mem_append_right _ h))))))
theorem sb_wsX11_days_wsX100 : ∀ w ∈ wsX100, w ∈ wsX11_days := fun _ h => (List.mem_cons_of_mem _ (List.mem_append_left _ (List.mem_append_left _ (List.mem_append_left _ (List.mem_append_right _ h)))))
theorem sb_wsX11_days_wsX60 : ∀ w ∈ wsX60, w ∈ wsX11_days := fun _ h => (List.mem_cons_of_mem _ (List.mem_append_left _ (List.mem_append_left _ (List.mem_append_right _ h))))
theorem sb_wsX11_days_wsX50 : ∀ w ∈ wsX50, w ∈ wsX11_days := fun _ h => (List.mem_cons_of_mem _ (List.mem_append_left _ (List.mem_append_right _ h)))
theorem sb_wsX11_days_wsX90 : ∀ w ∈ wsX90, w ∈ wsX11_days := fun _ h => (List.mem_cons_of_mem _ (List.mem_append_right _ h))
set_option maxRecDepth 20000 in
theorem ggX11_days_X11_wear : GoodIn wsX11_days wsX11_wear := goodIn_sub (x_mc (sb_wsX11_days_wsX11_days_r1 _ (List.mem_of_getElem? (i := 4) rfl)) (x_ina (x_ina (x_ina (x_ina (x_ina (x_ina (x_ina (x_ina (x_ina (x_ina (x_ina (x_mc (sb_wsX11_days_wsX11_days_r1 _ (List.mem_of_getElem? (i := 5) rfl)) (x_mc (sb_wsX11_days_wsX11_days_r1 _ (List.mem_of_getElem? (i := 6) rfl)) (x_mc (sb_wsX11_days_wsX11_days_r1 _ (List.mem_of_getElem? (i := 7) rfl)) (x_mc (sb_wsX11_days_wsX11_days_r1 _ (List.mem_of_getElem? (i := 8) rfl)) (x_mc (sb_wsX11_days_wsX11_days_r1 _ (List.mem_of_getElem? (i := 9) rfl)) (x_mc (sb_wsX11_days_wsX11_days_r1 _ (List.mem_of_getElem? (i := 10) rfl)) (x_mc (sb_wsX11_days_wsX11_days_r1 _ (List.mem_of_getElem? (i := 11) rfl)) (x_mc (sb_wsX11_days_wsX11_days_r1 _ (List.mem_of_getElem? (i := 12) rfl)) (x_mc (sb_wsX11_days_wsX11_days_r1 _ (List.mem_of_getElem? (i := 13) rfl)) (x_mc (sb_wsX11_days_wsX11_days_r1 _ (List.mem_of_getElem? (i := 14) rfl)) (x_mc (sb_wsX11_days_wsX11_days_r1 _ (List.mem_of_getElem? (i := 15) rfl)) (x_mc (sb_wsX11_days_wsX11_days_r1 _ (List.mem_of_getElem? (i := 16) rfl)) (x_mc (sb_wsX11_days_wsX11_days_r1 _ (List.mem_of_getElem? (i := 17) rfl)) (x_mc (sb_wsX11_days_wsX11_days_r1 _ (List.mem_of_getElem? (i := 18) rfl)) (x_mc (sb_wsX11_days_wsX11_days_r1 _ (List.mem_of_getElem? (i := 19) rfl)) (x_mc (sb_wsX11_days_wsX11_days_r1 _ (List.mem_of_getElem? (i := 20) rfl)) (x_mc (sb_wsX11_days_wsX11_days_r1 _ (List.mem_of_getElem? (i := 21) rfl)) (x_mc (sb_wsX11_days_wsX11_days_r1 _ (List.mem_of_getElem? (i := 22) rfl)) (x_mc (sb_wsX11_days_wsX11_days_r1 _ (List.mem_of_getElem? (i := 23) rfl)) (x_mc (sb_wsX11_days_wsX11_days_r2 _ (List.mem_of_getElem? (i := 0) rfl)) (x_mc (sb_wsX11_days_wsX11_days_r2 _ (List.mem_of_getElem? (i := 1) rfl)) (x_mc (sb_wsX11_days_wsX11_days_r2 _ (List.mem_of_getElem? (i := 2) rfl)) (x_mc (sb_wsX11_days_wsX11_days_r2 _ (List.mem_of_getElem? (i := 3) rfl)) (x_mc (sb_wsX11_days_wsX11_days_r2 _ (List.mem_of_getElem? (i := 4) rfl)) x_mn)))))))))))))))))))))))) (x_ina (x_mc (sb_wsX11_days_wsX11_days_r2 _ (List.mem_of_getElem? (i := 5) rfl)) (x_mc (sb_wsX11_days_wsX11_days_r2 _ (List.mem_of_getElem? (i := 6) rfl)) (x_mc (sb_wsX11_days_wsX11_days_r2 _ (List.mem_of_getElem? (i := 7) rfl)) (x_mc (sb_wsX11_days_wsX11_days_r2 _ (List.mem_of_getElem? (i := 8) rfl)) (x_mc (sb_wsX11_days_wsX11_days_r2 _ (List.mem_of_getElem? (i := 9) rfl)) (x_mc (sb_wsX11_days_wsX11_days_r2 _ (List.mem_of_getElem? (i := 10) rfl)) (x_mc (sb_wsX11_days_wsX11_days_r2 _ (List.mem_of_getElem? (i := 11) rfl)) (x_mc (sb_wsX11_days_wsX11_days_r2 _ (List.mem_of_getElem? (i := 12) rfl)) (x_mc (sb_wsX11_days_wsX11_days_r2 _ (List.mem_of_getElem? (i := 13) rfl)) (x_mc (sb_wsX11_days_wsX11_days_r2 _ (List.mem_of_getElem? (i := 14) rfl)) (x_mc (sb_wsX11_days_wsX11_days_r2 _ (List.mem_of_getElem? (i := 15) rfl)) (x_mc (sb_wsX11_days_wsX11_days_r2 _ (List.mem_of_getElem? (i := 16) rfl)) (x_mc (sb_wsX11_days_wsX11_days_r2 _ (List.mem_of_getElem? (i := 17) rfl)) (x_mc (sb_wsX11_days_wsX11_days_r2 _ (List.mem_of_getElem? (i := 18) rfl)) (x_mc (sb_wsX11_days_wsX11_days_r2 _ (List.mem_of_getElem? (i := 19) rfl)) (x_mc (sb_wsX11_days_wsX11_days_r2 _ (List.mem_of_getElem? (i := 20) rfl)) (x_mc (sb_wsX11_days_wsX11_days_r2 _ (List.mem_of_getElem? (i := 21) rfl)) (x_mc (sb_wsX11_days_wsX11_days_r2 _ (List.mem_of_getElem? (i := 22) rfl)) (x_mc (sb_wsX11_days_wsX11_days_r2 _ (List.mem_of_getElem? (i := 23) rfl)) (x_mc (sb_wsX11_days_wsX11_days_r3 _ (List.mem_of_getElem? (i := 0) rfl)) (x_mc (sb_wsX11_days_wsX11_days_r3 _ (List.mem_of_getElem? (i := 1) rfl)) (x_mc (sb_wsX11_days_wsX11_days_r3 _ (List.mem_of_getElem? (i := 2) rfl)) (x_mc (sb_wsX11_days_wsX11_days_r3 _ (List.mem_of_getElem? (i := 3) rfl)) (x_mc (sb_wsX11_days_wsX11_days_r3 _ (List.mem_of_getElem? (i := 4) rfl)) x_mn)))))))))))))))))))))))) (x_ina (x_mc (sb_wsX11_days_wsX11_days_r3 _ (List.mem_of_getElem? (i := 5) rfl)) (x_mc (sb_wsX11_days_wsX11_days_r3 _ (List.mem_of_getElem? (i := 6) rfl)) (x_mc (sb_wsX11_days_wsX11_days_r3 _ (List.mem_of_getElem? (i := 7) rfl)) (x_mc (sb_wsX11_days_wsX11_days_r3 _ (List.mem_of_getElem? (i := 8) rfl)) (x_mc (sb_wsX11_days_wsX11_days_r3 _ (List.mem_of_getElem? (i := 9) rfl)) (x_mc (sb_wsX11_days_wsX11_days_r3 _ (List.mem_of_getElem? (i := 10) rfl)) (x_mc (sb_wsX11_days_wsX11_days_r3 _ (List.mem_of_getElem? (i := 11) rfl)) (x_mc (sb_wsX11_days_wsX11_days_r3 _ (List.mem_of_getElem? (i := 12) rfl)) (x_mc (sb_wsX11_days_wsX11_days_r3 _ (List.mem_of_getElem? (i := 13) rfl)) (x_mc (sb_wsX11_days_wsX11_days_r3 _ (List.mem_of_getElem? (i := 14) rfl)) (x_mc (sb_wsX11_days_wsX11_days_r3 _ (List.mem_of_getElem? (i := 15) rfl)) (x_mc (sb_wsX11_days_wsX11_days_r3 _ (List.mem_of_getElem? (i := 16) rfl)) (x_mc (sb_wsX11_days_wsX11_days_r3 _ (List.mem_of_getElem? (i := 17) rfl)) (x_mc (sb_wsX11_days_wsX11_days_r3 _ (List.mem_of_getElem? (i := 18) rfl)) (x_mc (sb_wsX11_days_wsX11_days_r3 _ (List.mem_of_getElem? (i := 19) rfl)) (x_mc (sb_wsX11_days_wsX11_days_r3 _ (List.mem_of_getElem? (i := 20) rfl)) (x_mc (sb_wsX11_days_wsX11_days_r3 _ (List.mem_of_getElem? (i := 21) rfl)) (x_mc (sb_wsX11_days_wsX11_days_r3 _ (List.mem_of_getElem? (i := 22) rfl)) (x_mc (sb_wsX11_days_wsX11_days_r3 _ (List.mem_of_getElem? (i := 23) rfl)) (x_mc (sb_wsX11_days_wsX11_days_r4 _ (List.mem_of_getElem? (i := 0) rfl)) (x_mc (sb_wsX11_days_wsX11_days_r4 _ (List.mem_of_getElem? (i := 1) rfl)) (x_mc (sb_wsX11_days_wsX11_days_r4 _ (List.mem_of_getElem? (i := 2) rfl)) (x_mc (sb_wsX11_days_wsX11_days_r4 _ (List.mem_of_getElem? (i := 3) rfl)) (x_mc (sb_wsX11_days_wsX11_days_r4 _ (List.mem_of_getElem? (i := 4) rfl)) x_mn)))))))))))))))))))))))) (x_ina (x_mc (sb_wsX11_days_wsX11_days_r4 _ (List.mem_of_getElem? (i := 5) rfl)) (x_mc (sb_wsX11_days_wsX11_days_r4 _ (List.mem_of_getElem? (i := 6) rfl)) (x_mc (sb_wsX11_days_wsX11_days_r4 _ (List.mem_of_getElem? (i := 7) rfl)) (x_mc (sb_wsX11_days_wsX11_days_r4 _ (List.mem_of_getElem? (i := 8) rfl)) (x_mc (sb_wsX11_days_wsX11_days_r4 _ (List.mem_of_getElem? (i := 9) rfl)) (x_mc (sb_wsX11_days_wsX11_days_r4 _ (List.mem_of_getElem? (i := 10) rfl)) (x_mc (sb_wsX11_days_wsX11_days_r4 _ (List.mem_of_getElem? (i := 11) rfl)) (x_mc (sb_wsX11_days_wsX11_days_r4 _ (List.mem_of_getElem? (i := 12) rfl)) (x_mc (sb_wsX11_days_wsX11_days_r4 _ (List.mem_of_getElem? (i := 13) rfl)) (x_mc (sb_wsX11_days_wsX11_days_r4 _ (List.mem_of_getElem? (i := 14) rfl)) (x_mc (sb_wsX11_days_wsX11_days_r4 _ (List.mem_of_getElem? (i := 15) rfl)) (x_mc (sb_wsX11_days_wsX11_days_r4 _ (List.mem_of_getElem? (i := 16) rfl)) (x_mc (sb_wsX11_days_wsX11_days_r4 _ (List.mem_of_getElem? (i := 17) rfl)) (x_mc (sb_wsX11_days_wsX11_days_r4 _ (List.mem_of_getElem? (i := 18) rfl)) (x_mc (sb_wsX11_days_wsX11_days_r4 _ (List.mem_of_getElem? (i := 19) rfl)) (x_mc (sb_wsX11_days_wsX11_days_r4 _ (List.mem_of_getElem? (i := 20) rfl)) (x_mc (sb_wsX11_days_wsX11_days_r4 _ (List.mem_of_getElem? (i := 21) rfl)) (x_mc (sb_wsX11_days_wsX11_days_r4 _ (List.mem_of_getElem? (i := 22) rfl)) (x_mc (sb_wsX11_days_wsX11_days_r4 _ (List.mem_of_getElem? (i := 23) rfl)) (x_mc (sb_wsX11_days_wsX11_days_r5 _ (List.mem_of_getElem? (i := 0) rfl)) (x_mc (sb_wsX11_days_wsX11_days_r5 _ (List.mem_of_getElem? (i := 1) rfl)) (x_mc (sb_wsX11_days_wsX11_days_r5 _ (List.mem_of_getElem? (i := 2) rfl)) (x_mc (sb_wsX11_days_wsX11_days_r5 _ (List.mem_of_getElem? (i := 3) rfl)) (x_mc (sb_wsX11_days_wsX11_days_r5 _ (List.mem_of_getElem? (i := 4) rfl)) x_mn)))))))))))))))))))))))) (x_ina (x_mc (sb_wsX11_days_wsX11_days_r5 _ (List.mem_of_getElem? (i := 5) rfl)) (x_mc (sb_wsX11_days_wsX11_days_r5 _ (List.mem_of_getElem? (i := 6) rfl)) (x_mc (sb_wsX11_days_wsX11_days_r5 _ (List.mem_of_getElem? (i := 7) rfl)) (x_mc (sb_wsX11_days_wsX11_days_r5 _ (List.mem_of_getElem? (i := 8) rfl)) (x_mc (sb_wsX11_days_wsX11_days_r5 _ (List.mem_of_getElem? (i := 9) rfl)) (x_mc (sb_wsX11_days_wsX11_days_r5 _ (List.mem_of_getElem? (i := 10) rfl)) (x_mc (sb_wsX11_days_wsX11_days_r5 _ (List.mem_of_getElem? (i := 11) rfl)) (x_mc (sb_wsX11_days_wsX11_days_r5 _ (List.mem_of_getElem? (i := 12) rfl)) (x_mc (sb_wsX11_days_wsX11_days_r5 _ (List.mem_of_getElem? (i := 13) rfl)) (x_mc (sb_wsX11_days_wsX11_days_r5 _ (List.mem_of_getElem? (i := 14) rfl)) (x_mc (sb_wsX11_days_wsX11_days_r5 _ (List.mem_of_getElem? (i := 15) rfl)) (x_mc (sb_wsX11_days_wsX11_days_r5 _ (List.mem_of_getElem? (i := 16) rfl)) (x_mc (sb_wsX11_days_wsX11_days_r5 _ (List.mem_of_getElem? (i := 17) rfl)) (x_mc (sb_wsX11_days_wsX11_days_r5 _ (List.mem_of_getElem? (i := 18) rfl)) (x_mc (sb_wsX11_days_wsX11_days_r5 _ (List.mem_of_getElem? (i := 19) rfl)) (x_mc (sb_wsX11_days_wsX11_days_r5 _ (List.mem_of_getElem? (i := 20) rfl)) (x_mc (sb_wsX11_days_wsX11_days_r5 _ (List.mem_of_getElem? (i := 21) rfl)) (x_mc (sb_wsX11_days_wsX11_days_r5 _ (List.mem_of_getElem? (i := 22) rfl)) (x_mc (sb_wsX11_days_wsX11_days_r5 _ (List.mem_of_getElem? (i := 23) rfl)) (x_mc (sb_wsX11_days_wsX11_days_r6 _ (List.mem_of_getElem? (i := 0) rfl)) (x_mc (sb_wsX11_days_wsX11_days_r6 _ (List.mem_of_getElem? (i := 1) rfl)) (x_mc (sb_wsX11_days_wsX11_days_r6 _ (List.mem_of_getElem? (i := 2) rfl)) (x_mc (sb_wsX11_days_wsX11_days_r6 _ (List.mem_of_getElem? (i := 3) rfl)) (x_mc (sb_wsX11_days_wsX11_days_r6 _ (List.mem_of_getElem? (i := 4) rfl)) x_mn)))))))))))))))))))))))) (x_mc (sb_wsX11_days_wsX11_days_r6 _ (List.mem_of_getElem? (i := 5) rfl)) (x_mc (sb_wsX11_days_wsX11_days_r6 _ (List.mem_of_getElem? (i := 6) rfl)) (x_mc (sb_wsX11_days_wsX11_days_r6 _ (List.mem_of_getElem? (i := 7) rfl)) (x_mc (sb_wsX11_days_wsX11_days_r6 _ (List.mem_of_getElem? (i := 8) rfl)) (x_mc (sb_wsX11_days_wsX11_days_r6 _ (List.mem_of_getElem? (i := 9) rfl)) (x_mc (sb_wsX11_days_wsX11_days_r6 _ (List.mem_of_getElem? (i := 10) rfl)) (x_mc (sb_wsX11_days_wsX11_days_r6 _ (List.mem_of_getElem? (i := 11) rfl)) (x_mc (sb_wsX11_days_wsX11_days_r6 _ (List.mem_of_getElem? (i := 12) rfl)) (x_mc (sb_wsX11_days_wsX11_days_r6 _ (List.mem_of_getElem? (i := 13) rfl)) x_mn)))))))))))))) (fun _ h => sb_wsX11_days_wsX110 _ h)) (fun _ h => sb_wsX11_days_wsX00 _ h)) (fun _ h => sb_wsX11_days_wsX10 _ h)) (fun _ h => sb_wsX11_days_wsX20 _ h)) (fun _ h => sb_wsX11_days_wsX30 _ h)) (fun _ h => sb_wsX11_days_wsX40 _ h)) (fun _ h => sb_wsX11_days_wsX100 _ h)) (fun _ h => sb_wsX11_days_wsX60 _ h)) (fun _ h => sb_wsX11_days_wsX50 _ h)) (fun _ h => sb_wsX11_days_wsX90 _ h))) (by decide +kernel)
set_option maxRecDepth 20000 in
theorem gX11_days_X11_wear : GoodIn wsX11_days (wsV RX11 206 RX11 yX11_wear wsX11_wear) := goodIn_app (goodIn_of _ (by decide +kernel)) ggX11_days_X11_wear
theorem dX11_days_0 : decode cX11_days 0 = .ok (.aload_n 0, 1) := by decide +kernel
theorem dX11_days_1 : decode cX11_days 1 = .ok (.aload_n 1, 1) := by decide +kernel
theorem dX11_days_2 : decode cX11_days 2 = .ok (.invokevirtual 206, 3) := by decide +kernel
theorem dX11_days_5 : decode cX11_days 5 = .ok (.istore_n 3, 1) := by decide +kernel
theorem dX11_days_6 : decode cX11_days 6 = .ok (.iload_n 3, 1) := by decide +kernel
theorem dX11_days_7 : decode cX11_days 7 = .ok (.ifCond .ne 7, 3) := by decide +kernel
theorem dX11_days_10 : decode cX11_days 10 = .ok (.iconst (-1), 1) := by decide +kernel
theorem dX11_days_11 : decode cX11_days 11 = .ok (.goto 10, 3) := by decide +kernel
theorem dX11_days_14 : decode cX11_days 14 = .ok (.iload_n 2, 1) := by decide +kernel
theorem dX11_days_15 : decode cX11_days 15 = .ok (.iload_n 3, 1) := by decide +kernel
theorem dX11_days_16 : decode cX11_days 16 = .ok (.iadd, 1) := by decide +kernel
theorem dX11_days_17 : decode cX11_days 17 = .ok (.iconst 1, 1) := by decide +kernel
theorem dX11_days_18 : decode cX11_days 18 = .ok (.isub, 1) := by decide +kernel
theorem dX11_days_19 : decode cX11_days 19 = .ok (.iload_n 3, 1) := by decide +kernel
theorem dX11_days_20 : decode cX11_days 20 = .ok (.idiv, 1) := by decide +kernel
theorem dX11_days_21 : decode cX11_days 21 = .ok (.ireturn, 1) := by decide +kernel
theorem sb_wsX11_firstWorn_wsX11_firstWorn_r1 : ∀ w ∈ wsX11_firstWorn_r1, w ∈ wsX11_firstWorn := fun _ h => (List.mem_cons_of_mem _ (List.mem_append_left _ (List.mem_append_left _ (List.mem_append_left _ (List.mem_append_left _ (List.mem_append_left _ (List.mem_append_left _ (List.mem_append_left _ (List.mem_append_left _ (List.mem_append_left _ (List.mem_append_left _ (List.mem_append_left _ h))))))))))))
theorem sb_wsX11_firstWorn_wsX11_firstWorn_r2 : ∀ w ∈ wsX11_firstWorn_r2, w ∈ wsX11_firstWorn := fun _ h => (List.mem_cons_of_mem _ (List.mem_append_left _ (List.mem_append_left _ (List.mem_append_left _ (List.mem_append_left _ (List.mem_append_left _ (List.mem_append_left _ (List.mem_append_left _ (List.mem_append_left _ (List.mem_append_left _ (List.mem_append_left _ (List.mem_append_right _ (List.mem_append_left _ h)))))))))))))
theorem sb_wsX11_firstWorn_wsX11_firstWorn_r3 : ∀ w ∈ wsX11_firstWorn_r3, w ∈ wsX11_firstWorn := fun _ h => (List.mem_cons_of_mem _ (List.mem_append_left _ (List.mem_append_left _ (List.mem_append_left _ (List.mem_append_left _ (List.mem_append_left _ (List.mem_append_left _ (List.mem_append_left _ (List.mem_append_left _ (List.mem_append_left _ (List.mem_append_left _ (List.mem_append_right _ (List.mem_append_right _ (List.mem_append_left _ h))))))))))))))
theorem sb_wsX11_firstWorn_wsX11_firstWorn_r4 : ∀ w ∈ wsX11_firstWorn_r4, w ∈ wsX11_firstWorn := fun _ h => (List.mem_cons_of_mem _ (List.mem_append_left _ (List.mem_append_left _ (List.mem_append_left _ (List.mem_append_left _ (List.mem_append_left _ (List.mem_append_left _ (List.mem_append_left _ (List.mem_append_left _ (List.mem_append_left _ (List.mem_append_left _ (List.mem_append_right _ (List.mem_append_right _ (List.mem_append_right _ (List.mem_append_left _ h)))))))))))))))
theorem sb_wsX11_firstWorn_wsX11_firstWorn_r5 : ∀ w ∈ wsX11_firstWorn_r5, w ∈ wsX11_firstWorn := fun _ h => (List.mem_cons_of_mem _ (List.mem_append_left _ (List.mem_append_left _ (List.mem_append_left _ (List.mem_append_left _ (List.mem_append_left _ (List.mem_append_left _ (List.mem_append_left _ (List.mem_append_left _ (List.mem_append_left _ (List.mem_append_left _ (List.mem_append_right _ (List.mem_append_right _ (List.mem_append_right _ (List.mem_append_right _ (List.mem_append_left _ h))))))))))))))))
theorem sb_wsX11_firstWorn_wsX11_firstWorn_r6 : ∀ w ∈ wsX11_firstWorn_r6, w ∈ wsX11_firstWorn := fun _ h => (List.mem_cons_of_mem _ (List.mem_append_left _ (List.mem_append_left _ (List.mem_append_left _ (List.mem_append_left _ (List.mem_append_left _ (List.mem_append_left _ (List.mem_append_left _ (List.mem_append_left _ (List.mem_append_left _ (List.mem_append_left _ (List.mem_append_right _ (List.mem_append_right _ (List.mem_append_right _ (List.mem_append_right _ (List.mem_append_right _ h))))))))))))))))
theorem sb_wsX11_firstWorn_wsX110 : ∀ w ∈ wsX110, w ∈ wsX11_firstWorn := fun _ h => (List.mem_cons_of_mem _ (List.mem_append_left _ (List.mem_append_left _ (List.mem_append_left _ (List.mem_append_left _ (List.mem_append_left _ (List.mem_append_left _ (List.mem_append_left _ (List.mem_append_left _ (List.mem_append_left _ (List.mem_append_right _ h)))))))))))
theorem sb_wsX11_firstWorn_wsX60 : ∀ w ∈ wsX60, w ∈ wsX11_firstWorn := fun _ h => (List.mem_cons_of_mem _ (List.mem_append_left _ (List.mem_append_left _ (List.mem_append_left _ (List.mem_append_left _ (List.mem_append_left _ (List.mem_append_left _ (List.mem_append_left _ (List.mem_append_left _ (List.mem_append_right _ h))))))))))
theorem sb_wsX11_firstWorn_wsX00 : ∀ w ∈ wsX00, w ∈ wsX11_firstWorn := fun _ h => (List.mem_cons_of_mem _ (List.mem_append_left _ (List.mem_append_left _ (List.mem_append_left _ (List.mem_append_left _ (List.mem_append_left _ (List.mem_append_left _ (List.mem_append_left _ (List.mem_append_right _ h)))))))))
theorem sb_wsX11_firstWorn_wsX10 : ∀ w ∈ wsX10, w ∈ wsX11_firstWorn := fun _ h => (List.mem_cons_of_mem _ (List.mem_append_left _ (List.mem_append_left _ (List.mem_append_left _ (List.mem_append_left _ (List.mem_append_left _ (List.mem_append_left _ (List.mem_append_right _ h))))))))
theorem sb_wsX11_firstWorn_wsX20 : ∀ w ∈ wsX20, w ∈ wsX11_firstWorn := fun _ h => (List.mem_cons_of_mem _ (List.mem_append_left _ (List.mem_append_left _ (List.mem_append_left _ (List.mem_append_left _ (List.mem_append_left _ (List.mem_append_right _ h)))))))
theorem sb_wsX11_firstWorn_wsX30 : ∀ w ∈ wsX30, w ∈ wsX11_firstWorn := fun _ h => (List.mem_cons_of_mem _ (List.mem_append_left _ (List.mem_append_left _ (List.mem_append_left _ (List.mem_append_left _ (List.mem_append_right _ h))))))
theorem sb_wsX11_firstWorn_wsX40 : ∀ w ∈ wsX40, w ∈ wsX11_firstWorn := fun _ h => (List.mem_cons_of_mem _ (List.mem_append_left _ (List.mem_append_left _ (List.mem_append_left _ (List.mem_append_right _ h)))))
theorem sb_wsX11_firstWorn_wsX100 : ∀ w ∈ wsX100, w ∈ wsX11_firstWorn := fun _ h => (List.mem_cons_of_mem _ (List.mem_append_left _ (List.mem_append_left _ (List.mem_append_right _ h))))
theorem sb_wsX11_firstWorn_wsX50 : ∀ w ∈ wsX50, w ∈ wsX11_firstWorn := fun _ h => (List.mem_cons_of_mem _ (List.mem_append_left _ (List.mem_append_right _ h)))
theorem sb_wsX11_firstWorn_wsX90 : ∀ w ∈ wsX90, w ∈ wsX11_firstWorn := fun _ h => (List.mem_cons_of_mem _ (List.mem_append_right _ h))
set_option maxRecDepth 20000 in
theorem ggX11_firstWorn_X11_days : GoodIn wsX11_firstWorn wsX11_days := goodIn_sub (x_mc (sb_wsX11_firstWorn_wsX11_firstWorn_r1 _ (List.mem_of_getElem? (i := 7) rfl)) (x_ina (x_ina (x_ina (x_ina (x_ina (x_ina (x_ina (x_ina (x_ina (x_ina (x_ina (x_mc (sb_wsX11_firstWorn_wsX11_firstWorn_r1 _ (List.mem_of_getElem? (i := 8) rfl)) (x_mc (sb_wsX11_firstWorn_wsX11_firstWorn_r1 _ (List.mem_of_getElem? (i := 9) rfl)) (x_mc (sb_wsX11_firstWorn_wsX11_firstWorn_r1 _ (List.mem_of_getElem? (i := 10) rfl)) (x_mc (sb_wsX11_firstWorn_wsX11_firstWorn_r1 _ (List.mem_of_getElem? (i := 6) rfl)) (x_mc (sb_wsX11_firstWorn_wsX11_firstWorn_r1 _ (List.mem_of_getElem? (i := 11) rfl)) (x_mc (sb_wsX11_firstWorn_wsX11_firstWorn_r1 _ (List.mem_of_getElem? (i := 12) rfl)) (x_mc (sb_wsX11_firstWorn_wsX11_firstWorn_r1 _ (List.mem_of_getElem? (i := 13) rfl)) (x_mc (sb_wsX11_firstWorn_wsX11_firstWorn_r1 _ (List.mem_of_getElem? (i := 0) rfl)) (x_mc (sb_wsX11_firstWorn_wsX11_firstWorn_r1 _ (List.mem_of_getElem? (i := 14) rfl)) (x_mc (sb_wsX11_firstWorn_wsX11_firstWorn_r1 _ (List.mem_of_getElem? (i := 15) rfl)) (x_mc (sb_wsX11_firstWorn_wsX11_firstWorn_r1 _ (List.mem_of_getElem? (i := 16) rfl)) (x_mc (sb_wsX11_firstWorn_wsX11_firstWorn_r1 _ (List.mem_of_getElem? (i := 17) rfl)) (x_mc (sb_wsX11_firstWorn_wsX11_firstWorn_r1 _ (List.mem_of_getElem? (i := 18) rfl)) (x_mc (sb_wsX11_firstWorn_wsX11_firstWorn_r1 _ (List.mem_of_getElem? (i := 19) rfl)) (x_mc (sb_wsX11_firstWorn_wsX11_firstWorn_r1 _ (List.mem_of_getElem? (i := 20) rfl)) (x_mc (sb_wsX11_firstWorn_wsX11_firstWorn_r1 _ (List.mem_of_getElem? (i := 21) rfl)) (x_mc (sb_wsX11_firstWorn_wsX11_firstWorn_r1 _ (List.mem_of_getElem? (i := 22) rfl)) (x_mc (sb_wsX11_firstWorn_wsX11_firstWorn_r1 _ (List.mem_of_getElem? (i := 23) rfl)) (x_mc (sb_wsX11_firstWorn_wsX11_firstWorn_r2 _ (List.mem_of_getElem? (i := 0) rfl)) (x_mc (sb_wsX11_firstWorn_wsX11_firstWorn_r2 _ (List.mem_of_getElem? (i := 1) rfl)) (x_mc (sb_wsX11_firstWorn_wsX11_firstWorn_r2 _ (List.mem_of_getElem? (i := 2) rfl)) (x_mc (sb_wsX11_firstWorn_wsX11_firstWorn_r2 _ (List.mem_of_getElem? (i := 3) rfl)) (x_mc (sb_wsX11_firstWorn_wsX11_firstWorn_r2 _ (List.mem_of_getElem? (i := 4) rfl)) (x_mc (sb_wsX11_firstWorn_wsX11_firstWorn_r2 _ (List.mem_of_getElem? (i := 5) rfl)) x_mn)))))))))))))))))))))))) (x_ina (x_mc (sb_wsX11_firstWorn_wsX11_firstWorn_r2 _ (List.mem_of_getElem? (i := 6) rfl)) (x_mc (sb_wsX11_firstWorn_wsX11_firstWorn_r2 _ (List.mem_of_getElem? (i := 7) rfl)) (x_mc (sb_wsX11_firstWorn_wsX11_firstWorn_r2 _ (List.mem_of_getElem? (i := 8) rfl)) (x_mc (sb_wsX11_firstWorn_wsX11_firstWorn_r2 _ (List.mem_of_getElem? (i := 9) rfl)) (x_mc (sb_wsX11_firstWorn_wsX11_firstWorn_r2 _ (List.mem_of_getElem? (i := 10) rfl)) (x_mc (sb_wsX11_firstWorn_wsX11_firstWorn_r2 _ (List.mem_of_getElem? (i := 11) rfl)) (x_mc (sb_wsX11_firstWorn_wsX11_firstWorn_r2 _ (List.mem_of_getElem? (i := 12) rfl)) (x_mc (sb_wsX11_firstWorn_wsX11_firstWorn_r2 _ (List.mem_of_getElem? (i := 13) rfl)) (x_mc (sb_wsX11_firstWorn_wsX11_firstWorn_r2 _ (List.mem_of_getElem? (i := 14) rfl)) (x_mc (sb_wsX11_firstWorn_wsX11_firstWorn_r2 _ (List.mem_of_getElem? (i := 15) rfl)) (x_mc (sb_wsX11_firstWorn_wsX11_firstWorn_r2 _ (List.mem_of_getElem? (i := 16) rfl)) (x_mc (sb_wsX11_firstWorn_wsX11_firstWorn_r2 _ (List.mem_of_getElem? (i := 17) rfl)) (x_mc (sb_wsX11_firstWorn_wsX11_firstWorn_r2 _ (List.mem_of_getElem? (i := 18) rfl)) (x_mc (sb_wsX11_firstWorn_wsX11_firstWorn_r2 _ (List.mem_of_getElem? (i := 19) rfl)) (x_mc (sb_wsX11_firstWorn_wsX11_firstWorn_r2 _ (List.mem_of_getElem? (i := 20) rfl)) (x_mc (sb_wsX11_firstWorn_wsX11_firstWorn_r2 _ (List.mem_of_getElem? (i := 21) rfl)) (x_mc (sb_wsX11_firstWorn_wsX11_firstWorn_r2 _ (List.mem_of_getElem? (i := 22) rfl)) (x_mc (sb_wsX11_firstWorn_wsX11_firstWorn_r2 _ (List.mem_of_getElem? (i := 23) rfl)) (x_mc (sb_wsX11_firstWorn_wsX11_firstWorn_r3 _ (List.mem_of_getElem? (i := 0) rfl)) (x_mc (sb_wsX11_firstWorn_wsX11_firstWorn_r3 _ (List.mem_of_getElem? (i := 1) rfl)) (x_mc (sb_wsX11_firstWorn_wsX11_firstWorn_r3 _ (List.mem_of_getElem? (i := 2) rfl)) (x_mc (sb_wsX11_firstWorn_wsX11_firstWorn_r3 _ (List.mem_of_getElem? (i := 3) rfl)) (x_mc (sb_wsX11_firstWorn_wsX11_firstWorn_r3 _ (List.mem_of_getElem? (i := 4) rfl)) (x_mc (sb_wsX11_firstWorn_wsX11_firstWorn_r3 _ (List.mem_of_getElem? (i := 5) rfl)) x_mn)))))))))))))))))))))))) (x_ina (x_mc (sb_wsX11_firstWorn_wsX11_firstWorn_r3 _ (List.mem_of_getElem? (i := 6) rfl)) (x_mc (sb_wsX11_firstWorn_wsX11_firstWorn_r3 _ (List.mem_of_getElem? (i := 7) rfl)) (x_mc (sb_wsX11_firstWorn_wsX11_firstWorn_r3 _ (List.mem_of_getElem? (i := 8) rfl)) (x_mc (sb_wsX11_firstWorn_wsX11_firstWorn_r3 _ (List.mem_of_getElem? (i := 9) rfl)) (x_mc (sb_wsX11_firstWorn_wsX11_firstWorn_r3 _ (List.mem_of_getElem? (i := 10) rfl)) (x_mc (sb_wsX11_firstWorn_wsX11_firstWorn_r3 _ (List.mem_of_getElem? (i := 11) rfl)) (x_mc (sb_wsX11_firstWorn_wsX11_firstWorn_r3 _ (List.mem_of_getElem? (i := 12) rfl)) (x_mc (sb_wsX11_firstWorn_wsX11_firstWorn_r3 _ (List.mem_of_getElem? (i := 13) rfl)) (x_mc (sb_wsX11_firstWorn_wsX11_firstWorn_r3 _ (List.mem_of_getElem? (i := 14) rfl)) (x_mc (sb_wsX11_firstWorn_wsX11_firstWorn_r3 _ (List.mem_of_getElem? (i := 15) rfl)) (x_mc (sb_wsX11_firstWorn_wsX11_firstWorn_r3 _ (List.mem_of_getElem? (i := 16) rfl)) (x_mc (sb_wsX11_firstWorn_wsX11_firstWorn_r3 _ (List.mem_of_getElem? (i := 17) rfl)) (x_mc (sb_wsX11_firstWorn_wsX11_firstWorn_r3 _ (List.mem_of_getElem? (i := 18) rfl)) (x_mc (sb_wsX11_firstWorn_wsX11_firstWorn_r3 _ (List.mem_of_getElem? (i := 19) rfl)) (x_mc (sb_wsX11_firstWorn_wsX11_firstWorn_r3 _ (List.mem_of_getElem? (i := 20) rfl)) (x_mc (sb_wsX11_firstWorn_wsX11_firstWorn_r3 _ (List.mem_of_getElem? (i := 21) rfl)) (x_mc (sb_wsX11_firstWorn_wsX11_firstWorn_r3 _ (List.mem_of_getElem? (i := 22) rfl)) (x_mc (sb_wsX11_firstWorn_wsX11_firstWorn_r3 _ (List.mem_of_getElem? (i := 23) rfl)) (x_mc (sb_wsX11_firstWorn_wsX11_firstWorn_r4 _ (List.mem_of_getElem? (i := 0) rfl)) (x_mc (sb_wsX11_firstWorn_wsX11_firstWorn_r4 _ (List.mem_of_getElem? (i := 1) rfl)) (x_mc (sb_wsX11_firstWorn_wsX11_firstWorn_r4 _ (List.mem_of_getElem? (i := 2) rfl)) (x_mc (sb_wsX11_firstWorn_wsX11_firstWorn_r4 _ (List.mem_of_getElem? (i := 3) rfl)) (x_mc (sb_wsX11_firstWorn_wsX11_firstWorn_r4 _ (List.mem_of_getElem? (i := 4) rfl)) (x_mc (sb_wsX11_firstWorn_wsX11_firstWorn_r4 _ (List.mem_of_getElem? (i := 5) rfl)) x_mn)))))))))))))))))))))))) (x_ina (x_mc (sb_wsX11_firstWorn_wsX11_firstWorn_r4 _ (List.mem_of_getElem? (i := 6) rfl)) (x_mc (sb_wsX11_firstWorn_wsX11_firstWorn_r4 _ (List.mem_of_getElem? (i := 7) rfl)) (x_mc (sb_wsX11_firstWorn_wsX11_firstWorn_r4 _ (List.mem_of_getElem? (i := 8) rfl)) (x_mc (sb_wsX11_firstWorn_wsX11_firstWorn_r4 _ (List.mem_of_getElem? (i := 9) rfl)) (x_mc (sb_wsX11_firstWorn_wsX11_firstWorn_r4 _ (List.mem_of_getElem? (i := 10) rfl)) (x_mc (sb_wsX11_firstWorn_wsX11_firstWorn_r4 _ (List.mem_of_getElem? (i := 11) rfl)) (x_mc (sb_wsX11_firstWorn_wsX11_firstWorn_r4 _ (List.mem_of_getElem? (i := 12) rfl)) (x_mc (sb_wsX11_firstWorn_wsX11_firstWorn_r4 _ (List.mem_of_getElem? (i := 13) rfl)) (x_mc (sb_wsX11_firstWorn_wsX11_firstWorn_r4 _ (List.mem_of_getElem? (i := 14) rfl)) (x_mc (sb_wsX11_firstWorn_wsX11_firstWorn_r4 _ (List.mem_of_getElem? (i := 15) rfl)) (x_mc (sb_wsX11_firstWorn_wsX11_firstWorn_r4 _ (List.mem_of_getElem? (i := 16) rfl)) (x_mc (sb_wsX11_firstWorn_wsX11_firstWorn_r4 _ (List.mem_of_getElem? (i := 17) rfl)) (x_mc (sb_wsX11_firstWorn_wsX11_firstWorn_r4 _ (List.mem_of_getElem? (i := 18) rfl)) (x_mc (sb_wsX11_firstWorn_wsX11_firstWorn_r4 _ (List.mem_of_getElem? (i := 19) rfl)) (x_mc (sb_wsX11_firstWorn_wsX11_firstWorn_r4 _ (List.mem_of_getElem? (i := 20) rfl)) (x_mc (sb_wsX11_firstWorn_wsX11_firstWorn_r4 _ (List.mem_of_getElem? (i := 21) rfl)) (x_mc (sb_wsX11_firstWorn_wsX11_firstWorn_r4 _ (List.mem_of_getElem? (i := 22) rfl)) (x_mc (sb_wsX11_firstWorn_wsX11_firstWorn_r4 _ (List.mem_of_getElem? (i := 23) rfl)) (x_mc (sb_wsX11_firstWorn_wsX11_firstWorn_r5 _ (List.mem_of_getElem? (i := 0) rfl)) (x_mc (sb_wsX11_firstWorn_wsX11_firstWorn_r5 _ (List.mem_of_getElem? (i := 1) rfl)) (x_mc (sb_wsX11_firstWorn_wsX11_firstWorn_r5 _ (List.mem_of_getElem? (i := 2) rfl)) (x_mc (sb_wsX11_firstWorn_wsX11_firstWorn_r5 _ (List.mem_of_getElem? (i := 3) rfl)) (x_mc (sb_wsX11_firstWorn_wsX11_firstWorn_r5 _ (List.mem_of_getElem? (i := 4) rfl)) (x_mc (sb_wsX11_firstWorn_wsX11_firstWorn_r5 _ (List.mem_of_getElem? (i := 5) rfl)) x_mn)))))))))))))))))))))))) (x_ina (x_mc (sb_wsX11_firstWorn_wsX11_firstWorn_r5 _ (List.mem_of_getElem? (i := 6) rfl)) (x_mc (sb_wsX11_firstWorn_wsX11_firstWorn_r5 _ (List.mem_of_getElem? (i := 7) rfl)) (x_mc (sb_wsX11_firstWorn_wsX11_firstWorn_r5 _ (List.mem_of_getElem? (i := 8) rfl)) (x_mc (sb_wsX11_firstWorn_wsX11_firstWorn_r5 _ (List.mem_of_getElem? (i := 9) rfl)) (x_mc (sb_wsX11_firstWorn_wsX11_firstWorn_r5 _ (List.mem_of_getElem? (i := 10) rfl)) (x_mc (sb_wsX11_firstWorn_wsX11_firstWorn_r5 _ (List.mem_of_getElem? (i := 11) rfl)) (x_mc (sb_wsX11_firstWorn_wsX11_firstWorn_r5 _ (List.mem_of_getElem? (i := 12) rfl)) (x_mc (sb_wsX11_firstWorn_wsX11_firstWorn_r5 _ (List.mem_of_getElem? (i := 13) rfl)) (x_mc (sb_wsX11_firstWorn_wsX11_firstWorn_r5 _ (List.mem_of_getElem? (i := 14) rfl)) (x_mc (sb_wsX11_firstWorn_wsX11_firstWorn_r5 _ (List.mem_of_getElem? (i := 15) rfl)) (x_mc (sb_wsX11_firstWorn_wsX11_firstWorn_r5 _ (List.mem_of_getElem? (i := 16) rfl)) (x_mc (sb_wsX11_firstWorn_wsX11_firstWorn_r5 _ (List.mem_of_getElem? (i := 17) rfl)) (x_mc (sb_wsX11_firstWorn_wsX11_firstWorn_r5 _ (List.mem_of_getElem? (i := 18) rfl)) (x_mc (sb_wsX11_firstWorn_wsX11_firstWorn_r5 _ (List.mem_of_getElem? (i := 19) rfl)) (x_mc (sb_wsX11_firstWorn_wsX11_firstWorn_r5 _ (List.mem_of_getElem? (i := 20) rfl)) (x_mc (sb_wsX11_firstWorn_wsX11_firstWorn_r5 _ (List.mem_of_getElem? (i := 21) rfl)) (x_mc (sb_wsX11_firstWorn_wsX11_firstWorn_r5 _ (List.mem_of_getElem? (i := 22) rfl)) (x_mc (sb_wsX11_firstWorn_wsX11_firstWorn_r5 _ (List.mem_of_getElem? (i := 23) rfl)) (x_mc (sb_wsX11_firstWorn_wsX11_firstWorn_r6 _ (List.mem_of_getElem? (i := 0) rfl)) (x_mc (sb_wsX11_firstWorn_wsX11_firstWorn_r6 _ (List.mem_of_getElem? (i := 1) rfl)) (x_mc (sb_wsX11_firstWorn_wsX11_firstWorn_r6 _ (List.mem_of_getElem? (i := 2) rfl)) (x_mc (sb_wsX11_firstWorn_wsX11_firstWorn_r6 _ (List.mem_of_getElem? (i := 3) rfl)) (x_mc (sb_wsX11_firstWorn_wsX11_firstWorn_r6 _ (List.mem_of_getElem? (i := 4) rfl)) (x_mc (sb_wsX11_firstWorn_wsX11_firstWorn_r6 _ (List.mem_of_getElem? (i := 5) rfl)) x_mn)))))))))))))))))))))))) (x_mc (sb_wsX11_firstWorn_wsX11_firstWorn_r6 _ (List.mem_of_getElem? (i := 6) rfl)) (x_mc (sb_wsX11_firstWorn_wsX11_firstWorn_r6 _ (List.mem_of_getElem? (i := 7) rfl)) (x_mc (sb_wsX11_firstWorn_wsX11_firstWorn_r6 _ (List.mem_of_getElem? (i := 8) rfl)) (x_mc (sb_wsX11_firstWorn_wsX11_firstWorn_r6 _ (List.mem_of_getElem? (i := 9) rfl)) (x_mc (sb_wsX11_firstWorn_wsX11_firstWorn_r6 _ (List.mem_of_getElem? (i := 10) rfl)) (x_mc (sb_wsX11_firstWorn_wsX11_firstWorn_r6 _ (List.mem_of_getElem? (i := 11) rfl)) (x_mc (sb_wsX11_firstWorn_wsX11_firstWorn_r6 _ (List.mem_of_getElem? (i := 12) rfl)) (x_mc (sb_wsX11_firstWorn_wsX11_firstWorn_r6 _ (List.mem_of_getElem? (i := 13) rfl)) (x_mc (sb_wsX11_firstWorn_wsX11_firstWorn_r6 _ (List.mem_of_getElem? (i := 14) rfl)) (x_mc (sb_wsX11_firstWorn_wsX11_firstWorn_r6 _ (List.mem_of_getElem? (i := 15) rfl)) (x_mc (sb_wsX11_firstWorn_wsX11_firstWorn_r6 _ (List.mem_of_getElem? (i := 16) rfl)) (x_mc (sb_wsX11_firstWorn_wsX11_firstWorn_r6 _ (List.mem_of_getElem? (i := 17) rfl)) (x_mc (sb_wsX11_firstWorn_wsX11_firstWorn_r6 _ (List.mem_of_getElem? (i := 18) rfl)) (x_mc (sb_wsX11_firstWorn_wsX11_firstWorn_r6 _ (List.mem_of_getElem? (i := 19) rfl)) x_mn))))))))))))))))))) (fun _ h => sb_wsX11_firstWorn_wsX110 _ h)) (fun _ h => sb_wsX11_firstWorn_wsX00 _ h)) (fun _ h => sb_wsX11_firstWorn_wsX10 _ h)) (fun _ h => sb_wsX11_firstWorn_wsX20 _ h)) (fun _ h => sb_wsX11_firstWorn_wsX30 _ h)) (fun _ h => sb_wsX11_firstWorn_wsX40 _ h)) (fun _ h => sb_wsX11_firstWorn_wsX100 _ h)) (fun _ h => sb_wsX11_firstWorn_wsX60 _ h)) (fun _ h => sb_wsX11_firstWorn_wsX50 _ h)) (fun _ h => sb_wsX11_firstWorn_wsX90 _ h))) (by decide +kernel)
set_option maxRecDepth 20000 in
theorem gX11_firstWorn_X11_days : GoodIn wsX11_firstWorn (wsV RX11 292 RX11 yX11_days wsX11_days) := goodIn_app (goodIn_of _ (by decide +kernel)) ggX11_firstWorn_X11_days
theorem dX11_firstWorn_0 : decode cX11_firstWorn 0 = .ok (.iconst (-1), 1) := by decide +kernel
theorem dX11_firstWorn_1 : decode cX11_firstWorn 1 = .ok (.istore_n 2, 1) := by decide +kernel
theorem dX11_firstWorn_2 : decode cX11_firstWorn 2 = .ok (.iconst 0, 1) := by decide +kernel
theorem dX11_firstWorn_3 : decode cX11_firstWorn 3 = .ok (.istore_n 3, 1) := by decide +kernel
theorem dX11_firstWorn_4 : decode cX11_firstWorn 4 = .ok (.iconst 0, 1) := by decide +kernel
theorem dX11_firstWorn_5 : decode cX11_firstWorn 5 = .ok (.istore 4, 2) := by decide +kernel
theorem dX11_firstWorn_7 : decode cX11_firstWorn 7 = .ok (.iload 4, 2) := by decide +kernel
theorem dX11_firstWorn_9 : decode cX11_firstWorn 9 = .ok (.aload_n 0, 1) := by decide +kernel
theorem dX11_firstWorn_10 : decode cX11_firstWorn 10 = .ok (.getfield 10, 3) := by decide +kernel
theorem dX11_firstWorn_13 : decode cX11_firstWorn 13 = .ok (.getfield 145, 3) := by decide +kernel
theorem dX11_firstWorn_16 : decode cX11_firstWorn 16 = .ok (.if_icmp .ge 49, 3) := by decide +kernel
theorem dX11_firstWorn_19 : decode cX11_firstWorn 19 = .ok (.aload_n 0, 1) := by decide +kernel
theorem dX11_firstWorn_20 : decode cX11_firstWorn 20 = .ok (.aload_n 0, 1) := by decide +kernel
theorem dX11_firstWorn_21 : decode cX11_firstWorn 21 = .ok (.getfield 10, 3) := by decide +kernel
theorem dX11_firstWorn_24 : decode cX11_firstWorn 24 = .ok (.getfield 163, 3) := by decide +kernel
theorem dX11_firstWorn_27 : decode cX11_firstWorn 27 = .ok (.iload 4, 2) := by decide +kernel
theorem dX11_firstWorn_29 : decode cX11_firstWorn 29 = .ok (.aaload, 1) := by decide +kernel
theorem dX11_firstWorn_30 : decode cX11_firstWorn 30 = .ok (.iload_n 1, 1) := by decide +kernel
theorem dX11_firstWorn_31 : decode cX11_firstWorn 31 = .ok (.invokevirtual 292, 3) := by decide +kernel
theorem dX11_firstWorn_34 : decode cX11_firstWorn 34 = .ok (.istore 5, 2) := by decide +kernel
theorem dX11_firstWorn_36 : decode cX11_firstWorn 36 = .ok (.iload 5, 2) := by decide +kernel
theorem dX11_firstWorn_38 : decode cX11_firstWorn 38 = .ok (.iconst (-1), 1) := by decide +kernel
theorem dX11_firstWorn_39 : decode cX11_firstWorn 39 = .ok (.if_icmp .eq 20, 3) := by decide +kernel
theorem dX11_firstWorn_42 : decode cX11_firstWorn 42 = .ok (.iload_n 2, 1) := by decide +kernel
theorem dX11_firstWorn_43 : decode cX11_firstWorn 43 = .ok (.iconst (-1), 1) := by decide +kernel
theorem dX11_firstWorn_44 : decode cX11_firstWorn 44 = .ok (.if_icmp .eq 9, 3) := by decide +kernel
theorem dX11_firstWorn_47 : decode cX11_firstWorn 47 = .ok (.iload 5, 2) := by decide +kernel
theorem dX11_firstWorn_49 : decode cX11_firstWorn 49 = .ok (.iload_n 3, 1) := by decide +kernel
theorem dX11_firstWorn_50 : decode cX11_firstWorn 50 = .ok (.if_icmp .ge 9, 3) := by decide +kernel
theorem dX11_firstWorn_53 : decode cX11_firstWorn 53 = .ok (.iload 4, 2) := by decide +kernel
theorem dX11_firstWorn_55 : decode cX11_firstWorn 55 = .ok (.istore_n 2, 1) := by decide +kernel
theorem dX11_firstWorn_56 : decode cX11_firstWorn 56 = .ok (.iload 5, 2) := by decide +kernel
theorem dX11_firstWorn_58 : decode cX11_firstWorn 58 = .ok (.istore_n 3, 1) := by decide +kernel
theorem dX11_firstWorn_59 : decode cX11_firstWorn 59 = .ok (.iinc 4 1, 3) := by decide +kernel
theorem dX11_firstWorn_62 : decode cX11_firstWorn 62 = .ok (.goto (-55), 3) := by decide +kernel
theorem dX11_firstWorn_65 : decode cX11_firstWorn 65 = .ok (.iload_n 2, 1) := by decide +kernel
theorem dX11_firstWorn_66 : decode cX11_firstWorn 66 = .ok (.ireturn, 1) := by decide +kernel
theorem sb_wsX11_firstOrder_wsX110 : ∀ w ∈ wsX110, w ∈ wsX11_firstOrder := fun _ h => (List.mem_cons_of_mem _ (List.mem_append_left _ (List.mem_append_left _ (List.mem_append_left _ (List.mem_append_left _ (List.mem_append_left _ (List.mem_append_left _ (List.mem_append_left _ (List.mem_append_right _ h)))))))))
theorem sb_wsX11_firstOrder_wsX60 : ∀ w ∈ wsX60, w ∈ wsX11_firstOrder := fun _ h => (List.mem_cons_of_mem _ (List.mem_append_left _ (List.mem_append_left _ (List.mem_append_left _ (List.mem_append_left _ (List.mem_append_left _ (List.mem_append_left _ (List.mem_append_right _ h))))))))
theorem sb_wsX11_firstOrder_wsX00 : ∀ w ∈ wsX00, w ∈ wsX11_firstOrder := fun _ h => (List.mem_cons_of_mem _ (List.mem_append_left _ (List.mem_append_left _ (List.mem_append_left _ (List.mem_append_left _ (List.mem_append_left _ (List.mem_append_right _ h)))))))
theorem sb_wsX11_firstOrder_wsX10 : ∀ w ∈ wsX10, w ∈ wsX11_firstOrder := fun _ h => (List.mem_cons_of_mem _ (List.mem_append_left _ (List.mem_append_left _ (List.mem_append_left _ (List.mem_append_left _ (List.mem_append_right _ h))))))
theorem sb_wsX11_firstOrder_wsX20 : ∀ w ∈ wsX20, w ∈ wsX11_firstOrder := fun _ h => (List.mem_cons_of_mem _ (List.mem_append_left _ (List.mem_append_left _ (List.mem_append_left _ (List.mem_append_right _ h)))))
theorem sb_wsX11_firstOrder_wsX30 : ∀ w ∈ wsX30, w ∈ wsX11_firstOrder := fun _ h => (List.mem_cons_of_mem _ (List.mem_append_left _ (List.mem_append_left _ (List.mem_append_right _ h))))
theorem sb_wsX11_firstOrder_wsX40 : ∀ w ∈ wsX40, w ∈ wsX11_firstOrder := fun _ h => (List.mem_cons_of_mem _ (List.mem_append_left _ (List.mem_append_right _ h)))
theorem sb_wsX11_firstOrder_wsX100 : ∀ w ∈ wsX100, w ∈ wsX11_firstOrder := fun _ h => (List.mem_cons_of_mem _ (List.mem_append_right _ h))
set_option maxRecDepth 20000 in
theorem ggX11_firstOrder_X6_beltsOn : GoodIn wsX11_firstOrder wsX6_beltsOn := goodIn_sub (x_mc (List.mem_cons_of_mem _ (List.mem_append_left _ (List.mem_append_left _ (List.mem_append_left _ (List.mem_append_left _ (List.mem_append_left _ (List.mem_append_left _ (List.mem_append_left _ (List.mem_append_left _ (List.mem_of_getElem? (i := 7) rfl)))))))))) (x_ina (x_ina (x_ina (x_ina (x_ina (x_ina (x_ina (x_mc (List.mem_cons_of_mem _ (List.mem_append_left _ (List.mem_append_left _ (List.mem_append_left _ (List.mem_append_left _ (List.mem_append_left _ (List.mem_append_left _ (List.mem_append_left _ (List.mem_append_left _ (List.mem_of_getElem? (i := 8) rfl)))))))))) (x_mc (List.mem_cons_of_mem _ (List.mem_append_left _ (List.mem_append_left _ (List.mem_append_left _ (List.mem_append_left _ (List.mem_append_left _ (List.mem_append_left _ (List.mem_append_left _ (List.mem_append_left _ (List.mem_of_getElem? (i := 9) rfl)))))))))) (x_mc (List.mem_cons_of_mem _ (List.mem_append_left _ (List.mem_append_left _ (List.mem_append_left _ (List.mem_append_left _ (List.mem_append_left _ (List.mem_append_left _ (List.mem_append_left _ (List.mem_append_left _ (List.mem_of_getElem? (i := 10) rfl)))))))))) x_mn))) (fun _ h => sb_wsX11_firstOrder_wsX60 _ h)) (fun _ h => sb_wsX11_firstOrder_wsX00 _ h)) (fun _ h => sb_wsX11_firstOrder_wsX10 _ h)) (fun _ h => sb_wsX11_firstOrder_wsX20 _ h)) (fun _ h => sb_wsX11_firstOrder_wsX30 _ h)) (fun _ h => sb_wsX11_firstOrder_wsX40 _ h)) (fun _ h => sb_wsX11_firstOrder_wsX100 _ h))) (by decide +kernel)
set_option maxRecDepth 20000 in
theorem gX11_firstOrder_X6_beltsOn : GoodIn wsX11_firstOrder (wsV RX11 428 RX6 yX6_beltsOn wsX6_beltsOn) := goodIn_app (goodIn_of _ (by decide +kernel)) ggX11_firstOrder_X6_beltsOn
set_option maxRecDepth 20000 in
theorem ggX11_firstOrder_X11_firstOnTurning : GoodIn wsX11_firstOrder wsX11_firstOnTurning := goodIn_sub (x_mc (List.mem_cons_of_mem _ (List.mem_append_left _ (List.mem_append_left _ (List.mem_append_left _ (List.mem_append_left _ (List.mem_append_left _ (List.mem_append_left _ (List.mem_append_left _ (List.mem_append_left _ (List.mem_of_getElem? (i := 15) rfl)))))))))) (x_ina (x_ina (x_ina (x_ina (x_ina (x_ina (x_ina (x_ina (x_mc (List.mem_cons_of_mem _ (List.mem_append_left _ (List.mem_append_left _ (List.mem_append_left _ (List.mem_append_left _ (List.mem_append_left _ (List.mem_append_left _ (List.mem_append_left _ (List.mem_append_left _ (List.mem_of_getElem? (i := 0) rfl)))))))))) (x_mc (List.mem_cons_of_mem _ (List.mem_append_left _ (List.mem_append_left _ (List.mem_append_left _ (List.mem_append_left _ (List.mem_append_left _ (List.mem_append_left _ (List.mem_append_left _ (List.mem_append_left _ (List.mem_of_getElem? (i := 16) rfl)))))))))) (x_mc (List.mem_cons_of_mem _ (List.mem_append_left _ (List.mem_append_left _ (List.mem_append_left _ (List.mem_append_left _ (List.mem_append_left _ (List.mem_append_left _ (List.mem_append_left _ (List.mem_append_left _ (List.mem_of_getElem? (i := 1) rfl)))))))))) (x_mc (List.mem_cons_of_mem _ (List.mem_append_left _ (List.mem_append_left _ (List.mem_append_left _ (List.mem_append_left _ (List.mem_append_left _ (List.mem_append_left _ (List.mem_append_left _ (List.mem_append_left _ (List.mem_of_getElem? (i := 17) rfl)))))))))) (x_mc (List.mem_cons_of_mem _ (List.mem_append_left _ (List.mem_append_left _ (List.mem_append_left _ (List.mem_append_left _ (List.mem_append_left _ (List.mem_append_left _ (List.mem_append_left _ (List.mem_append_left _ (List.mem_of_getElem? (i := 18) rfl)))))))))) x_mn))))) (fun _ h => sb_wsX11_firstOrder_wsX110 _ h)) (fun _ h => sb_wsX11_firstOrder_wsX60 _ h)) (fun _ h => sb_wsX11_firstOrder_wsX00 _ h)) (fun _ h => sb_wsX11_firstOrder_wsX10 _ h)) (fun _ h => sb_wsX11_firstOrder_wsX20 _ h)) (fun _ h => sb_wsX11_firstOrder_wsX30 _ h)) (fun _ h => sb_wsX11_firstOrder_wsX40 _ h)) (fun _ h => sb_wsX11_firstOrder_wsX100 _ h))) (by decide +kernel)
set_option maxRecDepth 20000 in
theorem gX11_firstOrder_X11_firstOnTurning : GoodIn wsX11_firstOrder (wsV RX11 431 RX11 yX11_firstOnTurning wsX11_firstOnTurning) := goodIn_app (goodIn_of _ (by decide +kernel)) ggX11_firstOrder_X11_firstOnTurning
theorem dX11_firstOrder_0 : decode cX11_firstOrder 0 = .ok (.iconst 0, 1) := by decide +kernel
theorem dX11_firstOrder_1 : decode cX11_firstOrder 1 = .ok (.istore_n 1, 1) := by decide +kernel
theorem dX11_firstOrder_2 : decode cX11_firstOrder 2 = .ok (.iconst 0, 1) := by decide +kernel
theorem dX11_firstOrder_3 : decode cX11_firstOrder 3 = .ok (.istore_n 2, 1) := by decide +kernel
theorem dX11_firstOrder_4 : decode cX11_firstOrder 4 = .ok (.iconst 1, 1) := by decide +kernel
theorem dX11_firstOrder_5 : decode cX11_firstOrder 5 = .ok (.istore_n 3, 1) := by decide +kernel
theorem dX11_firstOrder_6 : decode cX11_firstOrder 6 = .ok (.aload_n 0, 1) := by decide +kernel
theorem dX11_firstOrder_7 : decode cX11_firstOrder 7 = .ok (.getfield 10, 3) := by decide +kernel
theorem dX11_firstOrder_10 : decode cX11_firstOrder 10 = .ok (.invokevirtual 428, 3) := by decide +kernel
theorem dX11_firstOrder_13 : decode cX11_firstOrder 13 = .ok (.istore 4, 2) := by decide +kernel
theorem dX11_firstOrder_15 : decode cX11_firstOrder 15 = .ok (.iload 4, 2) := by decide +kernel
theorem dX11_firstOrder_17 : decode cX11_firstOrder 17 = .ok (.ifCond .le 58, 3) := by decide +kernel
theorem dX11_firstOrder_20 : decode cX11_firstOrder 20 = .ok (.aload_n 0, 1) := by decide +kernel
theorem dX11_firstOrder_21 : decode cX11_firstOrder 21 = .ok (.iload_n 3, 1) := by decide +kernel
theorem dX11_firstOrder_22 : decode cX11_firstOrder 22 = .ok (.iload_n 2, 1) := by decide +kernel
theorem dX11_firstOrder_23 : decode cX11_firstOrder 23 = .ok (.invokevirtual 431, 3) := by decide +kernel
theorem dX11_firstOrder_26 : decode cX11_firstOrder 26 = .ok (.istore 5, 2) := by decide +kernel
theorem dX11_firstOrder_28 : decode cX11_firstOrder 28 = .ok (.iload 5, 2) := by decide +kernel
theorem dX11_firstOrder_30 : decode cX11_firstOrder 30 = .ok (.iconst (-1), 1) := by decide +kernel
theorem dX11_firstOrder_31 : decode cX11_firstOrder 31 = .ok (.if_icmp .ne 5, 3) := by decide +kernel
theorem dX11_firstOrder_34 : decode cX11_firstOrder 34 = .ok (.iconst (-1), 1) := by decide +kernel
theorem dX11_firstOrder_35 : decode cX11_firstOrder 35 = .ok (.ireturn, 1) := by decide +kernel
theorem dX11_firstOrder_36 : decode cX11_firstOrder 36 = .ok (.iload_n 1, 1) := by decide +kernel
theorem dX11_firstOrder_37 : decode cX11_firstOrder 37 = .ok (.bipush 10, 2) := by decide +kernel
theorem dX11_firstOrder_39 : decode cX11_firstOrder 39 = .ok (.imul, 1) := by decide +kernel
theorem dX11_firstOrder_40 : decode cX11_firstOrder 40 = .ok (.iload 5, 2) := by decide +kernel
theorem dX11_firstOrder_42 : decode cX11_firstOrder 42 = .ok (.iadd, 1) := by decide +kernel
theorem dX11_firstOrder_43 : decode cX11_firstOrder 43 = .ok (.istore_n 1, 1) := by decide +kernel
theorem dX11_firstOrder_44 : decode cX11_firstOrder 44 = .ok (.iload_n 2, 1) := by decide +kernel
theorem dX11_firstOrder_45 : decode cX11_firstOrder 45 = .ok (.iconst 1, 1) := by decide +kernel
theorem dX11_firstOrder_46 : decode cX11_firstOrder 46 = .ok (.iload 5, 2) := by decide +kernel
theorem dX11_firstOrder_48 : decode cX11_firstOrder 48 = .ok (.ishl, 1) := by decide +kernel
theorem dX11_firstOrder_49 : decode cX11_firstOrder 49 = .ok (.ior, 1) := by decide +kernel
theorem dX11_firstOrder_50 : decode cX11_firstOrder 50 = .ok (.istore_n 2, 1) := by decide +kernel
theorem dX11_firstOrder_51 : decode cX11_firstOrder 51 = .ok (.iload_n 3, 1) := by decide +kernel
theorem dX11_firstOrder_52 : decode cX11_firstOrder 52 = .ok (.iconst 1, 1) := by decide +kernel
theorem dX11_firstOrder_53 : decode cX11_firstOrder 53 = .ok (.aload_n 0, 1) := by decide +kernel
theorem dX11_firstOrder_54 : decode cX11_firstOrder 54 = .ok (.getfield 10, 3) := by decide +kernel
theorem dX11_firstOrder_57 : decode cX11_firstOrder 57 = .ok (.getfield 163, 3) := by decide +kernel
theorem dX11_firstOrder_60 : decode cX11_firstOrder 60 = .ok (.iload 5, 2) := by decide +kernel
theorem dX11_firstOrder_62 : decode cX11_firstOrder 62 = .ok (.aaload, 1) := by decide +kernel
theorem dX11_firstOrder_63 : decode cX11_firstOrder 63 = .ok (.getfield 185, 3) := by decide +kernel
theorem dX11_firstOrder_66 : decode cX11_firstOrder 66 = .ok (.ishl, 1) := by decide +kernel
theorem dX11_firstOrder_67 : decode cX11_firstOrder 67 = .ok (.ior, 1) := by decide +kernel
theorem dX11_firstOrder_68 : decode cX11_firstOrder 68 = .ok (.istore_n 3, 1) := by decide +kernel
theorem dX11_firstOrder_69 : decode cX11_firstOrder 69 = .ok (.iinc 4 (-1), 3) := by decide +kernel
theorem dX11_firstOrder_72 : decode cX11_firstOrder 72 = .ok (.goto (-57), 3) := by decide +kernel
theorem dX11_firstOrder_75 : decode cX11_firstOrder 75 = .ok (.iload_n 1, 1) := by decide +kernel
theorem dX11_firstOrder_76 : decode cX11_firstOrder 76 = .ok (.ireturn, 1) := by decide +kernel
theorem dX11_firstOnTurning_0 : decode cX11_firstOnTurning 0 = .ok (.iconst 0, 1) := by decide +kernel
theorem dX11_firstOnTurning_1 : decode cX11_firstOnTurning 1 = .ok (.istore_n 3, 1) := by decide +kernel
theorem dX11_firstOnTurning_2 : decode cX11_firstOnTurning 2 = .ok (.iload_n 3, 1) := by decide +kernel
theorem dX11_firstOnTurning_3 : decode cX11_firstOnTurning 3 = .ok (.aload_n 0, 1) := by decide +kernel
theorem dX11_firstOnTurning_4 : decode cX11_firstOnTurning 4 = .ok (.getfield 10, 3) := by decide +kernel
theorem dX11_firstOnTurning_7 : decode cX11_firstOnTurning 7 = .ok (.getfield 145, 3) := by decide +kernel
theorem dX11_firstOnTurning_10 : decode cX11_firstOnTurning 10 = .ok (.if_icmp .ge 51, 3) := by decide +kernel
theorem dX11_firstOnTurning_13 : decode cX11_firstOnTurning 13 = .ok (.aload_n 0, 1) := by decide +kernel
theorem dX11_firstOnTurning_14 : decode cX11_firstOnTurning 14 = .ok (.getfield 10, 3) := by decide +kernel
theorem dX11_firstOnTurning_17 : decode cX11_firstOnTurning 17 = .ok (.getfield 163, 3) := by decide +kernel
theorem dX11_firstOnTurning_20 : decode cX11_firstOnTurning 20 = .ok (.iload_n 3, 1) := by decide +kernel
theorem dX11_firstOnTurning_21 : decode cX11_firstOnTurning 21 = .ok (.aaload, 1) := by decide +kernel
theorem dX11_firstOnTurning_22 : decode cX11_firstOnTurning 22 = .ok (.astore 4, 2) := by decide +kernel
theorem dX11_firstOnTurning_24 : decode cX11_firstOnTurning 24 = .ok (.aload 4, 2) := by decide +kernel
theorem dX11_firstOnTurning_26 : decode cX11_firstOnTurning 26 = .ok (.getfield 167, 3) := by decide +kernel
theorem dX11_firstOnTurning_29 : decode cX11_firstOnTurning 29 = .ok (.ifCond .eq 26, 3) := by decide +kernel
theorem dX11_firstOnTurning_32 : decode cX11_firstOnTurning 32 = .ok (.iload_n 2, 1) := by decide +kernel
theorem dX11_firstOnTurning_33 : decode cX11_firstOnTurning 33 = .ok (.iload_n 3, 1) := by decide +kernel
theorem dX11_firstOnTurning_34 : decode cX11_firstOnTurning 34 = .ok (.ishr, 1) := by decide +kernel
theorem dX11_firstOnTurning_35 : decode cX11_firstOnTurning 35 = .ok (.iconst 1, 1) := by decide +kernel
theorem dX11_firstOnTurning_36 : decode cX11_firstOnTurning 36 = .ok (.iand, 1) := by decide +kernel
theorem dX11_firstOnTurning_37 : decode cX11_firstOnTurning 37 = .ok (.ifCond .ne 18, 3) := by decide +kernel
theorem dX11_firstOnTurning_40 : decode cX11_firstOnTurning 40 = .ok (.iload_n 1, 1) := by decide +kernel
theorem dX11_firstOnTurning_41 : decode cX11_firstOnTurning 41 = .ok (.aload 4, 2) := by decide +kernel
theorem dX11_firstOnTurning_43 : decode cX11_firstOnTurning 43 = .ok (.getfield 182, 3) := by decide +kernel
theorem dX11_firstOnTurning_46 : decode cX11_firstOnTurning 46 = .ok (.ishr, 1) := by decide +kernel
theorem dX11_firstOnTurning_47 : decode cX11_firstOnTurning 47 = .ok (.iconst 1, 1) := by decide +kernel
theorem dX11_firstOnTurning_48 : decode cX11_firstOnTurning 48 = .ok (.iand, 1) := by decide +kernel
theorem dX11_firstOnTurning_49 : decode cX11_firstOnTurning 49 = .ok (.iconst 1, 1) := by decide +kernel
theorem dX11_firstOnTurning_50 : decode cX11_firstOnTurning 50 = .ok (.if_icmp .ne 5, 3) := by decide +kernel
theorem dX11_firstOnTurning_53 : decode cX11_firstOnTurning 53 = .ok (.iload_n 3, 1) := by decide +kernel
theorem dX11_firstOnTurning_54 : decode cX11_firstOnTurning 54 = .ok (.ireturn, 1) := by decide +kernel
theorem dX11_firstOnTurning_55 : decode cX11_firstOnTurning 55 = .ok (.iinc 3 1, 3) := by decide +kernel
theorem dX11_firstOnTurning_58 : decode cX11_firstOnTurning 58 = .ok (.goto (-56), 3) := by decide +kernel
theorem dX11_firstOnTurning_61 : decode cX11_firstOnTurning 61 = .ok (.iconst (-1), 1) := by decide +kernel
theorem dX11_firstOnTurning_62 : decode cX11_firstOnTurning 62 = .ok (.ireturn, 1) := by decide +kernel
theorem sb_wsX11_mostJerk_wsX11_mostJerk_r1 : ∀ w ∈ wsX11_mostJerk_r1, w ∈ wsX11_mostJerk := fun _ h => (List.mem_cons_of_mem _ (List.mem_append_left _ (List.mem_append_left _ (List.mem_append_left _ (List.mem_append_left _ (List.mem_append_left _ (List.mem_append_left _ (List.mem_append_left _ (List.mem_append_left _ (List.mem_append_left _ (List.mem_append_left _ h)))))))))))
theorem sb_wsX11_mostJerk_wsX11_mostJerk_r2 : ∀ w ∈ wsX11_mostJerk_r2, w ∈ wsX11_mostJerk := fun _ h => (List.mem_cons_of_mem _ (List.mem_append_left _ (List.mem_append_left _ (List.mem_append_left _ (List.mem_append_left _ (List.mem_append_left _ (List.mem_append_left _ (List.mem_append_left _ (List.mem_append_left _ (List.mem_append_left _ (List.mem_append_right _ h)))))))))))
theorem sb_wsX11_mostJerk_wsX110 : ∀ w ∈ wsX110, w ∈ wsX11_mostJerk := fun _ h => (List.mem_cons_of_mem _ (List.mem_append_left _ (List.mem_append_left _ (List.mem_append_left _ (List.mem_append_left _ (List.mem_append_left _ (List.mem_append_left _ (List.mem_append_left _ (List.mem_append_left _ (List.mem_append_right _ h))))))))))
theorem sb_wsX11_mostJerk_wsX60 : ∀ w ∈ wsX60, w ∈ wsX11_mostJerk := fun _ h => (List.mem_cons_of_mem _ (List.mem_append_left _ (List.mem_append_left _ (List.mem_append_left _ (List.mem_append_left _ (List.mem_append_left _ (List.mem_append_left _ (List.mem_append_left _ (List.mem_append_right _ h)))))))))
theorem sb_wsX11_mostJerk_wsX00 : ∀ w ∈ wsX00, w ∈ wsX11_mostJerk := fun _ h => (List.mem_cons_of_mem _ (List.mem_append_left _ (List.mem_append_left _ (List.mem_append_left _ (List.mem_append_left _ (List.mem_append_left _ (List.mem_append_left _ (List.mem_append_right _ h))))))))
theorem sb_wsX11_mostJerk_wsX10 : ∀ w ∈ wsX10, w ∈ wsX11_mostJerk := fun _ h => (List.mem_cons_of_mem _ (List.mem_append_left _ (List.mem_append_left _ (List.mem_append_left _ (List.mem_append_left _ (List.mem_append_left _ (List.mem_append_right _ h)))))))
theorem sb_wsX11_mostJerk_wsX20 : ∀ w ∈ wsX20, w ∈ wsX11_mostJerk := fun _ h => (List.mem_cons_of_mem _ (List.mem_append_left _ (List.mem_append_left _ (List.mem_append_left _ (List.mem_append_left _ (List.mem_append_right _ h))))))
theorem sb_wsX11_mostJerk_wsX30 : ∀ w ∈ wsX30, w ∈ wsX11_mostJerk := fun _ h => (List.mem_cons_of_mem _ (List.mem_append_left _ (List.mem_append_left _ (List.mem_append_left _ (List.mem_append_right _ h)))))
theorem sb_wsX11_mostJerk_wsX40 : ∀ w ∈ wsX40, w ∈ wsX11_mostJerk := fun _ h => (List.mem_cons_of_mem _ (List.mem_append_left _ (List.mem_append_left _ (List.mem_append_right _ h))))
theorem sb_wsX11_mostJerk_wsX100 : ∀ w ∈ wsX100, w ∈ wsX11_mostJerk := fun _ h => (List.mem_cons_of_mem _ (List.mem_append_left _ (List.mem_append_right _ h)))
theorem sb_wsX11_mostJerk_wsX50 : ∀ w ∈ wsX50, w ∈ wsX11_mostJerk := fun _ h => (List.mem_cons_of_mem _ (List.mem_append_right _ h))
set_option maxRecDepth 20000 in
theorem ggX11_mostJerk_X6_loadedOn : GoodIn wsX11_mostJerk wsX6_loadedOn := goodIn_sub (x_mc (sb_wsX11_mostJerk_wsX11_mostJerk_r1 _ (List.mem_of_getElem? (i := 13) rfl)) (x_ina (x_ina (x_ina (x_mc (sb_wsX11_mostJerk_wsX11_mostJerk_r1 _ (List.mem_of_getElem? (i := 14) rfl)) (x_mc (sb_wsX11_mostJerk_wsX11_mostJerk_r1 _ (List.mem_of_getElem? (i := 15) rfl)) (x_mc (sb_wsX11_mostJerk_wsX11_mostJerk_r1 _ (List.mem_of_getElem? (i := 16) rfl)) (x_mc (sb_wsX11_mostJerk_wsX11_mostJerk_r1 _ (List.mem_of_getElem? (i := 17) rfl)) (x_mc (sb_wsX11_mostJerk_wsX11_mostJerk_r1 _ (List.mem_of_getElem? (i := 18) rfl)) (x_mc (sb_wsX11_mostJerk_wsX11_mostJerk_r1 _ (List.mem_of_getElem? (i := 19) rfl)) (x_mc (sb_wsX11_mostJerk_wsX11_mostJerk_r1 _ (List.mem_of_getElem? (i := 20) rfl)) (x_mc (sb_wsX11_mostJerk_wsX11_mostJerk_r1 _ (List.mem_of_getElem? (i := 21) rfl)) (x_mc (sb_wsX11_mostJerk_wsX11_mostJerk_r1 _ (List.mem_of_getElem? (i := 12) rfl)) (x_mc (sb_wsX11_mostJerk_wsX11_mostJerk_r1 _ (List.mem_of_getElem? (i := 22) rfl)) (x_mc (sb_wsX11_mostJerk_wsX11_mostJerk_r1 _ (List.mem_of_getElem? (i := 23) rfl)) (x_mc (sb_wsX11_mostJerk_wsX11_mostJerk_r2 _ (List.mem_of_getElem? (i := 0) rfl)) (x_mc (sb_wsX11_mostJerk_wsX11_mostJerk_r2 _ (List.mem_of_getElem? (i := 1) rfl)) (x_mc (sb_wsX11_mostJerk_wsX11_mostJerk_r2 _ (List.mem_of_getElem? (i := 2) rfl)) (x_mc (sb_wsX11_mostJerk_wsX11_mostJerk_r2 _ (List.mem_of_getElem? (i := 3) rfl)) (x_mc (sb_wsX11_mostJerk_wsX11_mostJerk_r2 _ (List.mem_of_getElem? (i := 4) rfl)) (x_mc (sb_wsX11_mostJerk_wsX11_mostJerk_r2 _ (List.mem_of_getElem? (i := 5) rfl)) (x_mc (sb_wsX11_mostJerk_wsX11_mostJerk_r2 _ (List.mem_of_getElem? (i := 6) rfl)) (x_mc (sb_wsX11_mostJerk_wsX11_mostJerk_r2 _ (List.mem_of_getElem? (i := 7) rfl)) (x_mc (sb_wsX11_mostJerk_wsX11_mostJerk_r2 _ (List.mem_of_getElem? (i := 8) rfl)) (x_mc (sb_wsX11_mostJerk_wsX11_mostJerk_r1 _ (List.mem_of_getElem? (i := 7) rfl)) (x_mc (sb_wsX11_mostJerk_wsX11_mostJerk_r2 _ (List.mem_of_getElem? (i := 9) rfl)) (x_mc (sb_wsX11_mostJerk_wsX11_mostJerk_r2 _ (List.mem_of_getElem? (i := 10) rfl)) (x_mc (sb_wsX11_mostJerk_wsX11_mostJerk_r2 _ (List.mem_of_getElem? (i := 11) rfl)) x_mn)))))))))))))))))))))))) (x_mc (sb_wsX11_mostJerk_wsX11_mostJerk_r2 _ (List.mem_of_getElem? (i := 12) rfl)) x_mn)) (fun _ h => sb_wsX11_mostJerk_wsX60 _ h)) (fun _ h => sb_wsX11_mostJerk_wsX50 _ h))) (by decide +kernel)
set_option maxRecDepth 20000 in
theorem gX11_mostJerk_X6_loadedOn : GoodIn wsX11_mostJerk (wsV RX11 434 RX6 yX6_loadedOn wsX6_loadedOn) := goodIn_app (goodIn_of _ (by decide +kernel)) ggX11_mostJerk_X6_loadedOn
theorem dX11_mostJerk_0 : decode cX11_mostJerk 0 = .ok (.iconst 0, 1) := by decide +kernel
theorem dX11_mostJerk_1 : decode cX11_mostJerk 1 = .ok (.istore_n 1, 1) := by decide +kernel
theorem dX11_mostJerk_2 : decode cX11_mostJerk 2 = .ok (.iconst 0, 1) := by decide +kernel
theorem dX11_mostJerk_3 : decode cX11_mostJerk 3 = .ok (.istore_n 2, 1) := by decide +kernel
theorem dX11_mostJerk_4 : decode cX11_mostJerk 4 = .ok (.iload_n 2, 1) := by decide +kernel
theorem dX11_mostJerk_5 : decode cX11_mostJerk 5 = .ok (.aload_n 0, 1) := by decide +kernel
theorem dX11_mostJerk_6 : decode cX11_mostJerk 6 = .ok (.getfield 10, 3) := by decide +kernel
theorem dX11_mostJerk_9 : decode cX11_mostJerk 9 = .ok (.getfield 145, 3) := by decide +kernel
theorem dX11_mostJerk_12 : decode cX11_mostJerk 12 = .ok (.if_icmp .ge 44, 3) := by decide +kernel
theorem dX11_mostJerk_15 : decode cX11_mostJerk 15 = .ok (.aload_n 0, 1) := by decide +kernel
theorem dX11_mostJerk_16 : decode cX11_mostJerk 16 = .ok (.getfield 10, 3) := by decide +kernel
theorem dX11_mostJerk_19 : decode cX11_mostJerk 19 = .ok (.getfield 163, 3) := by decide +kernel
theorem dX11_mostJerk_22 : decode cX11_mostJerk 22 = .ok (.iload_n 2, 1) := by decide +kernel
theorem dX11_mostJerk_23 : decode cX11_mostJerk 23 = .ok (.aaload, 1) := by decide +kernel
theorem dX11_mostJerk_24 : decode cX11_mostJerk 24 = .ok (.astore_n 3, 1) := by decide +kernel
theorem dX11_mostJerk_25 : decode cX11_mostJerk 25 = .ok (.aload_n 3, 1) := by decide +kernel
theorem dX11_mostJerk_26 : decode cX11_mostJerk 26 = .ok (.getfield 167, 3) := by decide +kernel
theorem dX11_mostJerk_29 : decode cX11_mostJerk 29 = .ok (.ifCond .eq 21, 3) := by decide +kernel
theorem dX11_mostJerk_32 : decode cX11_mostJerk 32 = .ok (.iload_n 1, 1) := by decide +kernel
theorem dX11_mostJerk_33 : decode cX11_mostJerk 33 = .ok (.aload_n 0, 1) := by decide +kernel
theorem dX11_mostJerk_34 : decode cX11_mostJerk 34 = .ok (.getfield 10, 3) := by decide +kernel
theorem dX11_mostJerk_37 : decode cX11_mostJerk 37 = .ok (.iconst 1, 1) := by decide +kernel
theorem dX11_mostJerk_38 : decode cX11_mostJerk 38 = .ok (.aload_n 3, 1) := by decide +kernel
theorem dX11_mostJerk_39 : decode cX11_mostJerk 39 = .ok (.getfield 185, 3) := by decide +kernel
theorem dX11_mostJerk_42 : decode cX11_mostJerk 42 = .ok (.ishl, 1) := by decide +kernel
theorem dX11_mostJerk_43 : decode cX11_mostJerk 43 = .ok (.invokevirtual 434, 3) := by decide +kernel
theorem dX11_mostJerk_46 : decode cX11_mostJerk 46 = .ok (.invokestatic 400, 3) := by decide +kernel
theorem dX11_mostJerk_49 : decode cX11_mostJerk 49 = .ok (.istore_n 1, 1) := by decide +kernel
theorem dX11_mostJerk_50 : decode cX11_mostJerk 50 = .ok (.iinc 2 1, 3) := by decide +kernel
theorem dX11_mostJerk_53 : decode cX11_mostJerk 53 = .ok (.goto (-49), 3) := by decide +kernel
theorem dX11_mostJerk_56 : decode cX11_mostJerk 56 = .ok (.iload_n 1, 1) := by decide +kernel
theorem dX11_mostJerk_57 : decode cX11_mostJerk 57 = .ok (.ireturn, 1) := by decide +kernel
theorem dX12_in_0 : decode cX12_in 0 = .ok (.lload_n 0, 1) := by decide +kernel
theorem dX12_in_1 : decode cX12_in 1 = .ok (.lload_n 2, 1) := by decide +kernel
theorem dX12_in_2 : decode cX12_in 2 = .ok (.lcmp, 1) := by decide +kernel
theorem dX12_in_3 : decode cX12_in 3 = .ok (.ifCond .lt 14, 3) := by decide +kernel
theorem dX12_in_6 : decode cX12_in 6 = .ok (.lload_n 0, 1) := by decide +kernel
theorem dX12_in_7 : decode cX12_in 7 = .ok (.lload 4, 2) := by decide +kernel
theorem dX12_in_9 : decode cX12_in 9 = .ok (.lcmp, 1) := by decide +kernel
theorem dX12_in_10 : decode cX12_in 10 = .ok (.ifCond .gt 7, 3) := by decide +kernel
theorem dX12_in_13 : decode cX12_in 13 = .ok (.iconst 1, 1) := by decide +kernel
theorem dX12_in_14 : decode cX12_in 14 = .ok (.goto 4, 3) := by decide +kernel
theorem dX12_in_17 : decode cX12_in 17 = .ok (.iconst 0, 1) := by decide +kernel
theorem dX12_in_18 : decode cX12_in 18 = .ok (.ireturn, 1) := by decide +kernel
theorem sb_wsX12_init_wsX12_init_r1 : ∀ w ∈ wsX12_init_r1, w ∈ wsX12_init := fun _ h => (List.mem_cons_of_mem _ (List.mem_append_left _ (List.mem_append_left _ h)))
theorem sb_wsX12_init_wsX12_init_r2 : ∀ w ∈ wsX12_init_r2, w ∈ wsX12_init := fun _ h => (List.mem_cons_of_mem _ (List.mem_append_left _ (List.mem_append_right _ (List.mem_append_left _ h))))
theorem sb_wsX12_init_wsX12_init_r3 : ∀ w ∈ wsX12_init_r3, w ∈ wsX12_init := fun _ h => (List.mem_cons_of_mem _ (List.mem_append_left _ (List.mem_append_right _ (List.mem_append_right _ h))))
theorem sb_wsX12_init_wsX120 : ∀ w ∈ wsX120, w ∈ wsX12_init := fun _ h => (List.mem_cons_of_mem _ (List.mem_append_right _ h))
set_option maxRecDepth 20000 in
theorem ggX12_init_X12_spell : GoodIn wsX12_init wsX12_spell := goodIn_sub (x_mc (sb_wsX12_init_wsX12_init_r3 _ (List.mem_of_getElem? (i := 8) rfl)) (x_ina (x_mc (sb_wsX12_init_wsX12_init_r1 _ (List.mem_of_getElem? (i := 4) rfl)) (x_mc (sb_wsX12_init_wsX12_init_r3 _ (List.mem_of_getElem? (i := 9) rfl)) x_mn)) (fun _ h => sb_wsX12_init_wsX120 _ h))) (by decide +kernel)
set_option maxRecDepth 20000 in
theorem gX12_init_X12_spell : GoodIn wsX12_init (wsV RX12 126 RX12 yX12_spell wsX12_spell) := goodIn_app (goodIn_of _ (by decide +kernel)) ggX12_init_X12_spell
theorem dX12_init_0 : decode cX12_init 0 = .ok (.aload_n 0, 1) := by decide +kernel
theorem dX12_init_1 : decode cX12_init 1 = .ok (.invokespecial 7, 3) := by decide +kernel
theorem dX12_init_4 : decode cX12_init 4 = .ok (.aload_n 0, 1) := by decide +kernel
theorem dX12_init_5 : decode cX12_init 5 = .ok (.sipush 960, 3) := by decide +kernel
theorem dX12_init_8 : decode cX12_init 8 = .ok (.newarray .int, 2) := by decide +kernel
theorem dX12_init_10 : decode cX12_init 10 = .ok (.putfield 13, 3) := by decide +kernel
theorem dX12_init_13 : decode cX12_init 13 = .ok (.aload_n 0, 1) := by decide +kernel
theorem dX12_init_14 : decode cX12_init 14 = .ok (.bipush 6, 2) := by decide +kernel
theorem dX12_init_16 : decode cX12_init 16 = .ok (.newarray .int, 2) := by decide +kernel
theorem dX12_init_18 : decode cX12_init 18 = .ok (.putfield 17, 3) := by decide +kernel
theorem dX12_init_21 : decode cX12_init 21 = .ok (.aload_n 0, 1) := by decide +kernel
theorem dX12_init_22 : decode cX12_init 22 = .ok (.sipush 160, 3) := by decide +kernel
theorem dX12_init_25 : decode cX12_init 25 = .ok (.newarray .int, 2) := by decide +kernel
theorem dX12_init_27 : decode cX12_init 27 = .ok (.putfield 20, 3) := by decide +kernel
theorem dX12_init_30 : decode cX12_init 30 = .ok (.aload_n 0, 1) := by decide +kernel
theorem dX12_init_31 : decode cX12_init 31 = .ok (.bipush 8, 2) := by decide +kernel
theorem dX12_init_33 : decode cX12_init 33 = .ok (.newarray .int, 2) := by decide +kernel
theorem dX12_init_35 : decode cX12_init 35 = .ok (.putfield 23, 3) := by decide +kernel
theorem dX12_init_38 : decode cX12_init 38 = .ok (.aload_n 0, 1) := by decide +kernel
theorem dX12_init_39 : decode cX12_init 39 = .ok (.bipush 8, 2) := by decide +kernel
theorem dX12_init_41 : decode cX12_init 41 = .ok (.newarray .int, 2) := by decide +kernel
theorem dX12_init_43 : decode cX12_init 43 = .ok (.putfield 26, 3) := by decide +kernel
theorem dX12_init_46 : decode cX12_init 46 = .ok (.aload_n 0, 1) := by decide +kernel
theorem dX12_init_47 : decode cX12_init 47 = .ok (.bipush 10, 2) := by decide +kernel
theorem dX12_init_49 : decode cX12_init 49 = .ok (.newarray .int, 2) := by decide +kernel
theorem dX12_init_51 : decode cX12_init 51 = .ok (.putfield 29, 3) := by decide +kernel
theorem dX12_init_54 : decode cX12_init 54 = .ok (.aload_n 0, 1) := by decide +kernel
theorem dX12_init_55 : decode cX12_init 55 = .ok (.bipush 10, 2) := by decide +kernel
theorem dX12_init_57 : decode cX12_init 57 = .ok (.newarray .int, 2) := by decide +kernel
theorem dX12_init_59 : decode cX12_init 59 = .ok (.putfield 32, 3) := by decide +kernel
theorem dX12_init_62 : decode cX12_init 62 = .ok (.aload_n 0, 1) := by decide +kernel
theorem dX12_init_63 : decode cX12_init 63 = .ok (.bipush 10, 2) := by decide +kernel
theorem dX12_init_65 : decode cX12_init 65 = .ok (.newarray .int, 2) := by decide +kernel
theorem dX12_init_67 : decode cX12_init 67 = .ok (.putfield 35, 3) := by decide +kernel
theorem dX12_init_70 : decode cX12_init 70 = .ok (.aload_n 0, 1) := by decide +kernel
theorem dX12_init_71 : decode cX12_init 71 = .ok (.bipush 10, 2) := by decide +kernel
theorem dX12_init_73 : decode cX12_init 73 = .ok (.newarray .int, 2) := by decide +kernel
theorem dX12_init_75 : decode cX12_init 75 = .ok (.putfield 38, 3) := by decide +kernel
theorem dX12_init_78 : decode cX12_init 78 = .ok (.aload_n 0, 1) := by decide +kernel
theorem dX12_init_79 : decode cX12_init 79 = .ok (.bipush 10, 2) := by decide +kernel
theorem dX12_init_81 : decode cX12_init 81 = .ok (.newarray .int, 2) := by decide +kernel
theorem dX12_init_83 : decode cX12_init 83 = .ok (.putfield 41, 3) := by decide +kernel
theorem dX12_init_86 : decode cX12_init 86 = .ok (.aload_n 0, 1) := by decide +kernel
theorem dX12_init_87 : decode cX12_init 87 = .ok (.bipush 10, 2) := by decide +kernel
theorem dX12_init_89 : decode cX12_init 89 = .ok (.newarray .int, 2) := by decide +kernel
theorem dX12_init_91 : decode cX12_init 91 = .ok (.putfield 44, 3) := by decide +kernel
theorem dX12_init_94 : decode cX12_init 94 = .ok (.aload_n 0, 1) := by decide +kernel
theorem dX12_init_95 : decode cX12_init 95 = .ok (.bipush 12, 2) := by decide +kernel
theorem dX12_init_97 : decode cX12_init 97 = .ok (.newarray .int, 2) := by decide +kernel
theorem dX12_init_99 : decode cX12_init 99 = .ok (.putfield 47, 3) := by decide +kernel
theorem dX12_init_102 : decode cX12_init 102 = .ok (.aload_n 0, 1) := by decide +kernel
theorem dX12_init_103 : decode cX12_init 103 = .ok (.bipush 7, 2) := by decide +kernel
theorem dX12_init_105 : decode cX12_init 105 = .ok (.newarray .int, 2) := by decide +kernel
theorem dX12_init_107 : decode cX12_init 107 = .ok (.putfield 50, 3) := by decide +kernel
theorem dX12_init_110 : decode cX12_init 110 = .ok (.aload_n 0, 1) := by decide +kernel
theorem dX12_init_111 : decode cX12_init 111 = .ok (.bipush 7, 2) := by decide +kernel
theorem dX12_init_113 : decode cX12_init 113 = .ok (.newarray .int, 2) := by decide +kernel
theorem dX12_init_115 : decode cX12_init 115 = .ok (.putfield 53, 3) := by decide +kernel
theorem dX12_init_118 : decode cX12_init 118 = .ok (.aload_n 0, 1) := by decide +kernel
theorem dX12_init_119 : decode cX12_init 119 = .ok (.bipush 7, 2) := by decide +kernel
theorem dX12_init_121 : decode cX12_init 121 = .ok (.newarray .int, 2) := by decide +kernel
theorem dX12_init_123 : decode cX12_init 123 = .ok (.putfield 56, 3) := by decide +kernel
theorem dX12_init_126 : decode cX12_init 126 = .ok (.aload_n 0, 1) := by decide +kernel
theorem dX12_init_127 : decode cX12_init 127 = .ok (.bipush 7, 2) := by decide +kernel
theorem dX12_init_129 : decode cX12_init 129 = .ok (.newarray .int, 2) := by decide +kernel
theorem dX12_init_131 : decode cX12_init 131 = .ok (.putfield 59, 3) := by decide +kernel
theorem dX12_init_134 : decode cX12_init 134 = .ok (.aload_n 0, 1) := by decide +kernel
theorem dX12_init_135 : decode cX12_init 135 = .ok (.bipush 7, 2) := by decide +kernel
theorem dX12_init_137 : decode cX12_init 137 = .ok (.newarray .int, 2) := by decide +kernel
theorem dX12_init_139 : decode cX12_init 139 = .ok (.putfield 62, 3) := by decide +kernel
theorem dX12_init_142 : decode cX12_init 142 = .ok (.aload_n 0, 1) := by decide +kernel
theorem dX12_init_143 : decode cX12_init 143 = .ok (.bipush 7, 2) := by decide +kernel
theorem dX12_init_145 : decode cX12_init 145 = .ok (.newarray .int, 2) := by decide +kernel
theorem dX12_init_147 : decode cX12_init 147 = .ok (.putfield 65, 3) := by decide +kernel
theorem dX12_init_150 : decode cX12_init 150 = .ok (.aload_n 0, 1) := by decide +kernel
theorem dX12_init_151 : decode cX12_init 151 = .ok (.bipush 7, 2) := by decide +kernel
theorem dX12_init_153 : decode cX12_init 153 = .ok (.newarray .int, 2) := by decide +kernel
theorem dX12_init_155 : decode cX12_init 155 = .ok (.putfield 68, 3) := by decide +kernel
theorem dX12_init_158 : decode cX12_init 158 = .ok (.aload_n 0, 1) := by decide +kernel
theorem dX12_init_159 : decode cX12_init 159 = .ok (.iconst (-1), 1) := by decide +kernel
theorem dX12_init_160 : decode cX12_init 160 = .ok (.putfield 71, 3) := by decide +kernel
theorem dX12_init_163 : decode cX12_init 163 = .ok (.aload_n 0, 1) := by decide +kernel
theorem dX12_init_164 : decode cX12_init 164 = .ok (.bipush 8, 2) := by decide +kernel
theorem dX12_init_166 : decode cX12_init 166 = .ok (.newarray .long, 2) := by decide +kernel
theorem dX12_init_168 : decode cX12_init 168 = .ok (.putfield 74, 3) := by decide +kernel
theorem dX12_init_171 : decode cX12_init 171 = .ok (.aload_n 0, 1) := by decide +kernel
theorem dX12_init_172 : decode cX12_init 172 = .ok (.bipush 8, 2) := by decide +kernel
theorem dX12_init_174 : decode cX12_init 174 = .ok (.newarray .long, 2) := by decide +kernel
theorem dX12_init_176 : decode cX12_init 176 = .ok (.putfield 78, 3) := by decide +kernel
theorem dX12_init_179 : decode cX12_init 179 = .ok (.aload_n 0, 1) := by decide +kernel
theorem dX12_init_180 : decode cX12_init 180 = .ok (.bipush 8, 2) := by decide +kernel
theorem dX12_init_182 : decode cX12_init 182 = .ok (.newarray .int, 2) := by decide +kernel
theorem dX12_init_184 : decode cX12_init 184 = .ok (.putfield 81, 3) := by decide +kernel
theorem dX12_init_187 : decode cX12_init 187 = .ok (.aload_n 0, 1) := by decide +kernel
theorem dX12_init_188 : decode cX12_init 188 = .ok (.iconst (-1), 1) := by decide +kernel
theorem dX12_init_189 : decode cX12_init 189 = .ok (.putfield 84, 3) := by decide +kernel
theorem dX12_init_192 : decode cX12_init 192 = .ok (.aload_n 0, 1) := by decide +kernel
theorem dX12_init_193 : decode cX12_init 193 = .ok (.iconst 4, 1) := by decide +kernel
theorem dX12_init_194 : decode cX12_init 194 = .ok (.newarray .int, 2) := by decide +kernel
theorem dX12_init_196 : decode cX12_init 196 = .ok (.putfield 87, 3) := by decide +kernel
theorem dX12_init_199 : decode cX12_init 199 = .ok (.aload_n 0, 1) := by decide +kernel
theorem dX12_init_200 : decode cX12_init 200 = .ok (.iconst 4, 1) := by decide +kernel
theorem dX12_init_201 : decode cX12_init 201 = .ok (.newarray .int, 2) := by decide +kernel
theorem dX12_init_203 : decode cX12_init 203 = .ok (.putfield 90, 3) := by decide +kernel
theorem dX12_init_206 : decode cX12_init 206 = .ok (.aload_n 0, 1) := by decide +kernel
theorem dX12_init_207 : decode cX12_init 207 = .ok (.bipush 7, 2) := by decide +kernel
theorem dX12_init_209 : decode cX12_init 209 = .ok (.newarray .int, 2) := by decide +kernel
theorem dX12_init_211 : decode cX12_init 211 = .ok (.putfield 93, 3) := by decide +kernel
theorem dX12_init_214 : decode cX12_init 214 = .ok (.aload_n 0, 1) := by decide +kernel
theorem dX12_init_215 : decode cX12_init 215 = .ok (.bipush 7, 2) := by decide +kernel
theorem dX12_init_217 : decode cX12_init 217 = .ok (.newarray .int, 2) := by decide +kernel
theorem dX12_init_219 : decode cX12_init 219 = .ok (.putfield 96, 3) := by decide +kernel
theorem dX12_init_222 : decode cX12_init 222 = .ok (.aload_n 0, 1) := by decide +kernel
theorem dX12_init_223 : decode cX12_init 223 = .ok (.bipush 7, 2) := by decide +kernel
theorem dX12_init_225 : decode cX12_init 225 = .ok (.newarray .int, 2) := by decide +kernel
theorem dX12_init_227 : decode cX12_init 227 = .ok (.putfield 99, 3) := by decide +kernel
theorem dX12_init_230 : decode cX12_init 230 = .ok (.aload_n 0, 1) := by decide +kernel
theorem dX12_init_231 : decode cX12_init 231 = .ok (.bipush 7, 2) := by decide +kernel
theorem dX12_init_233 : decode cX12_init 233 = .ok (.newarray .int, 2) := by decide +kernel
theorem dX12_init_235 : decode cX12_init 235 = .ok (.putfield 102, 3) := by decide +kernel
theorem dX12_init_238 : decode cX12_init 238 = .ok (.aload_n 0, 1) := by decide +kernel
theorem dX12_init_239 : decode cX12_init 239 = .ok (.bipush 10, 2) := by decide +kernel
theorem dX12_init_241 : decode cX12_init 241 = .ok (.newarray .int, 2) := by decide +kernel
theorem dX12_init_243 : decode cX12_init 243 = .ok (.putfield 105, 3) := by decide +kernel
theorem dX12_init_246 : decode cX12_init 246 = .ok (.aload_n 0, 1) := by decide +kernel
theorem dX12_init_247 : decode cX12_init 247 = .ok (.bipush 10, 2) := by decide +kernel
theorem dX12_init_249 : decode cX12_init 249 = .ok (.newarray .int, 2) := by decide +kernel
theorem dX12_init_251 : decode cX12_init 251 = .ok (.putfield 108, 3) := by decide +kernel
theorem dX12_init_254 : decode cX12_init 254 = .ok (.aload_n 0, 1) := by decide +kernel
theorem dX12_init_255 : decode cX12_init 255 = .ok (.iconst 4, 1) := by decide +kernel
theorem dX12_init_256 : decode cX12_init 256 = .ok (.newarray .boolean, 2) := by decide +kernel
theorem dX12_init_258 : decode cX12_init 258 = .ok (.putfield 111, 3) := by decide +kernel
theorem dX12_init_261 : decode cX12_init 261 = .ok (.aload_n 0, 1) := by decide +kernel
theorem dX12_init_262 : decode cX12_init 262 = .ok (.iconst 4, 1) := by decide +kernel
theorem dX12_init_263 : decode cX12_init 263 = .ok (.newarray .int, 2) := by decide +kernel
theorem dX12_init_265 : decode cX12_init 265 = .ok (.putfield 115, 3) := by decide +kernel
theorem dX12_init_268 : decode cX12_init 268 = .ok (.aload_n 0, 1) := by decide +kernel
theorem dX12_init_269 : decode cX12_init 269 = .ok (.iconst 4, 1) := by decide +kernel
theorem dX12_init_270 : decode cX12_init 270 = .ok (.newarray .int, 2) := by decide +kernel
theorem dX12_init_272 : decode cX12_init 272 = .ok (.putfield 118, 3) := by decide +kernel
theorem dX12_init_275 : decode cX12_init 275 = .ok (.aload_n 0, 1) := by decide +kernel
theorem dX12_init_276 : decode cX12_init 276 = .ok (.sipush 160, 3) := by decide +kernel
theorem dX12_init_279 : decode cX12_init 279 = .ok (.newarray .int, 2) := by decide +kernel
theorem dX12_init_281 : decode cX12_init 281 = .ok (.putfield 121, 3) := by decide +kernel
theorem dX12_init_284 : decode cX12_init 284 = .ok (.aload_n 0, 1) := by decide +kernel
theorem dX12_init_285 : decode cX12_init 285 = .ok (.iconst 0, 1) := by decide +kernel
theorem dX12_init_286 : decode cX12_init 286 = .ok (.ldc2_w 124, 3) := by decide +kernel
theorem dX12_init_289 : decode cX12_init 289 = .ok (.invokevirtual 126, 3) := by decide +kernel
theorem dX12_init_292 : decode cX12_init 292 = .ok (.aload_n 0, 1) := by decide +kernel
theorem dX12_init_293 : decode cX12_init 293 = .ok (.bipush 8, 2) := by decide +kernel
theorem dX12_init_295 : decode cX12_init 295 = .ok (.ldc2_w 130, 3) := by decide +kernel
theorem dX12_init_298 : decode cX12_init 298 = .ok (.invokevirtual 126, 3) := by decide +kernel
theorem dX12_init_301 : decode cX12_init 301 = .ok (.aload_n 0, 1) := by decide +kernel
theorem dX12_init_302 : decode cX12_init 302 = .ok (.bipush 16, 2) := by decide +kernel
theorem dX12_init_304 : decode cX12_init 304 = .ok (.ldc2_w 132, 3) := by decide +kernel
theorem dX12_init_307 : decode cX12_init 307 = .ok (.invokevirtual 126, 3) := by decide +kernel
theorem dX12_init_310 : decode cX12_init 310 = .ok (.aload_n 0, 1) := by decide +kernel
theorem dX12_init_311 : decode cX12_init 311 = .ok (.bipush 24, 2) := by decide +kernel
theorem dX12_init_313 : decode cX12_init 313 = .ok (.ldc2_w 134, 3) := by decide +kernel
theorem dX12_init_316 : decode cX12_init 316 = .ok (.invokevirtual 126, 3) := by decide +kernel
theorem dX12_init_319 : decode cX12_init 319 = .ok (.aload_n 0, 1) := by decide +kernel
theorem dX12_init_320 : decode cX12_init 320 = .ok (.bipush 32, 2) := by decide +kernel
theorem dX12_init_322 : decode cX12_init 322 = .ok (.ldc2_w 136, 3) := by decide +kernel
theorem dX12_init_325 : decode cX12_init 325 = .ok (.invokevirtual 126, 3) := by decide +kernel
theorem dX12_init_328 : decode cX12_init 328 = .ok (.aload_n 0, 1) := by decide +kernel
theorem dX12_init_329 : decode cX12_init 329 = .ok (.bipush 40, 2) := by decide +kernel
theorem dX12_init_331 : decode cX12_init 331 = .ok (.ldc2_w 138, 3) := by decide +kernel
theorem dX12_init_334 : decode cX12_init 334 = .ok (.invokevirtual 126, 3) := by decide +kernel
theorem dX12_init_337 : decode cX12_init 337 = .ok (.aload_n 0, 1) := by decide +kernel
theorem dX12_init_338 : decode cX12_init 338 = .ok (.bipush 48, 2) := by decide +kernel
theorem dX12_init_340 : decode cX12_init 340 = .ok (.ldc2_w 140, 3) := by decide +kernel
theorem dX12_init_343 : decode cX12_init 343 = .ok (.invokevirtual 126, 3) := by decide +kernel
theorem dX12_init_346 : decode cX12_init 346 = .ok (.aload_n 0, 1) := by decide +kernel
theorem dX12_init_347 : decode cX12_init 347 = .ok (.getfield 17, 3) := by decide +kernel
theorem dX12_init_350 : decode cX12_init 350 = .ok (.iconst 0, 1) := by decide +kernel
theorem dX12_init_351 : decode cX12_init 351 = .ok (.bipush 56, 2) := by decide +kernel
theorem dX12_init_353 : decode cX12_init 353 = .ok (.iastore, 1) := by decide +kernel
theorem dX12_init_354 : decode cX12_init 354 = .ok (.aload_n 0, 1) := by decide +kernel
theorem dX12_init_355 : decode cX12_init 355 = .ok (.iconst 1, 1) := by decide +kernel
theorem dX12_init_356 : decode cX12_init 356 = .ok (.putfield 142, 3) := by decide +kernel
theorem dX12_init_359 : decode cX12_init 359 = .ok (.aload_n 0, 1) := by decide +kernel
theorem dX12_init_360 : decode cX12_init 360 = .ok (.bipush 100, 2) := by decide +kernel
theorem dX12_init_362 : decode cX12_init 362 = .ok (.putfield 145, 3) := by decide +kernel
theorem dX12_init_365 : decode cX12_init 365 = .ok (.aload_n 0, 1) := by decide +kernel
theorem dX12_init_366 : decode cX12_init 366 = .ok (.sipush 1000, 3) := by decide +kernel
theorem dX12_init_369 : decode cX12_init 369 = .ok (.putfield 148, 3) := by decide +kernel
theorem dX12_init_372 : decode cX12_init 372 = .ok (.return_, 1) := by decide +kernel
theorem dX12_spell_0 : decode cX12_spell 0 = .ok (.iconst 0, 1) := by decide +kernel
theorem dX12_spell_1 : decode cX12_spell 1 = .ok (.istore 4, 2) := by decide +kernel
theorem dX12_spell_3 : decode cX12_spell 3 = .ok (.iload 4, 2) := by decide +kernel
theorem dX12_spell_5 : decode cX12_spell 5 = .ok (.bipush 8, 2) := by decide +kernel
theorem dX12_spell_7 : decode cX12_spell 7 = .ok (.if_icmp .ge 33, 3) := by decide +kernel
theorem dX12_spell_10 : decode cX12_spell 10 = .ok (.aload_n 0, 1) := by decide +kernel
theorem dX12_spell_11 : decode cX12_spell 11 = .ok (.getfield 13, 3) := by decide +kernel
theorem dX12_spell_14 : decode cX12_spell 14 = .ok (.iload_n 1, 1) := by decide +kernel
theorem dX12_spell_15 : decode cX12_spell 15 = .ok (.iload 4, 2) := by decide +kernel
theorem dX12_spell_17 : decode cX12_spell 17 = .ok (.iadd, 1) := by decide +kernel
theorem dX12_spell_18 : decode cX12_spell 18 = .ok (.lload_n 2, 1) := by decide +kernel
theorem dX12_spell_19 : decode cX12_spell 19 = .ok (.bipush 56, 2) := by decide +kernel
theorem dX12_spell_21 : decode cX12_spell 21 = .ok (.bipush 8, 2) := by decide +kernel
theorem dX12_spell_23 : decode cX12_spell 23 = .ok (.iload 4, 2) := by decide +kernel
theorem dX12_spell_25 : decode cX12_spell 25 = .ok (.imul, 1) := by decide +kernel
theorem dX12_spell_26 : decode cX12_spell 26 = .ok (.isub, 1) := by decide +kernel
theorem dX12_spell_27 : decode cX12_spell 27 = .ok (.lshr, 1) := by decide +kernel
theorem dX12_spell_28 : decode cX12_spell 28 = .ok (.ldc2_w 151, 3) := by decide +kernel
theorem dX12_spell_31 : decode cX12_spell 31 = .ok (.land, 1) := by decide +kernel
theorem dX12_spell_32 : decode cX12_spell 32 = .ok (.l2i, 1) := by decide +kernel
theorem dX12_spell_33 : decode cX12_spell 33 = .ok (.iastore, 1) := by decide +kernel
theorem dX12_spell_34 : decode cX12_spell 34 = .ok (.iinc 4 1, 3) := by decide +kernel
theorem dX12_spell_37 : decode cX12_spell 37 = .ok (.goto (-34), 3) := by decide +kernel
theorem dX12_spell_40 : decode cX12_spell 40 = .ok (.return_, 1) := by decide +kernel
theorem sb_wsX12_isShaft_wsX120 : ∀ w ∈ wsX120, w ∈ wsX12_isShaft := fun _ h => (List.mem_cons_of_mem _ (List.mem_append_right _ h))
set_option maxRecDepth 20000 in
theorem ggX12_isShaft_X12_in : GoodIn wsX12_isShaft wsX12_in := goodIn_sub (x_mc (List.mem_cons_of_mem _ (List.mem_append_left _ (List.mem_of_getElem? (i := 4) rfl))) x_mn) (by decide +kernel)
set_option maxRecDepth 20000 in
theorem gX12_isShaft_X12_in : GoodIn wsX12_isShaft (va_wsS RX12 156 yX12_in wsX12_in) := goodIn_app (goodIn_of _ (by decide +kernel)) ggX12_isShaft_X12_in
theorem dX12_isShaft_0 : decode cX12_isShaft 0 = .ok (.iload_n 1, 1) := by decide +kernel
theorem dX12_isShaft_1 : decode cX12_isShaft 1 = .ok (.i2l, 1) := by decide +kernel
theorem dX12_isShaft_2 : decode cX12_isShaft 2 = .ok (.lconst 0, 1) := by decide +kernel
theorem dX12_isShaft_3 : decode cX12_isShaft 3 = .ok (.aload_n 0, 1) := by decide +kernel
theorem dX12_isShaft_4 : decode cX12_isShaft 4 = .ok (.getfield 153, 3) := by decide +kernel
theorem dX12_isShaft_7 : decode cX12_isShaft 7 = .ok (.iconst 1, 1) := by decide +kernel
theorem dX12_isShaft_8 : decode cX12_isShaft 8 = .ok (.isub, 1) := by decide +kernel
theorem dX12_isShaft_9 : decode cX12_isShaft 9 = .ok (.i2l, 1) := by decide +kernel
theorem dX12_isShaft_10 : decode cX12_isShaft 10 = .ok (.invokestatic 156, 3) := by decide +kernel
theorem dX12_isShaft_13 : decode cX12_isShaft 13 = .ok (.ireturn, 1) := by decide +kernel
theorem sb_wsX12_isMachine_wsX120 : ∀ w ∈ wsX120, w ∈ wsX12_isMachine := fun _ h => (List.mem_cons_of_mem _ (List.mem_append_right _ h))
set_option maxRecDepth 20000 in
theorem ggX12_isMachine_X12_in : GoodIn wsX12_isMachine wsX12_in := goodIn_sub (x_mc (List.mem_cons_of_mem _ (List.mem_append_left _ (List.mem_of_getElem? (i := 4) rfl))) x_mn) (by decide +kernel)
set_option maxRecDepth 20000 in
theorem gX12_isMachine_X12_in : GoodIn wsX12_isMachine (va_wsS RX12 156 yX12_in wsX12_in) := goodIn_app (goodIn_of _ (by decide +kernel)) ggX12_isMachine_X12_in
theorem dX12_isMachine_0 : decode cX12_isMachine 0 = .ok (.iload_n 1, 1) := by decide +kernel
theorem dX12_isMachine_1 : decode cX12_isMachine 1 = .ok (.i2l, 1) := by decide +kernel
theorem dX12_isMachine_2 : decode cX12_isMachine 2 = .ok (.lconst 0, 1) := by decide +kernel
theorem dX12_isMachine_3 : decode cX12_isMachine 3 = .ok (.aload_n 0, 1) := by decide +kernel
theorem dX12_isMachine_4 : decode cX12_isMachine 4 = .ok (.getfield 160, 3) := by decide +kernel
theorem dX12_isMachine_7 : decode cX12_isMachine 7 = .ok (.iconst 1, 1) := by decide +kernel
theorem dX12_isMachine_8 : decode cX12_isMachine 8 = .ok (.isub, 1) := by decide +kernel
theorem dX12_isMachine_9 : decode cX12_isMachine 9 = .ok (.i2l, 1) := by decide +kernel
theorem dX12_isMachine_10 : decode cX12_isMachine 10 = .ok (.invokestatic 156, 3) := by decide +kernel
theorem dX12_isMachine_13 : decode cX12_isMachine 13 = .ok (.ireturn, 1) := by decide +kernel
theorem sb_wsX12_isDrum_wsX120 : ∀ w ∈ wsX120, w ∈ wsX12_isDrum := fun _ h => (List.mem_cons_of_mem _ (List.mem_append_right _ h))
set_option maxRecDepth 20000 in
theorem ggX12_isDrum_X12_in : GoodIn wsX12_isDrum wsX12_in := goodIn_sub (x_mc (List.mem_cons_of_mem _ (List.mem_append_left _ (List.mem_of_getElem? (i := 4) rfl))) x_mn) (by decide +kernel)
set_option maxRecDepth 20000 in
theorem gX12_isDrum_X12_in : GoodIn wsX12_isDrum (va_wsS RX12 156 yX12_in wsX12_in) := goodIn_app (goodIn_of _ (by decide +kernel)) ggX12_isDrum_X12_in
theorem dX12_isDrum_0 : decode cX12_isDrum 0 = .ok (.iload_n 1, 1) := by decide +kernel
theorem dX12_isDrum_1 : decode cX12_isDrum 1 = .ok (.i2l, 1) := by decide +kernel
theorem dX12_isDrum_2 : decode cX12_isDrum 2 = .ok (.lconst 0, 1) := by decide +kernel
theorem dX12_isDrum_3 : decode cX12_isDrum 3 = .ok (.aload_n 0, 1) := by decide +kernel
theorem dX12_isDrum_4 : decode cX12_isDrum 4 = .ok (.getfield 163, 3) := by decide +kernel
theorem dX12_isDrum_7 : decode cX12_isDrum 7 = .ok (.iconst 1, 1) := by decide +kernel
theorem dX12_isDrum_8 : decode cX12_isDrum 8 = .ok (.isub, 1) := by decide +kernel
theorem dX12_isDrum_9 : decode cX12_isDrum 9 = .ok (.i2l, 1) := by decide +kernel
theorem dX12_isDrum_10 : decode cX12_isDrum 10 = .ok (.invokestatic 156, 3) := by decide +kernel
theorem dX12_isDrum_13 : decode cX12_isDrum 13 = .ok (.ireturn, 1) := by decide +kernel
theorem sb_wsX12_isBelt_wsX120 : ∀ w ∈ wsX120, w ∈ wsX12_isBelt := fun _ h => (List.mem_cons_of_mem _ (List.mem_append_right _ h))
set_option maxRecDepth 20000 in
theorem ggX12_isBelt_X12_in : GoodIn wsX12_isBelt wsX12_in := goodIn_sub (x_mc (List.mem_cons_of_mem _ (List.mem_append_left _ (List.mem_of_getElem? (i := 4) rfl))) x_mn) (by decide +kernel)
set_option maxRecDepth 20000 in
theorem gX12_isBelt_X12_in : GoodIn wsX12_isBelt (va_wsS RX12 156 yX12_in wsX12_in) := goodIn_app (goodIn_of _ (by decide +kernel)) ggX12_isBelt_X12_in
theorem dX12_isBelt_0 : decode cX12_isBelt 0 = .ok (.iload_n 1, 1) := by decide +kernel
theorem dX12_isBelt_1 : decode cX12_isBelt 1 = .ok (.i2l, 1) := by decide +kernel
theorem dX12_isBelt_2 : decode cX12_isBelt 2 = .ok (.lconst 0, 1) := by decide +kernel
theorem dX12_isBelt_3 : decode cX12_isBelt 3 = .ok (.aload_n 0, 1) := by decide +kernel
theorem dX12_isBelt_4 : decode cX12_isBelt 4 = .ok (.getfield 166, 3) := by decide +kernel
theorem dX12_isBelt_7 : decode cX12_isBelt 7 = .ok (.iconst 1, 1) := by decide +kernel
theorem dX12_isBelt_8 : decode cX12_isBelt 8 = .ok (.isub, 1) := by decide +kernel
theorem dX12_isBelt_9 : decode cX12_isBelt 9 = .ok (.i2l, 1) := by decide +kernel
theorem dX12_isBelt_10 : decode cX12_isBelt 10 = .ok (.invokestatic 156, 3) := by decide +kernel
theorem dX12_isBelt_13 : decode cX12_isBelt 13 = .ok (.ireturn, 1) := by decide +kernel
theorem sb_wsX12_shaft_wsX120 : ∀ w ∈ wsX120, w ∈ wsX12_shaft := fun _ h => (List.mem_cons_of_mem _ (List.mem_append_right _ h))
set_option maxRecDepth 20000 in
theorem ggX12_shaft_X12_in : GoodIn wsX12_shaft wsX12_in := goodIn_sub (x_mc (List.mem_cons_of_mem _ (List.mem_append_left _ (List.mem_of_getElem? (i := 8) rfl))) x_mn) (by decide +kernel)
set_option maxRecDepth 20000 in
theorem gX12_shaft_X12_in : GoodIn wsX12_shaft (va_wsS RX12 156 yX12_in wsX12_in) := goodIn_app (goodIn_of _ (by decide +kernel)) ggX12_shaft_X12_in
theorem dX12_shaft_0 : decode cX12_shaft 0 = .ok (.iload_n 1, 1) := by decide +kernel
theorem dX12_shaft_1 : decode cX12_shaft 1 = .ok (.i2l, 1) := by decide +kernel
theorem dX12_shaft_2 : decode cX12_shaft 2 = .ok (.lconst 0, 1) := by decide +kernel
theorem dX12_shaft_3 : decode cX12_shaft 3 = .ok (.ldc2_w 169, 3) := by decide +kernel
theorem dX12_shaft_6 : decode cX12_shaft 6 = .ok (.invokestatic 156, 3) := by decide +kernel
theorem dX12_shaft_9 : decode cX12_shaft 9 = .ok (.ifCond .eq 15, 3) := by decide +kernel
theorem dX12_shaft_12 : decode cX12_shaft 12 = .ok (.iload_n 2, 1) := by decide +kernel
theorem dX12_shaft_13 : decode cX12_shaft 13 = .ok (.i2l, 1) := by decide +kernel
theorem dX12_shaft_14 : decode cX12_shaft 14 = .ok (.lconst 1, 1) := by decide +kernel
theorem dX12_shaft_15 : decode cX12_shaft 15 = .ok (.ldc2_w 171, 3) := by decide +kernel
theorem dX12_shaft_18 : decode cX12_shaft 18 = .ok (.invokestatic 156, 3) := by decide +kernel
theorem dX12_shaft_21 : decode cX12_shaft 21 = .ok (.ifCond .ne 6, 3) := by decide +kernel
theorem dX12_shaft_24 : decode cX12_shaft 24 = .ok (.bipush (-2), 2) := by decide +kernel
theorem dX12_shaft_26 : decode cX12_shaft 26 = .ok (.ireturn, 1) := by decide +kernel
theorem dX12_shaft_27 : decode cX12_shaft 27 = .ok (.aload_n 0, 1) := by decide +kernel
theorem dX12_shaft_28 : decode cX12_shaft 28 = .ok (.getfield 153, 3) := by decide +kernel
theorem dX12_shaft_31 : decode cX12_shaft 31 = .ok (.bipush 8, 2) := by decide +kernel
theorem dX12_shaft_33 : decode cX12_shaft 33 = .ok (.if_icmp .ne 6, 3) := by decide +kernel
theorem dX12_shaft_36 : decode cX12_shaft 36 = .ok (.bipush (-4), 2) := by decide +kernel
theorem dX12_shaft_38 : decode cX12_shaft 38 = .ok (.ireturn, 1) := by decide +kernel
theorem dX12_shaft_39 : decode cX12_shaft 39 = .ok (.aload_n 0, 1) := by decide +kernel
theorem dX12_shaft_40 : decode cX12_shaft 40 = .ok (.getfield 23, 3) := by decide +kernel
theorem dX12_shaft_43 : decode cX12_shaft 43 = .ok (.aload_n 0, 1) := by decide +kernel
theorem dX12_shaft_44 : decode cX12_shaft 44 = .ok (.getfield 153, 3) := by decide +kernel
theorem dX12_shaft_47 : decode cX12_shaft 47 = .ok (.iload_n 1, 1) := by decide +kernel
theorem dX12_shaft_48 : decode cX12_shaft 48 = .ok (.iastore, 1) := by decide +kernel
theorem dX12_shaft_49 : decode cX12_shaft 49 = .ok (.aload_n 0, 1) := by decide +kernel
theorem dX12_shaft_50 : decode cX12_shaft 50 = .ok (.getfield 26, 3) := by decide +kernel
theorem dX12_shaft_53 : decode cX12_shaft 53 = .ok (.aload_n 0, 1) := by decide +kernel
theorem dX12_shaft_54 : decode cX12_shaft 54 = .ok (.getfield 153, 3) := by decide +kernel
theorem dX12_shaft_57 : decode cX12_shaft 57 = .ok (.iload_n 2, 1) := by decide +kernel
theorem dX12_shaft_58 : decode cX12_shaft 58 = .ok (.iastore, 1) := by decide +kernel
theorem dX12_shaft_59 : decode cX12_shaft 59 = .ok (.aload_n 0, 1) := by decide +kernel
theorem dX12_shaft_60 : decode cX12_shaft 60 = .ok (.dup, 1) := by decide +kernel
theorem dX12_shaft_61 : decode cX12_shaft 61 = .ok (.getfield 153, 3) := by decide +kernel
theorem dX12_shaft_64 : decode cX12_shaft 64 = .ok (.iconst 1, 1) := by decide +kernel
theorem dX12_shaft_65 : decode cX12_shaft 65 = .ok (.iadd, 1) := by decide +kernel
theorem dX12_shaft_66 : decode cX12_shaft 66 = .ok (.putfield 153, 3) := by decide +kernel
theorem dX12_shaft_69 : decode cX12_shaft 69 = .ok (.aload_n 0, 1) := by decide +kernel
theorem dX12_shaft_70 : decode cX12_shaft 70 = .ok (.getfield 153, 3) := by decide +kernel
theorem dX12_shaft_73 : decode cX12_shaft 73 = .ok (.iconst 1, 1) := by decide +kernel
theorem dX12_shaft_74 : decode cX12_shaft 74 = .ok (.isub, 1) := by decide +kernel
theorem dX12_shaft_75 : decode cX12_shaft 75 = .ok (.ireturn, 1) := by decide +kernel
theorem sb_wsX12_engine_wsX120 : ∀ w ∈ wsX120, w ∈ wsX12_engine := fun _ h => (List.mem_cons_of_mem _ (List.mem_append_right _ h))
set_option maxRecDepth 20000 in
theorem ggX12_engine_X12_in : GoodIn wsX12_engine wsX12_in := goodIn_sub (x_mc (List.mem_cons_of_mem _ (List.mem_append_left _ (List.mem_of_getElem? (i := 7) rfl))) x_mn) (by decide +kernel)
set_option maxRecDepth 20000 in
theorem gX12_engine_X12_in : GoodIn wsX12_engine (va_wsS RX12 156 yX12_in wsX12_in) := goodIn_app (goodIn_of _ (by decide +kernel)) ggX12_engine_X12_in
theorem dX12_engine_0 : decode cX12_engine 0 = .ok (.iload_n 1, 1) := by decide +kernel
theorem dX12_engine_1 : decode cX12_engine 1 = .ok (.i2l, 1) := by decide +kernel
theorem dX12_engine_2 : decode cX12_engine 2 = .ok (.lconst 0, 1) := by decide +kernel
theorem dX12_engine_3 : decode cX12_engine 3 = .ok (.lconst 1, 1) := by decide +kernel
theorem dX12_engine_4 : decode cX12_engine 4 = .ok (.invokestatic 156, 3) := by decide +kernel
theorem dX12_engine_7 : decode cX12_engine 7 = .ok (.ifCond .eq 25, 3) := by decide +kernel
theorem dX12_engine_10 : decode cX12_engine 10 = .ok (.iload_n 2, 1) := by decide +kernel
theorem dX12_engine_11 : decode cX12_engine 11 = .ok (.i2l, 1) := by decide +kernel
theorem dX12_engine_12 : decode cX12_engine 12 = .ok (.lconst 1, 1) := by decide +kernel
theorem dX12_engine_13 : decode cX12_engine 13 = .ok (.iload_n 1, 1) := by decide +kernel
theorem dX12_engine_14 : decode cX12_engine 14 = .ok (.ifCond .ne 9, 3) := by decide +kernel
theorem dX12_engine_17 : decode cX12_engine 17 = .ok (.ldc2_w 173, 3) := by decide +kernel
theorem dX12_engine_20 : decode cX12_engine 20 = .ok (.goto 6, 3) := by decide +kernel
theorem dX12_engine_23 : decode cX12_engine 23 = .ok (.ldc2_w 171, 3) := by decide +kernel
theorem dX12_engine_26 : decode cX12_engine 26 = .ok (.invokestatic 156, 3) := by decide +kernel
theorem dX12_engine_29 : decode cX12_engine 29 = .ok (.ifCond .ne 6, 3) := by decide +kernel
theorem dX12_engine_32 : decode cX12_engine 32 = .ok (.bipush (-2), 2) := by decide +kernel
theorem dX12_engine_34 : decode cX12_engine 34 = .ok (.ireturn, 1) := by decide +kernel
theorem dX12_engine_35 : decode cX12_engine 35 = .ok (.iload_n 1, 1) := by decide +kernel
theorem dX12_engine_36 : decode cX12_engine 36 = .ok (.ifCond .ne 10, 3) := by decide +kernel
theorem dX12_engine_39 : decode cX12_engine 39 = .ok (.aload_n 0, 1) := by decide +kernel
theorem dX12_engine_40 : decode cX12_engine 40 = .ok (.getfield 145, 3) := by decide +kernel
theorem dX12_engine_43 : decode cX12_engine 43 = .ok (.goto 7, 3) := by decide +kernel
theorem dX12_engine_46 : decode cX12_engine 46 = .ok (.aload_n 0, 1) := by decide +kernel
theorem dX12_engine_47 : decode cX12_engine 47 = .ok (.getfield 148, 3) := by decide +kernel
theorem dX12_engine_50 : decode cX12_engine 50 = .ok (.istore_n 3, 1) := by decide +kernel
theorem dX12_engine_51 : decode cX12_engine 51 = .ok (.iload_n 1, 1) := by decide +kernel
theorem dX12_engine_52 : decode cX12_engine 52 = .ok (.ifCond .ne 11, 3) := by decide +kernel
theorem dX12_engine_55 : decode cX12_engine 55 = .ok (.aload_n 0, 1) := by decide +kernel
theorem dX12_engine_56 : decode cX12_engine 56 = .ok (.iload_n 2, 1) := by decide +kernel
theorem dX12_engine_57 : decode cX12_engine 57 = .ok (.putfield 145, 3) := by decide +kernel
theorem dX12_engine_60 : decode cX12_engine 60 = .ok (.goto 8, 3) := by decide +kernel
theorem dX12_engine_63 : decode cX12_engine 63 = .ok (.aload_n 0, 1) := by decide +kernel
theorem dX12_engine_64 : decode cX12_engine 64 = .ok (.iload_n 2, 1) := by decide +kernel
theorem dX12_engine_65 : decode cX12_engine 65 = .ok (.putfield 148, 3) := by decide +kernel
theorem dX12_engine_68 : decode cX12_engine 68 = .ok (.iload_n 3, 1) := by decide +kernel
theorem dX12_engine_69 : decode cX12_engine 69 = .ok (.ireturn, 1) := by decide +kernel
theorem sb_wsX12_machine_wsX120 : ∀ w ∈ wsX120, w ∈ wsX12_machine := fun _ h => (List.mem_cons_of_mem _ (List.mem_append_right _ h))
set_option maxRecDepth 20000 in
theorem ggX12_machine_X12_isShaft : GoodIn wsX12_machine wsX12_isShaft := goodIn_sub (x_mc (List.mem_cons_of_mem _ (List.mem_append_left _ (List.mem_of_getElem? (i := 14) rfl))) (x_ina (x_mc (List.mem_cons_of_mem _ (List.mem_append_left _ (List.mem_of_getElem? (i := 15) rfl))) (x_mc (List.mem_cons_of_mem _ (List.mem_append_left _ (List.mem_of_getElem? (i := 16) rfl))) (x_mc (List.mem_cons_of_mem _ (List.mem_append_left _ (List.mem_of_getElem? (i := 17) rfl))) (x_mc (List.mem_cons_of_mem _ (List.mem_append_left _ (List.mem_of_getElem? (i := 13) rfl))) (x_mc (List.mem_cons_of_mem _ (List.mem_append_left _ (List.mem_of_getElem? (i := 18) rfl))) x_mn))))) (fun _ h => sb_wsX12_machine_wsX120 _ h))) (by decide +kernel)
set_option maxRecDepth 20000 in
theorem gX12_machine_X12_isShaft : GoodIn wsX12_machine (wsV RX12 175 RX12 yX12_isShaft wsX12_isShaft) := goodIn_app (goodIn_of _ (by decide +kernel)) ggX12_machine_X12_isShaft
set_option maxRecDepth 20000 in
theorem ggX12_machine_X12_in : GoodIn wsX12_machine wsX12_in := goodIn_sub (x_mc (List.mem_cons_of_mem _ (List.mem_append_left _ (List.mem_of_getElem? (i := 18) rfl))) x_mn) (by decide +kernel)
set_option maxRecDepth 20000 in
theorem gX12_machine_X12_in : GoodIn wsX12_machine (va_wsS RX12 156 yX12_in wsX12_in) := goodIn_app (goodIn_of _ (by decide +kernel)) ggX12_machine_X12_in
theorem dX12_machine_0 : decode cX12_machine 0 = .ok (.aload_n 0, 1) := by decide +kernel
theorem dX12_machine_1 : decode cX12_machine 1 = .ok (.iload_n 1, 1) := by decide +kernel
theorem dX12_machine_2 : decode cX12_machine 2 = .ok (.invokevirtual 175, 3) := by decide +kernel
theorem dX12_machine_5 : decode cX12_machine 5 = .ok (.ifCond .eq 53, 3) := by decide +kernel
theorem dX12_machine_8 : decode cX12_machine 8 = .ok (.iload_n 2, 1) := by decide +kernel
theorem dX12_machine_9 : decode cX12_machine 9 = .ok (.i2l, 1) := by decide +kernel
theorem dX12_machine_10 : decode cX12_machine 10 = .ok (.lconst 0, 1) := by decide +kernel
theorem dX12_machine_11 : decode cX12_machine 11 = .ok (.ldc2_w 173, 3) := by decide +kernel
theorem dX12_machine_14 : decode cX12_machine 14 = .ok (.invokestatic 156, 3) := by decide +kernel
theorem dX12_machine_17 : decode cX12_machine 17 = .ok (.ifCond .eq 41, 3) := by decide +kernel
theorem dX12_machine_20 : decode cX12_machine 20 = .ok (.iload_n 3, 1) := by decide +kernel
theorem dX12_machine_21 : decode cX12_machine 21 = .ok (.i2l, 1) := by decide +kernel
theorem dX12_machine_22 : decode cX12_machine 22 = .ok (.lconst 0, 1) := by decide +kernel
theorem dX12_machine_23 : decode cX12_machine 23 = .ok (.ldc2_w 179, 3) := by decide +kernel
theorem dX12_machine_26 : decode cX12_machine 26 = .ok (.invokestatic 156, 3) := by decide +kernel
theorem dX12_machine_29 : decode cX12_machine 29 = .ok (.ifCond .eq 29, 3) := by decide +kernel
theorem dX12_machine_32 : decode cX12_machine 32 = .ok (.iload_n 3, 1) := by decide +kernel
theorem dX12_machine_33 : decode cX12_machine 33 = .ok (.sipush 10000, 3) := by decide +kernel
theorem dX12_machine_36 : decode cX12_machine 36 = .ok (.idiv, 1) := by decide +kernel
theorem dX12_machine_37 : decode cX12_machine 37 = .ok (.iload_n 3, 1) := by decide +kernel
theorem dX12_machine_38 : decode cX12_machine 38 = .ok (.sipush 10000, 3) := by decide +kernel
theorem dX12_machine_41 : decode cX12_machine 41 = .ok (.irem, 1) := by decide +kernel
theorem dX12_machine_42 : decode cX12_machine 42 = .ok (.if_icmp .gt 16, 3) := by decide +kernel
theorem dX12_machine_45 : decode cX12_machine 45 = .ok (.iload 4, 2) := by decide +kernel
theorem dX12_machine_47 : decode cX12_machine 47 = .ok (.i2l, 1) := by decide +kernel
theorem dX12_machine_48 : decode cX12_machine 48 = .ok (.lconst 0, 1) := by decide +kernel
theorem dX12_machine_49 : decode cX12_machine 49 = .ok (.ldc2_w 181, 3) := by decide +kernel
theorem dX12_machine_52 : decode cX12_machine 52 = .ok (.invokestatic 156, 3) := by decide +kernel
theorem dX12_machine_55 : decode cX12_machine 55 = .ok (.ifCond .ne 6, 3) := by decide +kernel
theorem dX12_machine_58 : decode cX12_machine 58 = .ok (.bipush (-2), 2) := by decide +kernel
theorem dX12_machine_60 : decode cX12_machine 60 = .ok (.ireturn, 1) := by decide +kernel
theorem dX12_machine_61 : decode cX12_machine 61 = .ok (.aload_n 0, 1) := by decide +kernel
theorem dX12_machine_62 : decode cX12_machine 62 = .ok (.getfield 160, 3) := by decide +kernel
theorem dX12_machine_65 : decode cX12_machine 65 = .ok (.bipush 10, 2) := by decide +kernel
theorem dX12_machine_67 : decode cX12_machine 67 = .ok (.if_icmp .ne 6, 3) := by decide +kernel
theorem dX12_machine_70 : decode cX12_machine 70 = .ok (.bipush (-4), 2) := by decide +kernel
theorem dX12_machine_72 : decode cX12_machine 72 = .ok (.ireturn, 1) := by decide +kernel
theorem dX12_machine_73 : decode cX12_machine 73 = .ok (.aload_n 0, 1) := by decide +kernel
theorem dX12_machine_74 : decode cX12_machine 74 = .ok (.getfield 29, 3) := by decide +kernel
theorem dX12_machine_77 : decode cX12_machine 77 = .ok (.aload_n 0, 1) := by decide +kernel
theorem dX12_machine_78 : decode cX12_machine 78 = .ok (.getfield 160, 3) := by decide +kernel
theorem dX12_machine_81 : decode cX12_machine 81 = .ok (.iload_n 1, 1) := by decide +kernel
theorem dX12_machine_82 : decode cX12_machine 82 = .ok (.iastore, 1) := by decide +kernel
theorem dX12_machine_83 : decode cX12_machine 83 = .ok (.aload_n 0, 1) := by decide +kernel
theorem dX12_machine_84 : decode cX12_machine 84 = .ok (.getfield 32, 3) := by decide +kernel
theorem dX12_machine_87 : decode cX12_machine 87 = .ok (.aload_n 0, 1) := by decide +kernel
theorem dX12_machine_88 : decode cX12_machine 88 = .ok (.getfield 160, 3) := by decide +kernel
theorem dX12_machine_91 : decode cX12_machine 91 = .ok (.iload_n 2, 1) := by decide +kernel
theorem dX12_machine_92 : decode cX12_machine 92 = .ok (.iastore, 1) := by decide +kernel
theorem dX12_machine_93 : decode cX12_machine 93 = .ok (.aload_n 0, 1) := by decide +kernel
theorem dX12_machine_94 : decode cX12_machine 94 = .ok (.getfield 35, 3) := by decide +kernel
theorem dX12_machine_97 : decode cX12_machine 97 = .ok (.aload_n 0, 1) := by decide +kernel
theorem dX12_machine_98 : decode cX12_machine 98 = .ok (.getfield 160, 3) := by decide +kernel
theorem dX12_machine_101 : decode cX12_machine 101 = .ok (.iload_n 3, 1) := by decide +kernel
theorem dX12_machine_102 : decode cX12_machine 102 = .ok (.sipush 10000, 3) := by decide +kernel
theorem dX12_machine_105 : decode cX12_machine 105 = .ok (.idiv, 1) := by decide +kernel
theorem dX12_machine_106 : decode cX12_machine 106 = .ok (.iastore, 1) := by decide +kernel
theorem dX12_machine_107 : decode cX12_machine 107 = .ok (.aload_n 0, 1) := by decide +kernel
theorem dX12_machine_108 : decode cX12_machine 108 = .ok (.getfield 38, 3) := by decide +kernel
theorem dX12_machine_111 : decode cX12_machine 111 = .ok (.aload_n 0, 1) := by decide +kernel
theorem dX12_machine_112 : decode cX12_machine 112 = .ok (.getfield 160, 3) := by decide +kernel
theorem dX12_machine_115 : decode cX12_machine 115 = .ok (.iload_n 3, 1) := by decide +kernel
theorem dX12_machine_116 : decode cX12_machine 116 = .ok (.sipush 10000, 3) := by decide +kernel
theorem dX12_machine_119 : decode cX12_machine 119 = .ok (.irem, 1) := by decide +kernel
theorem dX12_machine_120 : decode cX12_machine 120 = .ok (.iastore, 1) := by decide +kernel
theorem dX12_machine_121 : decode cX12_machine 121 = .ok (.aload_n 0, 1) := by decide +kernel
theorem dX12_machine_122 : decode cX12_machine 122 = .ok (.getfield 41, 3) := by decide +kernel
theorem dX12_machine_125 : decode cX12_machine 125 = .ok (.aload_n 0, 1) := by decide +kernel
theorem dX12_machine_126 : decode cX12_machine 126 = .ok (.getfield 160, 3) := by decide +kernel
theorem dX12_machine_129 : decode cX12_machine 129 = .ok (.iload 4, 2) := by decide +kernel
theorem dX12_machine_131 : decode cX12_machine 131 = .ok (.iastore, 1) := by decide +kernel
theorem dX12_machine_132 : decode cX12_machine 132 = .ok (.aload_n 0, 1) := by decide +kernel
theorem dX12_machine_133 : decode cX12_machine 133 = .ok (.getfield 44, 3) := by decide +kernel
theorem dX12_machine_136 : decode cX12_machine 136 = .ok (.aload_n 0, 1) := by decide +kernel
theorem dX12_machine_137 : decode cX12_machine 137 = .ok (.getfield 160, 3) := by decide +kernel
theorem dX12_machine_140 : decode cX12_machine 140 = .ok (.iconst 1, 1) := by decide +kernel
theorem dX12_machine_141 : decode cX12_machine 141 = .ok (.iastore, 1) := by decide +kernel
theorem dX12_machine_142 : decode cX12_machine 142 = .ok (.aload_n 0, 1) := by decide +kernel
theorem dX12_machine_143 : decode cX12_machine 143 = .ok (.dup, 1) := by decide +kernel
theorem dX12_machine_144 : decode cX12_machine 144 = .ok (.getfield 160, 3) := by decide +kernel
theorem dX12_machine_147 : decode cX12_machine 147 = .ok (.iconst 1, 1) := by decide +kernel
theorem dX12_machine_148 : decode cX12_machine 148 = .ok (.iadd, 1) := by decide +kernel
theorem dX12_machine_149 : decode cX12_machine 149 = .ok (.putfield 160, 3) := by decide +kernel
theorem dX12_machine_152 : decode cX12_machine 152 = .ok (.aload_n 0, 1) := by decide +kernel
theorem dX12_machine_153 : decode cX12_machine 153 = .ok (.getfield 160, 3) := by decide +kernel
theorem dX12_machine_156 : decode cX12_machine 156 = .ok (.iconst 1, 1) := by decide +kernel
theorem dX12_machine_157 : decode cX12_machine 157 = .ok (.isub, 1) := by decide +kernel
theorem dX12_machine_158 : decode cX12_machine 158 = .ok (.ireturn, 1) := by decide +kernel
theorem sb_wsX12_set_wsX120 : ∀ w ∈ wsX120, w ∈ wsX12_set := fun _ h => (List.mem_cons_of_mem _ (List.mem_append_right _ h))
set_option maxRecDepth 20000 in
theorem ggX12_set_X12_isMachine : GoodIn wsX12_set wsX12_isMachine := goodIn_sub (x_mc (List.mem_cons_of_mem _ (List.mem_append_left _ (List.mem_of_getElem? (i := 10) rfl))) (x_ina (x_mc (List.mem_cons_of_mem _ (List.mem_append_left _ (List.mem_of_getElem? (i := 11) rfl))) (x_mc (List.mem_cons_of_mem _ (List.mem_append_left _ (List.mem_of_getElem? (i := 12) rfl))) (x_mc (List.mem_cons_of_mem _ (List.mem_append_left _ (List.mem_of_getElem? (i := 13) rfl))) (x_mc (List.mem_cons_of_mem _ (List.mem_append_left _ (List.mem_of_getElem? (i := 9) rfl))) (x_mc (List.mem_cons_of_mem _ (List.mem_append_left _ (List.mem_of_getElem? (i := 14) rfl))) x_mn))))) (fun _ h => sb_wsX12_set_wsX120 _ h))) (by decide +kernel)
set_option maxRecDepth 20000 in
theorem gX12_set_X12_isMachine : GoodIn wsX12_set (wsV RX12 183 RX12 yX12_isMachine wsX12_isMachine) := goodIn_app (goodIn_of _ (by decide +kernel)) ggX12_set_X12_isMachine
set_option maxRecDepth 20000 in
theorem ggX12_set_X12_in : GoodIn wsX12_set wsX12_in := goodIn_sub (x_mc (List.mem_cons_of_mem _ (List.mem_append_left _ (List.mem_of_getElem? (i := 14) rfl))) x_mn) (by decide +kernel)
set_option maxRecDepth 20000 in
theorem gX12_set_X12_in : GoodIn wsX12_set (va_wsS RX12 156 yX12_in wsX12_in) := goodIn_app (goodIn_of _ (by decide +kernel)) ggX12_set_X12_in
theorem dX12_set_0 : decode cX12_set 0 = .ok (.aload_n 0, 1) := by decide +kernel
theorem dX12_set_1 : decode cX12_set 1 = .ok (.iload_n 1, 1) := by decide +kernel
theorem dX12_set_2 : decode cX12_set 2 = .ok (.invokevirtual 183, 3) := by decide +kernel
theorem dX12_set_5 : decode cX12_set 5 = .ok (.ifCond .eq 46, 3) := by decide +kernel
theorem dX12_set_8 : decode cX12_set 8 = .ok (.iload_n 2, 1) := by decide +kernel
theorem dX12_set_9 : decode cX12_set 9 = .ok (.i2l, 1) := by decide +kernel
theorem dX12_set_10 : decode cX12_set 10 = .ok (.lconst 0, 1) := by decide +kernel
theorem dX12_set_11 : decode cX12_set 11 = .ok (.ldc2_w 186, 3) := by decide +kernel
theorem dX12_set_14 : decode cX12_set 14 = .ok (.invokestatic 156, 3) := by decide +kernel
theorem dX12_set_17 : decode cX12_set 17 = .ok (.ifCond .eq 34, 3) := by decide +kernel
theorem dX12_set_20 : decode cX12_set 20 = .ok (.iload_n 3, 1) := by decide +kernel
theorem dX12_set_21 : decode cX12_set 21 = .ok (.i2l, 1) := by decide +kernel
theorem dX12_set_22 : decode cX12_set 22 = .ok (.lconst 0, 1) := by decide +kernel
theorem dX12_set_23 : decode cX12_set 23 = .ok (.iload_n 2, 1) := by decide +kernel
theorem dX12_set_24 : decode cX12_set 24 = .ok (.ifCond .ne 9, 3) := by decide +kernel
theorem dX12_set_27 : decode cX12_set 27 = .ok (.ldc2_w 173, 3) := by decide +kernel
theorem dX12_set_30 : decode cX12_set 30 = .ok (.goto 15, 3) := by decide +kernel
theorem dX12_set_33 : decode cX12_set 33 = .ok (.iload_n 2, 1) := by decide +kernel
theorem dX12_set_34 : decode cX12_set 34 = .ok (.iconst 1, 1) := by decide +kernel
theorem dX12_set_35 : decode cX12_set 35 = .ok (.if_icmp .ne 9, 3) := by decide +kernel
theorem dX12_set_38 : decode cX12_set 38 = .ok (.ldc2_w 181, 3) := by decide +kernel
theorem dX12_set_41 : decode cX12_set 41 = .ok (.goto 4, 3) := by decide +kernel
theorem dX12_set_44 : decode cX12_set 44 = .ok (.lconst 1, 1) := by decide +kernel
theorem dX12_set_45 : decode cX12_set 45 = .ok (.invokestatic 156, 3) := by decide +kernel
theorem dX12_set_48 : decode cX12_set 48 = .ok (.ifCond .ne 6, 3) := by decide +kernel
theorem dX12_set_51 : decode cX12_set 51 = .ok (.bipush (-2), 2) := by decide +kernel
theorem dX12_set_53 : decode cX12_set 53 = .ok (.ireturn, 1) := by decide +kernel
theorem dX12_set_54 : decode cX12_set 54 = .ok (.iload_n 2, 1) := by decide +kernel
theorem dX12_set_55 : decode cX12_set 55 = .ok (.ifCond .ne 12, 3) := by decide +kernel
theorem dX12_set_58 : decode cX12_set 58 = .ok (.aload_n 0, 1) := by decide +kernel
theorem dX12_set_59 : decode cX12_set 59 = .ok (.getfield 32, 3) := by decide +kernel
theorem dX12_set_62 : decode cX12_set 62 = .ok (.iload_n 1, 1) := by decide +kernel
theorem dX12_set_63 : decode cX12_set 63 = .ok (.iaload, 1) := by decide +kernel
theorem dX12_set_64 : decode cX12_set 64 = .ok (.goto 23, 3) := by decide +kernel
theorem dX12_set_67 : decode cX12_set 67 = .ok (.iload_n 2, 1) := by decide +kernel
theorem dX12_set_68 : decode cX12_set 68 = .ok (.iconst 1, 1) := by decide +kernel
theorem dX12_set_69 : decode cX12_set 69 = .ok (.if_icmp .ne 12, 3) := by decide +kernel
theorem dX12_set_72 : decode cX12_set 72 = .ok (.aload_n 0, 1) := by decide +kernel
theorem dX12_set_73 : decode cX12_set 73 = .ok (.getfield 41, 3) := by decide +kernel
theorem dX12_set_76 : decode cX12_set 76 = .ok (.iload_n 1, 1) := by decide +kernel
theorem dX12_set_77 : decode cX12_set 77 = .ok (.iaload, 1) := by decide +kernel
theorem dX12_set_78 : decode cX12_set 78 = .ok (.goto 9, 3) := by decide +kernel
theorem dX12_set_81 : decode cX12_set 81 = .ok (.aload_n 0, 1) := by decide +kernel
theorem dX12_set_82 : decode cX12_set 82 = .ok (.getfield 44, 3) := by decide +kernel
theorem dX12_set_85 : decode cX12_set 85 = .ok (.iload_n 1, 1) := by decide +kernel
theorem dX12_set_86 : decode cX12_set 86 = .ok (.iaload, 1) := by decide +kernel
theorem dX12_set_87 : decode cX12_set 87 = .ok (.istore 4, 2) := by decide +kernel
theorem dX12_set_89 : decode cX12_set 89 = .ok (.iload_n 2, 1) := by decide +kernel
theorem dX12_set_90 : decode cX12_set 90 = .ok (.ifCond .ne 10, 3) := by decide +kernel
theorem dX12_set_93 : decode cX12_set 93 = .ok (.aload_n 0, 1) := by decide +kernel
theorem dX12_set_94 : decode cX12_set 94 = .ok (.getfield 32, 3) := by decide +kernel
theorem dX12_set_97 : decode cX12_set 97 = .ok (.iload_n 1, 1) := by decide +kernel
theorem dX12_set_98 : decode cX12_set 98 = .ok (.iload_n 3, 1) := by decide +kernel
theorem dX12_set_99 : decode cX12_set 99 = .ok (.iastore, 1) := by decide +kernel
theorem dX12_set_100 : decode cX12_set 100 = .ok (.iload_n 2, 1) := by decide +kernel
theorem dX12_set_101 : decode cX12_set 101 = .ok (.iconst 1, 1) := by decide +kernel
theorem dX12_set_102 : decode cX12_set 102 = .ok (.if_icmp .ne 10, 3) := by decide +kernel
theorem dX12_set_105 : decode cX12_set 105 = .ok (.aload_n 0, 1) := by decide +kernel
theorem dX12_set_106 : decode cX12_set 106 = .ok (.getfield 41, 3) := by decide +kernel
theorem dX12_set_109 : decode cX12_set 109 = .ok (.iload_n 1, 1) := by decide +kernel
theorem dX12_set_110 : decode cX12_set 110 = .ok (.iload_n 3, 1) := by decide +kernel
theorem dX12_set_111 : decode cX12_set 111 = .ok (.iastore, 1) := by decide +kernel
theorem dX12_set_112 : decode cX12_set 112 = .ok (.iload_n 2, 1) := by decide +kernel
theorem dX12_set_113 : decode cX12_set 113 = .ok (.iconst 2, 1) := by decide +kernel
theorem dX12_set_114 : decode cX12_set 114 = .ok (.if_icmp .ne 10, 3) := by decide +kernel
theorem dX12_set_117 : decode cX12_set 117 = .ok (.aload_n 0, 1) := by decide +kernel
theorem dX12_set_118 : decode cX12_set 118 = .ok (.getfield 44, 3) := by decide +kernel
theorem dX12_set_121 : decode cX12_set 121 = .ok (.iload_n 1, 1) := by decide +kernel
theorem dX12_set_122 : decode cX12_set 122 = .ok (.iload_n 3, 1) := by decide +kernel
theorem dX12_set_123 : decode cX12_set 123 = .ok (.iastore, 1) := by decide +kernel
theorem dX12_set_124 : decode cX12_set 124 = .ok (.iload 4, 2) := by decide +kernel
theorem dX12_set_126 : decode cX12_set 126 = .ok (.ireturn, 1) := by decide +kernel
theorem sb_wsX12_drum_wsX120 : ∀ w ∈ wsX120, w ∈ wsX12_drum := fun _ h => (List.mem_cons_of_mem _ (List.mem_append_right _ h))
set_option maxRecDepth 20000 in
theorem ggX12_drum_X12_in : GoodIn wsX12_drum wsX12_in := goodIn_sub (x_mc (List.mem_cons_of_mem _ (List.mem_append_left _ (List.mem_of_getElem? (i := 6) rfl))) x_mn) (by decide +kernel)
set_option maxRecDepth 20000 in
theorem gX12_drum_X12_in : GoodIn wsX12_drum (va_wsS RX12 156 yX12_in wsX12_in) := goodIn_app (goodIn_of _ (by decide +kernel)) ggX12_drum_X12_in
theorem dX12_drum_0 : decode cX12_drum 0 = .ok (.iload_n 1, 1) := by decide +kernel
theorem dX12_drum_1 : decode cX12_drum 1 = .ok (.i2l, 1) := by decide +kernel
theorem dX12_drum_2 : decode cX12_drum 2 = .ok (.lconst 1, 1) := by decide +kernel
theorem dX12_drum_3 : decode cX12_drum 3 = .ok (.ldc2_w 169, 3) := by decide +kernel
theorem dX12_drum_6 : decode cX12_drum 6 = .ok (.invokestatic 156, 3) := by decide +kernel
theorem dX12_drum_9 : decode cX12_drum 9 = .ok (.ifCond .ne 6, 3) := by decide +kernel
theorem dX12_drum_12 : decode cX12_drum 12 = .ok (.bipush (-2), 2) := by decide +kernel
theorem dX12_drum_14 : decode cX12_drum 14 = .ok (.ireturn, 1) := by decide +kernel
theorem dX12_drum_15 : decode cX12_drum 15 = .ok (.aload_n 0, 1) := by decide +kernel
theorem dX12_drum_16 : decode cX12_drum 16 = .ok (.getfield 163, 3) := by decide +kernel
theorem dX12_drum_19 : decode cX12_drum 19 = .ok (.bipush 12, 2) := by decide +kernel
theorem dX12_drum_21 : decode cX12_drum 21 = .ok (.if_icmp .ne 6, 3) := by decide +kernel
theorem dX12_drum_24 : decode cX12_drum 24 = .ok (.bipush (-4), 2) := by decide +kernel
theorem dX12_drum_26 : decode cX12_drum 26 = .ok (.ireturn, 1) := by decide +kernel
theorem dX12_drum_27 : decode cX12_drum 27 = .ok (.aload_n 0, 1) := by decide +kernel
theorem dX12_drum_28 : decode cX12_drum 28 = .ok (.getfield 47, 3) := by decide +kernel
theorem dX12_drum_31 : decode cX12_drum 31 = .ok (.aload_n 0, 1) := by decide +kernel
theorem dX12_drum_32 : decode cX12_drum 32 = .ok (.getfield 163, 3) := by decide +kernel
theorem dX12_drum_35 : decode cX12_drum 35 = .ok (.iload_n 1, 1) := by decide +kernel
theorem dX12_drum_36 : decode cX12_drum 36 = .ok (.iastore, 1) := by decide +kernel
theorem dX12_drum_37 : decode cX12_drum 37 = .ok (.aload_n 0, 1) := by decide +kernel
theorem dX12_drum_38 : decode cX12_drum 38 = .ok (.dup, 1) := by decide +kernel
theorem dX12_drum_39 : decode cX12_drum 39 = .ok (.getfield 163, 3) := by decide +kernel
theorem dX12_drum_42 : decode cX12_drum 42 = .ok (.iconst 1, 1) := by decide +kernel
theorem dX12_drum_43 : decode cX12_drum 43 = .ok (.iadd, 1) := by decide +kernel
theorem dX12_drum_44 : decode cX12_drum 44 = .ok (.putfield 163, 3) := by decide +kernel
theorem dX12_drum_47 : decode cX12_drum 47 = .ok (.aload_n 0, 1) := by decide +kernel
theorem dX12_drum_48 : decode cX12_drum 48 = .ok (.getfield 163, 3) := by decide +kernel
theorem dX12_drum_51 : decode cX12_drum 51 = .ok (.iconst 1, 1) := by decide +kernel
theorem dX12_drum_52 : decode cX12_drum 52 = .ok (.isub, 1) := by decide +kernel
theorem dX12_drum_53 : decode cX12_drum 53 = .ok (.ireturn, 1) := by decide +kernel
theorem dX12_isBehind_0 : decode cX12_isBehind 0 = .ok (.iload_n 1, 1) := by decide +kernel
theorem dX12_isBehind_1 : decode cX12_isBehind 1 = .ok (.istore_n 3, 1) := by decide +kernel
theorem dX12_isBehind_2 : decode cX12_isBehind 2 = .ok (.iload_n 3, 1) := by decide +kernel
theorem dX12_isBehind_3 : decode cX12_isBehind 3 = .ok (.iconst (-1), 1) := by decide +kernel
theorem dX12_isBehind_4 : decode cX12_isBehind 4 = .ok (.if_icmp .eq 60, 3) := by decide +kernel
theorem dX12_isBehind_7 : decode cX12_isBehind 7 = .ok (.iload_n 3, 1) := by decide +kernel
theorem dX12_isBehind_8 : decode cX12_isBehind 8 = .ok (.iload_n 2, 1) := by decide +kernel
theorem dX12_isBehind_9 : decode cX12_isBehind 9 = .ok (.if_icmp .eq 55, 3) := by decide +kernel
theorem dX12_isBehind_12 : decode cX12_isBehind 12 = .ok (.iconst (-1), 1) := by decide +kernel
theorem dX12_isBehind_13 : decode cX12_isBehind 13 = .ok (.istore 4, 2) := by decide +kernel
theorem dX12_isBehind_15 : decode cX12_isBehind 15 = .ok (.iconst 0, 1) := by decide +kernel
theorem dX12_isBehind_16 : decode cX12_isBehind 16 = .ok (.istore 5, 2) := by decide +kernel
theorem dX12_isBehind_18 : decode cX12_isBehind 18 = .ok (.iload 5, 2) := by decide +kernel
theorem dX12_isBehind_20 : decode cX12_isBehind 20 = .ok (.aload_n 0, 1) := by decide +kernel
theorem dX12_isBehind_21 : decode cX12_isBehind 21 = .ok (.getfield 166, 3) := by decide +kernel
theorem dX12_isBehind_24 : decode cX12_isBehind 24 = .ok (.if_icmp .ge 34, 3) := by decide +kernel
theorem dX12_isBehind_27 : decode cX12_isBehind 27 = .ok (.aload_n 0, 1) := by decide +kernel
theorem dX12_isBehind_28 : decode cX12_isBehind 28 = .ok (.getfield 56, 3) := by decide +kernel
theorem dX12_isBehind_31 : decode cX12_isBehind 31 = .ok (.iload 5, 2) := by decide +kernel
theorem dX12_isBehind_33 : decode cX12_isBehind 33 = .ok (.iaload, 1) := by decide +kernel
theorem dX12_isBehind_34 : decode cX12_isBehind 34 = .ok (.iload_n 3, 1) := by decide +kernel
theorem dX12_isBehind_35 : decode cX12_isBehind 35 = .ok (.if_icmp .ne 13, 3) := by decide +kernel
theorem dX12_isBehind_38 : decode cX12_isBehind 38 = .ok (.aload_n 0, 1) := by decide +kernel
theorem dX12_isBehind_39 : decode cX12_isBehind 39 = .ok (.getfield 53, 3) := by decide +kernel
theorem dX12_isBehind_42 : decode cX12_isBehind 42 = .ok (.iload 5, 2) := by decide +kernel
theorem dX12_isBehind_44 : decode cX12_isBehind 44 = .ok (.iaload, 1) := by decide +kernel
theorem dX12_isBehind_45 : decode cX12_isBehind 45 = .ok (.goto 5, 3) := by decide +kernel
theorem dX12_isBehind_48 : decode cX12_isBehind 48 = .ok (.iload 4, 2) := by decide +kernel
theorem dX12_isBehind_50 : decode cX12_isBehind 50 = .ok (.istore 4, 2) := by decide +kernel
theorem dX12_isBehind_52 : decode cX12_isBehind 52 = .ok (.iinc 5 1, 3) := by decide +kernel
theorem dX12_isBehind_55 : decode cX12_isBehind 55 = .ok (.goto (-37), 3) := by decide +kernel
theorem dX12_isBehind_58 : decode cX12_isBehind 58 = .ok (.iload 4, 2) := by decide +kernel
theorem dX12_isBehind_60 : decode cX12_isBehind 60 = .ok (.istore_n 3, 1) := by decide +kernel
theorem dX12_isBehind_61 : decode cX12_isBehind 61 = .ok (.goto (-59), 3) := by decide +kernel
theorem dX12_isBehind_64 : decode cX12_isBehind 64 = .ok (.iload_n 3, 1) := by decide +kernel
theorem dX12_isBehind_65 : decode cX12_isBehind 65 = .ok (.iload_n 2, 1) := by decide +kernel
theorem dX12_isBehind_66 : decode cX12_isBehind 66 = .ok (.if_icmp .ne 7, 3) := by decide +kernel
theorem dX12_isBehind_69 : decode cX12_isBehind 69 = .ok (.iconst 1, 1) := by decide +kernel
theorem dX12_isBehind_70 : decode cX12_isBehind 70 = .ok (.goto 4, 3) := by decide +kernel
theorem dX12_isBehind_73 : decode cX12_isBehind 73 = .ok (.iconst 0, 1) := by decide +kernel
theorem dX12_isBehind_74 : decode cX12_isBehind 74 = .ok (.ireturn, 1) := by decide +kernel
theorem sb_wsX12_belt_wsX12_belt_r1 : ∀ w ∈ wsX12_belt_r1, w ∈ wsX12_belt := fun _ h => (List.mem_cons_of_mem _ (List.mem_append_left _ (List.mem_append_left _ h)))
theorem sb_wsX12_belt_wsX12_belt_r2 : ∀ w ∈ wsX12_belt_r2, w ∈ wsX12_belt := fun _ h => (List.mem_cons_of_mem _ (List.mem_append_left _ (List.mem_append_right _ h)))
theorem sb_wsX12_belt_wsX120 : ∀ w ∈ wsX120, w ∈ wsX12_belt := fun _ h => (List.mem_cons_of_mem _ (List.mem_append_right _ h))
set_option maxRecDepth 20000 in
theorem ggX12_belt_X12_in : GoodIn wsX12_belt wsX12_in := goodIn_sub (x_mc (sb_wsX12_belt_wsX12_belt_r1 _ (List.mem_of_getElem? (i := 13) rfl)) x_mn) (by decide +kernel)
set_option maxRecDepth 20000 in
theorem gX12_belt_X12_in : GoodIn wsX12_belt (va_wsS RX12 156 yX12_in wsX12_in) := goodIn_app (goodIn_of _ (by decide +kernel)) ggX12_belt_X12_in
set_option maxRecDepth 20000 in
theorem ggX12_belt_X12_isShaft : GoodIn wsX12_belt wsX12_isShaft := goodIn_sub (x_mc (sb_wsX12_belt_wsX12_belt_r1 _ (List.mem_of_getElem? (i := 17) rfl)) (x_ina (x_mc (sb_wsX12_belt_wsX12_belt_r1 _ (List.mem_of_getElem? (i := 18) rfl)) (x_mc (sb_wsX12_belt_wsX12_belt_r1 _ (List.mem_of_getElem? (i := 10) rfl)) (x_mc (sb_wsX12_belt_wsX12_belt_r1 _ (List.mem_of_getElem? (i := 11) rfl)) (x_mc (sb_wsX12_belt_wsX12_belt_r1 _ (List.mem_of_getElem? (i := 12) rfl)) (x_mc (sb_wsX12_belt_wsX12_belt_r1 _ (List.mem_of_getElem? (i := 13) rfl)) x_mn))))) (fun _ h => sb_wsX12_belt_wsX120 _ h))) (by decide +kernel)
set_option maxRecDepth 20000 in
theorem gX12_belt_X12_isShaft : GoodIn wsX12_belt (wsV RX12 175 RX12 yX12_isShaft wsX12_isShaft) := goodIn_app (goodIn_of _ (by decide +kernel)) ggX12_belt_X12_isShaft
set_option maxRecDepth 20000 in
theorem ggX12_belt_X12_isDrum : GoodIn wsX12_belt wsX12_isDrum := goodIn_sub (x_mc (sb_wsX12_belt_wsX12_belt_r1 _ (List.mem_of_getElem? (i := 22) rfl)) (x_ina (x_mc (sb_wsX12_belt_wsX12_belt_r1 _ (List.mem_of_getElem? (i := 23) rfl)) (x_mc (sb_wsX12_belt_wsX12_belt_r1 _ (List.mem_of_getElem? (i := 10) rfl)) (x_mc (sb_wsX12_belt_wsX12_belt_r1 _ (List.mem_of_getElem? (i := 11) rfl)) (x_mc (sb_wsX12_belt_wsX12_belt_r1 _ (List.mem_of_getElem? (i := 12) rfl)) (x_mc (sb_wsX12_belt_wsX12_belt_r1 _ (List.mem_of_getElem? (i := 13) rfl)) x_mn))))) (fun _ h => sb_wsX12_belt_wsX120 _ h))) (by decide +kernel)
set_option maxRecDepth 20000 in
theorem gX12_belt_X12_isDrum : GoodIn wsX12_belt (wsV RX12 190 RX12 yX12_isDrum wsX12_isDrum) := goodIn_app (goodIn_of _ (by decide +kernel)) ggX12_belt_X12_isDrum
set_option maxRecDepth 20000 in
theorem ggX12_belt_X12_isBehind : GoodIn wsX12_belt wsX12_isBehind := goodIn_sub (x_mc (sb_wsX12_belt_wsX12_belt_r2 _ (List.mem_of_getElem? (i := 3) rfl)) (x_ina (x_mc (sb_wsX12_belt_wsX12_belt_r1 _ (List.mem_of_getElem? (i := 2) rfl)) (x_mc (sb_wsX12_belt_wsX12_belt_r1 _ (List.mem_of_getElem? (i := 3) rfl)) (x_mc (sb_wsX12_belt_wsX12_belt_r1 _ (List.mem_of_getElem? (i := 5) rfl)) x_mn))) (fun _ h => sb_wsX12_belt_wsX120 _ h))) (by decide +kernel)
set_option maxRecDepth 20000 in
theorem gX12_belt_X12_isBehind : GoodIn wsX12_belt (wsV RX12 193 RX12 yX12_isBehind wsX12_isBehind) := goodIn_app (goodIn_of _ (by decide +kernel)) ggX12_belt_X12_isBehind
theorem dX12_belt_0 : decode cX12_belt 0 = .ok (.iload_n 1, 1) := by decide +kernel
theorem dX12_belt_1 : decode cX12_belt 1 = .ok (.i2l, 1) := by decide +kernel
theorem dX12_belt_2 : decode cX12_belt 2 = .ok (.lconst 0, 1) := by decide +kernel
theorem dX12_belt_3 : decode cX12_belt 3 = .ok (.ldc2_w 188, 3) := by decide +kernel
theorem dX12_belt_6 : decode cX12_belt 6 = .ok (.invokestatic 156, 3) := by decide +kernel
theorem dX12_belt_9 : decode cX12_belt 9 = .ok (.ifCond .eq 47, 3) := by decide +kernel
theorem dX12_belt_12 : decode cX12_belt 12 = .ok (.iload_n 2, 1) := by decide +kernel
theorem dX12_belt_13 : decode cX12_belt 13 = .ok (.ifCond .lt 43, 3) := by decide +kernel
theorem dX12_belt_16 : decode cX12_belt 16 = .ok (.aload_n 0, 1) := by decide +kernel
theorem dX12_belt_17 : decode cX12_belt 17 = .ok (.iload_n 2, 1) := by decide +kernel
theorem dX12_belt_18 : decode cX12_belt 18 = .ok (.bipush 10, 2) := by decide +kernel
theorem dX12_belt_20 : decode cX12_belt 20 = .ok (.idiv, 1) := by decide +kernel
theorem dX12_belt_21 : decode cX12_belt 21 = .ok (.invokevirtual 175, 3) := by decide +kernel
theorem dX12_belt_24 : decode cX12_belt 24 = .ok (.ifCond .eq 32, 3) := by decide +kernel
theorem dX12_belt_27 : decode cX12_belt 27 = .ok (.aload_n 0, 1) := by decide +kernel
theorem dX12_belt_28 : decode cX12_belt 28 = .ok (.iload_n 2, 1) := by decide +kernel
theorem dX12_belt_29 : decode cX12_belt 29 = .ok (.bipush 10, 2) := by decide +kernel
theorem dX12_belt_31 : decode cX12_belt 31 = .ok (.irem, 1) := by decide +kernel
theorem dX12_belt_32 : decode cX12_belt 32 = .ok (.invokevirtual 175, 3) := by decide +kernel
theorem dX12_belt_35 : decode cX12_belt 35 = .ok (.ifCond .eq 21, 3) := by decide +kernel
theorem dX12_belt_38 : decode cX12_belt 38 = .ok (.iload_n 2, 1) := by decide +kernel
theorem dX12_belt_39 : decode cX12_belt 39 = .ok (.bipush 10, 2) := by decide +kernel
theorem dX12_belt_41 : decode cX12_belt 41 = .ok (.irem, 1) := by decide +kernel
theorem dX12_belt_42 : decode cX12_belt 42 = .ok (.ifCond .eq 14, 3) := by decide +kernel
theorem dX12_belt_45 : decode cX12_belt 45 = .ok (.iload_n 2, 1) := by decide +kernel
theorem dX12_belt_46 : decode cX12_belt 46 = .ok (.bipush 10, 2) := by decide +kernel
theorem dX12_belt_48 : decode cX12_belt 48 = .ok (.idiv, 1) := by decide +kernel
theorem dX12_belt_49 : decode cX12_belt 49 = .ok (.iload_n 2, 1) := by decide +kernel
theorem dX12_belt_50 : decode cX12_belt 50 = .ok (.bipush 10, 2) := by decide +kernel
theorem dX12_belt_52 : decode cX12_belt 52 = .ok (.irem, 1) := by decide +kernel
theorem dX12_belt_53 : decode cX12_belt 53 = .ok (.if_icmp .ne 6, 3) := by decide +kernel
theorem dX12_belt_56 : decode cX12_belt 56 = .ok (.bipush (-2), 2) := by decide +kernel
theorem dX12_belt_58 : decode cX12_belt 58 = .ok (.ireturn, 1) := by decide +kernel
theorem dX12_belt_59 : decode cX12_belt 59 = .ok (.iload_n 3, 1) := by decide +kernel
theorem dX12_belt_60 : decode cX12_belt 60 = .ok (.ifCond .lt 49, 3) := by decide +kernel
theorem dX12_belt_63 : decode cX12_belt 63 = .ok (.aload_n 0, 1) := by decide +kernel
theorem dX12_belt_64 : decode cX12_belt 64 = .ok (.iload_n 3, 1) := by decide +kernel
theorem dX12_belt_65 : decode cX12_belt 65 = .ok (.bipush 100, 2) := by decide +kernel
theorem dX12_belt_67 : decode cX12_belt 67 = .ok (.idiv, 1) := by decide +kernel
theorem dX12_belt_68 : decode cX12_belt 68 = .ok (.invokevirtual 190, 3) := by decide +kernel
theorem dX12_belt_71 : decode cX12_belt 71 = .ok (.ifCond .eq 38, 3) := by decide +kernel
theorem dX12_belt_74 : decode cX12_belt 74 = .ok (.aload_n 0, 1) := by decide +kernel
theorem dX12_belt_75 : decode cX12_belt 75 = .ok (.iload_n 3, 1) := by decide +kernel
theorem dX12_belt_76 : decode cX12_belt 76 = .ok (.bipush 100, 2) := by decide +kernel
theorem dX12_belt_78 : decode cX12_belt 78 = .ok (.irem, 1) := by decide +kernel
theorem dX12_belt_79 : decode cX12_belt 79 = .ok (.invokevirtual 190, 3) := by decide +kernel
theorem dX12_belt_82 : decode cX12_belt 82 = .ok (.ifCond .eq 27, 3) := by decide +kernel
theorem dX12_belt_85 : decode cX12_belt 85 = .ok (.iload_n 3, 1) := by decide +kernel
theorem dX12_belt_86 : decode cX12_belt 86 = .ok (.bipush 100, 2) := by decide +kernel
theorem dX12_belt_88 : decode cX12_belt 88 = .ok (.idiv, 1) := by decide +kernel
theorem dX12_belt_89 : decode cX12_belt 89 = .ok (.iload_n 3, 1) := by decide +kernel
theorem dX12_belt_90 : decode cX12_belt 90 = .ok (.bipush 100, 2) := by decide +kernel
theorem dX12_belt_92 : decode cX12_belt 92 = .ok (.irem, 1) := by decide +kernel
theorem dX12_belt_93 : decode cX12_belt 93 = .ok (.if_icmp .eq 16, 3) := by decide +kernel
theorem dX12_belt_96 : decode cX12_belt 96 = .ok (.iload 4, 2) := by decide +kernel
theorem dX12_belt_98 : decode cX12_belt 98 = .ok (.i2l, 1) := by decide +kernel
theorem dX12_belt_99 : decode cX12_belt 99 = .ok (.lconst 1, 1) := by decide +kernel
theorem dX12_belt_100 : decode cX12_belt 100 = .ok (.ldc2_w 173, 3) := by decide +kernel
theorem dX12_belt_103 : decode cX12_belt 103 = .ok (.invokestatic 156, 3) := by decide +kernel
theorem dX12_belt_106 : decode cX12_belt 106 = .ok (.ifCond .ne 6, 3) := by decide +kernel
theorem dX12_belt_109 : decode cX12_belt 109 = .ok (.bipush (-2), 2) := by decide +kernel
theorem dX12_belt_111 : decode cX12_belt 111 = .ok (.ireturn, 1) := by decide +kernel
theorem dX12_belt_112 : decode cX12_belt 112 = .ok (.iconst 0, 1) := by decide +kernel
theorem dX12_belt_113 : decode cX12_belt 113 = .ok (.istore 5, 2) := by decide +kernel
theorem dX12_belt_115 : decode cX12_belt 115 = .ok (.iload 5, 2) := by decide +kernel
theorem dX12_belt_117 : decode cX12_belt 117 = .ok (.aload_n 0, 1) := by decide +kernel
theorem dX12_belt_118 : decode cX12_belt 118 = .ok (.getfield 166, 3) := by decide +kernel
theorem dX12_belt_121 : decode cX12_belt 121 = .ok (.if_icmp .ge 26, 3) := by decide +kernel
theorem dX12_belt_124 : decode cX12_belt 124 = .ok (.aload_n 0, 1) := by decide +kernel
theorem dX12_belt_125 : decode cX12_belt 125 = .ok (.getfield 56, 3) := by decide +kernel
theorem dX12_belt_128 : decode cX12_belt 128 = .ok (.iload 5, 2) := by decide +kernel
theorem dX12_belt_130 : decode cX12_belt 130 = .ok (.iaload, 1) := by decide +kernel
theorem dX12_belt_131 : decode cX12_belt 131 = .ok (.iload_n 2, 1) := by decide +kernel
theorem dX12_belt_132 : decode cX12_belt 132 = .ok (.bipush 10, 2) := by decide +kernel
theorem dX12_belt_134 : decode cX12_belt 134 = .ok (.irem, 1) := by decide +kernel
theorem dX12_belt_135 : decode cX12_belt 135 = .ok (.if_icmp .ne 6, 3) := by decide +kernel
theorem dX12_belt_138 : decode cX12_belt 138 = .ok (.bipush (-3), 2) := by decide +kernel
theorem dX12_belt_140 : decode cX12_belt 140 = .ok (.ireturn, 1) := by decide +kernel
theorem dX12_belt_141 : decode cX12_belt 141 = .ok (.iinc 5 1, 3) := by decide +kernel
theorem dX12_belt_144 : decode cX12_belt 144 = .ok (.goto (-29), 3) := by decide +kernel
theorem dX12_belt_147 : decode cX12_belt 147 = .ok (.aload_n 0, 1) := by decide +kernel
theorem dX12_belt_148 : decode cX12_belt 148 = .ok (.iload_n 2, 1) := by decide +kernel
theorem dX12_belt_149 : decode cX12_belt 149 = .ok (.bipush 10, 2) := by decide +kernel
theorem dX12_belt_151 : decode cX12_belt 151 = .ok (.idiv, 1) := by decide +kernel
theorem dX12_belt_152 : decode cX12_belt 152 = .ok (.iload_n 2, 1) := by decide +kernel
theorem dX12_belt_153 : decode cX12_belt 153 = .ok (.bipush 10, 2) := by decide +kernel
theorem dX12_belt_155 : decode cX12_belt 155 = .ok (.irem, 1) := by decide +kernel
theorem dX12_belt_156 : decode cX12_belt 156 = .ok (.invokevirtual 193, 3) := by decide +kernel
theorem dX12_belt_159 : decode cX12_belt 159 = .ok (.ifCond .eq 6, 3) := by decide +kernel
theorem dX12_belt_162 : decode cX12_belt 162 = .ok (.bipush (-3), 2) := by decide +kernel
theorem dX12_belt_164 : decode cX12_belt 164 = .ok (.ireturn, 1) := by decide +kernel
theorem dX12_belt_165 : decode cX12_belt 165 = .ok (.aload_n 0, 1) := by decide +kernel
theorem dX12_belt_166 : decode cX12_belt 166 = .ok (.getfield 166, 3) := by decide +kernel
theorem dX12_belt_169 : decode cX12_belt 169 = .ok (.bipush 7, 2) := by decide +kernel
theorem dX12_belt_171 : decode cX12_belt 171 = .ok (.if_icmp .ne 6, 3) := by decide +kernel
theorem dX12_belt_174 : decode cX12_belt 174 = .ok (.bipush (-4), 2) := by decide +kernel
theorem dX12_belt_176 : decode cX12_belt 176 = .ok (.ireturn, 1) := by decide +kernel
theorem dX12_belt_177 : decode cX12_belt 177 = .ok (.aload_n 0, 1) := by decide +kernel
theorem dX12_belt_178 : decode cX12_belt 178 = .ok (.getfield 50, 3) := by decide +kernel
theorem dX12_belt_181 : decode cX12_belt 181 = .ok (.aload_n 0, 1) := by decide +kernel
theorem dX12_belt_182 : decode cX12_belt 182 = .ok (.getfield 166, 3) := by decide +kernel
theorem dX12_belt_185 : decode cX12_belt 185 = .ok (.iload_n 1, 1) := by decide +kernel
theorem dX12_belt_186 : decode cX12_belt 186 = .ok (.iastore, 1) := by decide +kernel
theorem dX12_belt_187 : decode cX12_belt 187 = .ok (.aload_n 0, 1) := by decide +kernel
theorem dX12_belt_188 : decode cX12_belt 188 = .ok (.getfield 53, 3) := by decide +kernel
theorem dX12_belt_191 : decode cX12_belt 191 = .ok (.aload_n 0, 1) := by decide +kernel
theorem dX12_belt_192 : decode cX12_belt 192 = .ok (.getfield 166, 3) := by decide +kernel
theorem dX12_belt_195 : decode cX12_belt 195 = .ok (.iload_n 2, 1) := by decide +kernel
theorem dX12_belt_196 : decode cX12_belt 196 = .ok (.bipush 10, 2) := by decide +kernel
theorem dX12_belt_198 : decode cX12_belt 198 = .ok (.idiv, 1) := by decide +kernel
theorem dX12_belt_199 : decode cX12_belt 199 = .ok (.iastore, 1) := by decide +kernel
theorem dX12_belt_200 : decode cX12_belt 200 = .ok (.aload_n 0, 1) := by decide +kernel
theorem dX12_belt_201 : decode cX12_belt 201 = .ok (.getfield 56, 3) := by decide +kernel
theorem dX12_belt_204 : decode cX12_belt 204 = .ok (.aload_n 0, 1) := by decide +kernel
theorem dX12_belt_205 : decode cX12_belt 205 = .ok (.getfield 166, 3) := by decide +kernel
theorem dX12_belt_208 : decode cX12_belt 208 = .ok (.iload_n 2, 1) := by decide +kernel
theorem dX12_belt_209 : decode cX12_belt 209 = .ok (.bipush 10, 2) := by decide +kernel
theorem dX12_belt_211 : decode cX12_belt 211 = .ok (.irem, 1) := by decide +kernel
theorem dX12_belt_212 : decode cX12_belt 212 = .ok (.iastore, 1) := by decide +kernel
theorem dX12_belt_213 : decode cX12_belt 213 = .ok (.aload_n 0, 1) := by decide +kernel
theorem dX12_belt_214 : decode cX12_belt 214 = .ok (.getfield 59, 3) := by decide +kernel
theorem dX12_belt_217 : decode cX12_belt 217 = .ok (.aload_n 0, 1) := by decide +kernel
theorem dX12_belt_218 : decode cX12_belt 218 = .ok (.getfield 166, 3) := by decide +kernel
theorem dX12_belt_221 : decode cX12_belt 221 = .ok (.iload_n 3, 1) := by decide +kernel
theorem dX12_belt_222 : decode cX12_belt 222 = .ok (.bipush 100, 2) := by decide +kernel
theorem dX12_belt_224 : decode cX12_belt 224 = .ok (.idiv, 1) := by decide +kernel
theorem dX12_belt_225 : decode cX12_belt 225 = .ok (.iastore, 1) := by decide +kernel
theorem dX12_belt_226 : decode cX12_belt 226 = .ok (.aload_n 0, 1) := by decide +kernel
theorem dX12_belt_227 : decode cX12_belt 227 = .ok (.getfield 62, 3) := by decide +kernel
theorem dX12_belt_230 : decode cX12_belt 230 = .ok (.aload_n 0, 1) := by decide +kernel
theorem dX12_belt_231 : decode cX12_belt 231 = .ok (.getfield 166, 3) := by decide +kernel
theorem dX12_belt_234 : decode cX12_belt 234 = .ok (.iload_n 3, 1) := by decide +kernel
theorem dX12_belt_235 : decode cX12_belt 235 = .ok (.bipush 100, 2) := by decide +kernel
theorem dX12_belt_237 : decode cX12_belt 237 = .ok (.irem, 1) := by decide +kernel
theorem dX12_belt_238 : decode cX12_belt 238 = .ok (.iastore, 1) := by decide +kernel
theorem dX12_belt_239 : decode cX12_belt 239 = .ok (.aload_n 0, 1) := by decide +kernel
theorem dX12_belt_240 : decode cX12_belt 240 = .ok (.getfield 65, 3) := by decide +kernel
theorem dX12_belt_243 : decode cX12_belt 243 = .ok (.aload_n 0, 1) := by decide +kernel
theorem dX12_belt_244 : decode cX12_belt 244 = .ok (.getfield 166, 3) := by decide +kernel
theorem dX12_belt_247 : decode cX12_belt 247 = .ok (.iload 4, 2) := by decide +kernel
theorem dX12_belt_249 : decode cX12_belt 249 = .ok (.iastore, 1) := by decide +kernel
theorem dX12_belt_250 : decode cX12_belt 250 = .ok (.aload_n 0, 1) := by decide +kernel
theorem dX12_belt_251 : decode cX12_belt 251 = .ok (.getfield 68, 3) := by decide +kernel
theorem dX12_belt_254 : decode cX12_belt 254 = .ok (.aload_n 0, 1) := by decide +kernel
theorem dX12_belt_255 : decode cX12_belt 255 = .ok (.getfield 166, 3) := by decide +kernel
theorem dX12_belt_258 : decode cX12_belt 258 = .ok (.iconst 1, 1) := by decide +kernel
theorem dX12_belt_259 : decode cX12_belt 259 = .ok (.iastore, 1) := by decide +kernel
theorem dX12_belt_260 : decode cX12_belt 260 = .ok (.aload_n 0, 1) := by decide +kernel
theorem dX12_belt_261 : decode cX12_belt 261 = .ok (.dup, 1) := by decide +kernel
theorem dX12_belt_262 : decode cX12_belt 262 = .ok (.getfield 166, 3) := by decide +kernel
theorem dX12_belt_265 : decode cX12_belt 265 = .ok (.iconst 1, 1) := by decide +kernel
theorem dX12_belt_266 : decode cX12_belt 266 = .ok (.iadd, 1) := by decide +kernel
theorem dX12_belt_267 : decode cX12_belt 267 = .ok (.putfield 166, 3) := by decide +kernel
theorem dX12_belt_270 : decode cX12_belt 270 = .ok (.aload_n 0, 1) := by decide +kernel
theorem dX12_belt_271 : decode cX12_belt 271 = .ok (.getfield 166, 3) := by decide +kernel
theorem dX12_belt_274 : decode cX12_belt 274 = .ok (.iconst 1, 1) := by decide +kernel
theorem dX12_belt_275 : decode cX12_belt 275 = .ok (.isub, 1) := by decide +kernel
theorem dX12_belt_276 : decode cX12_belt 276 = .ok (.ireturn, 1) := by decide +kernel
theorem sb_wsX12_throwsOn_wsX120 : ∀ w ∈ wsX120, w ∈ wsX12_throwsOn := fun _ h => (List.mem_cons_of_mem _ (List.mem_append_right _ h))
set_option maxRecDepth 20000 in
theorem ggX12_throwsOn_X12_isBelt : GoodIn wsX12_throwsOn wsX12_isBelt := goodIn_sub (x_mc (List.mem_cons_of_mem _ (List.mem_append_left _ (List.mem_of_getElem? (i := 5) rfl))) (x_ina (x_mc (List.mem_cons_of_mem _ (List.mem_append_left _ (List.mem_of_getElem? (i := 6) rfl))) (x_mc (List.mem_cons_of_mem _ (List.mem_append_left _ (List.mem_of_getElem? (i := 7) rfl))) (x_mc (List.mem_cons_of_mem _ (List.mem_append_left _ (List.mem_of_getElem? (i := 8) rfl))) (x_mc (List.mem_cons_of_mem _ (List.mem_append_left _ (List.mem_of_getElem? (i := 4) rfl))) (x_mc (List.mem_cons_of_mem _ (List.mem_append_left _ (List.mem_of_getElem? (i := 9) rfl))) x_mn))))) (fun _ h => sb_wsX12_throwsOn_wsX120 _ h))) (by decide +kernel)
set_option maxRecDepth 20000 in
theorem gX12_throwsOn_X12_isBelt : GoodIn wsX12_throwsOn (wsV RX12 197 RX12 yX12_isBelt wsX12_isBelt) := goodIn_app (goodIn_of _ (by decide +kernel)) ggX12_throwsOn_X12_isBelt
set_option maxRecDepth 20000 in
theorem ggX12_throwsOn_X12_in : GoodIn wsX12_throwsOn wsX12_in := goodIn_sub (x_mc (List.mem_cons_of_mem _ (List.mem_append_left _ (List.mem_of_getElem? (i := 9) rfl))) x_mn) (by decide +kernel)
set_option maxRecDepth 20000 in
theorem gX12_throwsOn_X12_in : GoodIn wsX12_throwsOn (va_wsS RX12 156 yX12_in wsX12_in) := goodIn_app (goodIn_of _ (by decide +kernel)) ggX12_throwsOn_X12_in
theorem dX12_throwsOn_0 : decode cX12_throwsOn 0 = .ok (.aload_n 0, 1) := by decide +kernel
theorem dX12_throwsOn_1 : decode cX12_throwsOn 1 = .ok (.iload_n 1, 1) := by decide +kernel
theorem dX12_throwsOn_2 : decode cX12_throwsOn 2 = .ok (.invokevirtual 197, 3) := by decide +kernel
theorem dX12_throwsOn_5 : decode cX12_throwsOn 5 = .ok (.ifCond .eq 13, 3) := by decide +kernel
theorem dX12_throwsOn_8 : decode cX12_throwsOn 8 = .ok (.iload_n 2, 1) := by decide +kernel
theorem dX12_throwsOn_9 : decode cX12_throwsOn 9 = .ok (.i2l, 1) := by decide +kernel
theorem dX12_throwsOn_10 : decode cX12_throwsOn 10 = .ok (.lconst 0, 1) := by decide +kernel
theorem dX12_throwsOn_11 : decode cX12_throwsOn 11 = .ok (.lconst 1, 1) := by decide +kernel
theorem dX12_throwsOn_12 : decode cX12_throwsOn 12 = .ok (.invokestatic 156, 3) := by decide +kernel
theorem dX12_throwsOn_15 : decode cX12_throwsOn 15 = .ok (.ifCond .ne 6, 3) := by decide +kernel
theorem dX12_throwsOn_18 : decode cX12_throwsOn 18 = .ok (.bipush (-2), 2) := by decide +kernel
theorem dX12_throwsOn_20 : decode cX12_throwsOn 20 = .ok (.ireturn, 1) := by decide +kernel
theorem dX12_throwsOn_21 : decode cX12_throwsOn 21 = .ok (.aload_n 0, 1) := by decide +kernel
theorem dX12_throwsOn_22 : decode cX12_throwsOn 22 = .ok (.getfield 68, 3) := by decide +kernel
theorem dX12_throwsOn_25 : decode cX12_throwsOn 25 = .ok (.iload_n 1, 1) := by decide +kernel
theorem dX12_throwsOn_26 : decode cX12_throwsOn 26 = .ok (.iaload, 1) := by decide +kernel
theorem dX12_throwsOn_27 : decode cX12_throwsOn 27 = .ok (.istore_n 3, 1) := by decide +kernel
theorem dX12_throwsOn_28 : decode cX12_throwsOn 28 = .ok (.aload_n 0, 1) := by decide +kernel
theorem dX12_throwsOn_29 : decode cX12_throwsOn 29 = .ok (.getfield 68, 3) := by decide +kernel
theorem dX12_throwsOn_32 : decode cX12_throwsOn 32 = .ok (.iload_n 1, 1) := by decide +kernel
theorem dX12_throwsOn_33 : decode cX12_throwsOn 33 = .ok (.iload_n 2, 1) := by decide +kernel
theorem dX12_throwsOn_34 : decode cX12_throwsOn 34 = .ok (.iastore, 1) := by decide +kernel
theorem dX12_throwsOn_35 : decode cX12_throwsOn 35 = .ok (.iload_n 3, 1) := by decide +kernel
theorem dX12_throwsOn_36 : decode cX12_throwsOn 36 = .ok (.ireturn, 1) := by decide +kernel
theorem sb_wsX12_change_wsX120 : ∀ w ∈ wsX120, w ∈ wsX12_change := fun _ h => (List.mem_cons_of_mem _ (List.mem_append_right _ h))
set_option maxRecDepth 20000 in
theorem ggX12_change_X12_isBelt : GoodIn wsX12_change wsX12_isBelt := goodIn_sub (x_mc (List.mem_cons_of_mem _ (List.mem_append_left _ (List.mem_of_getElem? (i := 6) rfl))) (x_ina (x_mc (List.mem_cons_of_mem _ (List.mem_append_left _ (List.mem_of_getElem? (i := 7) rfl))) (x_mc (List.mem_cons_of_mem _ (List.mem_append_left _ (List.mem_of_getElem? (i := 8) rfl))) (x_mc (List.mem_cons_of_mem _ (List.mem_append_left _ (List.mem_of_getElem? (i := 9) rfl))) (x_mc (List.mem_cons_of_mem _ (List.mem_append_left _ (List.mem_of_getElem? (i := 5) rfl))) (x_mc (List.mem_cons_of_mem _ (List.mem_append_left _ (List.mem_of_getElem? (i := 10) rfl))) x_mn))))) (fun _ h => sb_wsX12_change_wsX120 _ h))) (by decide +kernel)
set_option maxRecDepth 20000 in
theorem gX12_change_X12_isBelt : GoodIn wsX12_change (wsV RX12 197 RX12 yX12_isBelt wsX12_isBelt) := goodIn_app (goodIn_of _ (by decide +kernel)) ggX12_change_X12_isBelt
set_option maxRecDepth 20000 in
theorem ggX12_change_X12_in : GoodIn wsX12_change wsX12_in := goodIn_sub (x_mc (List.mem_cons_of_mem _ (List.mem_append_left _ (List.mem_of_getElem? (i := 10) rfl))) x_mn) (by decide +kernel)
set_option maxRecDepth 20000 in
theorem gX12_change_X12_in : GoodIn wsX12_change (va_wsS RX12 156 yX12_in wsX12_in) := goodIn_app (goodIn_of _ (by decide +kernel)) ggX12_change_X12_in
set_option maxRecDepth 20000 in
theorem ggX12_change_X12_isDrum : GoodIn wsX12_change wsX12_isDrum := goodIn_sub (x_mc (List.mem_cons_of_mem _ (List.mem_append_left _ (List.mem_of_getElem? (i := 14) rfl))) (x_ina (x_mc (List.mem_cons_of_mem _ (List.mem_append_left _ (List.mem_of_getElem? (i := 15) rfl))) (x_mc (List.mem_cons_of_mem _ (List.mem_append_left _ (List.mem_of_getElem? (i := 8) rfl))) (x_mc (List.mem_cons_of_mem _ (List.mem_append_left _ (List.mem_of_getElem? (i := 9) rfl))) (x_mc (List.mem_cons_of_mem _ (List.mem_append_left _ (List.mem_of_getElem? (i := 5) rfl))) (x_mc (List.mem_cons_of_mem _ (List.mem_append_left _ (List.mem_of_getElem? (i := 10) rfl))) x_mn))))) (fun _ h => sb_wsX12_change_wsX120 _ h))) (by decide +kernel)
set_option maxRecDepth 20000 in
theorem gX12_change_X12_isDrum : GoodIn wsX12_change (wsV RX12 190 RX12 yX12_isDrum wsX12_isDrum) := goodIn_app (goodIn_of _ (by decide +kernel)) ggX12_change_X12_isDrum
theorem dX12_change_0 : decode cX12_change 0 = .ok (.aload_n 0, 1) := by decide +kernel
theorem dX12_change_1 : decode cX12_change 1 = .ok (.iload_n 1, 1) := by decide +kernel
theorem dX12_change_2 : decode cX12_change 2 = .ok (.invokevirtual 197, 3) := by decide +kernel
theorem dX12_change_5 : decode cX12_change 5 = .ok (.ifCond .eq 44, 3) := by decide +kernel
theorem dX12_change_8 : decode cX12_change 8 = .ok (.iload_n 2, 1) := by decide +kernel
theorem dX12_change_9 : decode cX12_change 9 = .ok (.i2l, 1) := by decide +kernel
theorem dX12_change_10 : decode cX12_change 10 = .ok (.lconst 0, 1) := by decide +kernel
theorem dX12_change_11 : decode cX12_change 11 = .ok (.lconst 1, 1) := by decide +kernel
theorem dX12_change_12 : decode cX12_change 12 = .ok (.invokestatic 156, 3) := by decide +kernel
theorem dX12_change_15 : decode cX12_change 15 = .ok (.ifCond .eq 34, 3) := by decide +kernel
theorem dX12_change_18 : decode cX12_change 18 = .ok (.aload_n 0, 1) := by decide +kernel
theorem dX12_change_19 : decode cX12_change 19 = .ok (.iload_n 3, 1) := by decide +kernel
theorem dX12_change_20 : decode cX12_change 20 = .ok (.invokevirtual 190, 3) := by decide +kernel
theorem dX12_change_23 : decode cX12_change 23 = .ok (.ifCond .eq 26, 3) := by decide +kernel
theorem dX12_change_26 : decode cX12_change 26 = .ok (.iload_n 3, 1) := by decide +kernel
theorem dX12_change_27 : decode cX12_change 27 = .ok (.iload_n 2, 1) := by decide +kernel
theorem dX12_change_28 : decode cX12_change 28 = .ok (.ifCond .ne 12, 3) := by decide +kernel
theorem dX12_change_31 : decode cX12_change 31 = .ok (.aload_n 0, 1) := by decide +kernel
theorem dX12_change_32 : decode cX12_change 32 = .ok (.getfield 62, 3) := by decide +kernel
theorem dX12_change_35 : decode cX12_change 35 = .ok (.iload_n 1, 1) := by decide +kernel
theorem dX12_change_36 : decode cX12_change 36 = .ok (.iaload, 1) := by decide +kernel
theorem dX12_change_37 : decode cX12_change 37 = .ok (.goto 9, 3) := by decide +kernel
theorem dX12_change_40 : decode cX12_change 40 = .ok (.aload_n 0, 1) := by decide +kernel
theorem dX12_change_41 : decode cX12_change 41 = .ok (.getfield 59, 3) := by decide +kernel
theorem dX12_change_44 : decode cX12_change 44 = .ok (.iload_n 1, 1) := by decide +kernel
theorem dX12_change_45 : decode cX12_change 45 = .ok (.iaload, 1) := by decide +kernel
theorem dX12_change_46 : decode cX12_change 46 = .ok (.if_icmp .ne 6, 3) := by decide +kernel
theorem dX12_change_49 : decode cX12_change 49 = .ok (.bipush (-2), 2) := by decide +kernel
theorem dX12_change_51 : decode cX12_change 51 = .ok (.ireturn, 1) := by decide +kernel
theorem dX12_change_52 : decode cX12_change 52 = .ok (.iload_n 2, 1) := by decide +kernel
theorem dX12_change_53 : decode cX12_change 53 = .ok (.ifCond .ne 12, 3) := by decide +kernel
theorem dX12_change_56 : decode cX12_change 56 = .ok (.aload_n 0, 1) := by decide +kernel
theorem dX12_change_57 : decode cX12_change 57 = .ok (.getfield 59, 3) := by decide +kernel
theorem dX12_change_60 : decode cX12_change 60 = .ok (.iload_n 1, 1) := by decide +kernel
theorem dX12_change_61 : decode cX12_change 61 = .ok (.iaload, 1) := by decide +kernel
theorem dX12_change_62 : decode cX12_change 62 = .ok (.goto 9, 3) := by decide +kernel
theorem dX12_change_65 : decode cX12_change 65 = .ok (.aload_n 0, 1) := by decide +kernel
theorem dX12_change_66 : decode cX12_change 66 = .ok (.getfield 62, 3) := by decide +kernel
theorem dX12_change_69 : decode cX12_change 69 = .ok (.iload_n 1, 1) := by decide +kernel
theorem dX12_change_70 : decode cX12_change 70 = .ok (.iaload, 1) := by decide +kernel
theorem dX12_change_71 : decode cX12_change 71 = .ok (.istore 4, 2) := by decide +kernel
theorem dX12_change_73 : decode cX12_change 73 = .ok (.iload_n 2, 1) := by decide +kernel
theorem dX12_change_74 : decode cX12_change 74 = .ok (.ifCond .ne 13, 3) := by decide +kernel
theorem dX12_change_77 : decode cX12_change 77 = .ok (.aload_n 0, 1) := by decide +kernel
theorem dX12_change_78 : decode cX12_change 78 = .ok (.getfield 59, 3) := by decide +kernel
theorem dX12_change_81 : decode cX12_change 81 = .ok (.iload_n 1, 1) := by decide +kernel
theorem dX12_change_82 : decode cX12_change 82 = .ok (.iload_n 3, 1) := by decide +kernel
theorem dX12_change_83 : decode cX12_change 83 = .ok (.iastore, 1) := by decide +kernel
theorem dX12_change_84 : decode cX12_change 84 = .ok (.goto 10, 3) := by decide +kernel
theorem dX12_change_87 : decode cX12_change 87 = .ok (.aload_n 0, 1) := by decide +kernel
theorem dX12_change_88 : decode cX12_change 88 = .ok (.getfield 62, 3) := by decide +kernel
theorem dX12_change_91 : decode cX12_change 91 = .ok (.iload_n 1, 1) := by decide +kernel
theorem dX12_change_92 : decode cX12_change 92 = .ok (.iload_n 3, 1) := by decide +kernel
theorem dX12_change_93 : decode cX12_change 93 = .ok (.iastore, 1) := by decide +kernel
theorem dX12_change_94 : decode cX12_change 94 = .ok (.iload 4, 2) := by decide +kernel
theorem dX12_change_96 : decode cX12_change 96 = .ok (.ireturn, 1) := by decide +kernel
theorem dX12_sizeA_0 : decode cX12_sizeA 0 = .ok (.aload_n 0, 1) := by decide +kernel
theorem dX12_sizeA_1 : decode cX12_sizeA 1 = .ok (.getfield 47, 3) := by decide +kernel
theorem dX12_sizeA_4 : decode cX12_sizeA 4 = .ok (.aload_n 0, 1) := by decide +kernel
theorem dX12_sizeA_5 : decode cX12_sizeA 5 = .ok (.getfield 59, 3) := by decide +kernel
theorem dX12_sizeA_8 : decode cX12_sizeA 8 = .ok (.iload_n 1, 1) := by decide +kernel
theorem dX12_sizeA_9 : decode cX12_sizeA 9 = .ok (.iaload, 1) := by decide +kernel
theorem dX12_sizeA_10 : decode cX12_sizeA 10 = .ok (.iaload, 1) := by decide +kernel
theorem dX12_sizeA_11 : decode cX12_sizeA 11 = .ok (.ireturn, 1) := by decide +kernel
theorem dX12_sizeB_0 : decode cX12_sizeB 0 = .ok (.iload_n 1, 1) := by decide +kernel
theorem dX12_sizeB_1 : decode cX12_sizeB 1 = .ok (.aload_n 0, 1) := by decide +kernel
theorem dX12_sizeB_2 : decode cX12_sizeB 2 = .ok (.getfield 71, 3) := by decide +kernel
theorem dX12_sizeB_5 : decode cX12_sizeB 5 = .ok (.if_icmp .ne 10, 3) := by decide +kernel
theorem dX12_sizeB_8 : decode cX12_sizeB 8 = .ok (.aload_n 0, 1) := by decide +kernel
theorem dX12_sizeB_9 : decode cX12_sizeB 9 = .ok (.getfield 200, 3) := by decide +kernel
theorem dX12_sizeB_12 : decode cX12_sizeB 12 = .ok (.goto 14, 3) := by decide +kernel
theorem dX12_sizeB_15 : decode cX12_sizeB 15 = .ok (.aload_n 0, 1) := by decide +kernel
theorem dX12_sizeB_16 : decode cX12_sizeB 16 = .ok (.getfield 47, 3) := by decide +kernel
theorem dX12_sizeB_19 : decode cX12_sizeB 19 = .ok (.aload_n 0, 1) := by decide +kernel
theorem dX12_sizeB_20 : decode cX12_sizeB 20 = .ok (.getfield 62, 3) := by decide +kernel
theorem dX12_sizeB_23 : decode cX12_sizeB 23 = .ok (.iload_n 1, 1) := by decide +kernel
theorem dX12_sizeB_24 : decode cX12_sizeB 24 = .ok (.iaload, 1) := by decide +kernel
theorem dX12_sizeB_25 : decode cX12_sizeB 25 = .ok (.iaload, 1) := by decide +kernel
theorem dX12_sizeB_26 : decode cX12_sizeB 26 = .ok (.ireturn, 1) := by decide +kernel
theorem sb_wsX12_wrapOf_wsX120 : ∀ w ∈ wsX120, w ∈ wsX12_wrapOf := fun _ h => (List.mem_cons_of_mem _ (List.mem_append_right _ h))
set_option maxRecDepth 20000 in
theorem ggX12_wrapOf_X12_sizeB : GoodIn wsX12_wrapOf wsX12_sizeB := goodIn_sub (x_mc (List.mem_cons_of_mem _ (List.mem_append_left _ (List.mem_of_getElem? (i := 5) rfl))) (x_ina (x_mc (List.mem_cons_of_mem _ (List.mem_append_left _ (List.mem_of_getElem? (i := 6) rfl))) (x_mc (List.mem_cons_of_mem _ (List.mem_append_left _ (List.mem_of_getElem? (i := 7) rfl))) (x_mc (List.mem_cons_of_mem _ (List.mem_append_left _ (List.mem_of_getElem? (i := 8) rfl))) (x_mc (List.mem_cons_of_mem _ (List.mem_append_left _ (List.mem_of_getElem? (i := 9) rfl))) x_mn)))) (fun _ h => sb_wsX12_wrapOf_wsX120 _ h))) (by decide +kernel)
set_option maxRecDepth 20000 in
theorem gX12_wrapOf_X12_sizeB : GoodIn wsX12_wrapOf (wsV RX12 203 RX12 yX12_sizeB wsX12_sizeB) := goodIn_app (goodIn_of _ (by decide +kernel)) ggX12_wrapOf_X12_sizeB
set_option maxRecDepth 20000 in
theorem ggX12_wrapOf_X12_sizeA : GoodIn wsX12_wrapOf wsX12_sizeA := goodIn_sub (x_mc (List.mem_cons_of_mem _ (List.mem_append_left _ (List.mem_of_getElem? (i := 13) rfl))) (x_ina (x_mc (List.mem_cons_of_mem _ (List.mem_append_left _ (List.mem_of_getElem? (i := 8) rfl))) (x_mc (List.mem_cons_of_mem _ (List.mem_append_left _ (List.mem_of_getElem? (i := 14) rfl))) x_mn)) (fun _ h => sb_wsX12_wrapOf_wsX120 _ h))) (by decide +kernel)
set_option maxRecDepth 20000 in
theorem gX12_wrapOf_X12_sizeA : GoodIn wsX12_wrapOf (wsV RX12 207 RX12 yX12_sizeA wsX12_sizeA) := goodIn_app (goodIn_of _ (by decide +kernel)) ggX12_wrapOf_X12_sizeA
theorem dX12_wrapOf_0 : decode cX12_wrapOf 0 = .ok (.aload_n 0, 1) := by decide +kernel
theorem dX12_wrapOf_1 : decode cX12_wrapOf 1 = .ok (.iload_n 1, 1) := by decide +kernel
theorem dX12_wrapOf_2 : decode cX12_wrapOf 2 = .ok (.invokevirtual 203, 3) := by decide +kernel
theorem dX12_wrapOf_5 : decode cX12_wrapOf 5 = .ok (.aload_n 0, 1) := by decide +kernel
theorem dX12_wrapOf_6 : decode cX12_wrapOf 6 = .ok (.iload_n 1, 1) := by decide +kernel
theorem dX12_wrapOf_7 : decode cX12_wrapOf 7 = .ok (.invokevirtual 207, 3) := by decide +kernel
theorem dX12_wrapOf_10 : decode cX12_wrapOf 10 = .ok (.isub, 1) := by decide +kernel
theorem dX12_wrapOf_11 : decode cX12_wrapOf 11 = .ok (.istore_n 2, 1) := by decide +kernel
theorem dX12_wrapOf_12 : decode cX12_wrapOf 12 = .ok (.bipush 50, 2) := by decide +kernel
theorem dX12_wrapOf_14 : decode cX12_wrapOf 14 = .ok (.iload_n 2, 1) := by decide +kernel
theorem dX12_wrapOf_15 : decode cX12_wrapOf 15 = .ok (.ifCond .ge 8, 3) := by decide +kernel
theorem dX12_wrapOf_18 : decode cX12_wrapOf 18 = .ok (.iload_n 2, 1) := by decide +kernel
theorem dX12_wrapOf_19 : decode cX12_wrapOf 19 = .ok (.ineg, 1) := by decide +kernel
theorem dX12_wrapOf_20 : decode cX12_wrapOf 20 = .ok (.goto 4, 3) := by decide +kernel
theorem dX12_wrapOf_23 : decode cX12_wrapOf 23 = .ok (.iload_n 2, 1) := by decide +kernel
theorem dX12_wrapOf_24 : decode cX12_wrapOf 24 = .ok (.isub, 1) := by decide +kernel
theorem dX12_wrapOf_25 : decode cX12_wrapOf 25 = .ok (.istore_n 3, 1) := by decide +kernel
theorem dX12_wrapOf_26 : decode cX12_wrapOf 26 = .ok (.iload_n 3, 1) := by decide +kernel
theorem dX12_wrapOf_27 : decode cX12_wrapOf 27 = .ok (.bipush 10, 2) := by decide +kernel
theorem dX12_wrapOf_29 : decode cX12_wrapOf 29 = .ok (.if_icmp .ge 8, 3) := by decide +kernel
theorem dX12_wrapOf_32 : decode cX12_wrapOf 32 = .ok (.bipush 10, 2) := by decide +kernel
theorem dX12_wrapOf_34 : decode cX12_wrapOf 34 = .ok (.goto 4, 3) := by decide +kernel
theorem dX12_wrapOf_37 : decode cX12_wrapOf 37 = .ok (.iload_n 3, 1) := by decide +kernel
theorem dX12_wrapOf_38 : decode cX12_wrapOf 38 = .ok (.istore_n 3, 1) := by decide +kernel
theorem dX12_wrapOf_39 : decode cX12_wrapOf 39 = .ok (.aload_n 0, 1) := by decide +kernel
theorem dX12_wrapOf_40 : decode cX12_wrapOf 40 = .ok (.getfield 50, 3) := by decide +kernel
theorem dX12_wrapOf_43 : decode cX12_wrapOf 43 = .ok (.iload_n 1, 1) := by decide +kernel
theorem dX12_wrapOf_44 : decode cX12_wrapOf 44 = .ok (.iaload, 1) := by decide +kernel
theorem dX12_wrapOf_45 : decode cX12_wrapOf 45 = .ok (.tableswitch 57 1 5 #[35, 40, 57, 45, 50], 35) := by decide +kernel
theorem dX12_wrapOf_80 : decode cX12_wrapOf 80 = .ok (.iload_n 3, 1) := by decide +kernel
theorem dX12_wrapOf_81 : decode cX12_wrapOf 81 = .ok (.bipush 20, 2) := by decide +kernel
theorem dX12_wrapOf_83 : decode cX12_wrapOf 83 = .ok (.iadd, 1) := by decide +kernel
theorem dX12_wrapOf_84 : decode cX12_wrapOf 84 = .ok (.ireturn, 1) := by decide +kernel
theorem dX12_wrapOf_85 : decode cX12_wrapOf 85 = .ok (.iload_n 3, 1) := by decide +kernel
theorem dX12_wrapOf_86 : decode cX12_wrapOf 86 = .ok (.bipush 15, 2) := by decide +kernel
theorem dX12_wrapOf_88 : decode cX12_wrapOf 88 = .ok (.iadd, 1) := by decide +kernel
theorem dX12_wrapOf_89 : decode cX12_wrapOf 89 = .ok (.ireturn, 1) := by decide +kernel
theorem dX12_wrapOf_90 : decode cX12_wrapOf 90 = .ok (.iload_n 3, 1) := by decide +kernel
theorem dX12_wrapOf_91 : decode cX12_wrapOf 91 = .ok (.bipush 10, 2) := by decide +kernel
theorem dX12_wrapOf_93 : decode cX12_wrapOf 93 = .ok (.iadd, 1) := by decide +kernel
theorem dX12_wrapOf_94 : decode cX12_wrapOf 94 = .ok (.ireturn, 1) := by decide +kernel
theorem dX12_wrapOf_95 : decode cX12_wrapOf 95 = .ok (.iload_n 3, 1) := by decide +kernel
theorem dX12_wrapOf_96 : decode cX12_wrapOf 96 = .ok (.bipush 20, 2) := by decide +kernel
theorem dX12_wrapOf_98 : decode cX12_wrapOf 98 = .ok (.iadd, 1) := by decide +kernel
theorem dX12_wrapOf_99 : decode cX12_wrapOf 99 = .ok (.iconst 2, 1) := by decide +kernel
theorem dX12_wrapOf_100 : decode cX12_wrapOf 100 = .ok (.idiv, 1) := by decide +kernel
theorem dX12_wrapOf_101 : decode cX12_wrapOf 101 = .ok (.ireturn, 1) := by decide +kernel
theorem dX12_wrapOf_102 : decode cX12_wrapOf 102 = .ok (.iload_n 3, 1) := by decide +kernel
theorem dX12_wrapOf_103 : decode cX12_wrapOf 103 = .ok (.ireturn, 1) := by decide +kernel
theorem sb_wsX12_longOf_wsX120 : ∀ w ∈ wsX120, w ∈ wsX12_longOf := fun _ h => (List.mem_cons_of_mem _ (List.mem_append_right _ h))
set_option maxRecDepth 20000 in
theorem ggX12_longOf_X12_sizeA : GoodIn wsX12_longOf wsX12_sizeA := goodIn_sub (x_mc (List.mem_cons_of_mem _ (List.mem_append_left _ (List.mem_of_getElem? (i := 8) rfl))) (x_ina (x_mc (List.mem_cons_of_mem _ (List.mem_append_left _ (List.mem_of_getElem? (i := 9) rfl))) (x_mc (List.mem_cons_of_mem _ (List.mem_append_left _ (List.mem_of_getElem? (i := 10) rfl))) x_mn)) (fun _ h => sb_wsX12_longOf_wsX120 _ h))) (by decide +kernel)
set_option maxRecDepth 20000 in
theorem gX12_longOf_X12_sizeA : GoodIn wsX12_longOf (wsV RX12 207 RX12 yX12_sizeA wsX12_sizeA) := goodIn_app (goodIn_of _ (by decide +kernel)) ggX12_longOf_X12_sizeA
set_option maxRecDepth 20000 in
theorem ggX12_longOf_X12_sizeB : GoodIn wsX12_longOf wsX12_sizeB := goodIn_sub (x_mc (List.mem_cons_of_mem _ (List.mem_append_left _ (List.mem_of_getElem? (i := 14) rfl))) (x_ina (x_mc (List.mem_cons_of_mem _ (List.mem_append_left _ (List.mem_of_getElem? (i := 15) rfl))) (x_mc (List.mem_cons_of_mem _ (List.mem_append_left _ (List.mem_of_getElem? (i := 16) rfl))) (x_mc (List.mem_cons_of_mem _ (List.mem_append_left _ (List.mem_of_getElem? (i := 9) rfl))) (x_mc (List.mem_cons_of_mem _ (List.mem_append_left _ (List.mem_of_getElem? (i := 17) rfl))) x_mn)))) (fun _ h => sb_wsX12_longOf_wsX120 _ h))) (by decide +kernel)
set_option maxRecDepth 20000 in
theorem gX12_longOf_X12_sizeB : GoodIn wsX12_longOf (wsV RX12 203 RX12 yX12_sizeB wsX12_sizeB) := goodIn_app (goodIn_of _ (by decide +kernel)) ggX12_longOf_X12_sizeB
theorem dX12_longOf_0 : decode cX12_longOf 0 = .ok (.aload_n 0, 1) := by decide +kernel
theorem dX12_longOf_1 : decode cX12_longOf 1 = .ok (.getfield 23, 3) := by decide +kernel
theorem dX12_longOf_4 : decode cX12_longOf 4 = .ok (.aload_n 0, 1) := by decide +kernel
theorem dX12_longOf_5 : decode cX12_longOf 5 = .ok (.getfield 53, 3) := by decide +kernel
theorem dX12_longOf_8 : decode cX12_longOf 8 = .ok (.iload_n 1, 1) := by decide +kernel
theorem dX12_longOf_9 : decode cX12_longOf 9 = .ok (.iaload, 1) := by decide +kernel
theorem dX12_longOf_10 : decode cX12_longOf 10 = .ok (.iaload, 1) := by decide +kernel
theorem dX12_longOf_11 : decode cX12_longOf 11 = .ok (.aload_n 0, 1) := by decide +kernel
theorem dX12_longOf_12 : decode cX12_longOf 12 = .ok (.getfield 23, 3) := by decide +kernel
theorem dX12_longOf_15 : decode cX12_longOf 15 = .ok (.aload_n 0, 1) := by decide +kernel
theorem dX12_longOf_16 : decode cX12_longOf 16 = .ok (.getfield 56, 3) := by decide +kernel
theorem dX12_longOf_19 : decode cX12_longOf 19 = .ok (.iload_n 1, 1) := by decide +kernel
theorem dX12_longOf_20 : decode cX12_longOf 20 = .ok (.iaload, 1) := by decide +kernel
theorem dX12_longOf_21 : decode cX12_longOf 21 = .ok (.iaload, 1) := by decide +kernel
theorem dX12_longOf_22 : decode cX12_longOf 22 = .ok (.isub, 1) := by decide +kernel
theorem dX12_longOf_23 : decode cX12_longOf 23 = .ok (.istore_n 2, 1) := by decide +kernel
theorem dX12_longOf_24 : decode cX12_longOf 24 = .ok (.aload_n 0, 1) := by decide +kernel
theorem dX12_longOf_25 : decode cX12_longOf 25 = .ok (.iload_n 1, 1) := by decide +kernel
theorem dX12_longOf_26 : decode cX12_longOf 26 = .ok (.invokevirtual 207, 3) := by decide +kernel
theorem dX12_longOf_29 : decode cX12_longOf 29 = .ok (.aload_n 0, 1) := by decide +kernel
theorem dX12_longOf_30 : decode cX12_longOf 30 = .ok (.iload_n 1, 1) := by decide +kernel
theorem dX12_longOf_31 : decode cX12_longOf 31 = .ok (.invokevirtual 203, 3) := by decide +kernel
theorem dX12_longOf_34 : decode cX12_longOf 34 = .ok (.iadd, 1) := by decide +kernel
theorem dX12_longOf_35 : decode cX12_longOf 35 = .ok (.istore_n 3, 1) := by decide +kernel
theorem dX12_longOf_36 : decode cX12_longOf 36 = .ok (.iconst 2, 1) := by decide +kernel
theorem dX12_longOf_37 : decode cX12_longOf 37 = .ok (.iload_n 2, 1) := by decide +kernel
theorem dX12_longOf_38 : decode cX12_longOf 38 = .ok (.ifCond .ge 8, 3) := by decide +kernel
theorem dX12_longOf_41 : decode cX12_longOf 41 = .ok (.iload_n 2, 1) := by decide +kernel
theorem dX12_longOf_42 : decode cX12_longOf 42 = .ok (.ineg, 1) := by decide +kernel
theorem dX12_longOf_43 : decode cX12_longOf 43 = .ok (.goto 4, 3) := by decide +kernel
theorem dX12_longOf_46 : decode cX12_longOf 46 = .ok (.iload_n 2, 1) := by decide +kernel
theorem dX12_longOf_47 : decode cX12_longOf 47 = .ok (.imul, 1) := by decide +kernel
theorem dX12_longOf_48 : decode cX12_longOf 48 = .ok (.iconst 3, 1) := by decide +kernel
theorem dX12_longOf_49 : decode cX12_longOf 49 = .ok (.iload_n 3, 1) := by decide +kernel
theorem dX12_longOf_50 : decode cX12_longOf 50 = .ok (.imul, 1) := by decide +kernel
theorem dX12_longOf_51 : decode cX12_longOf 51 = .ok (.iconst 2, 1) := by decide +kernel
theorem dX12_longOf_52 : decode cX12_longOf 52 = .ok (.idiv, 1) := by decide +kernel
theorem dX12_longOf_53 : decode cX12_longOf 53 = .ok (.iadd, 1) := by decide +kernel
theorem dX12_longOf_54 : decode cX12_longOf 54 = .ok (.istore 4, 2) := by decide +kernel
theorem dX12_longOf_56 : decode cX12_longOf 56 = .ok (.aload_n 0, 1) := by decide +kernel
theorem dX12_longOf_57 : decode cX12_longOf 57 = .ok (.getfield 50, 3) := by decide +kernel
theorem dX12_longOf_60 : decode cX12_longOf 60 = .ok (.iload_n 1, 1) := by decide +kernel
theorem dX12_longOf_61 : decode cX12_longOf 61 = .ok (.iaload, 1) := by decide +kernel
theorem dX12_longOf_62 : decode cX12_longOf 62 = .ok (.iconst 1, 1) := by decide +kernel
theorem dX12_longOf_63 : decode cX12_longOf 63 = .ok (.if_icmp .eq 13, 3) := by decide +kernel
theorem dX12_longOf_66 : decode cX12_longOf 66 = .ok (.aload_n 0, 1) := by decide +kernel
theorem dX12_longOf_67 : decode cX12_longOf 67 = .ok (.getfield 50, 3) := by decide +kernel
theorem dX12_longOf_70 : decode cX12_longOf 70 = .ok (.iload_n 1, 1) := by decide +kernel
theorem dX12_longOf_71 : decode cX12_longOf 71 = .ok (.iaload, 1) := by decide +kernel
theorem dX12_longOf_72 : decode cX12_longOf 72 = .ok (.iconst 5, 1) := by decide +kernel
theorem dX12_longOf_73 : decode cX12_longOf 73 = .ok (.if_icmp .ne 10, 3) := by decide +kernel
theorem dX12_longOf_76 : decode cX12_longOf 76 = .ok (.iload 4, 2) := by decide +kernel
theorem dX12_longOf_78 : decode cX12_longOf 78 = .ok (.iload_n 3, 1) := by decide +kernel
theorem dX12_longOf_79 : decode cX12_longOf 79 = .ok (.iadd, 1) := by decide +kernel
theorem dX12_longOf_80 : decode cX12_longOf 80 = .ok (.goto 23, 3) := by decide +kernel
theorem dX12_longOf_83 : decode cX12_longOf 83 = .ok (.aload_n 0, 1) := by decide +kernel
theorem dX12_longOf_84 : decode cX12_longOf 84 = .ok (.getfield 50, 3) := by decide +kernel
theorem dX12_longOf_87 : decode cX12_longOf 87 = .ok (.iload_n 1, 1) := by decide +kernel
theorem dX12_longOf_88 : decode cX12_longOf 88 = .ok (.iaload, 1) := by decide +kernel
theorem dX12_longOf_89 : decode cX12_longOf 89 = .ok (.iconst 2, 1) := by decide +kernel
theorem dX12_longOf_90 : decode cX12_longOf 90 = .ok (.if_icmp .ne 11, 3) := by decide +kernel
theorem dX12_longOf_93 : decode cX12_longOf 93 = .ok (.iload 4, 2) := by decide +kernel
theorem dX12_longOf_95 : decode cX12_longOf 95 = .ok (.bipush 10, 2) := by decide +kernel
theorem dX12_longOf_97 : decode cX12_longOf 97 = .ok (.iadd, 1) := by decide +kernel
theorem dX12_longOf_98 : decode cX12_longOf 98 = .ok (.goto 5, 3) := by decide +kernel
theorem dX12_longOf_101 : decode cX12_longOf 101 = .ok (.iload 4, 2) := by decide +kernel
theorem dX12_longOf_103 : decode cX12_longOf 103 = .ok (.ireturn, 1) := by decide +kernel
theorem dX12_common_0 : decode cX12_common 0 = .ok (.lload_n 0, 1) := by decide +kernel
theorem dX12_common_1 : decode cX12_common 1 = .ok (.lstore 4, 2) := by decide +kernel
theorem dX12_common_3 : decode cX12_common 3 = .ok (.lload_n 2, 1) := by decide +kernel
theorem dX12_common_4 : decode cX12_common 4 = .ok (.lstore 6, 2) := by decide +kernel
theorem dX12_common_6 : decode cX12_common 6 = .ok (.lload 6, 2) := by decide +kernel
theorem dX12_common_8 : decode cX12_common 8 = .ok (.lconst 0, 1) := by decide +kernel
theorem dX12_common_9 : decode cX12_common 9 = .ok (.lcmp, 1) := by decide +kernel
theorem dX12_common_10 : decode cX12_common 10 = .ok (.ifCond .eq 21, 3) := by decide +kernel
theorem dX12_common_13 : decode cX12_common 13 = .ok (.lload 4, 2) := by decide +kernel
theorem dX12_common_15 : decode cX12_common 15 = .ok (.lload 6, 2) := by decide +kernel
theorem dX12_common_17 : decode cX12_common 17 = .ok (.lrem, 1) := by decide +kernel
theorem dX12_common_18 : decode cX12_common 18 = .ok (.lstore 8, 2) := by decide +kernel
theorem dX12_common_20 : decode cX12_common 20 = .ok (.lload 6, 2) := by decide +kernel
theorem dX12_common_22 : decode cX12_common 22 = .ok (.lstore 4, 2) := by decide +kernel
theorem dX12_common_24 : decode cX12_common 24 = .ok (.lload 8, 2) := by decide +kernel
theorem dX12_common_26 : decode cX12_common 26 = .ok (.lstore 6, 2) := by decide +kernel
theorem dX12_common_28 : decode cX12_common 28 = .ok (.goto (-22), 3) := by decide +kernel
theorem dX12_common_31 : decode cX12_common 31 = .ok (.lload 4, 2) := by decide +kernel
theorem dX12_common_33 : decode cX12_common 33 = .ok (.lreturn, 1) := by decide +kernel
theorem sb_wsX12_lays_wsX12_lays_r1 : ∀ w ∈ wsX12_lays_r1, w ∈ wsX12_lays := fun _ h => (List.mem_cons_of_mem _ (List.mem_append_left _ (List.mem_append_left _ h)))
theorem sb_wsX12_lays_wsX12_lays_r2 : ∀ w ∈ wsX12_lays_r2, w ∈ wsX12_lays := fun _ h => (List.mem_cons_of_mem _ (List.mem_append_left _ (List.mem_append_right _ h)))
theorem sb_wsX12_lays_wsX120 : ∀ w ∈ wsX120, w ∈ wsX12_lays := fun _ h => (List.mem_cons_of_mem _ (List.mem_append_right _ h))
set_option maxRecDepth 20000 in
theorem ggX12_lays_X12_sizeA : GoodIn wsX12_lays wsX12_sizeA := goodIn_sub (x_mc (sb_wsX12_lays_wsX12_lays_r1 _ (List.mem_of_getElem? (i := 13) rfl)) (x_ina (x_mc (sb_wsX12_lays_wsX12_lays_r1 _ (List.mem_of_getElem? (i := 14) rfl)) (x_mc (sb_wsX12_lays_wsX12_lays_r1 _ (List.mem_of_getElem? (i := 15) rfl)) x_mn)) (fun _ h => sb_wsX12_lays_wsX120 _ h))) (by decide +kernel)
set_option maxRecDepth 20000 in
theorem gX12_lays_X12_sizeA : GoodIn wsX12_lays (wsV RX12 207 RX12 yX12_sizeA wsX12_sizeA) := goodIn_app (goodIn_of _ (by decide +kernel)) ggX12_lays_X12_sizeA
set_option maxRecDepth 20000 in
theorem ggX12_lays_X12_sizeB : GoodIn wsX12_lays wsX12_sizeB := goodIn_sub (x_mc (sb_wsX12_lays_wsX12_lays_r1 _ (List.mem_of_getElem? (i := 19) rfl)) (x_ina (x_mc (sb_wsX12_lays_wsX12_lays_r1 _ (List.mem_of_getElem? (i := 20) rfl)) (x_mc (sb_wsX12_lays_wsX12_lays_r1 _ (List.mem_of_getElem? (i := 21) rfl)) (x_mc (sb_wsX12_lays_wsX12_lays_r1 _ (List.mem_of_getElem? (i := 14) rfl)) (x_mc (sb_wsX12_lays_wsX12_lays_r1 _ (List.mem_of_getElem? (i := 22) rfl)) x_mn)))) (fun _ h => sb_wsX12_lays_wsX120 _ h))) (by decide +kernel)
set_option maxRecDepth 20000 in
theorem gX12_lays_X12_sizeB : GoodIn wsX12_lays (wsV RX12 203 RX12 yX12_sizeB wsX12_sizeB) := goodIn_app (goodIn_of _ (by decide +kernel)) ggX12_lays_X12_sizeB
set_option maxRecDepth 20000 in
theorem ggX12_lays_X12_common : GoodIn wsX12_lays wsX12_common := goodIn_sub (x_mc (sb_wsX12_lays_wsX12_lays_r2 _ (List.mem_of_getElem? (i := 1) rfl)) x_mn) (by decide +kernel)
set_option maxRecDepth 20000 in
theorem gX12_lays_X12_common : GoodIn wsX12_lays (va_wsS RX12 210 yX12_common wsX12_common) := goodIn_app (goodIn_of _ (by decide +kernel)) ggX12_lays_X12_common
theorem dX12_lays_0 : decode cX12_lays 0 = .ok (.iconst 0, 1) := by decide +kernel
theorem dX12_lays_1 : decode cX12_lays 1 = .ok (.istore_n 1, 1) := by decide +kernel
theorem dX12_lays_2 : decode cX12_lays 2 = .ok (.iload_n 1, 1) := by decide +kernel
theorem dX12_lays_3 : decode cX12_lays 3 = .ok (.bipush 8, 2) := by decide +kernel
theorem dX12_lays_5 : decode cX12_lays 5 = .ok (.if_icmp .ge 50, 3) := by decide +kernel
theorem dX12_lays_8 : decode cX12_lays 8 = .ok (.aload_n 0, 1) := by decide +kernel
theorem dX12_lays_9 : decode cX12_lays 9 = .ok (.getfield 74, 3) := by decide +kernel
theorem dX12_lays_12 : decode cX12_lays 12 = .ok (.iload_n 1, 1) := by decide +kernel
theorem dX12_lays_13 : decode cX12_lays 13 = .ok (.iload_n 1, 1) := by decide +kernel
theorem dX12_lays_14 : decode cX12_lays 14 = .ok (.ifCond .ne 11, 3) := by decide +kernel
theorem dX12_lays_17 : decode cX12_lays 17 = .ok (.aload_n 0, 1) := by decide +kernel
theorem dX12_lays_18 : decode cX12_lays 18 = .ok (.getfield 145, 3) := by decide +kernel
theorem dX12_lays_21 : decode cX12_lays 21 = .ok (.i2l, 1) := by decide +kernel
theorem dX12_lays_22 : decode cX12_lays 22 = .ok (.goto 4, 3) := by decide +kernel
theorem dX12_lays_25 : decode cX12_lays 25 = .ok (.lconst 0, 1) := by decide +kernel
theorem dX12_lays_26 : decode cX12_lays 26 = .ok (.lastore, 1) := by decide +kernel
theorem dX12_lays_27 : decode cX12_lays 27 = .ok (.aload_n 0, 1) := by decide +kernel
theorem dX12_lays_28 : decode cX12_lays 28 = .ok (.getfield 78, 3) := by decide +kernel
theorem dX12_lays_31 : decode cX12_lays 31 = .ok (.iload_n 1, 1) := by decide +kernel
theorem dX12_lays_32 : decode cX12_lays 32 = .ok (.lconst 1, 1) := by decide +kernel
theorem dX12_lays_33 : decode cX12_lays 33 = .ok (.lastore, 1) := by decide +kernel
theorem dX12_lays_34 : decode cX12_lays 34 = .ok (.aload_n 0, 1) := by decide +kernel
theorem dX12_lays_35 : decode cX12_lays 35 = .ok (.getfield 81, 3) := by decide +kernel
theorem dX12_lays_38 : decode cX12_lays 38 = .ok (.iload_n 1, 1) := by decide +kernel
theorem dX12_lays_39 : decode cX12_lays 39 = .ok (.iload_n 1, 1) := by decide +kernel
theorem dX12_lays_40 : decode cX12_lays 40 = .ok (.ifCond .ne 7, 3) := by decide +kernel
theorem dX12_lays_43 : decode cX12_lays 43 = .ok (.iconst 1, 1) := by decide +kernel
theorem dX12_lays_44 : decode cX12_lays 44 = .ok (.goto 4, 3) := by decide +kernel
theorem dX12_lays_47 : decode cX12_lays 47 = .ok (.iconst 0, 1) := by decide +kernel
theorem dX12_lays_48 : decode cX12_lays 48 = .ok (.iastore, 1) := by decide +kernel
theorem dX12_lays_49 : decode cX12_lays 49 = .ok (.iinc 1 1, 3) := by decide +kernel
theorem dX12_lays_52 : decode cX12_lays 52 = .ok (.goto (-50), 3) := by decide +kernel
theorem dX12_lays_55 : decode cX12_lays 55 = .ok (.iconst 1, 1) := by decide +kernel
theorem dX12_lays_56 : decode cX12_lays 56 = .ok (.istore_n 1, 1) := by decide +kernel
theorem dX12_lays_57 : decode cX12_lays 57 = .ok (.iload_n 1, 1) := by decide +kernel
theorem dX12_lays_58 : decode cX12_lays 58 = .ok (.ifCond .eq 198, 3) := by decide +kernel
theorem dX12_lays_61 : decode cX12_lays 61 = .ok (.iconst 0, 1) := by decide +kernel
theorem dX12_lays_62 : decode cX12_lays 62 = .ok (.istore_n 1, 1) := by decide +kernel
theorem dX12_lays_63 : decode cX12_lays 63 = .ok (.iconst 0, 1) := by decide +kernel
theorem dX12_lays_64 : decode cX12_lays 64 = .ok (.istore_n 2, 1) := by decide +kernel
theorem dX12_lays_65 : decode cX12_lays 65 = .ok (.iload_n 2, 1) := by decide +kernel
theorem dX12_lays_66 : decode cX12_lays 66 = .ok (.aload_n 0, 1) := by decide +kernel
theorem dX12_lays_67 : decode cX12_lays 67 = .ok (.getfield 166, 3) := by decide +kernel
theorem dX12_lays_70 : decode cX12_lays 70 = .ok (.if_icmp .ge 183, 3) := by decide +kernel
theorem dX12_lays_73 : decode cX12_lays 73 = .ok (.aload_n 0, 1) := by decide +kernel
theorem dX12_lays_74 : decode cX12_lays 74 = .ok (.getfield 68, 3) := by decide +kernel
theorem dX12_lays_77 : decode cX12_lays 77 = .ok (.iload_n 2, 1) := by decide +kernel
theorem dX12_lays_78 : decode cX12_lays 78 = .ok (.iaload, 1) := by decide +kernel
theorem dX12_lays_79 : decode cX12_lays 79 = .ok (.ifCond .eq 168, 3) := by decide +kernel
theorem dX12_lays_82 : decode cX12_lays 82 = .ok (.aload_n 0, 1) := by decide +kernel
theorem dX12_lays_83 : decode cX12_lays 83 = .ok (.getfield 81, 3) := by decide +kernel
theorem dX12_lays_86 : decode cX12_lays 86 = .ok (.aload_n 0, 1) := by decide +kernel
theorem dX12_lays_87 : decode cX12_lays 87 = .ok (.getfield 53, 3) := by decide +kernel
theorem dX12_lays_90 : decode cX12_lays 90 = .ok (.iload_n 2, 1) := by decide +kernel
theorem dX12_lays_91 : decode cX12_lays 91 = .ok (.iaload, 1) := by decide +kernel
theorem dX12_lays_92 : decode cX12_lays 92 = .ok (.iaload, 1) := by decide +kernel
theorem dX12_lays_93 : decode cX12_lays 93 = .ok (.ifCond .eq 154, 3) := by decide +kernel
theorem dX12_lays_96 : decode cX12_lays 96 = .ok (.aload_n 0, 1) := by decide +kernel
theorem dX12_lays_97 : decode cX12_lays 97 = .ok (.getfield 81, 3) := by decide +kernel
theorem dX12_lays_100 : decode cX12_lays 100 = .ok (.aload_n 0, 1) := by decide +kernel
theorem dX12_lays_101 : decode cX12_lays 101 = .ok (.getfield 56, 3) := by decide +kernel
theorem dX12_lays_104 : decode cX12_lays 104 = .ok (.iload_n 2, 1) := by decide +kernel
theorem dX12_lays_105 : decode cX12_lays 105 = .ok (.iaload, 1) := by decide +kernel
theorem dX12_lays_106 : decode cX12_lays 106 = .ok (.iaload, 1) := by decide +kernel
theorem dX12_lays_107 : decode cX12_lays 107 = .ok (.ifCond .eq 6, 3) := by decide +kernel
theorem dX12_lays_110 : decode cX12_lays 110 = .ok (.goto 137, 3) := by decide +kernel
theorem dX12_lays_113 : decode cX12_lays 113 = .ok (.aload_n 0, 1) := by decide +kernel
theorem dX12_lays_114 : decode cX12_lays 114 = .ok (.getfield 74, 3) := by decide +kernel
theorem dX12_lays_117 : decode cX12_lays 117 = .ok (.aload_n 0, 1) := by decide +kernel
theorem dX12_lays_118 : decode cX12_lays 118 = .ok (.getfield 53, 3) := by decide +kernel
theorem dX12_lays_121 : decode cX12_lays 121 = .ok (.iload_n 2, 1) := by decide +kernel
theorem dX12_lays_122 : decode cX12_lays 122 = .ok (.iaload, 1) := by decide +kernel
theorem dX12_lays_123 : decode cX12_lays 123 = .ok (.laload, 1) := by decide +kernel
theorem dX12_lays_124 : decode cX12_lays 124 = .ok (.aload_n 0, 1) := by decide +kernel
theorem dX12_lays_125 : decode cX12_lays 125 = .ok (.iload_n 2, 1) := by decide +kernel
theorem dX12_lays_126 : decode cX12_lays 126 = .ok (.invokevirtual 207, 3) := by decide +kernel
theorem dX12_lays_129 : decode cX12_lays 129 = .ok (.aload_n 0, 1) := by decide +kernel
theorem dX12_lays_130 : decode cX12_lays 130 = .ok (.getfield 50, 3) := by decide +kernel
theorem dX12_lays_133 : decode cX12_lays 133 = .ok (.iload_n 2, 1) := by decide +kernel
theorem dX12_lays_134 : decode cX12_lays 134 = .ok (.iaload, 1) := by decide +kernel
theorem dX12_lays_135 : decode cX12_lays 135 = .ok (.iconst 3, 1) := by decide +kernel
theorem dX12_lays_136 : decode cX12_lays 136 = .ok (.if_icmp .ne 7, 3) := by decide +kernel
theorem dX12_lays_139 : decode cX12_lays 139 = .ok (.iconst 2, 1) := by decide +kernel
theorem dX12_lays_140 : decode cX12_lays 140 = .ok (.goto 4, 3) := by decide +kernel
