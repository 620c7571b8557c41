/-! THE START: the classes, the constants -/
theorem st_cl {s : State} {args : Array Value} (hts : ∀ w ∈ lw_tbl, w.before args s = true) : ∃ D : va_G, ∀ (c : Nat) (q : vw_C), vwCl[c]? = some q → u_Kn s q.1 q.2.1 q.2.2 (D.1 c) (D.2 c) := by
  have h0 : ∃ (cC : ClassId) (iS : Nat → Nat), u_Kn s RX0 TX0 13 cC iS := u_known (ws := lw_tbl) hts inX0 (hts (.instantiable RX0 13) (by decide +kernel))
  have h1 : ∃ (cC : ClassId) (iS : Nat → Nat), u_Kn s RX1 TX1 13 cC iS := u_known (ws := lw_tbl) hts inX1 (hts (.instantiable RX1 13) (by decide +kernel))
  have h2 : ∃ (cC : ClassId) (iS : Nat → Nat), u_Kn s RX2 TX2 13 cC iS := u_known (ws := lw_tbl) hts inX2 (hts (.instantiable RX2 13) (by decide +kernel))
  have h3 : ∃ (cC : ClassId) (iS : Nat → Nat), u_Kn s RX3 TX3 13 cC iS := u_known (ws := lw_tbl) hts inX3 (hts (.instantiable RX3 13) (by decide +kernel))
  have h4 : ∃ (cC : ClassId) (iS : Nat → Nat), u_Kn s RX4 TX4 13 cC iS := u_known (ws := lw_tbl) hts inX4 (hts (.instantiable RX4 13) (by decide +kernel))
  have h5 : ∃ (cC : ClassId) (iS : Nat → Nat), u_Kn s RX5 TX5 9 cC iS := u_known (ws := lw_tbl) hts inX5 (hts (.instantiable RX5 9) (by decide +kernel))
  have h6 : ∃ (cC : ClassId) (iS : Nat → Nat), u_Kn s RX6 TX6 18 cC iS := u_known (ws := lw_tbl) hts inX6 (hts (.instantiable RX6 18) (by decide +kernel))
  have h7 : ∃ (cC : ClassId) (iS : Nat → Nat), u_Kn s RX7 TX7 7 cC iS := u_known (ws := lw_tbl) hts inX7 (hts (.instantiable RX7 7) (by decide +kernel))
  have h8 : ∃ (cC : ClassId) (iS : Nat → Nat), u_Kn s RX8 TX8 3 cC iS := u_known (ws := lw_tbl) hts inX8 (hts (.instantiable RX8 3) (by decide +kernel))
  have h9 : ∃ (cC : ClassId) (iS : Nat → Nat), u_Kn s RX9 TX9 5 cC iS := u_known (ws := lw_tbl) hts inX9 (hts (.instantiable RX9 5) (by decide +kernel))
  have h10 : ∃ (cC : ClassId) (iS : Nat → Nat), u_Kn s RX10 TX10 13 cC iS := u_known (ws := lw_tbl) hts inX10 (hts (.instantiable RX10 13) (by decide +kernel))
  have h11 : ∃ (cC : ClassId) (iS : Nat → Nat), u_Kn s RX11 TX11 13 cC iS := u_known (ws := lw_tbl) hts inX11 (hts (.instantiable RX11 13) (by decide +kernel))
  have h12 : ∃ (cC : ClassId) (iS : Nat → Nat), u_Kn s RX12 TX12 71 cC iS := u_known (ws := lw_tbl) hts inX12 (hts (.instantiable RX12 71) (by decide +kernel))
  have ha : ∀ q ∈ vwCl, ∃ (cC : ClassId) (iS : Nat → Nat), u_Kn s q.1 q.2.1 q.2.2 cC iS := (List.forall_mem_cons.mpr ⟨h0, (List.forall_mem_cons.mpr ⟨h1, (List.forall_mem_cons.mpr ⟨h2, (List.forall_mem_cons.mpr ⟨h3, (List.forall_mem_cons.mpr ⟨h4, (List.forall_mem_cons.mpr ⟨h5, (List.forall_mem_cons.mpr ⟨h6, (List.forall_mem_cons.mpr ⟨h7, (List.forall_mem_cons.mpr ⟨h8, (List.forall_mem_cons.mpr ⟨h9, (List.forall_mem_cons.mpr ⟨h10, (List.forall_mem_cons.mpr ⟨h11, (List.forall_mem_cons.mpr ⟨h12, (fun _ h => absurd h List.not_mem_nil)⟩)⟩)⟩)⟩)⟩)⟩)⟩)⟩)⟩)⟩)⟩)⟩)⟩)
  have h : ∀ c : Nat, ∃ d : ClassId × (Nat → Nat), ∀ q : vw_C, vwCl[c]? = some q → u_Kn s q.1 q.2.1 q.2.2 d.1 d.2 := by
    intro c
    cases hc : vwCl[c]? with
    | none => exact ⟨(h0.choose, fun _ => 0), fun q hq => by cases hq⟩
    | some r =>
      obtain ⟨cC, iS, hk⟩ := ha r (List.mem_of_getElem? hc)
      exact ⟨(cC, iS), fun q hq => by cases hq; exact hk⟩
  obtain ⟨f, hf⟩ := Classical.axiomOfChoice h
  exact ⟨(fun c => (f c).1, fun c => (f c).2), hf⟩
theorem st_ar {s : State} {args : Array Value} {ty : FieldType} (h : (Cond.arrayClass ty).before args s = true) : ∃ cA : ClassId, ArrOfT s cA ty ∧ s.vm.findClass ("[" ++ ty.toString) = some cA := by
  obtain ⟨c, k, comp, h1, h2, h3⟩ := Cond.arrayClass_spec (args := args) (first := s) (o := none) (s := s) (idx := []) h
  exact ⟨c, fun n z => ⟨fun k h => (by cases h), k, h2, comp, h3⟩, h1⟩
theorem st_ao {s : State} {args : Array Value} {C : String} (h : (Cond.arrayOver (.object C)).before args s = true) : ∃ cA : ClassId, ArrOfT s cA (.object C) ∧ va_RA s cA (.object C) := by
  obtain ⟨comp, c, k, h1, -, h2, h3, h4⟩ := Cond.arrayOver_spec (args := args) (first := s) (o := none) (s := s) (idx := []) h
  exact ⟨c, fun n z => ⟨fun k h => (by cases h), k, h2, comp, h3⟩, k, comp, h2, h3, h1, h4⟩
theorem st_tys {s : State} {args : Array Value} (hts : ∀ w ∈ lw_tbl, w.before args s = true) : ∃ KA : Nat → ClassId, ∀ (k : Nat) (q : ClassId × FieldType), (xtys KA)[k]? = some q → ArrOfT s q.1 q.2 ∧ va_RA s q.1 q.2 := by
  obtain ⟨a0, b0, c0⟩ := st_ar (hts (.arrayClass .int) (by decide +kernel))
  obtain ⟨a1, b1, c1⟩ := st_ar (hts (.arrayClass .long) (by decide +kernel))
  obtain ⟨a2, b2, c2⟩ := st_ar (hts (.arrayClass .boolean) (by decide +kernel))
  have o0 := hts (.arrayOver (.object RX0)) (by decide +kernel)
  have o5 := hts (.arrayOver (.object RX5)) (by decide +kernel)
  have o8 := hts (.arrayOver (.object RX8)) (by decide +kernel)
  have o9 := hts (.arrayOver (.object RX9)) (by decide +kernel)
  obtain ⟨a3, b3, c3⟩ := st_ao o0
  obtain ⟨a4, b4, c4⟩ := st_ao o5
  obtain ⟨a5, b5, c5⟩ := st_ao o8
  obtain ⟨a6, b6, c6⟩ := st_ao o9
  refine ⟨fun k => match k with | 0 => a0 | 1 => a1 | 2 => a2 | 3 => a3 | 4 => a4 | 5 => a5 | _ => a6, fun k q hq => ?_⟩
  revert q
  have e : ∀ q ∈ ([(a0, .int), (a1, .long), (a2, .boolean), (a3, .object RX0), (a4, .object RX5), (a5, .object RX8), (a6, .object RX9)] : List (ClassId × FieldType)), ArrOfT s q.1 q.2 ∧ va_RA s q.1 q.2 :=
    List.forall_mem_cons.mpr ⟨⟨b0, c0⟩, List.forall_mem_cons.mpr ⟨⟨b1, c1⟩, List.forall_mem_cons.mpr ⟨⟨b2, c2⟩, List.forall_mem_cons.mpr ⟨⟨b3, c3⟩, List.forall_mem_cons.mpr ⟨⟨b4, c4⟩, List.forall_mem_cons.mpr ⟨⟨b5, c5⟩, List.forall_mem_cons.mpr ⟨⟨b6, c6⟩, fun _ h => absurd h List.not_mem_nil⟩⟩⟩⟩⟩⟩⟩
  exact fun q hq => e q (List.mem_of_getElem? hq)
theorem st_cst {s : State} {args : Array Value} (hts : ∀ w ∈ lw_tbl, w.before args s = true) (hg : ∀ w ∈ flatC (Jvm.Cond.and given_1 narrow_1), w.before args s = true) : xCst s := by
  have n0_1 : va_Nc RX0 RX1 s := va_Nc.of (hg (.not (.castable RX0 RX1)) (by decide +kernel))
  have n0_2 : va_Nc RX0 RX2 s := va_Nc.of (hg (.not (.castable RX0 RX2)) (by decide +kernel))
  have n0_3 : va_Nc RX0 RX3 s := va_Nc.of (hg (.not (.castable RX0 RX3)) (by decide +kernel))
  have n0_4 : va_Nc RX0 RX4 s := va_Nc.of (hg (.not (.castable RX0 RX4)) (by decide +kernel))
  have n0_10 : va_Nc RX0 RX10 s := va_Nc.of (hg (.not (.castable RX0 RX10)) (by decide +kernel))
  have n1_0 : va_Nw (.castable RX1 RX0) s := va_Nw.of rfl (hts (.castable RX1 RX0) (by decide +kernel))
  have n1_2 : va_Nc RX1 RX2 s := va_Nc.of (hg (.not (.castable RX1 RX2)) (by decide +kernel))
  have n1_3 : va_Nc RX1 RX3 s := va_Nc.of (hg (.not (.castable RX1 RX3)) (by decide +kernel))
  have n1_4 : va_Nc RX1 RX4 s := va_Nc.of (hg (.not (.castable RX1 RX4)) (by decide +kernel))
  have n1_10 : va_Nc RX1 RX10 s := va_Nc.of (hg (.not (.castable RX1 RX10)) (by decide +kernel))
  have n2_0 : va_Nw (.castable RX2 RX0) s := va_Nw.of rfl (hts (.castable RX2 RX0) (by decide +kernel))
  have n2_1 : va_Nc RX2 RX1 s := va_Nc.of (hg (.not (.castable RX2 RX1)) (by decide +kernel))
  have n2_3 : va_Nc RX2 RX3 s := va_Nc.of (hg (.not (.castable RX2 RX3)) (by decide +kernel))
  have n2_4 : va_Nc RX2 RX4 s := va_Nc.of (hg (.not (.castable RX2 RX4)) (by decide +kernel))
  have n2_10 : va_Nc RX2 RX10 s := va_Nc.of (hg (.not (.castable RX2 RX10)) (by decide +kernel))
  have n3_0 : va_Nw (.castable RX3 RX0) s := va_Nw.of rfl (hts (.castable RX3 RX0) (by decide +kernel))
  have n3_1 : va_Nc RX3 RX1 s := va_Nc.of (hg (.not (.castable RX3 RX1)) (by decide +kernel))
  have n3_2 : va_Nc RX3 RX2 s := va_Nc.of (hg (.not (.castable RX3 RX2)) (by decide +kernel))
  have n3_4 : va_Nc RX3 RX4 s := va_Nc.of (hg (.not (.castable RX3 RX4)) (by decide +kernel))
  have n3_10 : va_Nc RX3 RX10 s := va_Nc.of (hg (.not (.castable RX3 RX10)) (by decide +kernel))
  have n4_0 : va_Nw (.castable RX4 RX0) s := va_Nw.of rfl (hts (.castable RX4 RX0) (by decide +kernel))
  have n4_1 : va_Nc RX4 RX1 s := va_Nc.of (hg (.not (.castable RX4 RX1)) (by decide +kernel))
  have n4_2 : va_Nc RX4 RX2 s := va_Nc.of (hg (.not (.castable RX4 RX2)) (by decide +kernel))
  have n4_3 : va_Nw (.castable RX4 RX3) s := va_Nw.of rfl (hts (.castable RX4 RX3) (by decide +kernel))
  have n4_10 : va_Nc RX4 RX10 s := va_Nc.of (hg (.not (.castable RX4 RX10)) (by decide +kernel))
  have n10_0 : va_Nw (.castable RX10 RX0) s := va_Nw.of rfl (hts (.castable RX10 RX0) (by decide +kernel))
  have n10_1 : va_Nc RX10 RX1 s := va_Nc.of (hg (.not (.castable RX10 RX1)) (by decide +kernel))
  have n10_2 : va_Nw (.castable RX10 RX2) s := va_Nw.of rfl (hts (.castable RX10 RX2) (by decide +kernel))
  have n10_3 : va_Nc RX10 RX3 s := va_Nc.of (hg (.not (.castable RX10 RX3)) (by decide +kernel))
  have n10_4 : va_Nc RX10 RX4 s := va_Nc.of (hg (.not (.castable RX10 RX4)) (by decide +kernel))
  have m0 : va_Nw (.methodLinkNest RX6 168 yX11_lowestBit RX11) s := va_Nw.of rfl (hts (.methodLinkNest RX6 168 yX11_lowestBit RX11) (by decide +kernel))
  have m1 : va_Nw (.methodLinkNest RX11 9 yX6_init RX11) s := va_Nw.of rfl (hts (.methodLinkNest RX11 9 yX6_init RX11) (by decide +kernel))
  have m2 : va_Nw (.methodLinkNest RX11 18 yX7_init RX11) s := va_Nw.of rfl (hts (.methodLinkNest RX11 18 yX7_init RX11) (by decide +kernel))
  have m3 : va_Nw (.methodLinkNest RX11 29 yX9_init RX11) s := va_Nw.of rfl (hts (.methodLinkNest RX11 29 yX9_init RX11) (by decide +kernel))
  have m4 : va_Nw (.methodLinkNest RX11 64 yX8_init RX11) s := va_Nw.of rfl (hts (.methodLinkNest RX11 64 yX8_init RX11) (by decide +kernel))
  have a0 : va_AO RX0 s := va_AO.of (hts (.arrayOver (.object RX0)) (by decide +kernel))
  have a5 : va_AO RX5 s := va_AO.of (hts (.arrayOver (.object RX5)) (by decide +kernel))
  have a8 : va_AO RX8 s := va_AO.of (hts (.arrayOver (.object RX8)) (by decide +kernel))
  have a9 : va_AO RX9 s := va_AO.of (hts (.arrayOver (.object RX9)) (by decide +kernel))
  have P : ∀ i ∈ [0, 1, 2, 3, 4, 10], ∀ j ∈ [0, 1, 2, 3, 4, 10], i ≠ j → ((j = 0 ∨ (i = 4 ∧ j = 3) ∨ (i = 10 ∧ j = 2)) → va_Nw (.castable (xC i).1 (xC j).1) s) ∧ (¬ (j = 0 ∨ (i = 4 ∧ j = 3) ∨ (i = 10 ∧ j = 2)) → va_Nc (xC i).1 (xC j).1 s) := by
    refine List.forall_mem_cons.mpr ⟨?_, List.forall_mem_cons.mpr ⟨?_, List.forall_mem_cons.mpr ⟨?_, List.forall_mem_cons.mpr ⟨?_, List.forall_mem_cons.mpr ⟨?_, List.forall_mem_cons.mpr ⟨?_, fun _ h => absurd h List.not_mem_nil⟩⟩⟩⟩⟩⟩
    · exact (List.forall_mem_cons.mpr ⟨(fun hn => absurd rfl hn), (List.forall_mem_cons.mpr ⟨(fun _ => ⟨fun z => absurd z (by decide), fun _ => n0_1⟩), (List.forall_mem_cons.mpr ⟨(fun _ => ⟨fun z => absurd z (by decide), fun _ => n0_2⟩), (List.forall_mem_cons.mpr ⟨(fun _ => ⟨fun z => absurd z (by decide), fun _ => n0_3⟩), (List.forall_mem_cons.mpr ⟨(fun _ => ⟨fun z => absurd z (by decide), fun _ => n0_4⟩), (List.forall_mem_cons.mpr ⟨(fun _ => ⟨fun z => absurd z (by decide), fun _ => n0_10⟩), (fun _ h => absurd h List.not_mem_nil)⟩)⟩)⟩)⟩)⟩)⟩)
    · exact (List.forall_mem_cons.mpr ⟨(fun _ => ⟨fun _ => n1_0, fun z => absurd (by decide) z⟩), (List.forall_mem_cons.mpr ⟨(fun hn => absurd rfl hn), (List.forall_mem_cons.mpr ⟨(fun _ => ⟨fun z => absurd z (by decide), fun _ => n1_2⟩), (List.forall_mem_cons.mpr ⟨(fun _ => ⟨fun z => absurd z (by decide), fun _ => n1_3⟩), (List.forall_mem_cons.mpr ⟨(fun _ => ⟨fun z => absurd z (by decide), fun _ => n1_4⟩), (List.forall_mem_cons.mpr ⟨(fun _ => ⟨fun z => absurd z (by decide), fun _ => n1_10⟩), (fun _ h => absurd h List.not_mem_nil)⟩)⟩)⟩)⟩)⟩)⟩)
    · exact (List.forall_mem_cons.mpr ⟨(fun _ => ⟨fun _ => n2_0, fun z => absurd (by decide) z⟩), (List.forall_mem_cons.mpr ⟨(fun _ => ⟨fun z => absurd z (by decide), fun _ => n2_1⟩), (List.forall_mem_cons.mpr ⟨(fun hn => absurd rfl hn), (List.forall_mem_cons.mpr ⟨(fun _ => ⟨fun z => absurd z (by decide), fun _ => n2_3⟩), (List.forall_mem_cons.mpr ⟨(fun _ => ⟨fun z => absurd z (by decide), fun _ => n2_4⟩), (List.forall_mem_cons.mpr ⟨(fun _ => ⟨fun z => absurd z (by decide), fun _ => n2_10⟩), (fun _ h => absurd h List.not_mem_nil)⟩)⟩)⟩)⟩)⟩)⟩)
    · exact (List.forall_mem_cons.mpr ⟨(fun _ => ⟨fun _ => n3_0, fun z => absurd (by decide) z⟩), (List.forall_mem_cons.mpr ⟨(fun _ => ⟨fun z => absurd z (by decide), fun _ => n3_1⟩), (List.forall_mem_cons.mpr ⟨(fun _ => ⟨fun z => absurd z (by decide), fun _ => n3_2⟩), (List.forall_mem_cons.mpr ⟨(fun hn => absurd rfl hn), (List.forall_mem_cons.mpr ⟨(fun _ => ⟨fun z => absurd z (by decide), fun _ => n3_4⟩), (List.forall_mem_cons.mpr ⟨(fun _ => ⟨fun z => absurd z (by decide), fun _ => n3_10⟩), (fun _ h => absurd h List.not_mem_nil)⟩)⟩)⟩)⟩)⟩)⟩)
    · exact (List.forall_mem_cons.mpr ⟨(fun _ => ⟨fun _ => n4_0, fun z => absurd (by decide) z⟩), (List.forall_mem_cons.mpr ⟨(fun _ => ⟨fun z => absurd z (by decide), fun _ => n4_1⟩), (List.forall_mem_cons.mpr ⟨(fun _ => ⟨fun z => absurd z (by decide), fun _ => n4_2⟩), (List.forall_mem_cons.mpr ⟨(fun _ => ⟨fun _ => n4_3, fun z => absurd (by decide) z⟩), (List.forall_mem_cons.mpr ⟨(fun hn => absurd rfl hn), (List.forall_mem_cons.mpr ⟨(fun _ => ⟨fun z => absurd z (by decide), fun _ => n4_10⟩), (fun _ h => absurd h List.not_mem_nil)⟩)⟩)⟩)⟩)⟩)⟩)
    · exact (List.forall_mem_cons.mpr ⟨(fun _ => ⟨fun _ => n10_0, fun z => absurd (by decide) z⟩), (List.forall_mem_cons.mpr ⟨(fun _ => ⟨fun z => absurd z (by decide), fun _ => n10_1⟩), (List.forall_mem_cons.mpr ⟨(fun _ => ⟨fun _ => n10_2, fun z => absurd (by decide) z⟩), (List.forall_mem_cons.mpr ⟨(fun _ => ⟨fun z => absurd z (by decide), fun _ => n10_3⟩), (List.forall_mem_cons.mpr ⟨(fun _ => ⟨fun z => absurd z (by decide), fun _ => n10_4⟩), (List.forall_mem_cons.mpr ⟨(fun hn => absurd rfl hn), (fun _ h => absurd h List.not_mem_nil)⟩)⟩)⟩)⟩)⟩)⟩)
  exact ⟨fun i j hi hj => P i hi j hj, (List.forall_mem_cons.mpr ⟨m0, (List.forall_mem_cons.mpr ⟨m1, (List.forall_mem_cons.mpr ⟨m2, (List.forall_mem_cons.mpr ⟨m3, (List.forall_mem_cons.mpr ⟨m4, (fun _ h => absurd h List.not_mem_nil)⟩)⟩)⟩)⟩)⟩), (List.forall_mem_cons.mpr ⟨a0, (List.forall_mem_cons.mpr ⟨a5, (List.forall_mem_cons.mpr ⟨a8, (List.forall_mem_cons.mpr ⟨a9, (fun _ h => absurd h List.not_mem_nil)⟩)⟩)⟩)⟩)⟩
theorem st_xK {s : State} {args : Array Value} (hts : ∀ w ∈ lw_tbl, w.before args s = true) (hg : ∀ w ∈ flatC (Jvm.Cond.and given_1 narrow_1), w.before args s = true) : ∃ (D : va_G) (KA : Nat → ClassId), xK D KA s := by
  obtain ⟨D, hD⟩ := st_cl hts
  obtain ⟨KA, hKA⟩ := st_tys hts
  exact ⟨D, KA, ⟨hD, hKA⟩, st_cst hts hg⟩
def tmS (i : Nat) : Term := match i with
  | 0 => .string RX11 30
  | 1 => .string RX7 99
  | _ => .string RX7 110
theorem st_xZ {s : State} {b : Addr} (hts : ∀ w ∈ lw_tbl, w.before #[Value.ref b] s = true) (hg : ∀ w ∈ flatC (Jvm.Cond.and given_1 narrow_1), w.before #[Value.ref b] s = true) : ∃ zs : ZS, xZ zs (fun q => s.heap.size ≤ q) s := by
  have hA : ∀ a : Nat, a < s.heap.size → ¬ (fun q : Nat => s.heap.size ≤ q) a := fun a h => Nat.not_le.mpr h
  have x1 : ∀ i : Nat, i < 3 → Cond.exactly (tmS i) "java/lang/String" ∈ flatC (Jvm.Cond.and given_1 narrow_1) := by decide +kernel
  have x2 : ∀ i : Nat, i < 3 → Cond.eq (.field (tmS i) "java/lang/String" "coder" "B") (.int 0) ∈ flatC (Jvm.Cond.and given_1 narrow_1) := by decide +kernel
  have x3 : ∀ i : Nat, i < 3 → Cond.arrayOf (.field (tmS i) "java/lang/String" "value" "[B") .byte ∈ flatC (Jvm.Cond.and given_1 narrow_1) := by decide +kernel
  have x4 : ∀ i : Nat, i < 3 → Cond.eq (.length (.field (tmS i) "java/lang/String" "value" "[B")) (.int (Int32.ofNat (xLen.getD i 0))) ∈ flatC (Jvm.Cond.and given_1 narrow_1) := by decide +kernel
  have x5 : ∀ i : Nat, i < 3 → ∀ j : Nat, j < xLen.getD i 0 → Cond.eq (.elem (.field (tmS i) "java/lang/String" "value" "[B") (.int (Int32.ofNat j))) (.int ((xByt.getD i []).getD j 0)) ∈ flatC (Jvm.Cond.and given_1 narrow_1) := by decide +kernel
  have x6 : ∀ i : Nat, i < 3 → ∀ j : Nat, j < 3 → i ≠ j → Cond.not (Cond.eq (tmS i) (tmS j)) ∈ flatC (Jvm.Cond.and given_1 narrow_1) ∨ Cond.not (Cond.eq (tmS j) (tmS i)) ∈ flatC (Jvm.Cond.and given_1 narrow_1) := by decide +kernel
  obtain ⟨adK, adV, hS, hE⟩ := vk_Sof (args := #[Value.ref b]) (s := s) (N := 3) (tm := tmS) (len := xLen) (byt := xByt) (A := fun q => s.heap.size ≤ q) (by decide) (fun i hi => hg _ (x1 i hi)) (fun i hi => hg _ (x2 i hi)) (fun i hi => hg _ (x3 i hi)) (fun i hi => hg _ (x4 i hi)) (fun i hi j hj => hg _ (x5 i hi j hj)) (fun i j hi hj hn => (x6 i hi j hj hn).imp (fun h => hg _ h) (fun h => hg _ h)) hA
  have z1 : va_Z "java/lang/String" "COMPACT_STRINGS" "Z" (.int 1) (fun q => s.heap.size ≤ q) s s.heap := va_Zof (hts (.laysStatic "java/lang/String" "COMPACT_STRINGS" "Z") (by decide +kernel)) (hts (.initialized "java/lang/String") (by decide +kernel)) (va_eqi (hg (.eq (.static "java/lang/String" "COMPACT_STRINGS" "Z") (.int 1)) (by decide +kernel))) hA
  obtain ⟨v, hv, hr⟩ := Cond.isRef_spec (args := #[Value.ref b]) (first := s) (o := none) (s := s) (idx := []) (hg (.isRef (.static "jdk/internal/util/Preconditions" "SIOOBE_FORMATTER" "Ljava/util/function/BiFunction;")) (by decide +kernel))
  have z2 : va_Z "jdk/internal/util/Preconditions" "SIOOBE_FORMATTER" "Ljava/util/function/BiFunction;" v (fun q => s.heap.size ≤ q) s s.heap := va_Zof (hts (.laysStatic "jdk/internal/util/Preconditions" "SIOOBE_FORMATTER" "Ljava/util/function/BiFunction;") (by decide +kernel)) (hts (.initialized "jdk/internal/util/Preconditions") (by decide +kernel)) hv hA
  have z3 : ∃ w, v = va_rf w := by
    cases v with
    | null => exact ⟨none, rfl⟩
    | ref a => exact ⟨some a, rfl⟩
    | _ => exact absurd hr (by simp [Value.isRef])
  obtain ⟨w, rfl⟩ := z3
  refine ⟨(adK, adV), hS, z1, ⟨w, z2⟩, ?_, ?_, ?_⟩
  · exact vk_R.of (A := #[Value.ref b]) (hts (.stringRef RX11 30 "wear load * hours ; mind 5 < wrap ; want size + 3 ;") (by decide +kernel)) (hE 0 (by decide))
  · exact vk_R.of (A := #[Value.ref b]) (hts (.stringRef RX7 99 "();+-*<=") (by decide +kernel)) (hE 1 (by decide))
  · exact vk_R.of (A := #[Value.ref b]) (hts (.stringRef RX7 110 "kind  turns wrap  load  size  hours wear  mind  want  or    and   not   ") (by decide +kernel)) (hE 2 (by decide))
