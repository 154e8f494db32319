set_option maxRecDepth 100000 in
set_option maxHeartbeats 4000000 in
theorem lt_ac_int : Cond.arrayClass .int ∈ lw_tbl := (wm1 _ (List.mem_of_getElem? (i := 70) rfl))
set_option maxRecDepth 100000 in
set_option maxHeartbeats 4000000 in
theorem lt_ac_long : Cond.arrayClass .long ∈ lw_tbl := (wm1 _ (List.mem_of_getElem? (i := 153) rfl))
set_option maxRecDepth 100000 in
set_option maxHeartbeats 4000000 in
theorem lt_ac_byte : Cond.arrayClass .byte ∈ lw_tbl := (wm1 _ (List.mem_of_getElem? (i := 112) rfl))
set_option maxRecDepth 100000 in
set_option maxHeartbeats 4000000 in
theorem lt_ac_boolean : Cond.arrayClass .boolean ∈ lw_tbl := (wm1 _ (List.mem_of_getElem? (i := 223) rfl))
set_option maxRecDepth 100000 in
set_option maxHeartbeats 4000000 in
theorem lt_ao_S : Cond.arrayOver (.object "LinkDays$Sheet") ∈ lw_tbl := (wm2 _ (List.mem_of_getElem? (i := 6) rfl))
set_option maxRecDepth 100000 in
set_option maxHeartbeats 4000000 in
theorem lt_ao_I : Cond.arrayOver (.array .int) ∈ lw_tbl := (wm1 _ (List.mem_of_getElem? (i := 209) rfl))
set_option maxRecDepth 100000 in
set_option maxHeartbeats 4000000 in
theorem lt_ls_D : Cond.laysStatic "LinkDays$Delay" "DIGITS" "[J" ∈ lw_tbl := (wm4 _ (List.mem_of_getElem? (i := 22) rfl))
set_option maxRecDepth 100000 in
set_option maxHeartbeats 4000000 in
theorem lt_ls_C : Cond.laysStatic "java/lang/String" "COMPACT_STRINGS" "Z" ∈ lw_tbl := (wm2 _ (List.mem_of_getElem? (i := 176) rfl))
set_option maxRecDepth 100000 in
set_option maxHeartbeats 4000000 in
theorem lt_in_D : Cond.initialized "LinkDays$Delay" ∈ lw_tbl := (wm1 _ (List.mem_of_getElem? (i := 10) rfl))
set_option maxRecDepth 100000 in
set_option maxHeartbeats 4000000 in
theorem lt_in_S : Cond.initialized "java/lang/String" ∈ lw_tbl := (wm1 _ (List.mem_of_getElem? (i := 13) rfl))
set_option maxRecDepth 100000 in
set_option maxHeartbeats 4000000 in
theorem lt_sr : Cond.stringRef "LinkDays$Tape" 36 "orpb" ∈ lw_tbl := (wm2 _ (List.mem_of_getElem? (i := 162) rfl))
set_option maxRecDepth 100000 in
set_option maxHeartbeats 4000000 in
theorem lt_n40 : Cond.methodLinkNest RX6 49 yX10_within "LinkDays" ∈ lw_tbl := (wm3 _ (List.mem_of_getElem? (i := 144) rfl))
set_option maxRecDepth 100000 in
set_option maxHeartbeats 4000000 in
theorem lt_n19 : Cond.methodLinkNest RX9 19 yX10_within "LinkDays" ∈ lw_tbl := (wm2 _ (List.mem_of_getElem? (i := 145) rfl))
set_option maxRecDepth 100000 in
set_option maxHeartbeats 4000000 in
theorem lt_nl_31 : Cond.methodLinkNest RX10 31 yX9_init "LinkDays" ∈ lw_tbl := (wm1 _ (List.mem_of_getElem? (i := 97) rfl))
set_option maxRecDepth 100000 in
set_option maxHeartbeats 4000000 in
theorem lt_nl_41 : Cond.methodLinkNest RX10 41 yX5_init "LinkDays" ∈ lw_tbl := (wm1 _ (List.mem_of_getElem? (i := 115) rfl))
set_option maxRecDepth 100000 in
set_option maxHeartbeats 4000000 in
theorem lt_nl_48 : Cond.methodLinkNest RX10 48 yX8_init "LinkDays" ∈ lw_tbl := (wm1 _ (List.mem_of_getElem? (i := 142) rfl))
set_option maxRecDepth 100000 in
set_option maxHeartbeats 4000000 in
theorem lt_nl_55 : Cond.methodLinkNest RX10 55 yX6_init "LinkDays" ∈ lw_tbl := (wm1 _ (List.mem_of_getElem? (i := 156) rfl))
set_option maxRecDepth 100000 in
set_option maxHeartbeats 4000000 in
theorem lt_nl_62 : Cond.methodLinkNest RX10 62 yX2_init "LinkDays" ∈ lw_tbl := (wm1 _ (List.mem_of_getElem? (i := 187) rfl))
set_option maxRecDepth 100000 in
set_option maxHeartbeats 4000000 in
theorem lt_nl_69 : Cond.methodLinkNest RX10 69 yX0_init "LinkDays" ∈ lw_tbl := (wm1 _ (List.mem_of_getElem? (i := 204) rfl))
set_option maxRecDepth 100000 in
set_option maxHeartbeats 4000000 in
theorem lt_nl_76 : Cond.methodLinkNest RX10 76 yX4_init "LinkDays" ∈ lw_tbl := (wm1 _ (List.mem_of_getElem? (i := 226) rfl))
set_option maxRecDepth 100000 in
set_option maxHeartbeats 4000000 in
theorem lt_nl_94 : Cond.methodLinkNest RX10 94 yX7_init "LinkDays" ∈ lw_tbl := (wm2 _ (List.mem_of_getElem? (i := 8) rfl))
set_option maxRecDepth 100000 in
set_option maxHeartbeats 4000000 in
theorem lt_it_X0 : Cond.instantiable RX0 3 ∈ lw_tbl := (wm1 _ (List.mem_of_getElem? (i := 203) rfl))
set_option maxRecDepth 100000 in
set_option maxHeartbeats 4000000 in
theorem lt_it_X1 : Cond.instantiable RX1 6 ∈ lw_tbl := (wm1 _ (List.mem_of_getElem? (i := 30) rfl))
set_option maxRecDepth 100000 in
set_option maxHeartbeats 4000000 in
theorem lt_it_X2 : Cond.instantiable RX2 3 ∈ lw_tbl := (wm1 _ (List.mem_of_getElem? (i := 186) rfl))
set_option maxRecDepth 100000 in
set_option maxHeartbeats 4000000 in
theorem lt_it_X3 : Cond.instantiable RX3 4 ∈ lw_tbl := (wm1 _ (List.mem_of_getElem? (i := 72) rfl))
set_option maxRecDepth 100000 in
set_option maxHeartbeats 4000000 in
theorem lt_it_X4 : Cond.instantiable RX4 4 ∈ lw_tbl := (wm1 _ (List.mem_of_getElem? (i := 225) rfl))
set_option maxRecDepth 100000 in
set_option maxHeartbeats 4000000 in
theorem lt_it_X5 : Cond.instantiable RX5 4 ∈ lw_tbl := (wm1 _ (List.mem_of_getElem? (i := 114) rfl))
set_option maxRecDepth 100000 in
set_option maxHeartbeats 4000000 in
theorem lt_it_X6 : Cond.instantiable RX6 8 ∈ lw_tbl := (wm1 _ (List.mem_of_getElem? (i := 155) rfl))
set_option maxRecDepth 100000 in
set_option maxHeartbeats 4000000 in
theorem lt_it_X7 : Cond.instantiable RX7 4 ∈ lw_tbl := (wm2 _ (List.mem_of_getElem? (i := 7) rfl))
set_option maxRecDepth 100000 in
set_option maxHeartbeats 4000000 in
theorem lt_it_X8 : Cond.instantiable RX8 2 ∈ lw_tbl := (wm1 _ (List.mem_of_getElem? (i := 141) rfl))
set_option maxRecDepth 100000 in
set_option maxHeartbeats 4000000 in
theorem lt_it_X9 : Cond.instantiable RX9 3 ∈ lw_tbl := (wm1 _ (List.mem_of_getElem? (i := 96) rfl))
theorem st_arr {args : Array Value} {s : State} {ty : FieldType} (h : (Cond.arrayClass ty).before args s = true) : ∃ cA : ClassId, ArrOfT s cA ty ∧ s.vm.findClass ("[" ++ ty.toString) = some cA := by
  obtain ⟨c, kA, comp, h1, h2, h3⟩ := Cond.arrayClass_spec h
  exact ⟨c, fun n z => ⟨fun k h => (by cases h), kA, h2, comp, h3⟩, h1⟩
theorem st_obj {args : Array Value} {s : State} {C : String} (h : (Cond.arrayOver (.object C)).before args s = true) : ∃ cA : ClassId, ArrOfT s cA (.object C) ∧ va_RA s cA (.object C) := by
  obtain ⟨comp, c, kA, h1, h2, h3, h4, h5⟩ := Cond.arrayOver_spec h
  exact ⟨c, fun n z => ⟨fun k h => (by cases h), kA, h3, comp, h4⟩, kA, comp, h3, h4, h1, h5⟩
theorem st_arr2 {args : Array Value} {s : State} {t : FieldType} (h : (Cond.arrayOver (.array t)).before args s = true) : ∃ cA : ClassId, ArrOfT s cA (.array t) ∧ s.vm.findClass ("[" ++ (FieldType.array t).toString) = some cA := by
  obtain ⟨comp, c, kA, h1, h2, h3, h4, h5⟩ := mu_over h
  exact ⟨c, fun n z => ⟨fun k h => (by cases h), kA, h3, comp, h4⟩, h5⟩
set_option maxHeartbeats 8000000 in
set_option maxRecDepth 100000 in
theorem st_NX {b : Nat} {s : State} {A : Nat → Prop} (hts : ∀ w ∈ lw_tbl, w.before #[Value.ref b] s = true) (hgv : (Jvm.Cond.and given_1 narrow_1).before #[Value.ref b] s = true) (hA : ∀ a : Nat, a < s.heap.size → ¬ A a) : ∃ td ak av : Nat, ∀ k : Nat → ClassId, k 6 = ak → k 7 = av → k 8 = td → NX k A s := by
  have hs := flat_of_before _ hgv
  obtain ⟨td, htd, hT⟩ := va_Tof (tm := .static "LinkDays$Delay" "DIGITS" "[J") (ty := .long) (N := 5) (f := fun j => .long (dig j)) (A := A) (args := #[Value.ref b]) (s := s) (by decide) (hs _ (by decide +kernel)) (va_eqt (hs (Cond.eq (.length (.static "LinkDays$Delay" "DIGITS" "[J")) (.int 5)) (by decide +kernel))) (fun j hj => by
    match j, hj with
    | 0, _ => exact va_eqtl (hs (Cond.eq (.elem (.static "LinkDays$Delay" "DIGITS" "[J") (.int 0)) (.long 13845841)) (by decide +kernel))
    | 1, _ => exact va_eqtl (hs (Cond.eq (.elem (.static "LinkDays$Delay" "DIGITS" "[J") (.int 1)) (.long 226981)) (by decide +kernel))
    | 2, _ => exact va_eqtl (hs (Cond.eq (.elem (.static "LinkDays$Delay" "DIGITS" "[J") (.int 2)) (.long 3721)) (by decide +kernel))
    | 3, _ => exact va_eqtl (hs (Cond.eq (.elem (.static "LinkDays$Delay" "DIGITS" "[J") (.int 3)) (.long 61)) (by decide +kernel))
    | 4, _ => exact va_eqtl (hs (Cond.eq (.elem (.static "LinkDays$Delay" "DIGITS" "[J") (.int 4)) (.long 1)) (by decide +kernel))) hA
  obtain ⟨adK, adV, hS, hev⟩ := vk_Sof (N := 1) (tm := fun _ => (.string "LinkDays$Tape" 36)) (len := [4]) (byt := [[111, 114, 112, 98]]) (A := A) (args := #[Value.ref b]) (s := s) (fun i hi => by
      match i, hi with
      | 0, _ => decide) (fun i hi => hs (Cond.exactly (.string "LinkDays$Tape" 36) "java/lang/String") (by decide +kernel)) (fun i hi => hs (Cond.eq (.field (.string "LinkDays$Tape" 36) "java/lang/String" "coder" "B") (.int 0)) (by decide +kernel)) (fun i hi => hs (Cond.arrayOf (.field (.string "LinkDays$Tape" 36) "java/lang/String" "value" "[B") .byte) (by decide +kernel)) (fun i hi => by
      match i, hi with
      | 0, _ => exact hs (Cond.eq (.length (.field (.string "LinkDays$Tape" 36) "java/lang/String" "value" "[B")) (.int 4)) (by decide +kernel)) (fun i hi j hj => by
      match i, hi, j, hj with
      | 0, _, 0, _ => exact hs (Cond.eq (.elem (.field (.string "LinkDays$Tape" 36) "java/lang/String" "value" "[B") (.int 0)) (.int 111)) (by decide +kernel)
      | 0, _, 1, _ => exact hs (Cond.eq (.elem (.field (.string "LinkDays$Tape" 36) "java/lang/String" "value" "[B") (.int 1)) (.int 114)) (by decide +kernel)
      | 0, _, 2, _ => exact hs (Cond.eq (.elem (.field (.string "LinkDays$Tape" 36) "java/lang/String" "value" "[B") (.int 2)) (.int 112)) (by decide +kernel)
      | 0, _, 3, _ => exact hs (Cond.eq (.elem (.field (.string "LinkDays$Tape" 36) "java/lang/String" "value" "[B") (.int 3)) (.int 98)) (by decide +kernel)) (fun i j hi hj hij => absurd (show i = j by omega) hij) hA
  refine ⟨td, adK 0, adV 0, fun k e6 e7 e8 => ⟨va_Nw.of rfl (hts _ lt_n40), va_Nw.of rfl (hts _ lt_n19), ?_, ?_, ?_, ?_, va_Zof (hts _ lt_ls_C) (hts _ lt_in_S) (va_eqi (hs (Cond.eq (.static "java/lang/String" "COMPACT_STRINGS" "Z") (.int 1)) (by decide +kernel))) hA, ?_, va_AO.of (hts _ lt_ao_S), hts _ lt_ao_I⟩⟩
  · rw [e8]; exact va_Zof (hts _ lt_ls_D) (hts _ lt_in_D) htd hA
  · rw [e8]; exact hT
  · rw [e6]; exact vk_R.of (hts _ lt_sr) (hev 0 (by decide))
  · rw [e6, e7]
    refine ⟨fun i hi => ?_, fun i j hi hj _ => by omega⟩
    match i, hi with
    | 0, hi => exact hS.1 0 hi
  · intro q hq
    simp only [NLK, List.mem_cons, List.not_mem_nil, or_false] at hq
    rcases hq with rfl | rfl | rfl | rfl | rfl | rfl | rfl | rfl
    · exact va_Nw.of rfl (hts _ lt_nl_31)
    · exact va_Nw.of rfl (hts _ lt_nl_41)
    · exact va_Nw.of rfl (hts _ lt_nl_48)
    · exact va_Nw.of rfl (hts _ lt_nl_55)
    · exact va_Nw.of rfl (hts _ lt_nl_62)
    · exact va_Nw.of rfl (hts _ lt_nl_69)
    · exact va_Nw.of rfl (hts _ lt_nl_76)
    · exact va_Nw.of rfl (hts _ lt_nl_94)
set_option maxHeartbeats 8000000 in
set_option maxRecDepth 100000 in
theorem st_all {b : Nat} {s : State} {A : Nat → Prop} (hts : ∀ w ∈ lw_tbl, w.before #[Value.ref b] s = true) (hgv : (Jvm.Cond.and given_1 narrow_1).before #[Value.ref b] s = true) (hA : ∀ a : Nat, a < s.heap.size → ¬ A a) : ∃ (D : va_G) (k : Nat → ClassId), va_K D vwCl (TY k) s ∧ NX k A s := by
  obtain ⟨td, ak, av, hN⟩ := st_NX hts hgv hA
  obtain ⟨kI, aI, fI⟩ := st_arr (hts _ lt_ac_int)
  obtain ⟨kJ, aJ, fJ⟩ := st_arr (hts _ lt_ac_long)
  obtain ⟨kB, aB, fB⟩ := st_arr (hts _ lt_ac_byte)
  obtain ⟨kZ, aZ, fZ⟩ := st_arr (hts _ lt_ac_boolean)
  obtain ⟨kS, aS, fS⟩ := st_obj (hts _ lt_ao_S)
  obtain ⟨kR, aR, fR⟩ := st_arr2 (hts _ lt_ao_I)
  obtain ⟨c0, i0, h0⟩ := u_known (C := RX0) (T := TX0) (N := 3) (n := 3) hts wi_wsX00 (hts _ lt_it_X0)
  obtain ⟨c1, i1, h1⟩ := u_known (C := RX1) (T := TX1) (N := 6) (n := 6) hts wi_wsX10 (hts _ lt_it_X1)
  obtain ⟨c2, i2, h2⟩ := u_known (C := RX2) (T := TX2) (N := 3) (n := 3) hts wi_wsX20 (hts _ lt_it_X2)
  obtain ⟨c3, i3, h3⟩ := u_known (C := RX3) (T := TX3) (N := 4) (n := 4) hts wi_wsX30 (hts _ lt_it_X3)
  obtain ⟨c4, i4, h4⟩ := u_known (C := RX4) (T := TX4) (N := 4) (n := 4) hts wi_wsX40 (hts _ lt_it_X4)
  obtain ⟨c5, i5, h5⟩ := u_known (C := RX5) (T := TX5) (N := 4) (n := 4) hts wi_wsX50 (hts _ lt_it_X5)
  obtain ⟨c6, i6, h6⟩ := u_known (C := RX6) (T := TX6) (N := 8) (n := 8) hts wi_wsX60 (hts _ lt_it_X6)
  obtain ⟨c7, i7, h7⟩ := u_known (C := RX7) (T := TX7) (N := 4) (n := 4) hts wi_wsX70 (hts _ lt_it_X7)
  obtain ⟨c8, i8, h8⟩ := u_known (C := RX8) (T := TX8) (N := 2) (n := 2) hts wi_wsX80 (hts _ lt_it_X8)
  obtain ⟨c9, i9, h9⟩ := u_known (C := RX9) (T := TX9) (N := 3) (n := 3) hts wi_wsX90 (hts _ lt_it_X9)
  obtain ⟨c10, i10, h10⟩ := u_known (C := RX10) (T := TX10) (N := 16) (n := 16) hts wi_wsX100 (hts _ lt_it_X10)
  obtain ⟨c11, i11, h11⟩ := u_known (C := RX11) (T := TX11) (N := 30) (n := 30) hts wi_wsX110 (hts _ lt_it_X11)
  refine ⟨(fun x => ([c0, c1, c2, c3, c4, c5, c6, c7, c8, c9, c10, c11] : List ClassId).getD x 0, fun x => ([i0, i1, i2, i3, i4, i5, i6, i7, i8, i9, i10, i11] : List (Nat → Nat)).getD x (fun _ => 0)), fun x => ([kI, kJ, kB, kZ, kS, kR, ak, av, td] : List Nat).getD x 0, ⟨fun c q hq => ?_, fun j q hq => ?_⟩, hN _ rfl rfl rfl⟩
  · match c, hq with
    | 0, hq => cases hq; exact h0
    | 1, hq => cases hq; exact h1
    | 2, hq => cases hq; exact h2
    | 3, hq => cases hq; exact h3
    | 4, hq => cases hq; exact h4
    | 5, hq => cases hq; exact h5
    | 6, hq => cases hq; exact h6
    | 7, hq => cases hq; exact h7
    | 8, hq => cases hq; exact h8
    | 9, hq => cases hq; exact h9
    | 10, hq => cases hq; exact h10
    | 11, hq => cases hq; exact h11
    | c + 12, hq => simp [vwCl] at hq
  · match j, hq with
    | 0, hq => cases hq; exact ⟨aI, fI⟩
    | 1, hq => cases hq; exact ⟨aJ, fJ⟩
    | 2, hq => cases hq; exact ⟨aB, fB⟩
    | 3, hq => cases hq; exact ⟨aZ, fZ⟩
    | 4, hq => cases hq; exact ⟨aS, fS⟩
    | 5, hq => cases hq; exact ⟨aR, fR⟩
    | j + 6, hq => simp [TY] at hq
