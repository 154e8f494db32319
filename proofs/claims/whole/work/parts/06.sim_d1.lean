/-! X10_kind -/
abbrev W_X10_kind (k : Nat → ClassId) (h_t : Nat) (h_t_chain : Nat) (h_t_best : Nat) (h_t_best_known : Nat) (h_t_days : Nat) (h_t_imageChain : Nat) (h_t_imageDays : Nat) (h_t_tape : Nat) (h_t_draft : Nat) (h_t_pieces : Nat) (h_t_sums : Nat) (h_t_sets : Nat) (h_t_choice : Nat) (h_t_delay : Nat) (h_t_sheets : Nat) (h_t_wanted : Nat) (h_t_seenRow : Nat) (h_t_chain_worths : Nat) (h_t_chain_ahead : Nat) (h_t_chain_cuts : Nat) (h_t_best_far : Nat) (h_t_best_rows : Nat) (s_hasImage : Int32) (s_chain_kind : Int32) (s_chain_links : Int32) (s_chain_cutCount : Int32) (s_best_known : Nat → Int32) : va_W := [(h_t, .inr (10, [.ref h_t_chain, .ref h_t_days, .ref h_t_imageChain, .ref h_t_imageDays, .int s_hasImage, .ref h_t_tape, .ref h_t_draft, .ref h_t_pieces, .ref h_t_sums, .ref h_t_sets, .ref h_t_choice, .ref h_t_best, .ref h_t_delay, .ref h_t_sheets, .ref h_t_wanted, .ref h_t_seenRow])), (h_t_chain, .inr (1, [.ref h_t_chain_worths, .ref h_t_chain_ahead, .ref h_t_chain_cuts, .int s_chain_kind, .int s_chain_links, .int s_chain_cutCount])), (h_t_best, .inr (0, [.ref h_t_best_known, .ref h_t_best_far, .ref h_t_best_rows])), (h_t_best_known, .inl (k 3, 5, .inl s_best_known))]
def rm_X10_kind : Room := { frames := 1, cells := 0, slots := 0, locals := 22 }
theorem in_X10_kind_X1 : ∀ w ∈ u_ws RX1 TX1 6, w ∈ wsX10_kind := by decide +kernel
theorem in_X10_kind_X10 : ∀ w ∈ u_ws RX10 TX10 16, w ∈ wsX10_kind := by decide +kernel
theorem fl_X10_kind_103 : Cond.fieldLink RX10 103 "LinkDays$Chain" "cutCount" "I" ∈ wsX10_kind := by decide +kernel
theorem fl_X10_kind_12 : Cond.fieldLink RX10 12 "LinkDays" "chain" "LLinkDays$Chain;" ∈ wsX10_kind := by decide +kernel
theorem fl_X10_kind_70 : Cond.fieldLink RX10 70 "LinkDays" "best" "LLinkDays$Best;" ∈ wsX10_kind := by decide +kernel
theorem fl_X10_kind_99 : Cond.fieldLink RX10 99 "LinkDays$Chain" "kind" "I" ∈ wsX10_kind := by decide +kernel
theorem pd_X10_kind : yX10_kind.cls = RX10 ∧ yX10_kind.cls ≠ "java/lang/invoke/MethodHandle" ∧ yX10_kind.cls ≠ "java/lang/invoke/VarHandle" ∧ (parseMethodDescriptor yX10_kind.desc).map (fun d => d.parameters.length) = some 1 := by decide +kernel
section
variable {p : Program} {l : Launch} {e : Env} {s : State} {m : MethodId} {args : Array Value} {below : List Frame} {meth : Method} {c : Code} {D : va_G} {k : Nat → ClassId} {A : Nat → Prop} {w0 : va_W} {sz : Nat}
set_option maxHeartbeats 4000000 in
set_option maxRecDepth 100000 in
theorem k_X10_kind {l : Launch} {D : va_G} {k : Nat → ClassId} (h_t : Nat) (h_t_chain : Nat) (h_t_best : Nat) (h_t_best_known : Nat) (h_t_days : Nat) (h_t_imageChain : Nat) (h_t_imageDays : Nat) (h_t_tape : Nat) (h_t_draft : Nat) (h_t_pieces : Nat) (h_t_sums : Nat) (h_t_sets : Nat) (h_t_choice : Nat) (h_t_delay : Nat) (h_t_sheets : Nat) (h_t_wanted : Nat) (h_t_seenRow : Nat) (h_t_chain_worths : Nat) (h_t_chain_ahead : Nat) (h_t_chain_cuts : Nat) (h_t_best_far : Nat) (h_t_best_rows : Nat) (s_hasImage : Int32) (s_chain_kind : Int32) (s_chain_links : Int32) (s_chain_cutCount : Int32) (s_best_known : Nat → Int32) (v1 : Int32) (res : Int32 × Int32 × Int32 × (Nat → Int32)) (h : f_X10_kind s_chain_kind s_chain_cutCount s_best_known v1 = some res) (sz : Nat) : Met l yX10_kind wsX10_kind rm_X10_kind (cPre D k [.ref h_t, .int v1] (W_X10_kind k h_t h_t_chain h_t_best h_t_best_known h_t_days h_t_imageChain h_t_imageDays h_t_tape h_t_draft h_t_pieces h_t_sums h_t_sets h_t_choice h_t_delay h_t_sheets h_t_wanted h_t_seenRow h_t_chain_worths h_t_chain_ahead h_t_chain_cuts h_t_best_far h_t_best_rows s_hasImage s_chain_kind s_chain_links s_chain_cutCount s_best_known) sz) (cQi D (W_X10_kind k h_t h_t_chain h_t_best h_t_best_known h_t_days h_t_imageChain h_t_imageDays h_t_tape h_t_draft h_t_pieces h_t_sums h_t_sets h_t_choice h_t_delay h_t_sheets h_t_wanted h_t_seenRow h_t_chain_worths h_t_chain_ahead h_t_chain_cuts h_t_best_far h_t_best_rows s_hasImage s_chain_kind s_chain_links s_chain_cutCount s_best_known) sz res.1 (W_X10_kind k h_t h_t_chain h_t_best h_t_best_known h_t_days h_t_imageChain h_t_imageDays h_t_tape h_t_draft h_t_pieces h_t_sums h_t_sets h_t_choice h_t_delay h_t_sheets h_t_wanted h_t_seenRow h_t_chain_worths h_t_chain_ahead h_t_chain_cuts h_t_best_far h_t_best_rows s_hasImage res.2.1 s_chain_links res.2.2.1 res.2.2.2)) 0 0 (va_A (W_X10_kind k h_t h_t_chain h_t_best h_t_best_known h_t_days h_t_imageChain h_t_imageDays h_t_tape h_t_draft h_t_pieces h_t_sums h_t_sets h_t_choice h_t_delay h_t_sheets h_t_wanted h_t_seenRow h_t_chain_worths h_t_chain_ahead h_t_chain_cuts h_t_best_far h_t_best_rows s_hasImage s_chain_kind s_chain_links s_chain_cutCount s_best_known) sz) := by
  refine met_of [(0, .ref h_t), (1, .int v1)] (by decide) rfl rfl (Nat.le_of_ble_eq_true rfl) rfl ?_
  intro p e s m args below meth c A hA hsz C
  unfold f_X10_kind at h
  refine g_iload_n 0 C 1 dX10_kind_0 rfl rfl ?_
  refine g_iconst 1 C (0 : Int32) dX10_kind_1 (by decide) ?_
  refine g_iconst 2 C (3 : Int32) dX10_kind_2 (by decide) ?_
  obtain ⟨q1, e2, h⟩ := bi_e h
  refine g_callSi 3 C (As := [.int v1, .int (0 : Int32), .int (3 : Int32)]) [] [0, 1, 2, 3] [0, 1, 2, 3] (W_X10_kind k h_t h_t_chain h_t_best h_t_best_known h_t_days h_t_imageChain h_t_imageDays h_t_tape h_t_draft h_t_pieces h_t_sums h_t_sets h_t_choice h_t_delay h_t_sheets h_t_wanted h_t_seenRow h_t_chain_worths h_t_chain_ahead h_t_chain_cuts h_t_best_far h_t_best_rows s_hasImage s_chain_kind s_chain_links s_chain_cutCount s_best_known) (fun sz => k_X10_within v1 (0 : Int32) (3 : Int32) q1 e2 sz) gX10_kind_X10_within rfl pd_X10_within rfl ⟨rfl, rfl, Nat.le_of_ble_eq_true rfl, Nat.le_of_ble_eq_true rfl⟩ (Nat.le_of_ble_eq_true rfl) ⟨Nat.zero_le _, Nat.zero_le _⟩ ⟨rfl, rfl, rfl, rfl, rfl, by decide, rfl⟩ rfl dX10_kind_3 ?_
  refine g_if_ne 6 11 C dX10_kind_6 (by decide) (fun c => ?_) (fun c => ?_)
  · replace h := if_e c h
    refine g_aload_n 11 C 0 dX10_kind_11 rfl rfl ?_
    refine g_get 12 C in_X10_kind_X10 0 0 rfl rfl (by decide) fl_X10_kind_12 rfl rfl dX10_kind_12 ?_
    refine g_get 15 C in_X10_kind_X1 1 3 rfl rfl (by decide) fl_X10_kind_99 rfl rfl dX10_kind_15 ?_
    refine g_istore_n 18 C [(2, .int s_chain_kind), (0, .ref h_t), (1, .int v1)] dX10_kind_18 rfl (by decide) rfl ?_
    refine g_aload_n 19 C 1 dX10_kind_19 rfl rfl ?_
    refine g_get 20 C in_X10_kind_X10 0 0 rfl rfl (by decide) fl_X10_kind_12 rfl rfl dX10_kind_20 ?_
    refine g_iload_n 23 C 2 dX10_kind_23 rfl rfl ?_
    refine g_put 24 C (W_X10_kind k h_t h_t_chain h_t_best h_t_best_known h_t_days h_t_imageChain h_t_imageDays h_t_tape h_t_draft h_t_pieces h_t_sums h_t_sets h_t_choice h_t_delay h_t_sheets h_t_wanted h_t_seenRow h_t_chain_worths h_t_chain_ahead h_t_chain_cuts h_t_best_far h_t_best_rows s_hasImage v1 s_chain_links s_chain_cutCount s_best_known) in_X10_kind_X1 tyX1 tyX1_ok nmX1 1 3 rfl rfl (by decide) fl_X10_kind_99 rfl rfl (tyX1_ok 3 (by decide)) rfl rfl (Nat.le_of_ble_eq_true rfl) rfl dX10_kind_24 ?_
    refine g_aload_n 27 C 1 dX10_kind_27 rfl rfl ?_
    refine g_get 28 C in_X10_kind_X10 0 0 rfl rfl (by decide) fl_X10_kind_12 rfl rfl dX10_kind_28 ?_
    refine g_iconst 31 C (0 : Int32) dX10_kind_31 (by decide) ?_
    refine g_put 32 C (W_X10_kind k h_t h_t_chain h_t_best h_t_best_known h_t_days h_t_imageChain h_t_imageDays h_t_tape h_t_draft h_t_pieces h_t_sums h_t_sets h_t_choice h_t_delay h_t_sheets h_t_wanted h_t_seenRow h_t_chain_worths h_t_chain_ahead h_t_chain_cuts h_t_best_far h_t_best_rows s_hasImage v1 s_chain_links (0 : Int32) s_best_known) in_X10_kind_X1 tyX1 tyX1_ok nmX1 1 5 rfl rfl (by decide) fl_X10_kind_103 rfl rfl (tyX1_ok 5 (by decide)) rfl rfl (Nat.le_of_ble_eq_true rfl) rfl dX10_kind_32 ?_
    refine g_aload_n 35 C 1 dX10_kind_35 rfl rfl ?_
    refine g_get 36 C in_X10_kind_X10 0 11 rfl rfl (by decide) fl_X10_kind_70 rfl rfl dX10_kind_36 ?_
    obtain ⟨q3, e4, h⟩ := bi_e h
    refine g_callVv 39 C (As := []) [2, 3] [0, 1] [0, 1, 2, 3] (W_X10_kind k h_t h_t_chain h_t_best h_t_best_known h_t_days h_t_imageChain h_t_imageDays h_t_tape h_t_draft h_t_pieces h_t_sums h_t_sets h_t_choice h_t_delay h_t_sheets h_t_wanted h_t_seenRow h_t_chain_worths h_t_chain_ahead h_t_chain_cuts h_t_best_far h_t_best_rows s_hasImage v1 s_chain_links (0 : Int32) q3) 2 (fun sz => k_X0_forget h_t_best h_t_best_known h_t_best_far h_t_best_rows s_best_known q3 e4 sz) gX10_kind_X0_forget rfl pd_X0_forget rfl rfl rfl ⟨rfl, rfl, Nat.le_of_ble_eq_true rfl, Nat.le_of_ble_eq_true rfl⟩ (Nat.le_of_ble_eq_true rfl) ⟨Nat.zero_le _, Nat.zero_le _⟩ ⟨rfl, rfl, rfl, rfl, rfl, by decide, rfl⟩ rfl dX10_kind_39 ?_
    refine g_iload_n 42 C 0 dX10_kind_42 rfl rfl ?_
    obtain rfl := Option.some.inj h
    exact g_iret 43 C hA rfl dX10_kind_43 rfl
  · replace h := it_e c h
    refine g_iconst 9 C (-1 : Int32) dX10_kind_9 (by decide) ?_
    obtain rfl := Option.some.inj h
    exact g_iret 10 C hA rfl dX10_kind_10 rfl
end

/-! X10_link -/
abbrev W_X10_link (k : Nat → ClassId) (h_t : Nat) (h_t_chain : Nat) (h_t_chain_worths : Nat) (h_t_chain_ahead : Nat) (h_t_best : Nat) (h_t_best_known : Nat) (h_t_days : Nat) (h_t_imageChain : Nat) (h_t_imageDays : Nat) (h_t_tape : Nat) (h_t_draft : Nat) (h_t_pieces : Nat) (h_t_sums : Nat) (h_t_sets : Nat) (h_t_choice : Nat) (h_t_delay : Nat) (h_t_sheets : Nat) (h_t_wanted : Nat) (h_t_seenRow : Nat) (h_t_chain_cuts : Nat) (h_t_best_far : Nat) (h_t_best_rows : Nat) (s_hasImage : Int32) (s_chain_kind : Int32) (s_chain_links : Int32) (s_chain_cutCount : Int32) (s_chain_worths : Nat → Int32) (s_chain_ahead : Nat → Int32) (s_best_known : Nat → Int32) : va_W := [(h_t, .inr (10, [.ref h_t_chain, .ref h_t_days, .ref h_t_imageChain, .ref h_t_imageDays, .int s_hasImage, .ref h_t_tape, .ref h_t_draft, .ref h_t_pieces, .ref h_t_sums, .ref h_t_sets, .ref h_t_choice, .ref h_t_best, .ref h_t_delay, .ref h_t_sheets, .ref h_t_wanted, .ref h_t_seenRow])), (h_t_chain, .inr (1, [.ref h_t_chain_worths, .ref h_t_chain_ahead, .ref h_t_chain_cuts, .int s_chain_kind, .int s_chain_links, .int s_chain_cutCount])), (h_t_chain_worths, .inl (k 0, 24, .inl s_chain_worths)), (h_t_chain_ahead, .inl (k 0, 25, .inl s_chain_ahead)), (h_t_best, .inr (0, [.ref h_t_best_known, .ref h_t_best_far, .ref h_t_best_rows])), (h_t_best_known, .inl (k 3, 5, .inl s_best_known))]
def rm_X10_link : Room := { frames := 1, cells := 0, slots := 0, locals := 22 }
theorem in_X10_link_X1 : ∀ w ∈ u_ws RX1 TX1 6, w ∈ wsX10_link := by decide +kernel
theorem in_X10_link_X10 : ∀ w ∈ u_ws RX10 TX10 16, w ∈ wsX10_link := by decide +kernel
theorem fl_X10_link_109 : Cond.fieldLink RX10 109 "LinkDays$Chain" "links" "I" ∈ wsX10_link := by decide +kernel
theorem fl_X10_link_12 : Cond.fieldLink RX10 12 "LinkDays" "chain" "LLinkDays$Chain;" ∈ wsX10_link := by decide +kernel
theorem fl_X10_link_70 : Cond.fieldLink RX10 70 "LinkDays" "best" "LLinkDays$Best;" ∈ wsX10_link := by decide +kernel
theorem pd_X10_link : yX10_link.cls = RX10 ∧ yX10_link.cls ≠ "java/lang/invoke/MethodHandle" ∧ yX10_link.cls ≠ "java/lang/invoke/VarHandle" ∧ (parseMethodDescriptor yX10_link.desc).map (fun d => d.parameters.length) = some 1 := by decide +kernel
section
variable {p : Program} {l : Launch} {e : Env} {s : State} {m : MethodId} {args : Array Value} {below : List Frame} {meth : Method} {c : Code} {D : va_G} {k : Nat → ClassId} {A : Nat → Prop} {w0 : va_W} {sz : Nat}
set_option maxHeartbeats 4000000 in
set_option maxRecDepth 100000 in
theorem k_X10_link {l : Launch} {D : va_G} {k : Nat → ClassId} (h_t : Nat) (h_t_chain : Nat) (h_t_chain_worths : Nat) (h_t_chain_ahead : Nat) (h_t_best : Nat) (h_t_best_known : Nat) (h_t_days : Nat) (h_t_imageChain : Nat) (h_t_imageDays : Nat) (h_t_tape : Nat) (h_t_draft : Nat) (h_t_pieces : Nat) (h_t_sums : Nat) (h_t_sets : Nat) (h_t_choice : Nat) (h_t_delay : Nat) (h_t_sheets : Nat) (h_t_wanted : Nat) (h_t_seenRow : Nat) (h_t_chain_cuts : Nat) (h_t_best_far : Nat) (h_t_best_rows : Nat) (s_hasImage : Int32) (s_chain_kind : Int32) (s_chain_links : Int32) (s_chain_cutCount : Int32) (s_chain_worths : Nat → Int32) (s_chain_ahead : Nat → Int32) (s_best_known : Nat → Int32) (v1 : Int32) (res : Int32 × Int32 × (Nat → Int32) × (Nat → Int32) × (Nat → Int32)) (h : f_X10_link s_chain_links s_chain_worths s_chain_ahead s_best_known v1 = some res) (sz : Nat) : Met l yX10_link wsX10_link rm_X10_link (cPre D k [.ref h_t, .int v1] (W_X10_link k h_t h_t_chain h_t_chain_worths h_t_chain_ahead h_t_best h_t_best_known h_t_days h_t_imageChain h_t_imageDays h_t_tape h_t_draft h_t_pieces h_t_sums h_t_sets h_t_choice h_t_delay h_t_sheets h_t_wanted h_t_seenRow h_t_chain_cuts h_t_best_far h_t_best_rows s_hasImage s_chain_kind s_chain_links s_chain_cutCount s_chain_worths s_chain_ahead s_best_known) sz) (cQi D (W_X10_link k h_t h_t_chain h_t_chain_worths h_t_chain_ahead h_t_best h_t_best_known h_t_days h_t_imageChain h_t_imageDays h_t_tape h_t_draft h_t_pieces h_t_sums h_t_sets h_t_choice h_t_delay h_t_sheets h_t_wanted h_t_seenRow h_t_chain_cuts h_t_best_far h_t_best_rows s_hasImage s_chain_kind s_chain_links s_chain_cutCount s_chain_worths s_chain_ahead s_best_known) sz res.1 (W_X10_link k h_t h_t_chain h_t_chain_worths h_t_chain_ahead h_t_best h_t_best_known h_t_days h_t_imageChain h_t_imageDays h_t_tape h_t_draft h_t_pieces h_t_sums h_t_sets h_t_choice h_t_delay h_t_sheets h_t_wanted h_t_seenRow h_t_chain_cuts h_t_best_far h_t_best_rows s_hasImage s_chain_kind res.2.1 s_chain_cutCount res.2.2.1 res.2.2.2.1 res.2.2.2.2)) 0 0 (va_A (W_X10_link k h_t h_t_chain h_t_chain_worths h_t_chain_ahead h_t_best h_t_best_known h_t_days h_t_imageChain h_t_imageDays h_t_tape h_t_draft h_t_pieces h_t_sums h_t_sets h_t_choice h_t_delay h_t_sheets h_t_wanted h_t_seenRow h_t_chain_cuts h_t_best_far h_t_best_rows s_hasImage s_chain_kind s_chain_links s_chain_cutCount s_chain_worths s_chain_ahead s_best_known) sz) := by
  refine met_of [(0, .ref h_t), (1, .int v1)] (by decide) rfl rfl (Nat.le_of_ble_eq_true rfl) rfl ?_
  intro p e s m args below meth c A hA hsz C
  unfold f_X10_link at h
  refine g_iload_n 0 C 1 dX10_link_0 rfl rfl ?_
  refine g_iconst 1 C (1 : Int32) dX10_link_1 (by decide) ?_
  refine g_bipush 2 C (9 : Int32) dX10_link_2 (by decide) ?_
  obtain ⟨q1, e2, h⟩ := bi_e h
  refine g_callSi 4 C (As := [.int v1, .int (1 : Int32), .int (9 : Int32)]) [] [0, 1, 2, 3, 4, 5] [0, 1, 2, 3, 4, 5] (W_X10_link k h_t h_t_chain h_t_chain_worths h_t_chain_ahead h_t_best h_t_best_known h_t_days h_t_imageChain h_t_imageDays h_t_tape h_t_draft h_t_pieces h_t_sums h_t_sets h_t_choice h_t_delay h_t_sheets h_t_wanted h_t_seenRow h_t_chain_cuts h_t_best_far h_t_best_rows s_hasImage s_chain_kind s_chain_links s_chain_cutCount s_chain_worths s_chain_ahead s_best_known) (fun sz => k_X10_within v1 (1 : Int32) (9 : Int32) q1 e2 sz) gX10_link_X10_within rfl pd_X10_within rfl ⟨rfl, rfl, Nat.le_of_ble_eq_true rfl, Nat.le_of_ble_eq_true rfl⟩ (Nat.le_of_ble_eq_true rfl) ⟨Nat.zero_le _, Nat.zero_le _⟩ ⟨rfl, rfl, rfl, rfl, rfl, by decide, rfl⟩ rfl dX10_link_4 ?_
  refine g_if_ne 7 12 C dX10_link_7 (by decide) (fun c => ?_) (fun c => ?_)
  · replace h := if_e c h
    refine g_aload_n 12 C 0 dX10_link_12 rfl rfl ?_
    refine g_get 13 C in_X10_link_X10 0 0 rfl rfl (by decide) fl_X10_link_12 rfl rfl dX10_link_13 ?_
    refine g_get 16 C in_X10_link_X1 1 4 rfl rfl (by decide) fl_X10_link_109 rfl rfl dX10_link_16 ?_
    refine g_bipush 19 C (24 : Int32) dX10_link_19 (by decide) ?_
    refine g_icmp_lt 21 27 C dX10_link_21 (by decide) (fun c => ?_) (fun c => ?_)
    · replace h := it_e c h
      refine g_aload_n 27 C 0 dX10_link_27 rfl rfl ?_
      refine g_get 28 C in_X10_link_X10 0 0 rfl rfl (by decide) fl_X10_link_12 rfl rfl dX10_link_28 ?_
      refine g_iload_n 31 C 1 dX10_link_31 rfl rfl ?_
      obtain ⟨q3, e4, h⟩ := bi_e h
      refine g_callVv 32 C (As := [.int v1]) [1, 2, 3] [0, 4, 5] [0, 3, 4, 5, 1, 2] (W_X10_link k h_t h_t_chain h_t_chain_worths h_t_chain_ahead h_t_best h_t_best_known h_t_days h_t_imageChain h_t_imageDays h_t_tape h_t_draft h_t_pieces h_t_sums h_t_sets h_t_choice h_t_delay h_t_sheets h_t_wanted h_t_seenRow h_t_chain_cuts h_t_best_far h_t_best_rows s_hasImage s_chain_kind q3.1 s_chain_cutCount q3.2.1 q3.2.2 s_best_known) 1 (fun sz => k_X1_append h_t_chain h_t_chain_worths h_t_chain_ahead h_t_chain_cuts s_chain_kind s_chain_links s_chain_cutCount s_chain_worths s_chain_ahead v1 q3 e4 sz) gX10_link_X1_append rfl pd_X1_append rfl rfl rfl ⟨rfl, rfl, Nat.le_of_ble_eq_true rfl, Nat.le_of_ble_eq_true rfl⟩ (Nat.le_of_ble_eq_true rfl) ⟨Nat.zero_le _, Nat.zero_le _⟩ ⟨rfl, rfl, rfl, rfl, rfl, by decide, rfl⟩ rfl dX10_link_32 ?_
      refine g_aload_n 35 C 0 dX10_link_35 rfl rfl ?_
      refine g_get 36 C in_X10_link_X10 0 11 rfl rfl (by decide) fl_X10_link_70 rfl rfl dX10_link_36 ?_
      obtain ⟨q5, e6, h⟩ := bi_e h
      refine g_callVv 39 C (As := []) [4, 5] [0, 1, 2, 3] [0, 1, 2, 3, 4, 5] (W_X10_link k h_t h_t_chain h_t_chain_worths h_t_chain_ahead h_t_best h_t_best_known h_t_days h_t_imageChain h_t_imageDays h_t_tape h_t_draft h_t_pieces h_t_sums h_t_sets h_t_choice h_t_delay h_t_sheets h_t_wanted h_t_seenRow h_t_chain_cuts h_t_best_far h_t_best_rows s_hasImage s_chain_kind q3.1 s_chain_cutCount q3.2.1 q3.2.2 q5) 4 (fun sz => k_X0_forget h_t_best h_t_best_known h_t_best_far h_t_best_rows s_best_known q5 e6 sz) gX10_link_X0_forget rfl pd_X0_forget rfl rfl rfl ⟨rfl, rfl, Nat.le_of_ble_eq_true rfl, Nat.le_of_ble_eq_true rfl⟩ (Nat.le_of_ble_eq_true rfl) ⟨Nat.zero_le _, Nat.zero_le _⟩ ⟨rfl, rfl, rfl, rfl, rfl, by decide, rfl⟩ rfl dX10_link_39 ?_
      refine g_aload_n 42 C 0 dX10_link_42 rfl rfl ?_
      refine g_get 43 C in_X10_link_X10 0 0 rfl rfl (by decide) fl_X10_link_12 rfl rfl dX10_link_43 ?_
      refine g_get 46 C in_X10_link_X1 1 4 rfl rfl (by decide) fl_X10_link_109 rfl rfl dX10_link_46 ?_
      obtain rfl := Option.some.inj h
      exact g_iret 49 C hA rfl dX10_link_49 rfl
    · replace h := if_e c h
      refine g_bipush 24 C (-3 : Int32) dX10_link_24 (by decide) ?_
      obtain rfl := Option.some.inj h
      exact g_iret 26 C hA rfl dX10_link_26 rfl
  · replace h := it_e c h
    refine g_iconst 10 C (-1 : Int32) dX10_link_10 (by decide) ?_
    obtain rfl := Option.some.inj h
    exact g_iret 11 C hA rfl dX10_link_11 rfl
end

/-! X10_worth -/
abbrev W_X10_worth (k : Nat → ClassId) (h_t : Nat) (h_t_chain : Nat) (h_t_chain_worths : Nat) (h_t_chain_ahead : Nat) (h_t_best : Nat) (h_t_best_known : Nat) (h_t_days : Nat) (h_t_imageChain : Nat) (h_t_imageDays : Nat) (h_t_tape : Nat) (h_t_draft : Nat) (h_t_pieces : Nat) (h_t_sums : Nat) (h_t_sets : Nat) (h_t_choice : Nat) (h_t_delay : Nat) (h_t_sheets : Nat) (h_t_wanted : Nat) (h_t_seenRow : Nat) (h_t_chain_cuts : Nat) (h_t_best_far : Nat) (h_t_best_rows : Nat) (s_hasImage : Int32) (s_chain_kind : Int32) (s_chain_links : Int32) (s_chain_cutCount : Int32) (s_chain_worths : Nat → Int32) (s_chain_ahead : Nat → Int32) (s_best_known : Nat → Int32) : va_W := [(h_t, .inr (10, [.ref h_t_chain, .ref h_t_days, .ref h_t_imageChain, .ref h_t_imageDays, .int s_hasImage, .ref h_t_tape, .ref h_t_draft, .ref h_t_pieces, .ref h_t_sums, .ref h_t_sets, .ref h_t_choice, .ref h_t_best, .ref h_t_delay, .ref h_t_sheets, .ref h_t_wanted, .ref h_t_seenRow])), (h_t_chain, .inr (1, [.ref h_t_chain_worths, .ref h_t_chain_ahead, .ref h_t_chain_cuts, .int s_chain_kind, .int s_chain_links, .int s_chain_cutCount])), (h_t_chain_worths, .inl (k 0, 24, .inl s_chain_worths)), (h_t_chain_ahead, .inl (k 0, 25, .inl s_chain_ahead)), (h_t_best, .inr (0, [.ref h_t_best_known, .ref h_t_best_far, .ref h_t_best_rows])), (h_t_best_known, .inl (k 3, 5, .inl s_best_known))]
def rm_X10_worth : Room := { frames := 1, cells := 0, slots := 0, locals := 23 }
theorem in_X10_worth_X1 : ∀ w ∈ u_ws RX1 TX1 6, w ∈ wsX10_worth := by decide +kernel
theorem in_X10_worth_X10 : ∀ w ∈ u_ws RX10 TX10 16, w ∈ wsX10_worth := by decide +kernel
theorem fl_X10_worth_109 : Cond.fieldLink RX10 109 "LinkDays$Chain" "links" "I" ∈ wsX10_worth := by decide +kernel
theorem fl_X10_worth_116 : Cond.fieldLink RX10 116 "LinkDays$Chain" "worths" "[I" ∈ wsX10_worth := by decide +kernel
theorem fl_X10_worth_12 : Cond.fieldLink RX10 12 "LinkDays" "chain" "LLinkDays$Chain;" ∈ wsX10_worth := by decide +kernel
theorem fl_X10_worth_70 : Cond.fieldLink RX10 70 "LinkDays" "best" "LLinkDays$Best;" ∈ wsX10_worth := by decide +kernel
theorem pd_X10_worth : yX10_worth.cls = RX10 ∧ yX10_worth.cls ≠ "java/lang/invoke/MethodHandle" ∧ yX10_worth.cls ≠ "java/lang/invoke/VarHandle" ∧ (parseMethodDescriptor yX10_worth.desc).map (fun d => d.parameters.length) = some 2 := by decide +kernel
section
variable {p : Program} {l : Launch} {e : Env} {s : State} {m : MethodId} {args : Array Value} {below : List Frame} {meth : Method} {c : Code} {D : va_G} {k : Nat → ClassId} {A : Nat → Prop} {w0 : va_W} {sz : Nat}
set_option maxHeartbeats 4000000 in
set_option maxRecDepth 100000 in
theorem ok_B_X10_worth_27 {h_t : Nat} {h_t_chain : Nat} {h_t_chain_worths : Nat} {h_t_chain_ahead : Nat} {h_t_best : Nat} {h_t_best_known : Nat} {h_t_days : Nat} {h_t_imageChain : Nat} {h_t_imageDays : Nat} {h_t_tape : Nat} {h_t_draft : Nat} {h_t_pieces : Nat} {h_t_sums : Nat} {h_t_sets : Nat} {h_t_choice : Nat} {h_t_delay : Nat} {h_t_sheets : Nat} {h_t_wanted : Nat} {h_t_seenRow : Nat} {h_t_chain_cuts : Nat} {h_t_best_far : Nat} {h_t_best_rows : Nat} {s_hasImage : Int32} {s_chain_kind : Int32} {s_chain_links : Int32} {s_chain_cutCount : Int32} {s_chain_worths : Nat → Int32} {s_chain_ahead : Nat → Int32} {s_best_known : Nat → Int32} {res : Int32 × (Nat → Int32) × (Nat → Int32) × (Nat → Int32)} (C : CX p s m args meth c cX10_worth wsX10_worth RX10 4 D k A (some .int)) (hA : A = va_A w0 sz)  (h : B_X10_worth_27 s_chain_worths s_chain_ahead s_best_known = some res) : GG p l e rm_X10_worth s m args below meth c (MQ below (cQi D w0 sz res.1 (W_X10_worth k h_t h_t_chain h_t_chain_worths h_t_chain_ahead h_t_best h_t_best_known h_t_days h_t_imageChain h_t_imageDays h_t_tape h_t_draft h_t_pieces h_t_sums h_t_sets h_t_choice h_t_delay h_t_sheets h_t_wanted h_t_seenRow h_t_chain_cuts h_t_best_far h_t_best_rows s_hasImage s_chain_kind s_chain_links s_chain_cutCount res.2.1 res.2.2.1 res.2.2.2)) args s 0 0 A) D A 4 0 0 27 [] [] (W_X10_worth k h_t h_t_chain h_t_chain_worths h_t_chain_ahead h_t_best h_t_best_known h_t_days h_t_imageChain h_t_imageDays h_t_tape h_t_draft h_t_pieces h_t_sums h_t_sets h_t_choice h_t_delay h_t_sheets h_t_wanted h_t_seenRow h_t_chain_cuts h_t_best_far h_t_best_rows s_hasImage s_chain_kind s_chain_links s_chain_cutCount s_chain_worths s_chain_ahead s_best_known) := by
  unfold B_X10_worth_27 at h
  refine g_iconst 27 C (-1 : Int32) dX10_worth_27 (by decide) ?_
  obtain rfl := Option.some.inj h
  exact g_iret 28 C hA rfl dX10_worth_28 rfl
set_option maxHeartbeats 4000000 in
set_option maxRecDepth 100000 in
theorem k_X10_worth {l : Launch} {D : va_G} {k : Nat → ClassId} (h_t : Nat) (h_t_chain : Nat) (h_t_chain_worths : Nat) (h_t_chain_ahead : Nat) (h_t_best : Nat) (h_t_best_known : Nat) (h_t_days : Nat) (h_t_imageChain : Nat) (h_t_imageDays : Nat) (h_t_tape : Nat) (h_t_draft : Nat) (h_t_pieces : Nat) (h_t_sums : Nat) (h_t_sets : Nat) (h_t_choice : Nat) (h_t_delay : Nat) (h_t_sheets : Nat) (h_t_wanted : Nat) (h_t_seenRow : Nat) (h_t_chain_cuts : Nat) (h_t_best_far : Nat) (h_t_best_rows : Nat) (s_hasImage : Int32) (s_chain_kind : Int32) (s_chain_links : Int32) (s_chain_cutCount : Int32) (s_chain_worths : Nat → Int32) (s_chain_ahead : Nat → Int32) (s_best_known : Nat → Int32) (v1 : Int32) (v2 : Int32) (res : Int32 × (Nat → Int32) × (Nat → Int32) × (Nat → Int32)) (h : f_X10_worth s_chain_links s_chain_worths s_chain_ahead s_best_known v1 v2 = some res) (sz : Nat) : Met l yX10_worth wsX10_worth rm_X10_worth (cPre D k [.ref h_t, .int v1, .int v2] (W_X10_worth k h_t h_t_chain h_t_chain_worths h_t_chain_ahead h_t_best h_t_best_known h_t_days h_t_imageChain h_t_imageDays h_t_tape h_t_draft h_t_pieces h_t_sums h_t_sets h_t_choice h_t_delay h_t_sheets h_t_wanted h_t_seenRow h_t_chain_cuts h_t_best_far h_t_best_rows s_hasImage s_chain_kind s_chain_links s_chain_cutCount s_chain_worths s_chain_ahead s_best_known) sz) (cQi D (W_X10_worth k h_t h_t_chain h_t_chain_worths h_t_chain_ahead h_t_best h_t_best_known h_t_days h_t_imageChain h_t_imageDays h_t_tape h_t_draft h_t_pieces h_t_sums h_t_sets h_t_choice h_t_delay h_t_sheets h_t_wanted h_t_seenRow h_t_chain_cuts h_t_best_far h_t_best_rows s_hasImage s_chain_kind s_chain_links s_chain_cutCount s_chain_worths s_chain_ahead s_best_known) sz res.1 (W_X10_worth k h_t h_t_chain h_t_chain_worths h_t_chain_ahead h_t_best h_t_best_known h_t_days h_t_imageChain h_t_imageDays h_t_tape h_t_draft h_t_pieces h_t_sums h_t_sets h_t_choice h_t_delay h_t_sheets h_t_wanted h_t_seenRow h_t_chain_cuts h_t_best_far h_t_best_rows s_hasImage s_chain_kind s_chain_links s_chain_cutCount res.2.1 res.2.2.1 res.2.2.2)) 0 0 (va_A (W_X10_worth k h_t h_t_chain h_t_chain_worths h_t_chain_ahead h_t_best h_t_best_known h_t_days h_t_imageChain h_t_imageDays h_t_tape h_t_draft h_t_pieces h_t_sums h_t_sets h_t_choice h_t_delay h_t_sheets h_t_wanted h_t_seenRow h_t_chain_cuts h_t_best_far h_t_best_rows s_hasImage s_chain_kind s_chain_links s_chain_cutCount s_chain_worths s_chain_ahead s_best_known) sz) := by
  refine met_of [(0, .ref h_t), (1, .int v1), (2, .int v2)] (by decide) rfl rfl (Nat.le_of_ble_eq_true rfl) rfl ?_
  intro p e s m args below meth c A hA hsz C
  unfold f_X10_worth at h
  refine g_iload_n 0 C 1 dX10_worth_0 rfl rfl ?_
  refine g_iconst 1 C (0 : Int32) dX10_worth_1 (by decide) ?_
  refine g_aload_n 2 C 0 dX10_worth_2 rfl rfl ?_
  refine g_get 3 C in_X10_worth_X10 0 0 rfl rfl (by decide) fl_X10_worth_12 rfl rfl dX10_worth_3 ?_
  refine g_get 6 C in_X10_worth_X1 1 4 rfl rfl (by decide) fl_X10_worth_109 rfl rfl dX10_worth_6 ?_
  refine g_iconst 9 C (1 : Int32) dX10_worth_9 (by decide) ?_
  refine g_isub 10 C dX10_worth_10 ?_
  obtain ⟨q1, e2, h⟩ := bi_e h
  refine g_callSi 11 C (As := [.int v1, .int (0 : Int32), .int (s_chain_links - (1 : Int32))]) [] [0, 1, 2, 3, 4, 5] [0, 1, 2, 3, 4, 5] (W_X10_worth k h_t h_t_chain h_t_chain_worths h_t_chain_ahead h_t_best h_t_best_known h_t_days h_t_imageChain h_t_imageDays h_t_tape h_t_draft h_t_pieces h_t_sums h_t_sets h_t_choice h_t_delay h_t_sheets h_t_wanted h_t_seenRow h_t_chain_cuts h_t_best_far h_t_best_rows s_hasImage s_chain_kind s_chain_links s_chain_cutCount s_chain_worths s_chain_ahead s_best_known) (fun sz => k_X10_within v1 (0 : Int32) (s_chain_links - (1 : Int32)) q1 e2 sz) gX10_worth_X10_within rfl pd_X10_within rfl ⟨rfl, rfl, Nat.le_of_ble_eq_true rfl, Nat.le_of_ble_eq_true rfl⟩ (Nat.le_of_ble_eq_true rfl) ⟨Nat.zero_le _, Nat.zero_le _⟩ ⟨rfl, rfl, rfl, rfl, rfl, by decide, rfl⟩ rfl dX10_worth_11 ?_
  refine g_if_eq 14 27 C dX10_worth_14 (by decide) (fun c => ?_) (fun c => ?_)
  · replace h := it_e c h
    refine GG.sub (lv' := []) [] rfl ?_
    exact ok_B_X10_worth_27 C hA h
  · replace h := if_e c h
    refine g_iload_n 17 C 2 dX10_worth_17 rfl rfl ?_
    refine g_iconst 18 C (1 : Int32) dX10_worth_18 (by decide) ?_
    refine g_bipush 19 C (9 : Int32) dX10_worth_19 (by decide) ?_
    obtain ⟨q3, e4, h⟩ := bi_e h
    refine g_callSi 21 C (As := [.int v2, .int (1 : Int32), .int (9 : Int32)]) [] [0, 1, 2, 3, 4, 5] [0, 1, 2, 3, 4, 5] (W_X10_worth k h_t h_t_chain h_t_chain_worths h_t_chain_ahead h_t_best h_t_best_known h_t_days h_t_imageChain h_t_imageDays h_t_tape h_t_draft h_t_pieces h_t_sums h_t_sets h_t_choice h_t_delay h_t_sheets h_t_wanted h_t_seenRow h_t_chain_cuts h_t_best_far h_t_best_rows s_hasImage s_chain_kind s_chain_links s_chain_cutCount s_chain_worths s_chain_ahead s_best_known) (fun sz => k_X10_within v2 (1 : Int32) (9 : Int32) q3 e4 sz) gX10_worth_X10_within rfl pd_X10_within rfl ⟨rfl, rfl, Nat.le_of_ble_eq_true rfl, Nat.le_of_ble_eq_true rfl⟩ (Nat.le_of_ble_eq_true rfl) ⟨Nat.zero_le _, Nat.zero_le _⟩ ⟨rfl, rfl, rfl, rfl, rfl, by decide, rfl⟩ rfl dX10_worth_21 ?_
    refine g_if_ne 24 29 C dX10_worth_24 (by decide) (fun c => ?_) (fun c => ?_)
    · replace h := if_e c h
      refine g_aload_n 29 C 0 dX10_worth_29 rfl rfl ?_
      refine g_get 30 C in_X10_worth_X10 0 0 rfl rfl (by decide) fl_X10_worth_12 rfl rfl dX10_worth_30 ?_
      refine g_get 33 C in_X10_worth_X1 1 0 rfl rfl (by decide) fl_X10_worth_116 rfl rfl dX10_worth_33 ?_
      refine g_iload_n 36 C 1 dX10_worth_36 rfl rfl ?_
      obtain ⟨o5, h⟩ := ob_e h
      refine g_iald 37 C 2 rfl o5 dX10_worth_37 ?_
      refine g_istore_n 38 C [(3, .int (s_chain_worths v1.toNatClampNeg)), (0, .ref h_t), (1, .int v1), (2, .int v2)] dX10_worth_38 rfl (by decide) rfl ?_
      refine g_aload_n 39 C 1 dX10_worth_39 rfl rfl ?_
      refine g_get 40 C in_X10_worth_X10 0 0 rfl rfl (by decide) fl_X10_worth_12 rfl rfl dX10_worth_40 ?_
      refine g_iload_n 43 C 2 dX10_worth_43 rfl rfl ?_
      refine g_iload_n 44 C 3 dX10_worth_44 rfl rfl ?_
      obtain ⟨q6, e7, h⟩ := bi_e h
      refine g_callVv 45 C (As := [.int v1, .int v2]) [1, 2, 3] [0, 4, 5] [0, 3, 4, 5, 1, 2] (W_X10_worth k h_t h_t_chain h_t_chain_worths h_t_chain_ahead h_t_best h_t_best_known h_t_days h_t_imageChain h_t_imageDays h_t_tape h_t_draft h_t_pieces h_t_sums h_t_sets h_t_choice h_t_delay h_t_sheets h_t_wanted h_t_seenRow h_t_chain_cuts h_t_best_far h_t_best_rows s_hasImage s_chain_kind s_chain_links s_chain_cutCount q6.1 q6.2 s_best_known) 1 (fun sz => k_X1_value h_t_chain h_t_chain_worths h_t_chain_ahead h_t_chain_cuts s_chain_kind s_chain_links s_chain_cutCount s_chain_worths s_chain_ahead v1 v2 q6 e7 sz) gX10_worth_X1_value rfl pd_X1_value rfl rfl rfl ⟨rfl, rfl, Nat.le_of_ble_eq_true rfl, Nat.le_of_ble_eq_true rfl⟩ (Nat.le_of_ble_eq_true rfl) ⟨Nat.zero_le _, Nat.zero_le _⟩ ⟨rfl, rfl, rfl, rfl, rfl, by decide, rfl⟩ rfl dX10_worth_45 ?_
      refine g_aload_n 48 C 1 dX10_worth_48 rfl rfl ?_
      refine g_get 49 C in_X10_worth_X10 0 11 rfl rfl (by decide) fl_X10_worth_70 rfl rfl dX10_worth_49 ?_
      obtain ⟨q8, e9, h⟩ := bi_e h
      refine g_callVv 52 C (As := []) [4, 5] [0, 1, 2, 3] [0, 1, 2, 3, 4, 5] (W_X10_worth k h_t h_t_chain h_t_chain_worths h_t_chain_ahead h_t_best h_t_best_known h_t_days h_t_imageChain h_t_imageDays h_t_tape h_t_draft h_t_pieces h_t_sums h_t_sets h_t_choice h_t_delay h_t_sheets h_t_wanted h_t_seenRow h_t_chain_cuts h_t_best_far h_t_best_rows s_hasImage s_chain_kind s_chain_links s_chain_cutCount q6.1 q6.2 q8) 4 (fun sz => k_X0_forget h_t_best h_t_best_known h_t_best_far h_t_best_rows s_best_known q8 e9 sz) gX10_worth_X0_forget rfl pd_X0_forget rfl rfl rfl ⟨rfl, rfl, Nat.le_of_ble_eq_true rfl, Nat.le_of_ble_eq_true rfl⟩ (Nat.le_of_ble_eq_true rfl) ⟨Nat.zero_le _, Nat.zero_le _⟩ ⟨rfl, rfl, rfl, rfl, rfl, by decide, rfl⟩ rfl dX10_worth_52 ?_
      refine g_iload_n 55 C 0 dX10_worth_55 rfl rfl ?_
      obtain rfl := Option.some.inj h
      exact g_iret 56 C hA rfl dX10_worth_56 rfl
    · replace h := it_e c h
      refine GG.sub (lv' := []) [] rfl ?_
      exact ok_B_X10_worth_27 C hA h
end

/-! X10_cut -/
abbrev W_X10_cut (k : Nat → ClassId) (h_t : Nat) (h_t_chain : Nat) (h_t_chain_cuts : Nat) (h_t_days : Nat) (h_t_imageChain : Nat) (h_t_imageDays : Nat) (h_t_tape : Nat) (h_t_draft : Nat) (h_t_pieces : Nat) (h_t_sums : Nat) (h_t_sets : Nat) (h_t_choice : Nat) (h_t_best : Nat) (h_t_delay : Nat) (h_t_sheets : Nat) (h_t_wanted : Nat) (h_t_seenRow : Nat) (h_t_chain_worths : Nat) (h_t_chain_ahead : Nat) (s_hasImage : Int32) (s_chain_kind : Int32) (s_chain_links : Int32) (s_chain_cutCount : Int32) (s_chain_cuts : Nat → Int32) : va_W := [(h_t, .inr (10, [.ref h_t_chain, .ref h_t_days, .ref h_t_imageChain, .ref h_t_imageDays, .int s_hasImage, .ref h_t_tape, .ref h_t_draft, .ref h_t_pieces, .ref h_t_sums, .ref h_t_sets, .ref h_t_choice, .ref h_t_best, .ref h_t_delay, .ref h_t_sheets, .ref h_t_wanted, .ref h_t_seenRow])), (h_t_chain, .inr (1, [.ref h_t_chain_worths, .ref h_t_chain_ahead, .ref h_t_chain_cuts, .int s_chain_kind, .int s_chain_links, .int s_chain_cutCount])), (h_t_chain_cuts, .inl (k 0, 5, .inl s_chain_cuts))]
def rm_X10_cut : Room := { frames := 3, cells := 0, slots := 0, locals := 61 }
theorem in_X10_cut_X1 : ∀ w ∈ u_ws RX1 TX1 6, w ∈ wsX10_cut := by decide +kernel
theorem in_X10_cut_X10 : ∀ w ∈ u_ws RX10 TX10 16, w ∈ wsX10_cut := by decide +kernel
theorem fl_X10_cut_103 : Cond.fieldLink RX10 103 "LinkDays$Chain" "cutCount" "I" ∈ wsX10_cut := by decide +kernel
theorem fl_X10_cut_12 : Cond.fieldLink RX10 12 "LinkDays" "chain" "LLinkDays$Chain;" ∈ wsX10_cut := by decide +kernel
theorem pd_X10_cut : yX10_cut.cls = RX10 ∧ yX10_cut.cls ≠ "java/lang/invoke/MethodHandle" ∧ yX10_cut.cls ≠ "java/lang/invoke/VarHandle" ∧ (parseMethodDescriptor yX10_cut.desc).map (fun d => d.parameters.length) = some 1 := by decide +kernel
section
variable {p : Program} {l : Launch} {e : Env} {s : State} {m : MethodId} {args : Array Value} {below : List Frame} {meth : Method} {c : Code} {D : va_G} {k : Nat → ClassId} {A : Nat → Prop} {w0 : va_W} {sz : Nat}
set_option maxHeartbeats 4000000 in
set_option maxRecDepth 100000 in
theorem k_X10_cut {l : Launch} {D : va_G} {k : Nat → ClassId} (h_t : Nat) (h_t_chain : Nat) (h_t_chain_cuts : Nat) (h_t_days : Nat) (h_t_imageChain : Nat) (h_t_imageDays : Nat) (h_t_tape : Nat) (h_t_draft : Nat) (h_t_pieces : Nat) (h_t_sums : Nat) (h_t_sets : Nat) (h_t_choice : Nat) (h_t_best : Nat) (h_t_delay : Nat) (h_t_sheets : Nat) (h_t_wanted : Nat) (h_t_seenRow : Nat) (h_t_chain_worths : Nat) (h_t_chain_ahead : Nat) (s_hasImage : Int32) (s_chain_kind : Int32) (s_chain_links : Int32) (s_chain_cutCount : Int32) (s_chain_cuts : Nat → Int32) (v1 : Int32) (res : Int32 × Int32 × (Nat → Int32)) (h : f_X10_cut s_chain_kind s_chain_links s_chain_cutCount s_chain_cuts v1 = some res) (sz : Nat) : Met l yX10_cut wsX10_cut rm_X10_cut (cPre D k [.ref h_t, .int v1] (W_X10_cut k h_t h_t_chain h_t_chain_cuts h_t_days h_t_imageChain h_t_imageDays h_t_tape h_t_draft h_t_pieces h_t_sums h_t_sets h_t_choice h_t_best h_t_delay h_t_sheets h_t_wanted h_t_seenRow h_t_chain_worths h_t_chain_ahead s_hasImage s_chain_kind s_chain_links s_chain_cutCount s_chain_cuts) sz) (cQi D (W_X10_cut k h_t h_t_chain h_t_chain_cuts h_t_days h_t_imageChain h_t_imageDays h_t_tape h_t_draft h_t_pieces h_t_sums h_t_sets h_t_choice h_t_best h_t_delay h_t_sheets h_t_wanted h_t_seenRow h_t_chain_worths h_t_chain_ahead s_hasImage s_chain_kind s_chain_links s_chain_cutCount s_chain_cuts) sz res.1 (W_X10_cut k h_t h_t_chain h_t_chain_cuts h_t_days h_t_imageChain h_t_imageDays h_t_tape h_t_draft h_t_pieces h_t_sums h_t_sets h_t_choice h_t_best h_t_delay h_t_sheets h_t_wanted h_t_seenRow h_t_chain_worths h_t_chain_ahead s_hasImage s_chain_kind s_chain_links res.2.1 res.2.2)) 0 0 (va_A (W_X10_cut k h_t h_t_chain h_t_chain_cuts h_t_days h_t_imageChain h_t_imageDays h_t_tape h_t_draft h_t_pieces h_t_sums h_t_sets h_t_choice h_t_best h_t_delay h_t_sheets h_t_wanted h_t_seenRow h_t_chain_worths h_t_chain_ahead s_hasImage s_chain_kind s_chain_links s_chain_cutCount s_chain_cuts) sz) := by
  refine met_of [(0, .ref h_t), (1, .int v1)] (by decide) rfl rfl (Nat.le_of_ble_eq_true rfl) rfl ?_
  intro p e s m args below meth c A hA hsz C
  unfold f_X10_cut at h
  refine g_aload_n 0 C 0 dX10_cut_0 rfl rfl ?_
  refine g_get 1 C in_X10_cut_X10 0 0 rfl rfl (by decide) fl_X10_cut_12 rfl rfl dX10_cut_1 ?_
  refine g_iload_n 4 C 1 dX10_cut_4 rfl rfl ?_
  obtain ⟨q1, e2, h⟩ := bi_e h
  refine g_callVi 5 C (As := [.int v1]) [1] [0, 2] [0, 2, 1] (W_X10_cut k h_t h_t_chain h_t_chain_cuts h_t_days h_t_imageChain h_t_imageDays h_t_tape h_t_draft h_t_pieces h_t_sums h_t_sets h_t_choice h_t_best h_t_delay h_t_sheets h_t_wanted h_t_seenRow h_t_chain_worths h_t_chain_ahead s_hasImage s_chain_kind s_chain_links s_chain_cutCount s_chain_cuts) 1 (fun sz => k_X1_hasNotch h_t_chain h_t_chain_worths h_t_chain_ahead h_t_chain_cuts s_chain_kind s_chain_links s_chain_cutCount v1 q1 e2 sz) gX10_cut_X1_hasNotch rfl pd_X1_hasNotch rfl rfl rfl ⟨rfl, rfl, Nat.le_of_ble_eq_true rfl, Nat.le_of_ble_eq_true rfl⟩ (Nat.le_of_ble_eq_true rfl) ⟨Nat.zero_le _, Nat.zero_le _⟩ ⟨rfl, rfl, rfl, rfl, rfl, by decide, rfl⟩ rfl dX10_cut_5 ?_
  refine g_if_ne 8 13 C dX10_cut_8 (by decide) (fun c => ?_) (fun c => ?_)
  · replace h := if_e c h
    refine g_aload_n 13 C 0 dX10_cut_13 rfl rfl ?_
    refine g_get 14 C in_X10_cut_X10 0 0 rfl rfl (by decide) fl_X10_cut_12 rfl rfl dX10_cut_14 ?_
    refine g_iload_n 17 C 1 dX10_cut_17 rfl rfl ?_
    obtain ⟨q3, e4, h⟩ := bi_e h
    refine g_callVi 18 C (As := [.int v1]) [1, 2] [0] [0, 1, 2] (W_X10_cut k h_t h_t_chain h_t_chain_cuts h_t_days h_t_imageChain h_t_imageDays h_t_tape h_t_draft h_t_pieces h_t_sums h_t_sets h_t_choice h_t_best h_t_delay h_t_sheets h_t_wanted h_t_seenRow h_t_chain_worths h_t_chain_ahead s_hasImage s_chain_kind s_chain_links s_chain_cutCount s_chain_cuts) 1 (fun sz => k_X1_placeOf h_t_chain h_t_chain_cuts h_t_chain_worths h_t_chain_ahead s_chain_kind s_chain_links s_chain_cutCount s_chain_cuts v1 q3 e4 sz) gX10_cut_X1_placeOf rfl pd_X1_placeOf rfl rfl rfl ⟨rfl, rfl, Nat.le_of_ble_eq_true rfl, Nat.le_of_ble_eq_true rfl⟩ (Nat.le_of_ble_eq_true rfl) ⟨Nat.zero_le _, Nat.zero_le _⟩ ⟨rfl, rfl, rfl, rfl, rfl, by decide, rfl⟩ rfl dX10_cut_18 ?_
    refine g_if_lt 21 27 C dX10_cut_21 (by decide) (fun c => ?_) (fun c => ?_)
    · replace h := it_e c h
      refine g_aload_n 27 C 0 dX10_cut_27 rfl rfl ?_
      refine g_get 28 C in_X10_cut_X10 0 0 rfl rfl (by decide) fl_X10_cut_12 rfl rfl dX10_cut_28 ?_
      refine g_get 31 C in_X10_cut_X1 1 5 rfl rfl (by decide) fl_X10_cut_103 rfl rfl dX10_cut_31 ?_
      refine g_iconst 34 C (5 : Int32) dX10_cut_34 (by decide) ?_
      refine g_icmp_lt 35 41 C dX10_cut_35 (by decide) (fun c => ?_) (fun c => ?_)
      · replace h := it_e c h
        refine g_aload_n 41 C 0 dX10_cut_41 rfl rfl ?_
        refine g_get 42 C in_X10_cut_X10 0 0 rfl rfl (by decide) fl_X10_cut_12 rfl rfl dX10_cut_42 ?_
        refine g_iload_n 45 C 1 dX10_cut_45 rfl rfl ?_
        obtain ⟨q5, e6, h⟩ := bi_e h
        refine g_callVv 46 C (As := [.int v1]) [1, 2] [0] [0, 1, 2] (W_X10_cut k h_t h_t_chain h_t_chain_cuts h_t_days h_t_imageChain h_t_imageDays h_t_tape h_t_draft h_t_pieces h_t_sums h_t_sets h_t_choice h_t_best h_t_delay h_t_sheets h_t_wanted h_t_seenRow h_t_chain_worths h_t_chain_ahead s_hasImage s_chain_kind s_chain_links q5.1 q5.2) 1 (fun sz => k_X1_open h_t_chain h_t_chain_cuts h_t_chain_worths h_t_chain_ahead s_chain_kind s_chain_links s_chain_cutCount s_chain_cuts v1 q5 e6 sz) gX10_cut_X1_open rfl pd_X1_open rfl rfl rfl ⟨rfl, rfl, Nat.le_of_ble_eq_true rfl, Nat.le_of_ble_eq_true rfl⟩ (Nat.le_of_ble_eq_true rfl) ⟨Nat.zero_le _, Nat.zero_le _⟩ ⟨rfl, rfl, rfl, rfl, rfl, by decide, rfl⟩ rfl dX10_cut_46 ?_
        refine g_aload_n 49 C 0 dX10_cut_49 rfl rfl ?_
        refine g_get 50 C in_X10_cut_X10 0 0 rfl rfl (by decide) fl_X10_cut_12 rfl rfl dX10_cut_50 ?_
        refine g_get 53 C in_X10_cut_X1 1 5 rfl rfl (by decide) fl_X10_cut_103 rfl rfl dX10_cut_53 ?_
        obtain rfl := Option.some.inj h
        exact g_iret 56 C hA rfl dX10_cut_56 rfl
      · replace h := if_e c h
        refine g_bipush 38 C (-3 : Int32) dX10_cut_38 (by decide) ?_
        obtain rfl := Option.some.inj h
        exact g_iret 40 C hA rfl dX10_cut_40 rfl
    · replace h := if_e c h
      refine g_bipush 24 C (-2 : Int32) dX10_cut_24 (by decide) ?_
      obtain rfl := Option.some.inj h
      exact g_iret 26 C hA rfl dX10_cut_26 rfl
  · replace h := it_e c h
    refine g_iconst 11 C (-1 : Int32) dX10_cut_11 (by decide) ?_
    obtain rfl := Option.some.inj h
    exact g_iret 12 C hA rfl dX10_cut_12 rfl
end

/-! X10_mend -/
abbrev W_X10_mend (k : Nat → ClassId) (h_t : Nat) (h_t_chain : Nat) (h_t_chain_cuts : Nat) (h_t_days : Nat) (h_t_imageChain : Nat) (h_t_imageDays : Nat) (h_t_tape : Nat) (h_t_draft : Nat) (h_t_pieces : Nat) (h_t_sums : Nat) (h_t_sets : Nat) (h_t_choice : Nat) (h_t_best : Nat) (h_t_delay : Nat) (h_t_sheets : Nat) (h_t_wanted : Nat) (h_t_seenRow : Nat) (h_t_chain_worths : Nat) (h_t_chain_ahead : Nat) (s_hasImage : Int32) (s_chain_kind : Int32) (s_chain_links : Int32) (s_chain_cutCount : Int32) (s_chain_cuts : Nat → Int32) : va_W := [(h_t, .inr (10, [.ref h_t_chain, .ref h_t_days, .ref h_t_imageChain, .ref h_t_imageDays, .int s_hasImage, .ref h_t_tape, .ref h_t_draft, .ref h_t_pieces, .ref h_t_sums, .ref h_t_sets, .ref h_t_choice, .ref h_t_best, .ref h_t_delay, .ref h_t_sheets, .ref h_t_wanted, .ref h_t_seenRow])), (h_t_chain, .inr (1, [.ref h_t_chain_worths, .ref h_t_chain_ahead, .ref h_t_chain_cuts, .int s_chain_kind, .int s_chain_links, .int s_chain_cutCount])), (h_t_chain_cuts, .inl (k 0, 5, .inl s_chain_cuts))]
def rm_X10_mend : Room := { frames := 3, cells := 0, slots := 0, locals := 61 }
theorem in_X10_mend_X1 : ∀ w ∈ u_ws RX1 TX1 6, w ∈ wsX10_mend := by decide +kernel
theorem in_X10_mend_X10 : ∀ w ∈ u_ws RX10 TX10 16, w ∈ wsX10_mend := by decide +kernel
theorem fl_X10_mend_103 : Cond.fieldLink RX10 103 "LinkDays$Chain" "cutCount" "I" ∈ wsX10_mend := by decide +kernel
theorem fl_X10_mend_12 : Cond.fieldLink RX10 12 "LinkDays" "chain" "LLinkDays$Chain;" ∈ wsX10_mend := by decide +kernel
theorem pd_X10_mend : yX10_mend.cls = RX10 ∧ yX10_mend.cls ≠ "java/lang/invoke/MethodHandle" ∧ yX10_mend.cls ≠ "java/lang/invoke/VarHandle" ∧ (parseMethodDescriptor yX10_mend.desc).map (fun d => d.parameters.length) = some 1 := by decide +kernel
section
variable {p : Program} {l : Launch} {e : Env} {s : State} {m : MethodId} {args : Array Value} {below : List Frame} {meth : Method} {c : Code} {D : va_G} {k : Nat → ClassId} {A : Nat → Prop} {w0 : va_W} {sz : Nat}
set_option maxHeartbeats 4000000 in
set_option maxRecDepth 100000 in
theorem k_X10_mend {l : Launch} {D : va_G} {k : Nat → ClassId} (h_t : Nat) (h_t_chain : Nat) (h_t_chain_cuts : Nat) (h_t_days : Nat) (h_t_imageChain : Nat) (h_t_imageDays : Nat) (h_t_tape : Nat) (h_t_draft : Nat) (h_t_pieces : Nat) (h_t_sums : Nat) (h_t_sets : Nat) (h_t_choice : Nat) (h_t_best : Nat) (h_t_delay : Nat) (h_t_sheets : Nat) (h_t_wanted : Nat) (h_t_seenRow : Nat) (h_t_chain_worths : Nat) (h_t_chain_ahead : Nat) (s_hasImage : Int32) (s_chain_kind : Int32) (s_chain_links : Int32) (s_chain_cutCount : Int32) (s_chain_cuts : Nat → Int32) (v1 : Int32) (res : Int32 × Int32 × (Nat → Int32)) (h : f_X10_mend s_chain_kind s_chain_links s_chain_cutCount s_chain_cuts v1 = some res) (sz : Nat) : Met l yX10_mend wsX10_mend rm_X10_mend (cPre D k [.ref h_t, .int v1] (W_X10_mend k h_t h_t_chain h_t_chain_cuts h_t_days h_t_imageChain h_t_imageDays h_t_tape h_t_draft h_t_pieces h_t_sums h_t_sets h_t_choice h_t_best h_t_delay h_t_sheets h_t_wanted h_t_seenRow h_t_chain_worths h_t_chain_ahead s_hasImage s_chain_kind s_chain_links s_chain_cutCount s_chain_cuts) sz) (cQi D (W_X10_mend k h_t h_t_chain h_t_chain_cuts h_t_days h_t_imageChain h_t_imageDays h_t_tape h_t_draft h_t_pieces h_t_sums h_t_sets h_t_choice h_t_best h_t_delay h_t_sheets h_t_wanted h_t_seenRow h_t_chain_worths h_t_chain_ahead s_hasImage s_chain_kind s_chain_links s_chain_cutCount s_chain_cuts) sz res.1 (W_X10_mend k h_t h_t_chain h_t_chain_cuts h_t_days h_t_imageChain h_t_imageDays h_t_tape h_t_draft h_t_pieces h_t_sums h_t_sets h_t_choice h_t_best h_t_delay h_t_sheets h_t_wanted h_t_seenRow h_t_chain_worths h_t_chain_ahead s_hasImage s_chain_kind s_chain_links res.2.1 res.2.2)) 0 0 (va_A (W_X10_mend k h_t h_t_chain h_t_chain_cuts h_t_days h_t_imageChain h_t_imageDays h_t_tape h_t_draft h_t_pieces h_t_sums h_t_sets h_t_choice h_t_best h_t_delay h_t_sheets h_t_wanted h_t_seenRow h_t_chain_worths h_t_chain_ahead s_hasImage s_chain_kind s_chain_links s_chain_cutCount s_chain_cuts) sz) := by
  refine met_of [(0, .ref h_t), (1, .int v1)] (by decide) rfl rfl (Nat.le_of_ble_eq_true rfl) rfl ?_
  intro p e s m args below meth c A hA hsz C
  unfold f_X10_mend at h
  refine g_aload_n 0 C 0 dX10_mend_0 rfl rfl ?_
  refine g_get 1 C in_X10_mend_X10 0 0 rfl rfl (by decide) fl_X10_mend_12 rfl rfl dX10_mend_1 ?_
  refine g_iload_n 4 C 1 dX10_mend_4 rfl rfl ?_
  obtain ⟨q1, e2, h⟩ := bi_e h
  refine g_callVi 5 C (As := [.int v1]) [1] [0, 2] [0, 2, 1] (W_X10_mend k h_t h_t_chain h_t_chain_cuts h_t_days h_t_imageChain h_t_imageDays h_t_tape h_t_draft h_t_pieces h_t_sums h_t_sets h_t_choice h_t_best h_t_delay h_t_sheets h_t_wanted h_t_seenRow h_t_chain_worths h_t_chain_ahead s_hasImage s_chain_kind s_chain_links s_chain_cutCount s_chain_cuts) 1 (fun sz => k_X1_hasNotch h_t_chain h_t_chain_worths h_t_chain_ahead h_t_chain_cuts s_chain_kind s_chain_links s_chain_cutCount v1 q1 e2 sz) gX10_mend_X1_hasNotch rfl pd_X1_hasNotch rfl rfl rfl ⟨rfl, rfl, Nat.le_of_ble_eq_true rfl, Nat.le_of_ble_eq_true rfl⟩ (Nat.le_of_ble_eq_true rfl) ⟨Nat.zero_le _, Nat.zero_le _⟩ ⟨rfl, rfl, rfl, rfl, rfl, by decide, rfl⟩ rfl dX10_mend_5 ?_
  refine g_if_ne 8 13 C dX10_mend_8 (by decide) (fun c => ?_) (fun c => ?_)
  · replace h := if_e c h
    refine g_aload_n 13 C 0 dX10_mend_13 rfl rfl ?_
    refine g_get 14 C in_X10_mend_X10 0 0 rfl rfl (by decide) fl_X10_mend_12 rfl rfl dX10_mend_14 ?_
    refine g_iload_n 17 C 1 dX10_mend_17 rfl rfl ?_
    obtain ⟨q3, e4, h⟩ := bi_e h
    refine g_callVi 18 C (As := [.int v1]) [1, 2] [0] [0, 1, 2] (W_X10_mend k h_t h_t_chain h_t_chain_cuts h_t_days h_t_imageChain h_t_imageDays h_t_tape h_t_draft h_t_pieces h_t_sums h_t_sets h_t_choice h_t_best h_t_delay h_t_sheets h_t_wanted h_t_seenRow h_t_chain_worths h_t_chain_ahead s_hasImage s_chain_kind s_chain_links s_chain_cutCount s_chain_cuts) 1 (fun sz => k_X1_placeOf h_t_chain h_t_chain_cuts h_t_chain_worths h_t_chain_ahead s_chain_kind s_chain_links s_chain_cutCount s_chain_cuts v1 q3 e4 sz) gX10_mend_X1_placeOf rfl pd_X1_placeOf rfl rfl rfl ⟨rfl, rfl, Nat.le_of_ble_eq_true rfl, Nat.le_of_ble_eq_true rfl⟩ (Nat.le_of_ble_eq_true rfl) ⟨Nat.zero_le _, Nat.zero_le _⟩ ⟨rfl, rfl, rfl, rfl, rfl, by decide, rfl⟩ rfl dX10_mend_18 ?_
    refine g_istore_n 21 C [(2, .int q3), (0, .ref h_t), (1, .int v1)] dX10_mend_21 rfl (by decide) rfl ?_
    refine g_iload_n 22 C 0 dX10_mend_22 rfl rfl ?_
    refine g_if_ge 23 29 C dX10_mend_23 (by decide) (fun c => ?_) (fun c => ?_)
    · replace h := it_e c h
      refine g_aload_n 29 C 1 dX10_mend_29 rfl rfl ?_
      refine g_get 30 C in_X10_mend_X10 0 0 rfl rfl (by decide) fl_X10_mend_12 rfl rfl dX10_mend_30 ?_
      refine g_iload_n 33 C 0 dX10_mend_33 rfl rfl ?_
      obtain ⟨q5, e6, h⟩ := bi_e h
      refine g_callVv 34 C (As := [.int q3]) [1, 2] [0] [0, 1, 2] (W_X10_mend k h_t h_t_chain h_t_chain_cuts h_t_days h_t_imageChain h_t_imageDays h_t_tape h_t_draft h_t_pieces h_t_sums h_t_sets h_t_choice h_t_best h_t_delay h_t_sheets h_t_wanted h_t_seenRow h_t_chain_worths h_t_chain_ahead s_hasImage s_chain_kind s_chain_links q5.1 q5.2) 1 (fun sz => k_X1_close h_t_chain h_t_chain_cuts h_t_chain_worths h_t_chain_ahead s_chain_kind s_chain_links s_chain_cutCount s_chain_cuts q3 q5 e6 sz) gX10_mend_X1_close rfl pd_X1_close rfl rfl rfl ⟨rfl, rfl, Nat.le_of_ble_eq_true rfl, Nat.le_of_ble_eq_true rfl⟩ (Nat.le_of_ble_eq_true rfl) ⟨Nat.zero_le _, Nat.zero_le _⟩ ⟨rfl, rfl, rfl, rfl, rfl, by decide, rfl⟩ rfl dX10_mend_34 ?_
      refine g_aload_n 37 C 1 dX10_mend_37 rfl rfl ?_
      refine g_get 38 C in_X10_mend_X10 0 0 rfl rfl (by decide) fl_X10_mend_12 rfl rfl dX10_mend_38 ?_
      refine g_get 41 C in_X10_mend_X1 1 5 rfl rfl (by decide) fl_X10_mend_103 rfl rfl dX10_mend_41 ?_
      obtain rfl := Option.some.inj h
      exact g_iret 44 C hA rfl dX10_mend_44 rfl
    · replace h := if_e c h
      refine g_bipush 26 C (-2 : Int32) dX10_mend_26 (by decide) ?_
      obtain rfl := Option.some.inj h
      exact g_iret 28 C hA rfl dX10_mend_28 rfl
  · replace h := it_e c h
    refine g_iconst 11 C (-1 : Int32) dX10_mend_11 (by decide) ?_
    obtain rfl := Option.some.inj h
    exact g_iret 12 C hA rfl dX10_mend_12 rfl
end

/-! X10_type -/
abbrev W_X10_type (k : Nat → ClassId) (h_t : Nat) (h_t_tape : Nat) (h_t_tape_bytes : Nat) (h_t_chain : Nat) (h_t_days : Nat) (h_t_imageChain : Nat) (h_t_imageDays : Nat) (h_t_draft : Nat) (h_t_pieces : Nat) (h_t_sums : Nat) (h_t_sets : Nat) (h_t_choice : Nat) (h_t_best : Nat) (h_t_delay : Nat) (h_t_sheets : Nat) (h_t_wanted : Nat) (h_t_seenRow : Nat) (s_hasImage : Int32) (s_tape_length : Int32) (s_tape_at : Int32) (s_tape_bytes : Nat → Int32) : va_W := [(h_t, .inr (10, [.ref h_t_chain, .ref h_t_days, .ref h_t_imageChain, .ref h_t_imageDays, .int s_hasImage, .ref h_t_tape, .ref h_t_draft, .ref h_t_pieces, .ref h_t_sums, .ref h_t_sets, .ref h_t_choice, .ref h_t_best, .ref h_t_delay, .ref h_t_sheets, .ref h_t_wanted, .ref h_t_seenRow])), (h_t_tape, .inr (9, [.ref h_t_tape_bytes, .int s_tape_length, .int s_tape_at])), (h_t_tape_bytes, .inl (k 2, 60, .inl s_tape_bytes))]
def rm_X10_type : Room := { frames := 2, cells := 0, slots := 0, locals := 46 }
theorem in_X10_type_X10 : ∀ w ∈ u_ws RX10 TX10 16, w ∈ wsX10_type := by decide +kernel
theorem in_X10_type_X9 : ∀ w ∈ u_ws RX9 TX9 3, w ∈ wsX10_type := by decide +kernel
theorem fl_X10_type_141 : Cond.fieldLink RX10 141 "LinkDays$Tape" "length" "I" ∈ wsX10_type := by decide +kernel
theorem fl_X10_type_32 : Cond.fieldLink RX10 32 "LinkDays" "tape" "LLinkDays$Tape;" ∈ wsX10_type := by decide +kernel
theorem pd_X10_type : yX10_type.cls = RX10 ∧ yX10_type.cls ≠ "java/lang/invoke/MethodHandle" ∧ yX10_type.cls ≠ "java/lang/invoke/VarHandle" ∧ (parseMethodDescriptor yX10_type.desc).map (fun d => d.parameters.length) = some 2 := by decide +kernel
section
variable {p : Program} {l : Launch} {e : Env} {s : State} {m : MethodId} {args : Array Value} {below : List Frame} {meth : Method} {c : Code} {D : va_G} {k : Nat → ClassId} {A : Nat → Prop} {w0 : va_W} {sz : Nat}
set_option maxHeartbeats 4000000 in
set_option maxRecDepth 100000 in
theorem ok_B_X10_type_18 {h_t : Nat} {h_t_tape : Nat} {h_t_tape_bytes : Nat} {h_t_chain : Nat} {h_t_days : Nat} {h_t_imageChain : Nat} {h_t_imageDays : Nat} {h_t_draft : Nat} {h_t_pieces : Nat} {h_t_sums : Nat} {h_t_sets : Nat} {h_t_choice : Nat} {h_t_best : Nat} {h_t_delay : Nat} {h_t_sheets : Nat} {h_t_wanted : Nat} {h_t_seenRow : Nat} {s_hasImage : Int32} {s_tape_length : Int32} {s_tape_at : Int32} {s_tape_bytes : Nat → Int32} {res : Int32 × Int32 × (Nat → Int32)} (C : CX p s m args meth c cX10_type wsX10_type RX10 4 D k A (some .int)) (hA : A = va_A w0 sz)  (h : B_X10_type_18 s_tape_length s_tape_bytes = some res) : GG p l e rm_X10_type s m args below meth c (MQ below (cQi D w0 sz res.1 (W_X10_type k h_t h_t_tape h_t_tape_bytes h_t_chain h_t_days h_t_imageChain h_t_imageDays h_t_draft h_t_pieces h_t_sums h_t_sets h_t_choice h_t_best h_t_delay h_t_sheets h_t_wanted h_t_seenRow s_hasImage res.2.1 s_tape_at res.2.2)) args s 0 0 A) D A 4 0 0 18 [] [] (W_X10_type k h_t h_t_tape h_t_tape_bytes h_t_chain h_t_days h_t_imageChain h_t_imageDays h_t_draft h_t_pieces h_t_sums h_t_sets h_t_choice h_t_best h_t_delay h_t_sheets h_t_wanted h_t_seenRow s_hasImage s_tape_length s_tape_at s_tape_bytes) := by
  unfold B_X10_type_18 at h
  refine g_iconst 18 C (-1 : Int32) dX10_type_18 (by decide) ?_
  obtain rfl := Option.some.inj h
  exact g_iret 19 C hA rfl dX10_type_19 rfl
set_option maxHeartbeats 4000000 in
set_option maxRecDepth 100000 in
theorem k_X10_type {l : Launch} {D : va_G} {k : Nat → ClassId} (h_t : Nat) (h_t_tape : Nat) (h_t_tape_bytes : Nat) (h_t_chain : Nat) (h_t_days : Nat) (h_t_imageChain : Nat) (h_t_imageDays : Nat) (h_t_draft : Nat) (h_t_pieces : Nat) (h_t_sums : Nat) (h_t_sets : Nat) (h_t_choice : Nat) (h_t_best : Nat) (h_t_delay : Nat) (h_t_sheets : Nat) (h_t_wanted : Nat) (h_t_seenRow : Nat) (s_hasImage : Int32) (s_tape_length : Int32) (s_tape_at : Int32) (s_tape_bytes : Nat → Int32) (v1 : Int64) (v3 : Int32) (res : Int32 × Int32 × (Nat → Int32)) (h : f_X10_type s_tape_length s_tape_bytes v1 v3 = some res) (sz : Nat) : Met l yX10_type wsX10_type rm_X10_type (cPre D k [.ref h_t, .long v1, .int v3] (W_X10_type k h_t h_t_tape h_t_tape_bytes h_t_chain h_t_days h_t_imageChain h_t_imageDays h_t_draft h_t_pieces h_t_sums h_t_sets h_t_choice h_t_best h_t_delay h_t_sheets h_t_wanted h_t_seenRow s_hasImage s_tape_length s_tape_at s_tape_bytes) sz) (cQi D (W_X10_type k h_t h_t_tape h_t_tape_bytes h_t_chain h_t_days h_t_imageChain h_t_imageDays h_t_draft h_t_pieces h_t_sums h_t_sets h_t_choice h_t_best h_t_delay h_t_sheets h_t_wanted h_t_seenRow s_hasImage s_tape_length s_tape_at s_tape_bytes) sz res.1 (W_X10_type k h_t h_t_tape h_t_tape_bytes h_t_chain h_t_days h_t_imageChain h_t_imageDays h_t_draft h_t_pieces h_t_sums h_t_sets h_t_choice h_t_best h_t_delay h_t_sheets h_t_wanted h_t_seenRow s_hasImage res.2.1 s_tape_at res.2.2)) 0 0 (va_A (W_X10_type k h_t h_t_tape h_t_tape_bytes h_t_chain h_t_days h_t_imageChain h_t_imageDays h_t_draft h_t_pieces h_t_sums h_t_sets h_t_choice h_t_best h_t_delay h_t_sheets h_t_wanted h_t_seenRow s_hasImage s_tape_length s_tape_at s_tape_bytes) sz) := by
  refine met_of [(0, .ref h_t), (1, .long v1), (3, .int v3)] (by decide) rfl rfl (Nat.le_of_ble_eq_true rfl) rfl ?_
  intro p e s m args below meth c A hA hsz C
  unfold f_X10_type at h
  refine g_iload_n 0 C 2 dX10_type_0 rfl rfl ?_
  refine g_iconst 1 C (1 : Int32) dX10_type_1 (by decide) ?_
  refine g_bipush 2 C (8 : Int32) dX10_type_2 (by decide) ?_
  obtain ⟨q1, e2, h⟩ := bi_e h
  refine g_callSi 4 C (As := [.int v3, .int (1 : Int32), .int (8 : Int32)]) [] [0, 1, 2] [0, 1, 2] (W_X10_type k h_t h_t_tape h_t_tape_bytes h_t_chain h_t_days h_t_imageChain h_t_imageDays h_t_draft h_t_pieces h_t_sums h_t_sets h_t_choice h_t_best h_t_delay h_t_sheets h_t_wanted h_t_seenRow s_hasImage s_tape_length s_tape_at s_tape_bytes) (fun sz => k_X10_within v3 (1 : Int32) (8 : Int32) q1 e2 sz) gX10_type_X10_within rfl pd_X10_within rfl ⟨rfl, rfl, Nat.le_of_ble_eq_true rfl, Nat.le_of_ble_eq_true rfl⟩ (Nat.le_of_ble_eq_true rfl) ⟨Nat.zero_le _, Nat.zero_le _⟩ ⟨rfl, rfl, rfl, rfl, rfl, by decide, rfl⟩ rfl dX10_type_4 ?_
  refine g_if_eq 7 18 C dX10_type_7 (by decide) (fun c => ?_) (fun c => ?_)
  · replace h := it_e c h
    refine GG.sub (lv' := []) [] rfl ?_
    exact ok_B_X10_type_18 C hA h
  · replace h := if_e c h
    refine g_lload_n 10 C 1 dX10_type_10 rfl rfl ?_
    refine g_iload_n 11 C 2 dX10_type_11 rfl rfl ?_
    obtain ⟨q3, e4, h⟩ := bi_e h
    refine g_callSi 12 C (As := [.long v1, .int v3]) [] [0, 1, 2] [0, 1, 2] (W_X10_type k h_t h_t_tape h_t_tape_bytes h_t_chain h_t_days h_t_imageChain h_t_imageDays h_t_draft h_t_pieces h_t_sums h_t_sets h_t_choice h_t_best h_t_delay h_t_sheets h_t_wanted h_t_seenRow s_hasImage s_tape_length s_tape_at s_tape_bytes) (fun sz => k_X9_canHold v1 v3 q3 e4 sz) gX10_type_X9_canHold rfl pd_X9_canHold rfl ⟨rfl, rfl, Nat.le_of_ble_eq_true rfl, Nat.le_of_ble_eq_true rfl⟩ (Nat.le_of_ble_eq_true rfl) ⟨Nat.zero_le _, Nat.zero_le _⟩ ⟨rfl, rfl, rfl, rfl, rfl, by decide, rfl⟩ rfl dX10_type_12 ?_
    refine g_if_ne 15 20 C dX10_type_15 (by decide) (fun c => ?_) (fun c => ?_)
    · replace h := if_e c h
      refine g_aload_n 20 C 0 dX10_type_20 rfl rfl ?_
      refine g_get 21 C in_X10_type_X10 0 5 rfl rfl (by decide) fl_X10_type_32 rfl rfl dX10_type_21 ?_
      refine g_get 24 C in_X10_type_X9 1 1 rfl rfl (by decide) fl_X10_type_141 rfl rfl dX10_type_24 ?_
      refine g_iload_n 27 C 2 dX10_type_27 rfl rfl ?_
      refine g_iadd 28 C dX10_type_28 ?_
      refine g_bipush 29 C (60 : Int32) dX10_type_29 (by decide) ?_
      refine g_icmp_le 31 37 C dX10_type_31 (by decide) (fun c => ?_) (fun c => ?_)
      · replace h := it_e c h
        refine g_aload_n 37 C 0 dX10_type_37 rfl rfl ?_
        refine g_get 38 C in_X10_type_X10 0 5 rfl rfl (by decide) fl_X10_type_32 rfl rfl dX10_type_38 ?_
        refine g_lload_n 41 C 1 dX10_type_41 rfl rfl ?_
        refine g_iload_n 42 C 2 dX10_type_42 rfl rfl ?_
        obtain ⟨q5, e6, h⟩ := bi_e h
        refine g_callVv 43 C (As := [.long v1, .int v3]) [1, 2] [0] [0, 1, 2] (W_X10_type k h_t h_t_tape h_t_tape_bytes h_t_chain h_t_days h_t_imageChain h_t_imageDays h_t_draft h_t_pieces h_t_sums h_t_sets h_t_choice h_t_best h_t_delay h_t_sheets h_t_wanted h_t_seenRow s_hasImage q5.1 s_tape_at q5.2) 1 (fun sz => k_X9_write h_t_tape h_t_tape_bytes s_tape_length s_tape_at s_tape_bytes v1 v3 q5 e6 sz) gX10_type_X9_write rfl pd_X9_write rfl rfl rfl ⟨rfl, rfl, Nat.le_of_ble_eq_true rfl, Nat.le_of_ble_eq_true rfl⟩ (Nat.le_of_ble_eq_true rfl) ⟨Nat.zero_le _, Nat.zero_le _⟩ ⟨rfl, rfl, rfl, rfl, rfl, by decide, rfl⟩ rfl dX10_type_43 ?_
        refine g_aload_n 46 C 0 dX10_type_46 rfl rfl ?_
        refine g_get 47 C in_X10_type_X10 0 5 rfl rfl (by decide) fl_X10_type_32 rfl rfl dX10_type_47 ?_
        refine g_get 50 C in_X10_type_X9 1 1 rfl rfl (by decide) fl_X10_type_141 rfl rfl dX10_type_50 ?_
        obtain rfl := Option.some.inj h
        exact g_iret 53 C hA rfl dX10_type_53 rfl
      · replace h := if_e c h
        refine g_bipush 34 C (-3 : Int32) dX10_type_34 (by decide) ?_
        obtain rfl := Option.some.inj h
        exact g_iret 36 C hA rfl dX10_type_36 rfl
    · replace h := it_e c h
      refine GG.sub (lv' := []) [] rfl ?_
      exact ok_B_X10_type_18 C hA h
end

/-! X10_chain -/
abbrev W_X10_chain (k : Nat → ClassId) (h_t : Nat) (h_t_tape : Nat) (h_t_tape_bytes : Nat) (h_t_draft : Nat) (h_t_draft_worths : Nat) (h_t_draft_ahead : Nat) (h_t_draft_cuts : Nat) (h_t_chain : Nat) (h_t_chain_worths : Nat) (h_t_chain_ahead : Nat) (h_t_chain_cuts : Nat) (h_t_best : Nat) (h_t_best_known : Nat) (h_t_days : Nat) (h_t_imageChain : Nat) (h_t_imageDays : Nat) (h_t_pieces : Nat) (h_t_sums : Nat) (h_t_sets : Nat) (h_t_choice : Nat) (h_t_delay : Nat) (h_t_sheets : Nat) (h_t_wanted : Nat) (h_t_seenRow : Nat) (h_t_best_far : Nat) (h_t_best_rows : Nat) (s_hasImage : Int32) (s_tape_length : Int32) (s_tape_at : Int32) (s_tape_bytes : Nat → Int32) (s_draft_kind : Int32) (s_draft_links : Int32) (s_draft_cutCount : Int32) (s_draft_worths : Nat → Int32) (s_draft_ahead : Nat → Int32) (s_draft_cuts : Nat → Int32) (s_chain_kind : Int32) (s_chain_links : Int32) (s_chain_cutCount : Int32) (s_chain_worths : Nat → Int32) (s_chain_ahead : Nat → Int32) (s_chain_cuts : Nat → Int32) (s_best_known : Nat → Int32) : va_W := [(h_t, .inr (10, [.ref h_t_chain, .ref h_t_days, .ref h_t_imageChain, .ref h_t_imageDays, .int s_hasImage, .ref h_t_tape, .ref h_t_draft, .ref h_t_pieces, .ref h_t_sums, .ref h_t_sets, .ref h_t_choice, .ref h_t_best, .ref h_t_delay, .ref h_t_sheets, .ref h_t_wanted, .ref h_t_seenRow])), (h_t_tape, .inr (9, [.ref h_t_tape_bytes, .int s_tape_length, .int s_tape_at])), (h_t_tape_bytes, .inl (k 2, 60, .inl s_tape_bytes)), (h_t_draft, .inr (1, [.ref h_t_draft_worths, .ref h_t_draft_ahead, .ref h_t_draft_cuts, .int s_draft_kind, .int s_draft_links, .int s_draft_cutCount])), (h_t_draft_worths, .inl (k 0, 24, .inl s_draft_worths)), (h_t_draft_ahead, .inl (k 0, 25, .inl s_draft_ahead)), (h_t_draft_cuts, .inl (k 0, 5, .inl s_draft_cuts)), (h_t_chain, .inr (1, [.ref h_t_chain_worths, .ref h_t_chain_ahead, .ref h_t_chain_cuts, .int s_chain_kind, .int s_chain_links, .int s_chain_cutCount])), (h_t_chain_worths, .inl (k 0, 24, .inl s_chain_worths)), (h_t_chain_ahead, .inl (k 0, 25, .inl s_chain_ahead)), (h_t_chain_cuts, .inl (k 0, 5, .inl s_chain_cuts)), (h_t_best, .inr (0, [.ref h_t_best_known, .ref h_t_best_far, .ref h_t_best_rows])), (h_t_best_known, .inl (k 3, 5, .inl s_best_known))]
def rm_X10_chain : Room := { frames := 5, cells := 0, slots := 0, locals := 114 }
theorem in_X10_chain_X10 : ∀ w ∈ u_ws RX10 TX10 16, w ∈ wsX10_chain := by decide +kernel
theorem in_X10_chain_X9 : ∀ w ∈ u_ws RX9 TX9 3, w ∈ wsX10_chain := by decide +kernel
theorem fl_X10_chain_12 : Cond.fieldLink RX10 12 "LinkDays" "chain" "LLinkDays$Chain;" ∈ wsX10_chain := by decide +kernel
theorem fl_X10_chain_141 : Cond.fieldLink RX10 141 "LinkDays$Tape" "length" "I" ∈ wsX10_chain := by decide +kernel
theorem fl_X10_chain_32 : Cond.fieldLink RX10 32 "LinkDays" "tape" "LLinkDays$Tape;" ∈ wsX10_chain := by decide +kernel
theorem fl_X10_chain_36 : Cond.fieldLink RX10 36 "LinkDays" "draft" "LLinkDays$Chain;" ∈ wsX10_chain := by decide +kernel
theorem fl_X10_chain_70 : Cond.fieldLink RX10 70 "LinkDays" "best" "LLinkDays$Best;" ∈ wsX10_chain := by decide +kernel
theorem pd_X10_chain : yX10_chain.cls = RX10 ∧ yX10_chain.cls ≠ "java/lang/invoke/MethodHandle" ∧ yX10_chain.cls ≠ "java/lang/invoke/VarHandle" ∧ (parseMethodDescriptor yX10_chain.desc).map (fun d => d.parameters.length) = some 0 := by decide +kernel
section
variable {p : Program} {l : Launch} {e : Env} {s : State} {m : MethodId} {args : Array Value} {below : List Frame} {meth : Method} {c : Code} {D : va_G} {k : Nat → ClassId} {A : Nat → Prop} {w0 : va_W} {sz : Nat}
set_option maxHeartbeats 4000000 in
set_option maxRecDepth 100000 in
theorem ok_B_X10_chain_42 {h_t : Nat} {h_t_tape : Nat} {h_t_tape_bytes : Nat} {h_t_draft : Nat} {h_t_draft_worths : Nat} {h_t_draft_ahead : Nat} {h_t_draft_cuts : Nat} {h_t_chain : Nat} {h_t_chain_worths : Nat} {h_t_chain_ahead : Nat} {h_t_chain_cuts : Nat} {h_t_best : Nat} {h_t_best_known : Nat} {h_t_days : Nat} {h_t_imageChain : Nat} {h_t_imageDays : Nat} {h_t_pieces : Nat} {h_t_sums : Nat} {h_t_sets : Nat} {h_t_choice : Nat} {h_t_delay : Nat} {h_t_sheets : Nat} {h_t_wanted : Nat} {h_t_seenRow : Nat} {h_t_best_far : Nat} {h_t_best_rows : Nat} {s_hasImage : Int32} {s_tape_length : Int32} {s_tape_at : Int32} {s_tape_bytes : Nat → Int32} {s_draft_kind : Int32} {s_draft_links : Int32} {s_draft_cutCount : Int32} {s_draft_worths : Nat → Int32} {s_draft_ahead : Nat → Int32} {s_draft_cuts : Nat → Int32} {s_chain_kind : Int32} {s_chain_links : Int32} {s_chain_cutCount : Int32} {s_chain_worths : Nat → Int32} {s_chain_ahead : Nat → Int32} {s_chain_cuts : Nat → Int32} {s_best_known : Nat → Int32} {v1 : Int32} {res : Int32 × Int32 × Int32 × Int32 × Int32 × Int32 × (Nat → Int32) × (Nat → Int32) × (Nat → Int32) × Int32 × Int32 × Int32 × (Nat → Int32) × (Nat → Int32) × (Nat → Int32) × (Nat → Int32)} (C : CX p s m args meth c cX10_chain wsX10_chain RX10 2 D k A (some .int)) (hA : A = va_A w0 sz)  (h : B_X10_chain_42 s_tape_length s_tape_at s_draft_kind s_draft_links s_draft_cutCount s_draft_worths s_draft_ahead s_draft_cuts s_chain_kind s_chain_links s_chain_cutCount s_chain_worths s_chain_ahead s_chain_cuts s_best_known v1 = some res) : GG p l e rm_X10_chain s m args below meth c (MQ below (cQi D w0 sz res.1 (W_X10_chain k h_t h_t_tape h_t_tape_bytes h_t_draft h_t_draft_worths h_t_draft_ahead h_t_draft_cuts h_t_chain h_t_chain_worths h_t_chain_ahead h_t_chain_cuts h_t_best h_t_best_known h_t_days h_t_imageChain h_t_imageDays h_t_pieces h_t_sums h_t_sets h_t_choice h_t_delay h_t_sheets h_t_wanted h_t_seenRow h_t_best_far h_t_best_rows s_hasImage res.2.1 res.2.2.1 s_tape_bytes res.2.2.2.1 res.2.2.2.2.1 res.2.2.2.2.2.1 res.2.2.2.2.2.2.1 res.2.2.2.2.2.2.2.1 res.2.2.2.2.2.2.2.2.1 res.2.2.2.2.2.2.2.2.2.1 res.2.2.2.2.2.2.2.2.2.2.1 res.2.2.2.2.2.2.2.2.2.2.2.1 res.2.2.2.2.2.2.2.2.2.2.2.2.1 res.2.2.2.2.2.2.2.2.2.2.2.2.2.1 res.2.2.2.2.2.2.2.2.2.2.2.2.2.2.1 res.2.2.2.2.2.2.2.2.2.2.2.2.2.2.2)) args s 0 0 A) D A 2 0 0 42 [(1, .int v1)] [] (W_X10_chain k h_t h_t_tape h_t_tape_bytes h_t_draft h_t_draft_worths h_t_draft_ahead h_t_draft_cuts h_t_chain h_t_chain_worths h_t_chain_ahead h_t_chain_cuts h_t_best h_t_best_known h_t_days h_t_imageChain h_t_imageDays h_t_pieces h_t_sums h_t_sets h_t_choice h_t_delay h_t_sheets h_t_wanted h_t_seenRow h_t_best_far h_t_best_rows s_hasImage s_tape_length s_tape_at s_tape_bytes s_draft_kind s_draft_links s_draft_cutCount s_draft_worths s_draft_ahead s_draft_cuts s_chain_kind s_chain_links s_chain_cutCount s_chain_worths s_chain_ahead s_chain_cuts s_best_known) := by
  unfold B_X10_chain_42 at h
  refine g_iload_n 42 C 0 dX10_chain_42 rfl rfl ?_
  obtain rfl := Option.some.inj h
  exact g_iret 43 C hA rfl dX10_chain_43 rfl
set_option maxHeartbeats 4000000 in
set_option maxRecDepth 100000 in
theorem k_X10_chain {l : Launch} {D : va_G} {k : Nat → ClassId} (h_t : Nat) (h_t_tape : Nat) (h_t_tape_bytes : Nat) (h_t_draft : Nat) (h_t_draft_worths : Nat) (h_t_draft_ahead : Nat) (h_t_draft_cuts : Nat) (h_t_chain : Nat) (h_t_chain_worths : Nat) (h_t_chain_ahead : Nat) (h_t_chain_cuts : Nat) (h_t_best : Nat) (h_t_best_known : Nat) (h_t_days : Nat) (h_t_imageChain : Nat) (h_t_imageDays : Nat) (h_t_pieces : Nat) (h_t_sums : Nat) (h_t_sets : Nat) (h_t_choice : Nat) (h_t_delay : Nat) (h_t_sheets : Nat) (h_t_wanted : Nat) (h_t_seenRow : Nat) (h_t_best_far : Nat) (h_t_best_rows : Nat) (s_hasImage : Int32) (s_tape_length : Int32) (s_tape_at : Int32) (s_tape_bytes : Nat → Int32) (s_draft_kind : Int32) (s_draft_links : Int32) (s_draft_cutCount : Int32) (s_draft_worths : Nat → Int32) (s_draft_ahead : Nat → Int32) (s_draft_cuts : Nat → Int32) (s_chain_kind : Int32) (s_chain_links : Int32) (s_chain_cutCount : Int32) (s_chain_worths : Nat → Int32) (s_chain_ahead : Nat → Int32) (s_chain_cuts : Nat → Int32) (s_best_known : Nat → Int32) (res : Int32 × Int32 × Int32 × Int32 × Int32 × Int32 × (Nat → Int32) × (Nat → Int32) × (Nat → Int32) × Int32 × Int32 × Int32 × (Nat → Int32) × (Nat → Int32) × (Nat → Int32) × (Nat → Int32)) (h : f_X10_chain s_tape_length s_tape_bytes s_draft_kind s_draft_links s_draft_cutCount s_draft_worths s_draft_ahead s_draft_cuts s_chain_kind s_chain_links s_chain_cutCount s_chain_worths s_chain_ahead s_chain_cuts s_best_known = some res) (sz : Nat) : Met l yX10_chain wsX10_chain rm_X10_chain (cPre D k [.ref h_t] (W_X10_chain k h_t h_t_tape h_t_tape_bytes h_t_draft h_t_draft_worths h_t_draft_ahead h_t_draft_cuts h_t_chain h_t_chain_worths h_t_chain_ahead h_t_chain_cuts h_t_best h_t_best_known h_t_days h_t_imageChain h_t_imageDays h_t_pieces h_t_sums h_t_sets h_t_choice h_t_delay h_t_sheets h_t_wanted h_t_seenRow h_t_best_far h_t_best_rows s_hasImage s_tape_length s_tape_at s_tape_bytes s_draft_kind s_draft_links s_draft_cutCount s_draft_worths s_draft_ahead s_draft_cuts s_chain_kind s_chain_links s_chain_cutCount s_chain_worths s_chain_ahead s_chain_cuts s_best_known) sz) (cQi D (W_X10_chain k h_t h_t_tape h_t_tape_bytes h_t_draft h_t_draft_worths h_t_draft_ahead h_t_draft_cuts h_t_chain h_t_chain_worths h_t_chain_ahead h_t_chain_cuts h_t_best h_t_best_known h_t_days h_t_imageChain h_t_imageDays h_t_pieces h_t_sums h_t_sets h_t_choice h_t_delay h_t_sheets h_t_wanted h_t_seenRow h_t_best_far h_t_best_rows s_hasImage s_tape_length s_tape_at s_tape_bytes s_draft_kind s_draft_links s_draft_cutCount s_draft_worths s_draft_ahead s_draft_cuts s_chain_kind s_chain_links s_chain_cutCount s_chain_worths s_chain_ahead s_chain_cuts s_best_known) sz res.1 (W_X10_chain k h_t h_t_tape h_t_tape_bytes h_t_draft h_t_draft_worths h_t_draft_ahead h_t_draft_cuts h_t_chain h_t_chain_worths h_t_chain_ahead h_t_chain_cuts h_t_best h_t_best_known h_t_days h_t_imageChain h_t_imageDays h_t_pieces h_t_sums h_t_sets h_t_choice h_t_delay h_t_sheets h_t_wanted h_t_seenRow h_t_best_far h_t_best_rows s_hasImage res.2.1 res.2.2.1 s_tape_bytes res.2.2.2.1 res.2.2.2.2.1 res.2.2.2.2.2.1 res.2.2.2.2.2.2.1 res.2.2.2.2.2.2.2.1 res.2.2.2.2.2.2.2.2.1 res.2.2.2.2.2.2.2.2.2.1 res.2.2.2.2.2.2.2.2.2.2.1 res.2.2.2.2.2.2.2.2.2.2.2.1 res.2.2.2.2.2.2.2.2.2.2.2.2.1 res.2.2.2.2.2.2.2.2.2.2.2.2.2.1 res.2.2.2.2.2.2.2.2.2.2.2.2.2.2.1 res.2.2.2.2.2.2.2.2.2.2.2.2.2.2.2)) 0 0 (va_A (W_X10_chain k h_t h_t_tape h_t_tape_bytes h_t_draft h_t_draft_worths h_t_draft_ahead h_t_draft_cuts h_t_chain h_t_chain_worths h_t_chain_ahead h_t_chain_cuts h_t_best h_t_best_known h_t_days h_t_imageChain h_t_imageDays h_t_pieces h_t_sums h_t_sets h_t_choice h_t_delay h_t_sheets h_t_wanted h_t_seenRow h_t_best_far h_t_best_rows s_hasImage s_tape_length s_tape_at s_tape_bytes s_draft_kind s_draft_links s_draft_cutCount s_draft_worths s_draft_ahead s_draft_cuts s_chain_kind s_chain_links s_chain_cutCount s_chain_worths s_chain_ahead s_chain_cuts s_best_known) sz) := by
  refine met_of [(0, .ref h_t)] (by decide) rfl rfl (Nat.le_of_ble_eq_true rfl) rfl ?_
  intro p e s m args below meth c A hA hsz C
  unfold f_X10_chain at h
  refine g_aload_n 0 C 0 dX10_chain_0 rfl rfl ?_
  refine g_get 1 C in_X10_chain_X10 0 5 rfl rfl (by decide) fl_X10_chain_32 rfl rfl dX10_chain_1 ?_
  refine g_aload_n 4 C 0 dX10_chain_4 rfl rfl ?_
  refine g_get 5 C in_X10_chain_X10 0 6 rfl rfl (by decide) fl_X10_chain_36 rfl rfl dX10_chain_5 ?_
  obtain ⟨q1, e2, h⟩ := bi_e h
  refine g_callVi 8 C (As := [.ref h_t_draft]) [1, 2, 3, 4, 5, 6] [0, 7, 8, 9, 10, 11, 12] [0, 7, 8, 9, 10, 11, 12, 1, 2, 3, 4, 5, 6] (W_X10_chain k h_t h_t_tape h_t_tape_bytes h_t_draft h_t_draft_worths h_t_draft_ahead h_t_draft_cuts h_t_chain h_t_chain_worths h_t_chain_ahead h_t_chain_cuts h_t_best h_t_best_known h_t_days h_t_imageChain h_t_imageDays h_t_pieces h_t_sums h_t_sets h_t_choice h_t_delay h_t_sheets h_t_wanted h_t_seenRow h_t_best_far h_t_best_rows s_hasImage s_tape_length q1.2.1 s_tape_bytes q1.2.2.1 q1.2.2.2.1 q1.2.2.2.2.1 q1.2.2.2.2.2.1 q1.2.2.2.2.2.2.1 q1.2.2.2.2.2.2.2 s_chain_kind s_chain_links s_chain_cutCount s_chain_worths s_chain_ahead s_chain_cuts s_best_known) 1 (fun sz => k_X9_read h_t_tape h_t_tape_bytes h_t_draft h_t_draft_worths h_t_draft_ahead h_t_draft_cuts s_tape_length s_tape_at s_tape_bytes s_draft_kind s_draft_links s_draft_cutCount s_draft_worths s_draft_ahead s_draft_cuts q1 e2 sz) gX10_chain_X9_read rfl pd_X9_read rfl rfl rfl ⟨rfl, rfl, Nat.le_of_ble_eq_true rfl, Nat.le_of_ble_eq_true rfl⟩ (Nat.le_of_ble_eq_true rfl) ⟨Nat.zero_le _, Nat.zero_le _⟩ ⟨rfl, rfl, rfl, rfl, rfl, by decide, rfl⟩ rfl dX10_chain_8 ?_
  refine g_istore_n 11 C [(1, .int q1.1), (0, .ref h_t)] dX10_chain_11 rfl (by decide) rfl ?_
  refine g_aload_n 12 C 1 dX10_chain_12 rfl rfl ?_
  refine g_get 13 C in_X10_chain_X10 0 5 rfl rfl (by decide) fl_X10_chain_32 rfl rfl dX10_chain_13 ?_
  refine g_iconst 16 C (0 : Int32) dX10_chain_16 (by decide) ?_
  refine g_put 17 C (W_X10_chain k h_t h_t_tape h_t_tape_bytes h_t_draft h_t_draft_worths h_t_draft_ahead h_t_draft_cuts h_t_chain h_t_chain_worths h_t_chain_ahead h_t_chain_cuts h_t_best h_t_best_known h_t_days h_t_imageChain h_t_imageDays h_t_pieces h_t_sums h_t_sets h_t_choice h_t_delay h_t_sheets h_t_wanted h_t_seenRow h_t_best_far h_t_best_rows s_hasImage (0 : Int32) q1.2.1 s_tape_bytes q1.2.2.1 q1.2.2.2.1 q1.2.2.2.2.1 q1.2.2.2.2.2.1 q1.2.2.2.2.2.2.1 q1.2.2.2.2.2.2.2 s_chain_kind s_chain_links s_chain_cutCount s_chain_worths s_chain_ahead s_chain_cuts s_best_known) in_X10_chain_X9 tyX9 tyX9_ok nmX9 1 1 rfl rfl (by decide) fl_X10_chain_141 rfl rfl (tyX9_ok 1 (by decide)) rfl rfl (Nat.le_of_ble_eq_true rfl) rfl dX10_chain_17 ?_
  refine g_iload_n 20 C 0 dX10_chain_20 rfl rfl ?_
  refine g_if_le 21 42 C dX10_chain_21 (by decide) (fun c => ?_) (fun c => ?_)
  · replace h := it_e c h
    refine GG.sub (lv' := [(1, .int q1.1)]) [0] rfl ?_
    exact ok_B_X10_chain_42 C hA h
  · replace h := if_e c h
    refine g_aload_n 24 C 1 dX10_chain_24 rfl rfl ?_
    refine g_get 25 C in_X10_chain_X10 0 0 rfl rfl (by decide) fl_X10_chain_12 rfl rfl dX10_chain_25 ?_
    refine g_aload_n 28 C 1 dX10_chain_28 rfl rfl ?_
    refine g_get 29 C in_X10_chain_X10 0 6 rfl rfl (by decide) fl_X10_chain_36 rfl rfl dX10_chain_29 ?_
    obtain ⟨q3, e4, h⟩ := bi_e h
    refine g_callVv 32 C (As := [.ref h_t_draft]) [7, 8, 9, 10, 3, 4, 5, 6] [0, 1, 2, 11, 12] [0, 1, 2, 9, 10, 11, 12, 5, 6, 7, 8, 3, 4] (W_X10_chain k h_t h_t_tape h_t_tape_bytes h_t_draft h_t_draft_worths h_t_draft_ahead h_t_draft_cuts h_t_chain h_t_chain_worths h_t_chain_ahead h_t_chain_cuts h_t_best h_t_best_known h_t_days h_t_imageChain h_t_imageDays h_t_pieces h_t_sums h_t_sets h_t_choice h_t_delay h_t_sheets h_t_wanted h_t_seenRow h_t_best_far h_t_best_rows s_hasImage (0 : Int32) q1.2.1 s_tape_bytes q1.2.2.1 q1.2.2.2.1 q1.2.2.2.2.1 q1.2.2.2.2.2.1 q1.2.2.2.2.2.2.1 q1.2.2.2.2.2.2.2 q3.1 q3.2.1 q3.2.2.1 q3.2.2.2.1 q3.2.2.2.2.1 q3.2.2.2.2.2 s_best_known) 7 (fun sz => k_X1_take h_t_chain h_t_chain_worths h_t_chain_ahead h_t_chain_cuts h_t_draft h_t_draft_worths h_t_draft_ahead h_t_draft_cuts s_chain_kind s_chain_links s_chain_cutCount s_chain_worths s_chain_ahead s_chain_cuts q1.2.2.1 q1.2.2.2.1 q1.2.2.2.2.1 q1.2.2.2.2.2.1 q1.2.2.2.2.2.2.1 q1.2.2.2.2.2.2.2 q3 e4 sz) gX10_chain_X1_take rfl pd_X1_take rfl rfl rfl ⟨rfl, rfl, Nat.le_of_ble_eq_true rfl, Nat.le_of_ble_eq_true rfl⟩ (Nat.le_of_ble_eq_true rfl) ⟨Nat.zero_le _, Nat.zero_le _⟩ ⟨rfl, rfl, rfl, rfl, rfl, by decide, rfl⟩ rfl dX10_chain_32 ?_
    refine g_aload_n 35 C 1 dX10_chain_35 rfl rfl ?_
    refine g_get 36 C in_X10_chain_X10 0 11 rfl rfl (by decide) fl_X10_chain_70 rfl rfl dX10_chain_36 ?_
    obtain ⟨q5, e6, h⟩ := bi_e h
    refine g_callVv 39 C (As := []) [11, 12] [0, 1, 2, 3, 4, 5, 6, 7, 8, 9, 10] [0, 1, 2, 3, 4, 5, 6, 7, 8, 9, 10, 11, 12] (W_X10_chain k h_t h_t_tape h_t_tape_bytes h_t_draft h_t_draft_worths h_t_draft_ahead h_t_draft_cuts h_t_chain h_t_chain_worths h_t_chain_ahead h_t_chain_cuts h_t_best h_t_best_known h_t_days h_t_imageChain h_t_imageDays h_t_pieces h_t_sums h_t_sets h_t_choice h_t_delay h_t_sheets h_t_wanted h_t_seenRow h_t_best_far h_t_best_rows s_hasImage (0 : Int32) q1.2.1 s_tape_bytes q1.2.2.1 q1.2.2.2.1 q1.2.2.2.2.1 q1.2.2.2.2.2.1 q1.2.2.2.2.2.2.1 q1.2.2.2.2.2.2.2 q3.1 q3.2.1 q3.2.2.1 q3.2.2.2.1 q3.2.2.2.2.1 q3.2.2.2.2.2 q5) 11 (fun sz => k_X0_forget h_t_best h_t_best_known h_t_best_far h_t_best_rows s_best_known q5 e6 sz) gX10_chain_X0_forget rfl pd_X0_forget rfl rfl rfl ⟨rfl, rfl, Nat.le_of_ble_eq_true rfl, Nat.le_of_ble_eq_true rfl⟩ (Nat.le_of_ble_eq_true rfl) ⟨Nat.zero_le _, Nat.zero_le _⟩ ⟨rfl, rfl, rfl, rfl, rfl, by decide, rfl⟩ rfl dX10_chain_39 ?_
    refine GG.sub (lv' := [(1, .int q1.1)]) [0] rfl ?_
    exact ok_B_X10_chain_42 C hA h
end

/-! X10_divide -/
abbrev W_X10_divide (k : Nat → ClassId) (h_t : Nat) (h_t_chain : Nat) (h_t_pieces : Nat) (h_t_pieces_first : Nat) (h_t_pieces_size : Nat) (h_t_pieces_value : Nat) (h_t_chain_ahead : Nat) (h_t_chain_worths : Nat) (h_t_chain_cuts : Nat) (h_t_days : Nat) (h_t_imageChain : Nat) (h_t_imageDays : Nat) (h_t_tape : Nat) (h_t_draft : Nat) (h_t_sums : Nat) (h_t_sets : Nat) (h_t_choice : Nat) (h_t_best : Nat) (h_t_delay : Nat) (h_t_sheets : Nat) (h_t_wanted : Nat) (h_t_seenRow : Nat) (s_hasImage : Int32) (s_chain_kind : Int32) (s_chain_links : Int32) (s_chain_cutCount : Int32) (s_pieces_count : Int32) (s_pieces_first : Nat → Int32) (s_pieces_size : Nat → Int32) (s_pieces_value : Nat → Int32) (s_chain_ahead : Nat → Int32) (s_chain_worths : Nat → Int32) (s_chain_cuts : Nat → Int32) : va_W := [(h_t, .inr (10, [.ref h_t_chain, .ref h_t_days, .ref h_t_imageChain, .ref h_t_imageDays, .int s_hasImage, .ref h_t_tape, .ref h_t_draft, .ref h_t_pieces, .ref h_t_sums, .ref h_t_sets, .ref h_t_choice, .ref h_t_best, .ref h_t_delay, .ref h_t_sheets, .ref h_t_wanted, .ref h_t_seenRow])), (h_t_chain, .inr (1, [.ref h_t_chain_worths, .ref h_t_chain_ahead, .ref h_t_chain_cuts, .int s_chain_kind, .int s_chain_links, .int s_chain_cutCount])), (h_t_pieces, .inr (5, [.ref h_t_pieces_first, .ref h_t_pieces_size, .ref h_t_pieces_value, .int s_pieces_count])), (h_t_pieces_first, .inl (k 0, 11, .inl s_pieces_first)), (h_t_pieces_size, .inl (k 0, 11, .inl s_pieces_size)), (h_t_pieces_value, .inl (k 0, 11, .inl s_pieces_value)), (h_t_chain_ahead, .inl (k 0, 25, .inl s_chain_ahead)), (h_t_chain_worths, .inl (k 0, 24, .inl s_chain_worths)), (h_t_chain_cuts, .inl (k 0, 5, .inl s_chain_cuts))]
def rm_X10_divide : Room := { frames := 2, cells := 0, slots := 0, locals := 49 }
theorem in_X10_divide_X1 : ∀ w ∈ u_ws RX1 TX1 6, w ∈ wsX10_divide := by decide +kernel
theorem in_X10_divide_X10 : ∀ w ∈ u_ws RX10 TX10 16, w ∈ wsX10_divide := by decide +kernel
theorem fl_X10_divide_103 : Cond.fieldLink RX10 103 "LinkDays$Chain" "cutCount" "I" ∈ wsX10_divide := by decide +kernel
theorem fl_X10_divide_12 : Cond.fieldLink RX10 12 "LinkDays" "chain" "LLinkDays$Chain;" ∈ wsX10_divide := by decide +kernel
theorem fl_X10_divide_177 : Cond.fieldLink RX10 177 "LinkDays$Chain" "cuts" "[I" ∈ wsX10_divide := by decide +kernel
theorem fl_X10_divide_42 : Cond.fieldLink RX10 42 "LinkDays" "pieces" "LLinkDays$Pieces;" ∈ wsX10_divide := by decide +kernel
theorem pd_X10_divide : yX10_divide.cls = RX10 ∧ yX10_divide.cls ≠ "java/lang/invoke/MethodHandle" ∧ yX10_divide.cls ≠ "java/lang/invoke/VarHandle" ∧ (parseMethodDescriptor yX10_divide.desc).map (fun d => d.parameters.length) = some 0 := by decide +kernel
section
variable {p : Program} {l : Launch} {e : Env} {s : State} {m : MethodId} {args : Array Value} {below : List Frame} {meth : Method} {c : Code} {D : va_G} {k : Nat → ClassId} {A : Nat → Prop} {w0 : va_W} {sz : Nat}
set_option maxHeartbeats 4000000 in
set_option maxRecDepth 100000 in
theorem k_X10_divide {l : Launch} {D : va_G} {k : Nat → ClassId} (h_t : Nat) (h_t_chain : Nat) (h_t_pieces : Nat) (h_t_pieces_first : Nat) (h_t_pieces_size : Nat) (h_t_pieces_value : Nat) (h_t_chain_ahead : Nat) (h_t_chain_worths : Nat) (h_t_chain_cuts : Nat) (h_t_days : Nat) (h_t_imageChain : Nat) (h_t_imageDays : Nat) (h_t_tape : Nat) (h_t_draft : Nat) (h_t_sums : Nat) (h_t_sets : Nat) (h_t_choice : Nat) (h_t_best : Nat) (h_t_delay : Nat) (h_t_sheets : Nat) (h_t_wanted : Nat) (h_t_seenRow : Nat) (s_hasImage : Int32) (s_chain_kind : Int32) (s_chain_links : Int32) (s_chain_cutCount : Int32) (s_pieces_count : Int32) (s_pieces_first : Nat → Int32) (s_pieces_size : Nat → Int32) (s_pieces_value : Nat → Int32) (s_chain_ahead : Nat → Int32) (s_chain_worths : Nat → Int32) (s_chain_cuts : Nat → Int32) (res : Int32 × (Nat → Int32) × (Nat → Int32) × (Nat → Int32)) (h : f_X10_divide s_chain_kind s_chain_links s_chain_cutCount s_pieces_first s_pieces_size s_pieces_value s_chain_ahead s_chain_worths s_chain_cuts = some res) (sz : Nat) : Met l yX10_divide wsX10_divide rm_X10_divide (cPre D k [.ref h_t] (W_X10_divide k h_t h_t_chain h_t_pieces h_t_pieces_first h_t_pieces_size h_t_pieces_value h_t_chain_ahead h_t_chain_worths h_t_chain_cuts h_t_days h_t_imageChain h_t_imageDays h_t_tape h_t_draft h_t_sums h_t_sets h_t_choice h_t_best h_t_delay h_t_sheets h_t_wanted h_t_seenRow s_hasImage s_chain_kind s_chain_links s_chain_cutCount s_pieces_count s_pieces_first s_pieces_size s_pieces_value s_chain_ahead s_chain_worths s_chain_cuts) sz) (cQv D (W_X10_divide k h_t h_t_chain h_t_pieces h_t_pieces_first h_t_pieces_size h_t_pieces_value h_t_chain_ahead h_t_chain_worths h_t_chain_cuts h_t_days h_t_imageChain h_t_imageDays h_t_tape h_t_draft h_t_sums h_t_sets h_t_choice h_t_best h_t_delay h_t_sheets h_t_wanted h_t_seenRow s_hasImage s_chain_kind s_chain_links s_chain_cutCount s_pieces_count s_pieces_first s_pieces_size s_pieces_value s_chain_ahead s_chain_worths s_chain_cuts) sz (W_X10_divide k h_t h_t_chain h_t_pieces h_t_pieces_first h_t_pieces_size h_t_pieces_value h_t_chain_ahead h_t_chain_worths h_t_chain_cuts h_t_days h_t_imageChain h_t_imageDays h_t_tape h_t_draft h_t_sums h_t_sets h_t_choice h_t_best h_t_delay h_t_sheets h_t_wanted h_t_seenRow s_hasImage s_chain_kind s_chain_links s_chain_cutCount res.1 res.2.1 res.2.2.1 res.2.2.2 s_chain_ahead s_chain_worths s_chain_cuts)) 0 0 (va_A (W_X10_divide k h_t h_t_chain h_t_pieces h_t_pieces_first h_t_pieces_size h_t_pieces_value h_t_chain_ahead h_t_chain_worths h_t_chain_cuts h_t_days h_t_imageChain h_t_imageDays h_t_tape h_t_draft h_t_sums h_t_sets h_t_choice h_t_best h_t_delay h_t_sheets h_t_wanted h_t_seenRow s_hasImage s_chain_kind s_chain_links s_chain_cutCount s_pieces_count s_pieces_first s_pieces_size s_pieces_value s_chain_ahead s_chain_worths s_chain_cuts) sz) := by
  refine met_of [(0, .ref h_t)] (by decide) rfl rfl (Nat.le_of_ble_eq_true rfl) rfl ?_
  intro p e s m args below meth c A hA hsz C
  unfold f_X10_divide at h
  refine g_aload_n 0 C 0 dX10_divide_0 rfl rfl ?_
  refine g_get 1 C in_X10_divide_X10 0 7 rfl rfl (by decide) fl_X10_divide_42 rfl rfl dX10_divide_1 ?_
  refine g_aload_n 4 C 0 dX10_divide_4 rfl rfl ?_
  refine g_get 5 C in_X10_divide_X10 0 0 rfl rfl (by decide) fl_X10_divide_12 rfl rfl dX10_divide_5 ?_
  refine g_aload_n 8 C 0 dX10_divide_8 rfl rfl ?_
  refine g_get 9 C in_X10_divide_X10 0 0 rfl rfl (by decide) fl_X10_divide_12 rfl rfl dX10_divide_9 ?_
  refine g_get 12 C in_X10_divide_X1 1 2 rfl rfl (by decide) fl_X10_divide_177 rfl rfl dX10_divide_12 ?_
  refine g_aload_n 15 C 0 dX10_divide_15 rfl rfl ?_
  refine g_get 16 C in_X10_divide_X10 0 0 rfl rfl (by decide) fl_X10_divide_12 rfl rfl dX10_divide_16 ?_
  refine g_get 19 C in_X10_divide_X1 1 5 rfl rfl (by decide) fl_X10_divide_103 rfl rfl dX10_divide_19 ?_
  obtain ⟨q1, e2, h⟩ := bi_e h
  refine g_callVv 22 C (As := [.ref h_t_chain, .ref h_t_chain_cuts, .int s_chain_cutCount]) [2, 3, 4, 5, 1, 6, 7, 8] [0] [0, 5, 1, 2, 3, 4, 6, 7, 8] (W_X10_divide k h_t h_t_chain h_t_pieces h_t_pieces_first h_t_pieces_size h_t_pieces_value h_t_chain_ahead h_t_chain_worths h_t_chain_cuts h_t_days h_t_imageChain h_t_imageDays h_t_tape h_t_draft h_t_sums h_t_sets h_t_choice h_t_best h_t_delay h_t_sheets h_t_wanted h_t_seenRow s_hasImage s_chain_kind s_chain_links s_chain_cutCount q1.1 q1.2.1 q1.2.2.1 q1.2.2.2 s_chain_ahead s_chain_worths s_chain_cuts) 2 (fun sz => k_X5_split h_t_pieces h_t_pieces_first h_t_pieces_size h_t_pieces_value h_t_chain h_t_chain_ahead h_t_chain_worths h_t_chain_cuts h_t_chain_cuts 5 s_pieces_count s_pieces_first s_pieces_size s_pieces_value s_chain_kind s_chain_links s_chain_cutCount s_chain_ahead s_chain_worths s_chain_cuts s_chain_cutCount q1 e2 sz) gX10_divide_X5_split rfl pd_X5_split rfl rfl rfl ⟨rfl, rfl, Nat.le_of_ble_eq_true rfl, Nat.le_of_ble_eq_true rfl⟩ (Nat.le_of_ble_eq_true rfl) ⟨Nat.zero_le _, Nat.zero_le _⟩ ⟨rfl, rfl, rfl, rfl, rfl, by decide, rfl⟩ rfl dX10_divide_22 ?_
  obtain rfl := Option.some.inj h
  exact g_vret 25 C hA dX10_divide_25 rfl
end

/-! X10_count -/
abbrev W_X10_count (k : Nat → ClassId) (h_t : Nat) (h_t_chain : Nat) (h_t_pieces : Nat) (h_t_pieces_first : Nat) (h_t_pieces_size : Nat) (h_t_pieces_value : Nat) (h_t_chain_ahead : Nat) (h_t_chain_worths : Nat) (h_t_chain_cuts : Nat) (h_t_days : Nat) (h_t_imageChain : Nat) (h_t_imageDays : Nat) (h_t_tape : Nat) (h_t_draft : Nat) (h_t_sums : Nat) (h_t_sets : Nat) (h_t_choice : Nat) (h_t_best : Nat) (h_t_delay : Nat) (h_t_sheets : Nat) (h_t_wanted : Nat) (h_t_seenRow : Nat) (s_hasImage : Int32) (s_chain_kind : Int32) (s_chain_links : Int32) (s_chain_cutCount : Int32) (s_pieces_count : Int32) (s_pieces_first : Nat → Int32) (s_pieces_size : Nat → Int32) (s_pieces_value : Nat → Int32) (s_chain_ahead : Nat → Int32) (s_chain_worths : Nat → Int32) (s_chain_cuts : Nat → Int32) : va_W := [(h_t, .inr (10, [.ref h_t_chain, .ref h_t_days, .ref h_t_imageChain, .ref h_t_imageDays, .int s_hasImage, .ref h_t_tape, .ref h_t_draft, .ref h_t_pieces, .ref h_t_sums, .ref h_t_sets, .ref h_t_choice, .ref h_t_best, .ref h_t_delay, .ref h_t_sheets, .ref h_t_wanted, .ref h_t_seenRow])), (h_t_chain, .inr (1, [.ref h_t_chain_worths, .ref h_t_chain_ahead, .ref h_t_chain_cuts, .int s_chain_kind, .int s_chain_links, .int s_chain_cutCount])), (h_t_pieces, .inr (5, [.ref h_t_pieces_first, .ref h_t_pieces_size, .ref h_t_pieces_value, .int s_pieces_count])), (h_t_pieces_first, .inl (k 0, 11, .inl s_pieces_first)), (h_t_pieces_size, .inl (k 0, 11, .inl s_pieces_size)), (h_t_pieces_value, .inl (k 0, 11, .inl s_pieces_value)), (h_t_chain_ahead, .inl (k 0, 25, .inl s_chain_ahead)), (h_t_chain_worths, .inl (k 0, 24, .inl s_chain_worths)), (h_t_chain_cuts, .inl (k 0, 5, .inl s_chain_cuts))]
def rm_X10_count : Room := { frames := 3, cells := 0, slots := 0, locals := 69 }
theorem in_X10_count_X1 : ∀ w ∈ u_ws RX1 TX1 6, w ∈ wsX10_count := by decide +kernel
theorem in_X10_count_X10 : ∀ w ∈ u_ws RX10 TX10 16, w ∈ wsX10_count := by decide +kernel
theorem in_X10_count_X5 : ∀ w ∈ u_ws RX5 TX5 4, w ∈ wsX10_count := by decide +kernel
theorem fl_X10_count_103 : Cond.fieldLink RX10 103 "LinkDays$Chain" "cutCount" "I" ∈ wsX10_count := by decide +kernel
theorem fl_X10_count_109 : Cond.fieldLink RX10 109 "LinkDays$Chain" "links" "I" ∈ wsX10_count := by decide +kernel
theorem fl_X10_count_12 : Cond.fieldLink RX10 12 "LinkDays" "chain" "LLinkDays$Chain;" ∈ wsX10_count := by decide +kernel
theorem fl_X10_count_163 : Cond.fieldLink RX10 163 "LinkDays$Pieces" "count" "I" ∈ wsX10_count := by decide +kernel
theorem fl_X10_count_42 : Cond.fieldLink RX10 42 "LinkDays" "pieces" "LLinkDays$Pieces;" ∈ wsX10_count := by decide +kernel
theorem fl_X10_count_99 : Cond.fieldLink RX10 99 "LinkDays$Chain" "kind" "I" ∈ wsX10_count := by decide +kernel
theorem pd_X10_count : yX10_count.cls = RX10 ∧ yX10_count.cls ≠ "java/lang/invoke/MethodHandle" ∧ yX10_count.cls ≠ "java/lang/invoke/VarHandle" ∧ (parseMethodDescriptor yX10_count.desc).map (fun d => d.parameters.length) = some 1 := by decide +kernel
section
variable {p : Program} {l : Launch} {e : Env} {s : State} {m : MethodId} {args : Array Value} {below : List Frame} {meth : Method} {c : Code} {D : va_G} {k : Nat → ClassId} {A : Nat → Prop} {w0 : va_W} {sz : Nat}
set_option maxHeartbeats 4000000 in
set_option maxRecDepth 100000 in
theorem k_X10_count {l : Launch} {D : va_G} {k : Nat → ClassId} (h_t : Nat) (h_t_chain : Nat) (h_t_pieces : Nat) (h_t_pieces_first : Nat) (h_t_pieces_size : Nat) (h_t_pieces_value : Nat) (h_t_chain_ahead : Nat) (h_t_chain_worths : Nat) (h_t_chain_cuts : Nat) (h_t_days : Nat) (h_t_imageChain : Nat) (h_t_imageDays : Nat) (h_t_tape : Nat) (h_t_draft : Nat) (h_t_sums : Nat) (h_t_sets : Nat) (h_t_choice : Nat) (h_t_best : Nat) (h_t_delay : Nat) (h_t_sheets : Nat) (h_t_wanted : Nat) (h_t_seenRow : Nat) (s_hasImage : Int32) (s_chain_kind : Int32) (s_chain_links : Int32) (s_chain_cutCount : Int32) (s_pieces_count : Int32) (s_pieces_first : Nat → Int32) (s_pieces_size : Nat → Int32) (s_pieces_value : Nat → Int32) (s_chain_ahead : Nat → Int32) (s_chain_worths : Nat → Int32) (s_chain_cuts : Nat → Int32) (v1 : Int32) (res : Int32 × Int32 × (Nat → Int32) × (Nat → Int32) × (Nat → Int32)) (h : f_X10_count s_chain_kind s_chain_links s_chain_cutCount s_pieces_count s_pieces_first s_pieces_size s_pieces_value s_chain_ahead s_chain_worths s_chain_cuts v1 = some res) (sz : Nat) : Met l yX10_count wsX10_count rm_X10_count (cPre D k [.ref h_t, .int v1] (W_X10_count k h_t h_t_chain h_t_pieces h_t_pieces_first h_t_pieces_size h_t_pieces_value h_t_chain_ahead h_t_chain_worths h_t_chain_cuts h_t_days h_t_imageChain h_t_imageDays h_t_tape h_t_draft h_t_sums h_t_sets h_t_choice h_t_best h_t_delay h_t_sheets h_t_wanted h_t_seenRow s_hasImage s_chain_kind s_chain_links s_chain_cutCount s_pieces_count s_pieces_first s_pieces_size s_pieces_value s_chain_ahead s_chain_worths s_chain_cuts) sz) (cQi D (W_X10_count k h_t h_t_chain h_t_pieces h_t_pieces_first h_t_pieces_size h_t_pieces_value h_t_chain_ahead h_t_chain_worths h_t_chain_cuts h_t_days h_t_imageChain h_t_imageDays h_t_tape h_t_draft h_t_sums h_t_sets h_t_choice h_t_best h_t_delay h_t_sheets h_t_wanted h_t_seenRow s_hasImage s_chain_kind s_chain_links s_chain_cutCount s_pieces_count s_pieces_first s_pieces_size s_pieces_value s_chain_ahead s_chain_worths s_chain_cuts) sz res.1 (W_X10_count k h_t h_t_chain h_t_pieces h_t_pieces_first h_t_pieces_size h_t_pieces_value h_t_chain_ahead h_t_chain_worths h_t_chain_cuts h_t_days h_t_imageChain h_t_imageDays h_t_tape h_t_draft h_t_sums h_t_sets h_t_choice h_t_best h_t_delay h_t_sheets h_t_wanted h_t_seenRow s_hasImage s_chain_kind s_chain_links s_chain_cutCount res.2.1 res.2.2.1 res.2.2.2.1 res.2.2.2.2 s_chain_ahead s_chain_worths s_chain_cuts)) 0 0 (va_A (W_X10_count k h_t h_t_chain h_t_pieces h_t_pieces_first h_t_pieces_size h_t_pieces_value h_t_chain_ahead h_t_chain_worths h_t_chain_cuts h_t_days h_t_imageChain h_t_imageDays h_t_tape h_t_draft h_t_sums h_t_sets h_t_choice h_t_best h_t_delay h_t_sheets h_t_wanted h_t_seenRow s_hasImage s_chain_kind s_chain_links s_chain_cutCount s_pieces_count s_pieces_first s_pieces_size s_pieces_value s_chain_ahead s_chain_worths s_chain_cuts) sz) := by
  refine met_of [(0, .ref h_t), (1, .int v1)] (by decide) rfl rfl (Nat.le_of_ble_eq_true rfl) rfl ?_
  intro p e s m args below meth c A hA hsz C
  unfold f_X10_count at h
  refine g_iload_n 0 C 1 dX10_count_0 rfl rfl ?_
  by_cases c0 : v1 = (0 : Int32)
  · replace h := it_e c0 h
    refine g_tableIn 1 40 C dX10_count_1 (by rw [c0]; decide) (by rw [c0]; decide) (by rw [c0]; rfl) (by decide) ?_
    refine g_aload_n 40 C 0 dX10_count_40 rfl rfl ?_
    refine g_get 41 C in_X10_count_X10 0 0 rfl rfl (by decide) fl_X10_count_12 rfl rfl dX10_count_41 ?_
    refine g_get 44 C in_X10_count_X1 1 4 rfl rfl (by decide) fl_X10_count_109 rfl rfl dX10_count_44 ?_
    obtain rfl := Option.some.inj h
    exact g_iret 47 C hA rfl dX10_count_47 rfl
  · replace h := if_e c0 h
    by_cases c1 : v1 = (1 : Int32)
    · replace h := it_e c1 h
      refine g_tableIn 1 48 C dX10_count_1 (by rw [c1]; decide) (by rw [c1]; decide) (by rw [c1]; rfl) (by decide) ?_
      refine g_aload_n 48 C 0 dX10_count_48 rfl rfl ?_
      refine g_get 49 C in_X10_count_X10 0 0 rfl rfl (by decide) fl_X10_count_12 rfl rfl dX10_count_49 ?_
      obtain ⟨q7, e8, h⟩ := bi_e h
      refine g_callVi 52 C (As := []) [1] [0, 2, 3, 4, 5, 6, 7, 8] [0, 8, 1, 2, 3, 4, 5, 6, 7] (W_X10_count k h_t h_t_chain h_t_pieces h_t_pieces_first h_t_pieces_size h_t_pieces_value h_t_chain_ahead h_t_chain_worths h_t_chain_cuts h_t_days h_t_imageChain h_t_imageDays h_t_tape h_t_draft h_t_sums h_t_sets h_t_choice h_t_best h_t_delay h_t_sheets h_t_wanted h_t_seenRow s_hasImage s_chain_kind s_chain_links s_chain_cutCount s_pieces_count s_pieces_first s_pieces_size s_pieces_value s_chain_ahead s_chain_worths s_chain_cuts) 1 (fun sz => k_X1_notches h_t_chain h_t_chain_worths h_t_chain_ahead h_t_chain_cuts s_chain_kind s_chain_links s_chain_cutCount q7 e8 sz) gX10_count_X1_notches rfl pd_X1_notches rfl rfl rfl ⟨rfl, rfl, Nat.le_of_ble_eq_true rfl, Nat.le_of_ble_eq_true rfl⟩ (Nat.le_of_ble_eq_true rfl) ⟨Nat.zero_le _, Nat.zero_le _⟩ ⟨rfl, rfl, rfl, rfl, rfl, by decide, rfl⟩ rfl dX10_count_52 ?_
      obtain rfl := Option.some.inj h
      exact g_iret 55 C hA rfl dX10_count_55 rfl
    · replace h := if_e c1 h
      by_cases c2 : v1 = (2 : Int32)
      · replace h := it_e c2 h
        refine g_tableIn 1 56 C dX10_count_1 (by rw [c2]; decide) (by rw [c2]; decide) (by rw [c2]; rfl) (by decide) ?_
        refine g_aload_n 56 C 0 dX10_count_56 rfl rfl ?_
        refine g_get 57 C in_X10_count_X10 0 0 rfl rfl (by decide) fl_X10_count_12 rfl rfl dX10_count_57 ?_
        refine g_get 60 C in_X10_count_X1 1 5 rfl rfl (by decide) fl_X10_count_103 rfl rfl dX10_count_60 ?_
        obtain rfl := Option.some.inj h
        exact g_iret 63 C hA rfl dX10_count_63 rfl
      · replace h := if_e c2 h
        by_cases c3 : v1 = (3 : Int32)
        · replace h := it_e c3 h
          refine g_tableIn 1 64 C dX10_count_1 (by rw [c3]; decide) (by rw [c3]; decide) (by rw [c3]; rfl) (by decide) ?_
          refine g_aload_n 64 C 0 dX10_count_64 rfl rfl ?_
          obtain ⟨q5, e6, h⟩ := bi_e h
          refine g_callVv 65 C (As := []) [0, 1, 2, 3, 4, 5, 6, 7, 8] [] [0, 1, 2, 3, 4, 5, 6, 7, 8] (W_X10_count k h_t h_t_chain h_t_pieces h_t_pieces_first h_t_pieces_size h_t_pieces_value h_t_chain_ahead h_t_chain_worths h_t_chain_cuts h_t_days h_t_imageChain h_t_imageDays h_t_tape h_t_draft h_t_sums h_t_sets h_t_choice h_t_best h_t_delay h_t_sheets h_t_wanted h_t_seenRow s_hasImage s_chain_kind s_chain_links s_chain_cutCount q5.1 q5.2.1 q5.2.2.1 q5.2.2.2 s_chain_ahead s_chain_worths s_chain_cuts) 0 (fun sz => k_X10_divide h_t h_t_chain h_t_pieces h_t_pieces_first h_t_pieces_size h_t_pieces_value h_t_chain_ahead h_t_chain_worths h_t_chain_cuts h_t_days h_t_imageChain h_t_imageDays h_t_tape h_t_draft h_t_sums h_t_sets h_t_choice h_t_best h_t_delay h_t_sheets h_t_wanted h_t_seenRow s_hasImage s_chain_kind s_chain_links s_chain_cutCount s_pieces_count s_pieces_first s_pieces_size s_pieces_value s_chain_ahead s_chain_worths s_chain_cuts q5 e6 sz) gX10_count_X10_divide rfl pd_X10_divide rfl rfl rfl ⟨rfl, rfl, Nat.le_of_ble_eq_true rfl, Nat.le_of_ble_eq_true rfl⟩ (Nat.le_of_ble_eq_true rfl) ⟨Nat.zero_le _, Nat.zero_le _⟩ ⟨rfl, rfl, rfl, rfl, rfl, by decide, rfl⟩ rfl dX10_count_65 ?_
          refine g_aload_n 68 C 0 dX10_count_68 rfl rfl ?_
          refine g_get 69 C in_X10_count_X10 0 7 rfl rfl (by decide) fl_X10_count_42 rfl rfl dX10_count_69 ?_
          refine g_get 72 C in_X10_count_X5 2 3 rfl rfl (by decide) fl_X10_count_163 rfl rfl dX10_count_72 ?_
          obtain rfl := Option.some.inj h
          exact g_iret 75 C hA rfl dX10_count_75 rfl
        · replace h := if_e c3 h
          by_cases c4 : v1 = (4 : Int32)
          · replace h := it_e c4 h
            refine g_tableIn 1 76 C dX10_count_1 (by rw [c4]; decide) (by rw [c4]; decide) (by rw [c4]; rfl) (by decide) ?_
            refine g_aload_n 76 C 0 dX10_count_76 rfl rfl ?_
            obtain ⟨q1, e2, h⟩ := bi_e h
            refine g_callVv 77 C (As := []) [0, 1, 2, 3, 4, 5, 6, 7, 8] [] [0, 1, 2, 3, 4, 5, 6, 7, 8] (W_X10_count k h_t h_t_chain h_t_pieces h_t_pieces_first h_t_pieces_size h_t_pieces_value h_t_chain_ahead h_t_chain_worths h_t_chain_cuts h_t_days h_t_imageChain h_t_imageDays h_t_tape h_t_draft h_t_sums h_t_sets h_t_choice h_t_best h_t_delay h_t_sheets h_t_wanted h_t_seenRow s_hasImage s_chain_kind s_chain_links s_chain_cutCount q1.1 q1.2.1 q1.2.2.1 q1.2.2.2 s_chain_ahead s_chain_worths s_chain_cuts) 0 (fun sz => k_X10_divide h_t h_t_chain h_t_pieces h_t_pieces_first h_t_pieces_size h_t_pieces_value h_t_chain_ahead h_t_chain_worths h_t_chain_cuts h_t_days h_t_imageChain h_t_imageDays h_t_tape h_t_draft h_t_sums h_t_sets h_t_choice h_t_best h_t_delay h_t_sheets h_t_wanted h_t_seenRow s_hasImage s_chain_kind s_chain_links s_chain_cutCount s_pieces_count s_pieces_first s_pieces_size s_pieces_value s_chain_ahead s_chain_worths s_chain_cuts q1 e2 sz) gX10_count_X10_divide rfl pd_X10_divide rfl rfl rfl ⟨rfl, rfl, Nat.le_of_ble_eq_true rfl, Nat.le_of_ble_eq_true rfl⟩ (Nat.le_of_ble_eq_true rfl) ⟨Nat.zero_le _, Nat.zero_le _⟩ ⟨rfl, rfl, rfl, rfl, rfl, by decide, rfl⟩ rfl dX10_count_77 ?_
            refine g_aload_n 80 C 0 dX10_count_80 rfl rfl ?_
            refine g_get 81 C in_X10_count_X10 0 7 rfl rfl (by decide) fl_X10_count_42 rfl rfl dX10_count_81 ?_
            obtain ⟨q3, e4, h⟩ := bi_e h
            refine g_callVi 84 C (As := []) [2, 5] [0, 1, 3, 4, 6, 7, 8] [0, 1, 7, 2, 3, 8, 4, 5, 6] (W_X10_count k h_t h_t_chain h_t_pieces h_t_pieces_first h_t_pieces_size h_t_pieces_value h_t_chain_ahead h_t_chain_worths h_t_chain_cuts h_t_days h_t_imageChain h_t_imageDays h_t_tape h_t_draft h_t_sums h_t_sets h_t_choice h_t_best h_t_delay h_t_sheets h_t_wanted h_t_seenRow s_hasImage s_chain_kind s_chain_links s_chain_cutCount q1.1 q1.2.1 q1.2.2.1 q1.2.2.2 s_chain_ahead s_chain_worths s_chain_cuts) 2 (fun sz => k_X5_whole h_t_pieces h_t_pieces_value h_t_pieces_first h_t_pieces_size q1.1 q1.2.2.2 q3 e4 sz) gX10_count_X5_whole rfl pd_X5_whole rfl rfl rfl ⟨rfl, rfl, Nat.le_of_ble_eq_true rfl, Nat.le_of_ble_eq_true rfl⟩ (Nat.le_of_ble_eq_true rfl) ⟨Nat.zero_le _, Nat.zero_le _⟩ ⟨rfl, rfl, rfl, rfl, rfl, by decide, rfl⟩ rfl dX10_count_84 ?_
            obtain rfl := Option.some.inj h
            exact g_iret 87 C hA rfl dX10_count_87 rfl
          · replace h := if_e c4 h
            by_cases c5 : v1 = (5 : Int32)
            · replace h := it_e c5 h
              refine g_tableIn 1 88 C dX10_count_1 (by rw [c5]; decide) (by rw [c5]; decide) (by rw [c5]; rfl) (by decide) ?_
              refine g_aload_n 88 C 0 dX10_count_88 rfl rfl ?_
              refine g_get 89 C in_X10_count_X10 0 0 rfl rfl (by decide) fl_X10_count_12 rfl rfl dX10_count_89 ?_
              refine g_get 92 C in_X10_count_X1 1 3 rfl rfl (by decide) fl_X10_count_99 rfl rfl dX10_count_92 ?_
              obtain rfl := Option.some.inj h
              exact g_iret 95 C hA rfl dX10_count_95 rfl
            · replace h := if_e c5 h
              refine g_tableOut 1 96 C dX10_count_1 (sw_out 6 (by decide) (by intro j hj; match j, hj with | 0, _ => exact c0 | 1, _ => exact c1 | 2, _ => exact c2 | 3, _ => exact c3 | 4, _ => exact c4 | 5, _ => exact c5)) (by decide) ?_
              refine g_iconst 96 C (-1 : Int32) dX10_count_96 (by decide) ?_
              obtain rfl := Option.some.inj h
              exact g_iret 97 C hA rfl dX10_count_97 rfl
end

/-! X10_piece -/
abbrev W_X10_piece (k : Nat → ClassId) (h_t : Nat) (h_t_chain : Nat) (h_t_pieces : Nat) (h_t_pieces_first : Nat) (h_t_pieces_size : Nat) (h_t_pieces_value : Nat) (h_t_chain_ahead : Nat) (h_t_chain_worths : Nat) (h_t_chain_cuts : Nat) (h_t_days : Nat) (h_t_imageChain : Nat) (h_t_imageDays : Nat) (h_t_tape : Nat) (h_t_draft : Nat) (h_t_sums : Nat) (h_t_sets : Nat) (h_t_choice : Nat) (h_t_best : Nat) (h_t_delay : Nat) (h_t_sheets : Nat) (h_t_wanted : Nat) (h_t_seenRow : Nat) (s_hasImage : Int32) (s_chain_kind : Int32) (s_chain_links : Int32) (s_chain_cutCount : Int32) (s_pieces_count : Int32) (s_pieces_first : Nat → Int32) (s_pieces_size : Nat → Int32) (s_pieces_value : Nat → Int32) (s_chain_ahead : Nat → Int32) (s_chain_worths : Nat → Int32) (s_chain_cuts : Nat → Int32) : va_W := [(h_t, .inr (10, [.ref h_t_chain, .ref h_t_days, .ref h_t_imageChain, .ref h_t_imageDays, .int s_hasImage, .ref h_t_tape, .ref h_t_draft, .ref h_t_pieces, .ref h_t_sums, .ref h_t_sets, .ref h_t_choice, .ref h_t_best, .ref h_t_delay, .ref h_t_sheets, .ref h_t_wanted, .ref h_t_seenRow])), (h_t_chain, .inr (1, [.ref h_t_chain_worths, .ref h_t_chain_ahead, .ref h_t_chain_cuts, .int s_chain_kind, .int s_chain_links, .int s_chain_cutCount])), (h_t_pieces, .inr (5, [.ref h_t_pieces_first, .ref h_t_pieces_size, .ref h_t_pieces_value, .int s_pieces_count])), (h_t_pieces_first, .inl (k 0, 11, .inl s_pieces_first)), (h_t_pieces_size, .inl (k 0, 11, .inl s_pieces_size)), (h_t_pieces_value, .inl (k 0, 11, .inl s_pieces_value)), (h_t_chain_ahead, .inl (k 0, 25, .inl s_chain_ahead)), (h_t_chain_worths, .inl (k 0, 24, .inl s_chain_worths)), (h_t_chain_cuts, .inl (k 0, 5, .inl s_chain_cuts))]
def rm_X10_piece : Room := { frames := 3, cells := 0, slots := 0, locals := 69 }
theorem in_X10_piece_X10 : ∀ w ∈ u_ws RX10 TX10 16, w ∈ wsX10_piece := by decide +kernel
theorem in_X10_piece_X5 : ∀ w ∈ u_ws RX5 TX5 4, w ∈ wsX10_piece := by decide +kernel
theorem fl_X10_piece_163 : Cond.fieldLink RX10 163 "LinkDays$Pieces" "count" "I" ∈ wsX10_piece := by decide +kernel
theorem fl_X10_piece_169 : Cond.fieldLink RX10 169 "LinkDays$Pieces" "first" "[I" ∈ wsX10_piece := by decide +kernel
theorem fl_X10_piece_172 : Cond.fieldLink RX10 172 "LinkDays$Pieces" "size" "[I" ∈ wsX10_piece := by decide +kernel
theorem fl_X10_piece_175 : Cond.fieldLink RX10 175 "LinkDays$Pieces" "value" "[I" ∈ wsX10_piece := by decide +kernel
theorem fl_X10_piece_42 : Cond.fieldLink RX10 42 "LinkDays" "pieces" "LLinkDays$Pieces;" ∈ wsX10_piece := by decide +kernel
theorem pd_X10_piece : yX10_piece.cls = RX10 ∧ yX10_piece.cls ≠ "java/lang/invoke/MethodHandle" ∧ yX10_piece.cls ≠ "java/lang/invoke/VarHandle" ∧ (parseMethodDescriptor yX10_piece.desc).map (fun d => d.parameters.length) = some 2 := by decide +kernel
section
variable {p : Program} {l : Launch} {e : Env} {s : State} {m : MethodId} {args : Array Value} {below : List Frame} {meth : Method} {c : Code} {D : va_G} {k : Nat → ClassId} {A : Nat → Prop} {w0 : va_W} {sz : Nat}
set_option maxHeartbeats 4000000 in
set_option maxRecDepth 100000 in
theorem k_X10_piece {l : Launch} {D : va_G} {k : Nat → ClassId} (h_t : Nat) (h_t_chain : Nat) (h_t_pieces : Nat) (h_t_pieces_first : Nat) (h_t_pieces_size : Nat) (h_t_pieces_value : Nat) (h_t_chain_ahead : Nat) (h_t_chain_worths : Nat) (h_t_chain_cuts : Nat) (h_t_days : Nat) (h_t_imageChain : Nat) (h_t_imageDays : Nat) (h_t_tape : Nat) (h_t_draft : Nat) (h_t_sums : Nat) (h_t_sets : Nat) (h_t_choice : Nat) (h_t_best : Nat) (h_t_delay : Nat) (h_t_sheets : Nat) (h_t_wanted : Nat) (h_t_seenRow : Nat) (s_hasImage : Int32) (s_chain_kind : Int32) (s_chain_links : Int32) (s_chain_cutCount : Int32) (s_pieces_count : Int32) (s_pieces_first : Nat → Int32) (s_pieces_size : Nat → Int32) (s_pieces_value : Nat → Int32) (s_chain_ahead : Nat → Int32) (s_chain_worths : Nat → Int32) (s_chain_cuts : Nat → Int32) (v1 : Int32) (v2 : Int32) (res : Int32 × Int32 × (Nat → Int32) × (Nat → Int32) × (Nat → Int32)) (h : f_X10_piece s_chain_kind s_chain_links s_chain_cutCount s_pieces_first s_pieces_size s_pieces_value s_chain_ahead s_chain_worths s_chain_cuts v1 v2 = some res) (sz : Nat) : Met l yX10_piece wsX10_piece rm_X10_piece (cPre D k [.ref h_t, .int v1, .int v2] (W_X10_piece k h_t h_t_chain h_t_pieces h_t_pieces_first h_t_pieces_size h_t_pieces_value h_t_chain_ahead h_t_chain_worths h_t_chain_cuts h_t_days h_t_imageChain h_t_imageDays h_t_tape h_t_draft h_t_sums h_t_sets h_t_choice h_t_best h_t_delay h_t_sheets h_t_wanted h_t_seenRow s_hasImage s_chain_kind s_chain_links s_chain_cutCount s_pieces_count s_pieces_first s_pieces_size s_pieces_value s_chain_ahead s_chain_worths s_chain_cuts) sz) (cQi D (W_X10_piece k h_t h_t_chain h_t_pieces h_t_pieces_first h_t_pieces_size h_t_pieces_value h_t_chain_ahead h_t_chain_worths h_t_chain_cuts h_t_days h_t_imageChain h_t_imageDays h_t_tape h_t_draft h_t_sums h_t_sets h_t_choice h_t_best h_t_delay h_t_sheets h_t_wanted h_t_seenRow s_hasImage s_chain_kind s_chain_links s_chain_cutCount s_pieces_count s_pieces_first s_pieces_size s_pieces_value s_chain_ahead s_chain_worths s_chain_cuts) sz res.1 (W_X10_piece k h_t h_t_chain h_t_pieces h_t_pieces_first h_t_pieces_size h_t_pieces_value h_t_chain_ahead h_t_chain_worths h_t_chain_cuts h_t_days h_t_imageChain h_t_imageDays h_t_tape h_t_draft h_t_sums h_t_sets h_t_choice h_t_best h_t_delay h_t_sheets h_t_wanted h_t_seenRow s_hasImage s_chain_kind s_chain_links s_chain_cutCount res.2.1 res.2.2.1 res.2.2.2.1 res.2.2.2.2 s_chain_ahead s_chain_worths s_chain_cuts)) 0 0 (va_A (W_X10_piece k h_t h_t_chain h_t_pieces h_t_pieces_first h_t_pieces_size h_t_pieces_value h_t_chain_ahead h_t_chain_worths h_t_chain_cuts h_t_days h_t_imageChain h_t_imageDays h_t_tape h_t_draft h_t_sums h_t_sets h_t_choice h_t_best h_t_delay h_t_sheets h_t_wanted h_t_seenRow s_hasImage s_chain_kind s_chain_links s_chain_cutCount s_pieces_count s_pieces_first s_pieces_size s_pieces_value s_chain_ahead s_chain_worths s_chain_cuts) sz) := by
  refine met_of [(0, .ref h_t), (1, .int v1), (2, .int v2)] (by decide) rfl rfl (Nat.le_of_ble_eq_true rfl) rfl ?_
  intro p e s m args below meth c A hA hsz C
  unfold f_X10_piece at h
  refine g_aload_n 0 C 0 dX10_piece_0 rfl rfl ?_
  obtain ⟨q1, e2, h⟩ := bi_e h
  refine g_callVv 1 C (As := []) [0, 1, 2, 3, 4, 5, 6, 7, 8] [] [0, 1, 2, 3, 4, 5, 6, 7, 8] (W_X10_piece k h_t h_t_chain h_t_pieces h_t_pieces_first h_t_pieces_size h_t_pieces_value h_t_chain_ahead h_t_chain_worths h_t_chain_cuts h_t_days h_t_imageChain h_t_imageDays h_t_tape h_t_draft h_t_sums h_t_sets h_t_choice h_t_best h_t_delay h_t_sheets h_t_wanted h_t_seenRow s_hasImage s_chain_kind s_chain_links s_chain_cutCount q1.1 q1.2.1 q1.2.2.1 q1.2.2.2 s_chain_ahead s_chain_worths s_chain_cuts) 0 (fun sz => k_X10_divide h_t h_t_chain h_t_pieces h_t_pieces_first h_t_pieces_size h_t_pieces_value h_t_chain_ahead h_t_chain_worths h_t_chain_cuts h_t_days h_t_imageChain h_t_imageDays h_t_tape h_t_draft h_t_sums h_t_sets h_t_choice h_t_best h_t_delay h_t_sheets h_t_wanted h_t_seenRow s_hasImage s_chain_kind s_chain_links s_chain_cutCount s_pieces_count s_pieces_first s_pieces_size s_pieces_value s_chain_ahead s_chain_worths s_chain_cuts q1 e2 sz) gX10_piece_X10_divide rfl pd_X10_divide rfl rfl rfl ⟨rfl, rfl, Nat.le_of_ble_eq_true rfl, Nat.le_of_ble_eq_true rfl⟩ (Nat.le_of_ble_eq_true rfl) ⟨Nat.zero_le _, Nat.zero_le _⟩ ⟨rfl, rfl, rfl, rfl, rfl, by decide, rfl⟩ rfl dX10_piece_1 ?_
  refine g_iload_n 4 C 1 dX10_piece_4 rfl rfl ?_
  refine g_iconst 5 C (0 : Int32) dX10_piece_5 (by decide) ?_
  refine g_aload_n 6 C 0 dX10_piece_6 rfl rfl ?_
  refine g_get 7 C in_X10_piece_X10 0 7 rfl rfl (by decide) fl_X10_piece_42 rfl rfl dX10_piece_7 ?_
  refine g_get 10 C in_X10_piece_X5 2 3 rfl rfl (by decide) fl_X10_piece_163 rfl rfl dX10_piece_10 ?_
  refine g_iconst 13 C (1 : Int32) dX10_piece_13 (by decide) ?_
  refine g_isub 14 C dX10_piece_14 ?_
  obtain ⟨q3, e4, h⟩ := bi_e h
  refine g_callSi 15 C (As := [.int v1, .int (0 : Int32), .int (q1.1 - (1 : Int32))]) [] [0, 1, 2, 3, 4, 5, 6, 7, 8] [0, 1, 2, 3, 4, 5, 6, 7, 8] (W_X10_piece k h_t h_t_chain h_t_pieces h_t_pieces_first h_t_pieces_size h_t_pieces_value h_t_chain_ahead h_t_chain_worths h_t_chain_cuts h_t_days h_t_imageChain h_t_imageDays h_t_tape h_t_draft h_t_sums h_t_sets h_t_choice h_t_best h_t_delay h_t_sheets h_t_wanted h_t_seenRow s_hasImage s_chain_kind s_chain_links s_chain_cutCount q1.1 q1.2.1 q1.2.2.1 q1.2.2.2 s_chain_ahead s_chain_worths s_chain_cuts) (fun sz => k_X10_within v1 (0 : Int32) (q1.1 - (1 : Int32)) q3 e4 sz) gX10_piece_X10_within rfl pd_X10_within rfl ⟨rfl, rfl, Nat.le_of_ble_eq_true rfl, Nat.le_of_ble_eq_true rfl⟩ (Nat.le_of_ble_eq_true rfl) ⟨Nat.zero_le _, Nat.zero_le _⟩ ⟨rfl, rfl, rfl, rfl, rfl, by decide, rfl⟩ rfl dX10_piece_15 ?_
  refine g_if_ne 18 23 C dX10_piece_18 (by decide) (fun c => ?_) (fun c => ?_)
  · replace h := if_e c h
    refine g_iload_n 23 C 2 dX10_piece_23 rfl rfl ?_
    by_cases c0 : v2 = (0 : Int32)
    · replace h := it_e c0 h
      refine g_tableIn 24 52 C dX10_piece_24 (by rw [c0]; decide) (by rw [c0]; decide) (by rw [c0]; rfl) (by decide) ?_
      refine g_aload_n 52 C 0 dX10_piece_52 rfl rfl ?_
      refine g_get 53 C in_X10_piece_X10 0 7 rfl rfl (by decide) fl_X10_piece_42 rfl rfl dX10_piece_53 ?_
      refine g_get 56 C in_X10_piece_X5 2 0 rfl rfl (by decide) fl_X10_piece_169 rfl rfl dX10_piece_56 ?_
      refine g_iload_n 59 C 1 dX10_piece_59 rfl rfl ?_
      obtain ⟨o7, h⟩ := ob_e h
      refine g_iald 60 C 3 rfl o7 dX10_piece_60 ?_
      obtain rfl := Option.some.inj h
      exact g_iret 61 C hA rfl dX10_piece_61 rfl
    · replace h := if_e c0 h
      by_cases c1 : v2 = (1 : Int32)
      · replace h := it_e c1 h
        refine g_tableIn 24 62 C dX10_piece_24 (by rw [c1]; decide) (by rw [c1]; decide) (by rw [c1]; rfl) (by decide) ?_
        refine g_aload_n 62 C 0 dX10_piece_62 rfl rfl ?_
        refine g_get 63 C in_X10_piece_X10 0 7 rfl rfl (by decide) fl_X10_piece_42 rfl rfl dX10_piece_63 ?_
        refine g_get 66 C in_X10_piece_X5 2 1 rfl rfl (by decide) fl_X10_piece_172 rfl rfl dX10_piece_66 ?_
        refine g_iload_n 69 C 1 dX10_piece_69 rfl rfl ?_
        obtain ⟨o6, h⟩ := ob_e h
        refine g_iald 70 C 4 rfl o6 dX10_piece_70 ?_
        obtain rfl := Option.some.inj h
        exact g_iret 71 C hA rfl dX10_piece_71 rfl
      · replace h := if_e c1 h
        by_cases c2 : v2 = (2 : Int32)
        · replace h := it_e c2 h
          refine g_tableIn 24 72 C dX10_piece_24 (by rw [c2]; decide) (by rw [c2]; decide) (by rw [c2]; rfl) (by decide) ?_
          refine g_aload_n 72 C 0 dX10_piece_72 rfl rfl ?_
          refine g_get 73 C in_X10_piece_X10 0 7 rfl rfl (by decide) fl_X10_piece_42 rfl rfl dX10_piece_73 ?_
          refine g_get 76 C in_X10_piece_X5 2 2 rfl rfl (by decide) fl_X10_piece_175 rfl rfl dX10_piece_76 ?_
          refine g_iload_n 79 C 1 dX10_piece_79 rfl rfl ?_
          obtain ⟨o5, h⟩ := ob_e h
          refine g_iald 80 C 5 rfl o5 dX10_piece_80 ?_
          obtain rfl := Option.some.inj h
          exact g_iret 81 C hA rfl dX10_piece_81 rfl
        · replace h := if_e c2 h
          refine g_tableOut 24 82 C dX10_piece_24 (sw_out 3 (by decide) (by intro j hj; match j, hj with | 0, _ => exact c0 | 1, _ => exact c1 | 2, _ => exact c2)) (by decide) ?_
          refine g_iconst 82 C (-1 : Int32) dX10_piece_82 (by decide) ?_
          obtain rfl := Option.some.inj h
          exact g_iret 83 C hA rfl dX10_piece_83 rfl
  · replace h := it_e c h
    refine g_iconst 21 C (-1 : Int32) dX10_piece_21 (by decide) ?_
    obtain rfl := Option.some.inj h
    exact g_iret 22 C hA rfl dX10_piece_22 rfl
end

/-! X10_notch -/
abbrev W_X10_notch (k : Nat → ClassId) (h_t : Nat) (h_t_chain : Nat) (h_t_chain_cuts : Nat) (h_t_days : Nat) (h_t_imageChain : Nat) (h_t_imageDays : Nat) (h_t_tape : Nat) (h_t_draft : Nat) (h_t_pieces : Nat) (h_t_sums : Nat) (h_t_sets : Nat) (h_t_choice : Nat) (h_t_best : Nat) (h_t_delay : Nat) (h_t_sheets : Nat) (h_t_wanted : Nat) (h_t_seenRow : Nat) (h_t_chain_worths : Nat) (h_t_chain_ahead : Nat) (s_hasImage : Int32) (s_chain_kind : Int32) (s_chain_links : Int32) (s_chain_cutCount : Int32) (s_chain_cuts : Nat → Int32) : va_W := [(h_t, .inr (10, [.ref h_t_chain, .ref h_t_days, .ref h_t_imageChain, .ref h_t_imageDays, .int s_hasImage, .ref h_t_tape, .ref h_t_draft, .ref h_t_pieces, .ref h_t_sums, .ref h_t_sets, .ref h_t_choice, .ref h_t_best, .ref h_t_delay, .ref h_t_sheets, .ref h_t_wanted, .ref h_t_seenRow])), (h_t_chain, .inr (1, [.ref h_t_chain_worths, .ref h_t_chain_ahead, .ref h_t_chain_cuts, .int s_chain_kind, .int s_chain_links, .int s_chain_cutCount])), (h_t_chain_cuts, .inl (k 0, 5, .inl s_chain_cuts))]
def rm_X10_notch : Room := { frames := 1, cells := 0, slots := 0, locals := 22 }
theorem in_X10_notch_X1 : ∀ w ∈ u_ws RX1 TX1 6, w ∈ wsX10_notch := by decide +kernel
theorem in_X10_notch_X10 : ∀ w ∈ u_ws RX10 TX10 16, w ∈ wsX10_notch := by decide +kernel
theorem fl_X10_notch_103 : Cond.fieldLink RX10 103 "LinkDays$Chain" "cutCount" "I" ∈ wsX10_notch := by decide +kernel
theorem fl_X10_notch_12 : Cond.fieldLink RX10 12 "LinkDays" "chain" "LLinkDays$Chain;" ∈ wsX10_notch := by decide +kernel
theorem fl_X10_notch_177 : Cond.fieldLink RX10 177 "LinkDays$Chain" "cuts" "[I" ∈ wsX10_notch := by decide +kernel
theorem pd_X10_notch : yX10_notch.cls = RX10 ∧ yX10_notch.cls ≠ "java/lang/invoke/MethodHandle" ∧ yX10_notch.cls ≠ "java/lang/invoke/VarHandle" ∧ (parseMethodDescriptor yX10_notch.desc).map (fun d => d.parameters.length) = some 1 := by decide +kernel
section
variable {p : Program} {l : Launch} {e : Env} {s : State} {m : MethodId} {args : Array Value} {below : List Frame} {meth : Method} {c : Code} {D : va_G} {k : Nat → ClassId} {A : Nat → Prop} {w0 : va_W} {sz : Nat}
set_option maxHeartbeats 4000000 in
set_option maxRecDepth 100000 in
theorem ok_B_X10_notch_30 {h_t : Nat} {h_t_chain : Nat} {h_t_chain_cuts : Nat} {h_t_days : Nat} {h_t_imageChain : Nat} {h_t_imageDays : Nat} {h_t_tape : Nat} {h_t_draft : Nat} {h_t_pieces : Nat} {h_t_sums : Nat} {h_t_sets : Nat} {h_t_choice : Nat} {h_t_best : Nat} {h_t_delay : Nat} {h_t_sheets : Nat} {h_t_wanted : Nat} {h_t_seenRow : Nat} {h_t_chain_worths : Nat} {h_t_chain_ahead : Nat} {s_hasImage : Int32} {s_chain_kind : Int32} {s_chain_links : Int32} {s_chain_cutCount : Int32} {s_chain_cuts : Nat → Int32} {x0 : Int32} {res : Int32} (C : CX p s m args meth c cX10_notch wsX10_notch RX10 2 D k A (some .int)) (hA : A = va_A w0 sz)  (h : B_X10_notch_30 x0 = some res) : GG p l e rm_X10_notch s m args below meth c (MQ below (cQi D w0 sz res (W_X10_notch k h_t h_t_chain h_t_chain_cuts h_t_days h_t_imageChain h_t_imageDays h_t_tape h_t_draft h_t_pieces h_t_sums h_t_sets h_t_choice h_t_best h_t_delay h_t_sheets h_t_wanted h_t_seenRow h_t_chain_worths h_t_chain_ahead s_hasImage s_chain_kind s_chain_links s_chain_cutCount s_chain_cuts)) args s 0 0 A) D A 2 0 0 30 [] [.int x0] (W_X10_notch k h_t h_t_chain h_t_chain_cuts h_t_days h_t_imageChain h_t_imageDays h_t_tape h_t_draft h_t_pieces h_t_sums h_t_sets h_t_choice h_t_best h_t_delay h_t_sheets h_t_wanted h_t_seenRow h_t_chain_worths h_t_chain_ahead s_hasImage s_chain_kind s_chain_links s_chain_cutCount s_chain_cuts) := by
  unfold B_X10_notch_30 at h
  obtain rfl := Option.some.inj h
  exact g_iret 30 C hA rfl dX10_notch_30 rfl
set_option maxHeartbeats 4000000 in
set_option maxRecDepth 100000 in
theorem k_X10_notch {l : Launch} {D : va_G} {k : Nat → ClassId} (h_t : Nat) (h_t_chain : Nat) (h_t_chain_cuts : Nat) (h_t_days : Nat) (h_t_imageChain : Nat) (h_t_imageDays : Nat) (h_t_tape : Nat) (h_t_draft : Nat) (h_t_pieces : Nat) (h_t_sums : Nat) (h_t_sets : Nat) (h_t_choice : Nat) (h_t_best : Nat) (h_t_delay : Nat) (h_t_sheets : Nat) (h_t_wanted : Nat) (h_t_seenRow : Nat) (h_t_chain_worths : Nat) (h_t_chain_ahead : Nat) (s_hasImage : Int32) (s_chain_kind : Int32) (s_chain_links : Int32) (s_chain_cutCount : Int32) (s_chain_cuts : Nat → Int32) (v1 : Int32) (res : Int32) (h : f_X10_notch s_chain_cutCount s_chain_cuts v1 = some res) (sz : Nat) : Met l yX10_notch wsX10_notch rm_X10_notch (cPre D k [.ref h_t, .int v1] (W_X10_notch k h_t h_t_chain h_t_chain_cuts h_t_days h_t_imageChain h_t_imageDays h_t_tape h_t_draft h_t_pieces h_t_sums h_t_sets h_t_choice h_t_best h_t_delay h_t_sheets h_t_wanted h_t_seenRow h_t_chain_worths h_t_chain_ahead s_hasImage s_chain_kind s_chain_links s_chain_cutCount s_chain_cuts) sz) (cQi D (W_X10_notch k h_t h_t_chain h_t_chain_cuts h_t_days h_t_imageChain h_t_imageDays h_t_tape h_t_draft h_t_pieces h_t_sums h_t_sets h_t_choice h_t_best h_t_delay h_t_sheets h_t_wanted h_t_seenRow h_t_chain_worths h_t_chain_ahead s_hasImage s_chain_kind s_chain_links s_chain_cutCount s_chain_cuts) sz res (W_X10_notch k h_t h_t_chain h_t_chain_cuts h_t_days h_t_imageChain h_t_imageDays h_t_tape h_t_draft h_t_pieces h_t_sums h_t_sets h_t_choice h_t_best h_t_delay h_t_sheets h_t_wanted h_t_seenRow h_t_chain_worths h_t_chain_ahead s_hasImage s_chain_kind s_chain_links s_chain_cutCount s_chain_cuts)) 0 0 (va_A (W_X10_notch k h_t h_t_chain h_t_chain_cuts h_t_days h_t_imageChain h_t_imageDays h_t_tape h_t_draft h_t_pieces h_t_sums h_t_sets h_t_choice h_t_best h_t_delay h_t_sheets h_t_wanted h_t_seenRow h_t_chain_worths h_t_chain_ahead s_hasImage s_chain_kind s_chain_links s_chain_cutCount s_chain_cuts) sz) := by
  refine met_of [(0, .ref h_t), (1, .int v1)] (by decide) rfl rfl (Nat.le_of_ble_eq_true rfl) rfl ?_
  intro p e s m args below meth c A hA hsz C
  unfold f_X10_notch at h
  refine g_iload_n 0 C 1 dX10_notch_0 rfl rfl ?_
  refine g_iconst 1 C (0 : Int32) dX10_notch_1 (by decide) ?_
  refine g_aload_n 2 C 0 dX10_notch_2 rfl rfl ?_
  refine g_get 3 C in_X10_notch_X10 0 0 rfl rfl (by decide) fl_X10_notch_12 rfl rfl dX10_notch_3 ?_
  refine g_get 6 C in_X10_notch_X1 1 5 rfl rfl (by decide) fl_X10_notch_103 rfl rfl dX10_notch_6 ?_
  refine g_iconst 9 C (1 : Int32) dX10_notch_9 (by decide) ?_
  refine g_isub 10 C dX10_notch_10 ?_
  obtain ⟨q1, e2, h⟩ := bi_e h
  refine g_callSi 11 C (As := [.int v1, .int (0 : Int32), .int (s_chain_cutCount - (1 : Int32))]) [] [0, 1, 2] [0, 1, 2] (W_X10_notch k h_t h_t_chain h_t_chain_cuts h_t_days h_t_imageChain h_t_imageDays h_t_tape h_t_draft h_t_pieces h_t_sums h_t_sets h_t_choice h_t_best h_t_delay h_t_sheets h_t_wanted h_t_seenRow h_t_chain_worths h_t_chain_ahead s_hasImage s_chain_kind s_chain_links s_chain_cutCount s_chain_cuts) (fun sz => k_X10_within v1 (0 : Int32) (s_chain_cutCount - (1 : Int32)) q1 e2 sz) gX10_notch_X10_within rfl pd_X10_within rfl ⟨rfl, rfl, Nat.le_of_ble_eq_true rfl, Nat.le_of_ble_eq_true rfl⟩ (Nat.le_of_ble_eq_true rfl) ⟨Nat.zero_le _, Nat.zero_le _⟩ ⟨rfl, rfl, rfl, rfl, rfl, by decide, rfl⟩ rfl dX10_notch_11 ?_
  refine g_if_eq 14 29 C dX10_notch_14 (by decide) (fun c => ?_) (fun c => ?_)
  · replace h := it_e c h
    refine g_iconst 29 C (-1 : Int32) dX10_notch_29 (by decide) ?_
    refine GG.sub (lv' := []) [] rfl ?_
    exact ok_B_X10_notch_30 C hA h
  · replace h := if_e c h
    refine g_aload_n 17 C 0 dX10_notch_17 rfl rfl ?_
    refine g_get 18 C in_X10_notch_X10 0 0 rfl rfl (by decide) fl_X10_notch_12 rfl rfl dX10_notch_18 ?_
    refine g_get 21 C in_X10_notch_X1 1 2 rfl rfl (by decide) fl_X10_notch_177 rfl rfl dX10_notch_21 ?_
    refine g_iload_n 24 C 1 dX10_notch_24 rfl rfl ?_
    obtain ⟨o3, h⟩ := ob_e h
    refine g_iald 25 C 2 rfl o3 dX10_notch_25 ?_
    refine g_goto 26 30 C dX10_notch_26 (by decide) ?_
    refine GG.sub (lv' := []) [] rfl ?_
    exact ok_B_X10_notch_30 C hA h
end

/-! X10_rate -/
abbrev W_X10_rate (k : Nat → ClassId) (h_t : Nat) (h_t_best : Nat) (h_t_best_known : Nat) (h_t_days : Nat) (h_t_days_dues : Nat) (h_t_chain : Nat) (h_t_imageChain : Nat) (h_t_imageDays : Nat) (h_t_tape : Nat) (h_t_draft : Nat) (h_t_pieces : Nat) (h_t_sums : Nat) (h_t_sets : Nat) (h_t_choice : Nat) (h_t_delay : Nat) (h_t_sheets : Nat) (h_t_wanted : Nat) (h_t_seenRow : Nat) (h_t_best_far : Nat) (h_t_best_rows : Nat) (s_hasImage : Int32) (s_best_known : Nat → Int32) (s_days_each : Int32) (s_days_off : Int32) (s_days_twice : Int32) (s_days_dues : Nat → Int32) : va_W := [(h_t, .inr (10, [.ref h_t_chain, .ref h_t_days, .ref h_t_imageChain, .ref h_t_imageDays, .int s_hasImage, .ref h_t_tape, .ref h_t_draft, .ref h_t_pieces, .ref h_t_sums, .ref h_t_sets, .ref h_t_choice, .ref h_t_best, .ref h_t_delay, .ref h_t_sheets, .ref h_t_wanted, .ref h_t_seenRow])), (h_t_best, .inr (0, [.ref h_t_best_known, .ref h_t_best_far, .ref h_t_best_rows])), (h_t_best_known, .inl (k 3, 5, .inl s_best_known)), (h_t_days, .inr (3, [.ref h_t_days_dues, .int s_days_each, .int s_days_off, .int s_days_twice])), (h_t_days_dues, .inl (k 0, 61, .inl s_days_dues))]
def rm_X10_rate : Room := { frames := 2, cells := 0, slots := 0, locals := 46 }
theorem in_X10_rate_X10 : ∀ w ∈ u_ws RX10 TX10 16, w ∈ wsX10_rate := by decide +kernel
theorem fl_X10_rate_19 : Cond.fieldLink RX10 19 "LinkDays" "days" "LLinkDays$Days;" ∈ wsX10_rate := by decide +kernel
theorem fl_X10_rate_70 : Cond.fieldLink RX10 70 "LinkDays" "best" "LLinkDays$Best;" ∈ wsX10_rate := by decide +kernel
theorem pd_X10_rate : yX10_rate.cls = RX10 ∧ yX10_rate.cls ≠ "java/lang/invoke/MethodHandle" ∧ yX10_rate.cls ≠ "java/lang/invoke/VarHandle" ∧ (parseMethodDescriptor yX10_rate.desc).map (fun d => d.parameters.length) = some 2 := by decide +kernel
section
variable {p : Program} {l : Launch} {e : Env} {s : State} {m : MethodId} {args : Array Value} {below : List Frame} {meth : Method} {c : Code} {D : va_G} {k : Nat → ClassId} {A : Nat → Prop} {w0 : va_W} {sz : Nat}
set_option maxHeartbeats 4000000 in
set_option maxRecDepth 100000 in
theorem ok_B_X10_rate_36 {h_t : Nat} {h_t_best : Nat} {h_t_best_known : Nat} {h_t_days : Nat} {h_t_days_dues : Nat} {h_t_chain : Nat} {h_t_imageChain : Nat} {h_t_imageDays : Nat} {h_t_tape : Nat} {h_t_draft : Nat} {h_t_pieces : Nat} {h_t_sums : Nat} {h_t_sets : Nat} {h_t_choice : Nat} {h_t_delay : Nat} {h_t_sheets : Nat} {h_t_wanted : Nat} {h_t_seenRow : Nat} {h_t_best_far : Nat} {h_t_best_rows : Nat} {s_hasImage : Int32} {s_best_known : Nat → Int32} {s_days_each : Int32} {s_days_off : Int32} {s_days_twice : Int32} {s_days_dues : Nat → Int32} {res : Int32 × (Nat → Int32) × Int32 × Int32 × Int32 × (Nat → Int32)} (C : CX p s m args meth c cX10_rate wsX10_rate RX10 3 D k A (some .int)) (hA : A = va_A w0 sz)  (h : B_X10_rate_36 s_best_known s_days_each s_days_off s_days_twice s_days_dues = some res) : GG p l e rm_X10_rate s m args below meth c (MQ below (cQi D w0 sz res.1 (W_X10_rate k h_t h_t_best h_t_best_known h_t_days h_t_days_dues h_t_chain h_t_imageChain h_t_imageDays h_t_tape h_t_draft h_t_pieces h_t_sums h_t_sets h_t_choice h_t_delay h_t_sheets h_t_wanted h_t_seenRow h_t_best_far h_t_best_rows s_hasImage res.2.1 res.2.2.1 res.2.2.2.1 res.2.2.2.2.1 res.2.2.2.2.2)) args s 0 0 A) D A 3 0 0 36 [] [] (W_X10_rate k h_t h_t_best h_t_best_known h_t_days h_t_days_dues h_t_chain h_t_imageChain h_t_imageDays h_t_tape h_t_draft h_t_pieces h_t_sums h_t_sets h_t_choice h_t_delay h_t_sheets h_t_wanted h_t_seenRow h_t_best_far h_t_best_rows s_hasImage s_best_known s_days_each s_days_off s_days_twice s_days_dues) := by
  unfold B_X10_rate_36 at h
  refine g_iconst 36 C (-1 : Int32) dX10_rate_36 (by decide) ?_
  obtain rfl := Option.some.inj h
  exact g_iret 37 C hA rfl dX10_rate_37 rfl
set_option maxHeartbeats 4000000 in
set_option maxRecDepth 100000 in
theorem ok_B_X10_rate_30 {h_t : Nat} {h_t_best : Nat} {h_t_best_known : Nat} {h_t_days : Nat} {h_t_days_dues : Nat} {h_t_chain : Nat} {h_t_imageChain : Nat} {h_t_imageDays : Nat} {h_t_tape : Nat} {h_t_draft : Nat} {h_t_pieces : Nat} {h_t_sums : Nat} {h_t_sets : Nat} {h_t_choice : Nat} {h_t_delay : Nat} {h_t_sheets : Nat} {h_t_wanted : Nat} {h_t_seenRow : Nat} {h_t_best_far : Nat} {h_t_best_rows : Nat} {s_hasImage : Int32} {s_best_known : Nat → Int32} {s_days_each : Int32} {s_days_off : Int32} {s_days_twice : Int32} {s_days_dues : Nat → Int32} {v1 : Int32} {v2 : Int32} {x0 : Int32} {x1 : Int32} {x2 : Int32} {res : Int32 × (Nat → Int32) × Int32 × Int32 × Int32 × (Nat → Int32)} (C : CX p s m args meth c cX10_rate wsX10_rate RX10 3 D k A (some .int)) (hA : A = va_A w0 sz)  (h : B_X10_rate_30 s_best_known s_days_each s_days_off s_days_twice s_days_dues v1 v2 x0 x1 x2 = some res) : GG p l e rm_X10_rate s m args below meth c (MQ below (cQi D w0 sz res.1 (W_X10_rate k h_t h_t_best h_t_best_known h_t_days h_t_days_dues h_t_chain h_t_imageChain h_t_imageDays h_t_tape h_t_draft h_t_pieces h_t_sums h_t_sets h_t_choice h_t_delay h_t_sheets h_t_wanted h_t_seenRow h_t_best_far h_t_best_rows s_hasImage res.2.1 res.2.2.1 res.2.2.2.1 res.2.2.2.2.1 res.2.2.2.2.2)) args s 0 0 A) D A 3 0 0 30 [(0, .ref h_t), (1, .int v1), (2, .int v2)] [.int x0, .int x1, .int x2] (W_X10_rate k h_t h_t_best h_t_best_known h_t_days h_t_days_dues h_t_chain h_t_imageChain h_t_imageDays h_t_tape h_t_draft h_t_pieces h_t_sums h_t_sets h_t_choice h_t_delay h_t_sheets h_t_wanted h_t_seenRow h_t_best_far h_t_best_rows s_hasImage s_best_known s_days_each s_days_off s_days_twice s_days_dues) := by
  unfold B_X10_rate_30 at h
  obtain ⟨q3, e4, h⟩ := bi_e h
  refine g_callSi 30 C (As := [.int x2, .int x1, .int x0]) [] [0, 1, 2, 3, 4] [0, 1, 2, 3, 4] (W_X10_rate k h_t h_t_best h_t_best_known h_t_days h_t_days_dues h_t_chain h_t_imageChain h_t_imageDays h_t_tape h_t_draft h_t_pieces h_t_sums h_t_sets h_t_choice h_t_delay h_t_sheets h_t_wanted h_t_seenRow h_t_best_far h_t_best_rows s_hasImage s_best_known s_days_each s_days_off s_days_twice s_days_dues) (fun sz => k_X10_within x2 x1 x0 q3 e4 sz) gX10_rate_X10_within rfl pd_X10_within rfl ⟨rfl, rfl, Nat.le_of_ble_eq_true rfl, Nat.le_of_ble_eq_true rfl⟩ (Nat.le_of_ble_eq_true rfl) ⟨Nat.zero_le _, Nat.zero_le _⟩ ⟨rfl, rfl, rfl, rfl, rfl, by decide, rfl⟩ rfl dX10_rate_30 ?_
  refine g_if_ne 33 38 C dX10_rate_33 (by decide) (fun c => ?_) (fun c => ?_)
  · replace h := if_e c h
    refine g_aload_n 38 C 0 dX10_rate_38 rfl rfl ?_
    refine g_get 39 C in_X10_rate_X10 0 11 rfl rfl (by decide) fl_X10_rate_70 rfl rfl dX10_rate_39 ?_
    obtain ⟨q5, e6, h⟩ := bi_e h
    refine g_callVv 42 C (As := []) [1, 2] [0, 3, 4] [0, 3, 4, 1, 2] (W_X10_rate k h_t h_t_best h_t_best_known h_t_days h_t_days_dues h_t_chain h_t_imageChain h_t_imageDays h_t_tape h_t_draft h_t_pieces h_t_sums h_t_sets h_t_choice h_t_delay h_t_sheets h_t_wanted h_t_seenRow h_t_best_far h_t_best_rows s_hasImage q5 s_days_each s_days_off s_days_twice s_days_dues) 1 (fun sz => k_X0_forget h_t_best h_t_best_known h_t_best_far h_t_best_rows s_best_known q5 e6 sz) gX10_rate_X0_forget rfl pd_X0_forget rfl rfl rfl ⟨rfl, rfl, Nat.le_of_ble_eq_true rfl, Nat.le_of_ble_eq_true rfl⟩ (Nat.le_of_ble_eq_true rfl) ⟨Nat.zero_le _, Nat.zero_le _⟩ ⟨rfl, rfl, rfl, rfl, rfl, by decide, rfl⟩ rfl dX10_rate_42 ?_
    refine g_aload_n 45 C 0 dX10_rate_45 rfl rfl ?_
    refine g_get 46 C in_X10_rate_X10 0 1 rfl rfl (by decide) fl_X10_rate_19 rfl rfl dX10_rate_46 ?_
    refine g_iload_n 49 C 1 dX10_rate_49 rfl rfl ?_
    refine g_iload_n 50 C 2 dX10_rate_50 rfl rfl ?_
    obtain ⟨q7, e8, h⟩ := bi_e h
    refine g_callVi 51 C (As := [.int v1, .int v2]) [3, 4] [0, 1, 2] [0, 1, 2, 3, 4] (W_X10_rate k h_t h_t_best h_t_best_known h_t_days h_t_days_dues h_t_chain h_t_imageChain h_t_imageDays h_t_tape h_t_draft h_t_pieces h_t_sums h_t_sets h_t_choice h_t_delay h_t_sheets h_t_wanted h_t_seenRow h_t_best_far h_t_best_rows s_hasImage q5 q7.2.1 q7.2.2.1 q7.2.2.2.1 q7.2.2.2.2) 3 (fun sz => k_X3_set h_t_days h_t_days_dues s_days_each s_days_off s_days_twice s_days_dues v1 v2 q7 e8 sz) gX10_rate_X3_set rfl pd_X3_set rfl rfl rfl ⟨rfl, rfl, Nat.le_of_ble_eq_true rfl, Nat.le_of_ble_eq_true rfl⟩ (Nat.le_of_ble_eq_true rfl) ⟨Nat.zero_le _, Nat.zero_le _⟩ ⟨rfl, rfl, rfl, rfl, rfl, by decide, rfl⟩ rfl dX10_rate_51 ?_
    obtain rfl := Option.some.inj h
    exact g_iret 54 C hA rfl dX10_rate_54 rfl
  · replace h := it_e c h
    refine GG.sub (lv' := []) [] rfl ?_
    exact ok_B_X10_rate_36 C hA h
set_option maxHeartbeats 4000000 in
set_option maxRecDepth 100000 in
theorem ok_B_X10_rate_19 {h_t : Nat} {h_t_best : Nat} {h_t_best_known : Nat} {h_t_days : Nat} {h_t_days_dues : Nat} {h_t_chain : Nat} {h_t_imageChain : Nat} {h_t_imageDays : Nat} {h_t_tape : Nat} {h_t_draft : Nat} {h_t_pieces : Nat} {h_t_sums : Nat} {h_t_sets : Nat} {h_t_choice : Nat} {h_t_delay : Nat} {h_t_sheets : Nat} {h_t_wanted : Nat} {h_t_seenRow : Nat} {h_t_best_far : Nat} {h_t_best_rows : Nat} {s_hasImage : Int32} {s_best_known : Nat → Int32} {s_days_each : Int32} {s_days_off : Int32} {s_days_twice : Int32} {s_days_dues : Nat → Int32} {v1 : Int32} {v2 : Int32} {x0 : Int32} {x1 : Int32} {res : Int32 × (Nat → Int32) × Int32 × Int32 × Int32 × (Nat → Int32)} (C : CX p s m args meth c cX10_rate wsX10_rate RX10 3 D k A (some .int)) (hA : A = va_A w0 sz)  (h : B_X10_rate_19 s_best_known s_days_each s_days_off s_days_twice s_days_dues v1 v2 x0 x1 = some res) : GG p l e rm_X10_rate s m args below meth c (MQ below (cQi D w0 sz res.1 (W_X10_rate k h_t h_t_best h_t_best_known h_t_days h_t_days_dues h_t_chain h_t_imageChain h_t_imageDays h_t_tape h_t_draft h_t_pieces h_t_sums h_t_sets h_t_choice h_t_delay h_t_sheets h_t_wanted h_t_seenRow h_t_best_far h_t_best_rows s_hasImage res.2.1 res.2.2.1 res.2.2.2.1 res.2.2.2.2.1 res.2.2.2.2.2)) args s 0 0 A) D A 3 0 0 19 [(0, .ref h_t), (1, .int v1), (2, .int v2)] [.int x0, .int x1] (W_X10_rate k h_t h_t_best h_t_best_known h_t_days h_t_days_dues h_t_chain h_t_imageChain h_t_imageDays h_t_tape h_t_draft h_t_pieces h_t_sums h_t_sets h_t_choice h_t_delay h_t_sheets h_t_wanted h_t_seenRow h_t_best_far h_t_best_rows s_hasImage s_best_known s_days_each s_days_off s_days_twice s_days_dues) := by
  unfold B_X10_rate_19 at h
  refine g_iload_n 19 C 1 dX10_rate_19 rfl rfl ?_
  refine g_if_ne 20 28 C dX10_rate_20 (by decide) (fun c => ?_) (fun c => ?_)
  · replace h := if_e c h
    refine g_bipush 28 C (127 : Int32) dX10_rate_28 (by decide) ?_
    refine GG.sub (lv' := [(0, .ref h_t), (1, .int v1), (2, .int v2)]) [0, 1, 2] rfl ?_
    exact ok_B_X10_rate_30 C hA h
  · replace h := it_e c h
    refine g_bipush 23 C (9 : Int32) dX10_rate_23 (by decide) ?_
    refine g_goto 25 30 C dX10_rate_25 (by decide) ?_
    refine GG.sub (lv' := [(0, .ref h_t), (1, .int v1), (2, .int v2)]) [0, 1, 2] rfl ?_
    exact ok_B_X10_rate_30 C hA h
set_option maxHeartbeats 4000000 in
set_option maxRecDepth 100000 in
theorem k_X10_rate {l : Launch} {D : va_G} {k : Nat → ClassId} (h_t : Nat) (h_t_best : Nat) (h_t_best_known : Nat) (h_t_days : Nat) (h_t_days_dues : Nat) (h_t_chain : Nat) (h_t_imageChain : Nat) (h_t_imageDays : Nat) (h_t_tape : Nat) (h_t_draft : Nat) (h_t_pieces : Nat) (h_t_sums : Nat) (h_t_sets : Nat) (h_t_choice : Nat) (h_t_delay : Nat) (h_t_sheets : Nat) (h_t_wanted : Nat) (h_t_seenRow : Nat) (h_t_best_far : Nat) (h_t_best_rows : Nat) (s_hasImage : Int32) (s_best_known : Nat → Int32) (s_days_each : Int32) (s_days_off : Int32) (s_days_twice : Int32) (s_days_dues : Nat → Int32) (v1 : Int32) (v2 : Int32) (res : Int32 × (Nat → Int32) × Int32 × Int32 × Int32 × (Nat → Int32)) (h : f_X10_rate s_best_known s_days_each s_days_off s_days_twice s_days_dues v1 v2 = some res) (sz : Nat) : Met l yX10_rate wsX10_rate rm_X10_rate (cPre D k [.ref h_t, .int v1, .int v2] (W_X10_rate k h_t h_t_best h_t_best_known h_t_days h_t_days_dues h_t_chain h_t_imageChain h_t_imageDays h_t_tape h_t_draft h_t_pieces h_t_sums h_t_sets h_t_choice h_t_delay h_t_sheets h_t_wanted h_t_seenRow h_t_best_far h_t_best_rows s_hasImage s_best_known s_days_each s_days_off s_days_twice s_days_dues) sz) (cQi D (W_X10_rate k h_t h_t_best h_t_best_known h_t_days h_t_days_dues h_t_chain h_t_imageChain h_t_imageDays h_t_tape h_t_draft h_t_pieces h_t_sums h_t_sets h_t_choice h_t_delay h_t_sheets h_t_wanted h_t_seenRow h_t_best_far h_t_best_rows s_hasImage s_best_known s_days_each s_days_off s_days_twice s_days_dues) sz res.1 (W_X10_rate k h_t h_t_best h_t_best_known h_t_days h_t_days_dues h_t_chain h_t_imageChain h_t_imageDays h_t_tape h_t_draft h_t_pieces h_t_sums h_t_sets h_t_choice h_t_delay h_t_sheets h_t_wanted h_t_seenRow h_t_best_far h_t_best_rows s_hasImage res.2.1 res.2.2.1 res.2.2.2.1 res.2.2.2.2.1 res.2.2.2.2.2)) 0 0 (va_A (W_X10_rate k h_t h_t_best h_t_best_known h_t_days h_t_days_dues h_t_chain h_t_imageChain h_t_imageDays h_t_tape h_t_draft h_t_pieces h_t_sums h_t_sets h_t_choice h_t_delay h_t_sheets h_t_wanted h_t_seenRow h_t_best_far h_t_best_rows s_hasImage s_best_known s_days_each s_days_off s_days_twice s_days_dues) sz) := by
  refine met_of [(0, .ref h_t), (1, .int v1), (2, .int v2)] (by decide) rfl rfl (Nat.le_of_ble_eq_true rfl) rfl ?_
  intro p e s m args below meth c A hA hsz C
  unfold f_X10_rate at h
  refine g_iload_n 0 C 1 dX10_rate_0 rfl rfl ?_
  refine g_iconst 1 C (0 : Int32) dX10_rate_1 (by decide) ?_
  refine g_iconst 2 C (2 : Int32) dX10_rate_2 (by decide) ?_
  obtain ⟨q1, e2, h⟩ := bi_e h
  refine g_callSi 3 C (As := [.int v1, .int (0 : Int32), .int (2 : Int32)]) [] [0, 1, 2, 3, 4] [0, 1, 2, 3, 4] (W_X10_rate k h_t h_t_best h_t_best_known h_t_days h_t_days_dues h_t_chain h_t_imageChain h_t_imageDays h_t_tape h_t_draft h_t_pieces h_t_sums h_t_sets h_t_choice h_t_delay h_t_sheets h_t_wanted h_t_seenRow h_t_best_far h_t_best_rows s_hasImage s_best_known s_days_each s_days_off s_days_twice s_days_dues) (fun sz => k_X10_within v1 (0 : Int32) (2 : Int32) q1 e2 sz) gX10_rate_X10_within rfl pd_X10_within rfl ⟨rfl, rfl, Nat.le_of_ble_eq_true rfl, Nat.le_of_ble_eq_true rfl⟩ (Nat.le_of_ble_eq_true rfl) ⟨Nat.zero_le _, Nat.zero_le _⟩ ⟨rfl, rfl, rfl, rfl, rfl, by decide, rfl⟩ rfl dX10_rate_3 ?_
  refine g_if_eq 6 36 C dX10_rate_6 (by decide) (fun c => ?_) (fun c => ?_)
  · replace h := it_e c h
    refine GG.sub (lv' := []) [] rfl ?_
    exact ok_B_X10_rate_36 C hA h
  · replace h := if_e c h
    refine g_iload_n 9 C 2 dX10_rate_9 rfl rfl ?_
    refine g_iload_n 10 C 1 dX10_rate_10 rfl rfl ?_
    refine g_if_ne 11 18 C dX10_rate_11 (by decide) (fun c => ?_) (fun c => ?_)
    · replace h := if_e c h
      refine g_iconst 18 C (0 : Int32) dX10_rate_18 (by decide) ?_
      refine GG.sub (lv' := [(0, .ref h_t), (1, .int v1), (2, .int v2)]) [0, 1, 2] rfl ?_
      exact ok_B_X10_rate_19 C hA h
    · replace h := it_e c h
      refine g_iconst 14 C (1 : Int32) dX10_rate_14 (by decide) ?_
      refine g_goto 15 19 C dX10_rate_15 (by decide) ?_
      refine GG.sub (lv' := [(0, .ref h_t), (1, .int v1), (2, .int v2)]) [0, 1, 2] rfl ?_
      exact ok_B_X10_rate_19 C hA h
end

/-! X10_due -/
abbrev W_X10_due (k : Nat → ClassId) (h_t : Nat) (h_t_days : Nat) (h_t_days_dues : Nat) (h_t_chain : Nat) (h_t_imageChain : Nat) (h_t_imageDays : Nat) (h_t_tape : Nat) (h_t_draft : Nat) (h_t_pieces : Nat) (h_t_sums : Nat) (h_t_sets : Nat) (h_t_choice : Nat) (h_t_best : Nat) (h_t_delay : Nat) (h_t_sheets : Nat) (h_t_wanted : Nat) (h_t_seenRow : Nat) (s_hasImage : Int32) (s_days_each : Int32) (s_days_off : Int32) (s_days_twice : Int32) (s_days_dues : Nat → Int32) : va_W := [(h_t, .inr (10, [.ref h_t_chain, .ref h_t_days, .ref h_t_imageChain, .ref h_t_imageDays, .int s_hasImage, .ref h_t_tape, .ref h_t_draft, .ref h_t_pieces, .ref h_t_sums, .ref h_t_sets, .ref h_t_choice, .ref h_t_best, .ref h_t_delay, .ref h_t_sheets, .ref h_t_wanted, .ref h_t_seenRow])), (h_t_days, .inr (3, [.ref h_t_days_dues, .int s_days_each, .int s_days_off, .int s_days_twice])), (h_t_days_dues, .inl (k 0, 61, .inl s_days_dues))]
def rm_X10_due : Room := { frames := 1, cells := 0, slots := 0, locals := 22 }
theorem in_X10_due_X10 : ∀ w ∈ u_ws RX10 TX10 16, w ∈ wsX10_due := by decide +kernel
theorem in_X10_due_X3 : ∀ w ∈ u_ws RX3 TX3 4, w ∈ wsX10_due := by decide +kernel
theorem fl_X10_due_184 : Cond.fieldLink RX10 184 "LinkDays$Days" "dues" "[I" ∈ wsX10_due := by decide +kernel
theorem fl_X10_due_19 : Cond.fieldLink RX10 19 "LinkDays" "days" "LLinkDays$Days;" ∈ wsX10_due := by decide +kernel
theorem pd_X10_due : yX10_due.cls = RX10 ∧ yX10_due.cls ≠ "java/lang/invoke/MethodHandle" ∧ yX10_due.cls ≠ "java/lang/invoke/VarHandle" ∧ (parseMethodDescriptor yX10_due.desc).map (fun d => d.parameters.length) = some 1 := by decide +kernel
section
variable {p : Program} {l : Launch} {e : Env} {s : State} {m : MethodId} {args : Array Value} {below : List Frame} {meth : Method} {c : Code} {D : va_G} {k : Nat → ClassId} {A : Nat → Prop} {w0 : va_W} {sz : Nat}
set_option maxHeartbeats 4000000 in
set_option maxRecDepth 100000 in
theorem ok_B_X10_due_23 {h_t : Nat} {h_t_days : Nat} {h_t_days_dues : Nat} {h_t_chain : Nat} {h_t_imageChain : Nat} {h_t_imageDays : Nat} {h_t_tape : Nat} {h_t_draft : Nat} {h_t_pieces : Nat} {h_t_sums : Nat} {h_t_sets : Nat} {h_t_choice : Nat} {h_t_best : Nat} {h_t_delay : Nat} {h_t_sheets : Nat} {h_t_wanted : Nat} {h_t_seenRow : Nat} {s_hasImage : Int32} {s_days_each : Int32} {s_days_off : Int32} {s_days_twice : Int32} {s_days_dues : Nat → Int32} {x0 : Int32} {res : Int32} (C : CX p s m args meth c cX10_due wsX10_due RX10 2 D k A (some .int)) (hA : A = va_A w0 sz)  (h : B_X10_due_23 x0 = some res) : GG p l e rm_X10_due s m args below meth c (MQ below (cQi D w0 sz res (W_X10_due k h_t h_t_days h_t_days_dues h_t_chain h_t_imageChain h_t_imageDays h_t_tape h_t_draft h_t_pieces h_t_sums h_t_sets h_t_choice h_t_best h_t_delay h_t_sheets h_t_wanted h_t_seenRow s_hasImage s_days_each s_days_off s_days_twice s_days_dues)) args s 0 0 A) D A 2 0 0 23 [] [.int x0] (W_X10_due k h_t h_t_days h_t_days_dues h_t_chain h_t_imageChain h_t_imageDays h_t_tape h_t_draft h_t_pieces h_t_sums h_t_sets h_t_choice h_t_best h_t_delay h_t_sheets h_t_wanted h_t_seenRow s_hasImage s_days_each s_days_off s_days_twice s_days_dues) := by
  unfold B_X10_due_23 at h
  obtain rfl := Option.some.inj h
  exact g_iret 23 C hA rfl dX10_due_23 rfl
set_option maxHeartbeats 4000000 in
set_option maxRecDepth 100000 in
theorem k_X10_due {l : Launch} {D : va_G} {k : Nat → ClassId} (h_t : Nat) (h_t_days : Nat) (h_t_days_dues : Nat) (h_t_chain : Nat) (h_t_imageChain : Nat) (h_t_imageDays : Nat) (h_t_tape : Nat) (h_t_draft : Nat) (h_t_pieces : Nat) (h_t_sums : Nat) (h_t_sets : Nat) (h_t_choice : Nat) (h_t_best : Nat) (h_t_delay : Nat) (h_t_sheets : Nat) (h_t_wanted : Nat) (h_t_seenRow : Nat) (s_hasImage : Int32) (s_days_each : Int32) (s_days_off : Int32) (s_days_twice : Int32) (s_days_dues : Nat → Int32) (v1 : Int32) (res : Int32) (h : f_X10_due s_days_dues v1 = some res) (sz : Nat) : Met l yX10_due wsX10_due rm_X10_due (cPre D k [.ref h_t, .int v1] (W_X10_due k h_t h_t_days h_t_days_dues h_t_chain h_t_imageChain h_t_imageDays h_t_tape h_t_draft h_t_pieces h_t_sums h_t_sets h_t_choice h_t_best h_t_delay h_t_sheets h_t_wanted h_t_seenRow s_hasImage s_days_each s_days_off s_days_twice s_days_dues) sz) (cQi D (W_X10_due k h_t h_t_days h_t_days_dues h_t_chain h_t_imageChain h_t_imageDays h_t_tape h_t_draft h_t_pieces h_t_sums h_t_sets h_t_choice h_t_best h_t_delay h_t_sheets h_t_wanted h_t_seenRow s_hasImage s_days_each s_days_off s_days_twice s_days_dues) sz res (W_X10_due k h_t h_t_days h_t_days_dues h_t_chain h_t_imageChain h_t_imageDays h_t_tape h_t_draft h_t_pieces h_t_sums h_t_sets h_t_choice h_t_best h_t_delay h_t_sheets h_t_wanted h_t_seenRow s_hasImage s_days_each s_days_off s_days_twice s_days_dues)) 0 0 (va_A (W_X10_due k h_t h_t_days h_t_days_dues h_t_chain h_t_imageChain h_t_imageDays h_t_tape h_t_draft h_t_pieces h_t_sums h_t_sets h_t_choice h_t_best h_t_delay h_t_sheets h_t_wanted h_t_seenRow s_hasImage s_days_each s_days_off s_days_twice s_days_dues) sz) := by
  refine met_of [(0, .ref h_t), (1, .int v1)] (by decide) rfl rfl (Nat.le_of_ble_eq_true rfl) rfl ?_
  intro p e s m args below meth c A hA hsz C
  unfold f_X10_due at h
  refine g_iload_n 0 C 1 dX10_due_0 rfl rfl ?_
  refine g_iconst 1 C (1 : Int32) dX10_due_1 (by decide) ?_
  refine g_bipush 2 C (60 : Int32) dX10_due_2 (by decide) ?_
  obtain ⟨q1, e2, h⟩ := bi_e h
  refine g_callSi 4 C (As := [.int v1, .int (1 : Int32), .int (60 : Int32)]) [] [0, 1, 2] [0, 1, 2] (W_X10_due k h_t h_t_days h_t_days_dues h_t_chain h_t_imageChain h_t_imageDays h_t_tape h_t_draft h_t_pieces h_t_sums h_t_sets h_t_choice h_t_best h_t_delay h_t_sheets h_t_wanted h_t_seenRow s_hasImage s_days_each s_days_off s_days_twice s_days_dues) (fun sz => k_X10_within v1 (1 : Int32) (60 : Int32) q1 e2 sz) gX10_due_X10_within rfl pd_X10_within rfl ⟨rfl, rfl, Nat.le_of_ble_eq_true rfl, Nat.le_of_ble_eq_true rfl⟩ (Nat.le_of_ble_eq_true rfl) ⟨Nat.zero_le _, Nat.zero_le _⟩ ⟨rfl, rfl, rfl, rfl, rfl, by decide, rfl⟩ rfl dX10_due_4 ?_
  refine g_if_eq 7 22 C dX10_due_7 (by decide) (fun c => ?_) (fun c => ?_)
  · replace h := it_e c h
    refine g_iconst 22 C (-1 : Int32) dX10_due_22 (by decide) ?_
    refine GG.sub (lv' := []) [] rfl ?_
    exact ok_B_X10_due_23 C hA h
  · replace h := if_e c h
    refine g_aload_n 10 C 0 dX10_due_10 rfl rfl ?_
    refine g_get 11 C in_X10_due_X10 0 1 rfl rfl (by decide) fl_X10_due_19 rfl rfl dX10_due_11 ?_
    refine g_get 14 C in_X10_due_X3 1 0 rfl rfl (by decide) fl_X10_due_184 rfl rfl dX10_due_14 ?_
    refine g_iload_n 17 C 1 dX10_due_17 rfl rfl ?_
    obtain ⟨o3, h⟩ := ob_e h
    refine g_iald 18 C 2 rfl o3 dX10_due_18 ?_
    refine g_goto 19 23 C dX10_due_19 (by decide) ?_
    refine GG.sub (lv' := []) [] rfl ?_
    exact ok_B_X10_due_23 C hA h
end

/-! X10_pays -/
abbrev W_X10_pays (k : Nat → ClassId) (h_t : Nat) (h_t_chain : Nat) (h_t_pieces : Nat) (h_t_pieces_first : Nat) (h_t_pieces_size : Nat) (h_t_pieces_value : Nat) (h_t_chain_ahead : Nat) (h_t_chain_worths : Nat) (h_t_chain_cuts : Nat) (h_t_sums : Nat) (h_t_sums_bits : Nat) (h_t_days : Nat) (h_t_imageChain : Nat) (h_t_imageDays : Nat) (h_t_tape : Nat) (h_t_draft : Nat) (h_t_sets : Nat) (h_t_choice : Nat) (h_t_best : Nat) (h_t_delay : Nat) (h_t_sheets : Nat) (h_t_wanted : Nat) (h_t_seenRow : Nat) (s_hasImage : Int32) (s_chain_kind : Int32) (s_chain_links : Int32) (s_chain_cutCount : Int32) (s_pieces_count : Int32) (s_pieces_first : Nat → Int32) (s_pieces_size : Nat → Int32) (s_pieces_value : Nat → Int32) (s_chain_ahead : Nat → Int32) (s_chain_worths : Nat → Int32) (s_chain_cuts : Nat → Int32) (s_sums_words : Int32) (s_sums_bits : Nat → Int64) : va_W := [(h_t, .inr (10, [.ref h_t_chain, .ref h_t_days, .ref h_t_imageChain, .ref h_t_imageDays, .int s_hasImage, .ref h_t_tape, .ref h_t_draft, .ref h_t_pieces, .ref h_t_sums, .ref h_t_sets, .ref h_t_choice, .ref h_t_best, .ref h_t_delay, .ref h_t_sheets, .ref h_t_wanted, .ref h_t_seenRow])), (h_t_chain, .inr (1, [.ref h_t_chain_worths, .ref h_t_chain_ahead, .ref h_t_chain_cuts, .int s_chain_kind, .int s_chain_links, .int s_chain_cutCount])), (h_t_pieces, .inr (5, [.ref h_t_pieces_first, .ref h_t_pieces_size, .ref h_t_pieces_value, .int s_pieces_count])), (h_t_pieces_first, .inl (k 0, 11, .inl s_pieces_first)), (h_t_pieces_size, .inl (k 0, 11, .inl s_pieces_size)), (h_t_pieces_value, .inl (k 0, 11, .inl s_pieces_value)), (h_t_chain_ahead, .inl (k 0, 25, .inl s_chain_ahead)), (h_t_chain_worths, .inl (k 0, 24, .inl s_chain_worths)), (h_t_chain_cuts, .inl (k 0, 5, .inl s_chain_cuts)), (h_t_sums, .inr (8, [.ref h_t_sums_bits, .int s_sums_words])), (h_t_sums_bits, .inl (k 1, 4, .inr (.inl s_sums_bits)))]
def rm_X10_pays : Room := { frames := 3, cells := 0, slots := 0, locals := 69 }
theorem in_X10_pays_X10 : ∀ w ∈ u_ws RX10 TX10 16, w ∈ wsX10_pays := by decide +kernel
theorem fl_X10_pays_42 : Cond.fieldLink RX10 42 "LinkDays" "pieces" "LLinkDays$Pieces;" ∈ wsX10_pays := by decide +kernel
theorem fl_X10_pays_49 : Cond.fieldLink RX10 49 "LinkDays" "sums" "LLinkDays$Sums;" ∈ wsX10_pays := by decide +kernel
theorem pd_X10_pays : yX10_pays.cls = RX10 ∧ yX10_pays.cls ≠ "java/lang/invoke/MethodHandle" ∧ yX10_pays.cls ≠ "java/lang/invoke/VarHandle" ∧ (parseMethodDescriptor yX10_pays.desc).map (fun d => d.parameters.length) = some 1 := by decide +kernel
section
variable {p : Program} {l : Launch} {e : Env} {s : State} {m : MethodId} {args : Array Value} {below : List Frame} {meth : Method} {c : Code} {D : va_G} {k : Nat → ClassId} {A : Nat → Prop} {w0 : va_W} {sz : Nat}
set_option maxHeartbeats 4000000 in
set_option maxRecDepth 100000 in
theorem ok_B_X10_pays_44 {h_t : Nat} {h_t_chain : Nat} {h_t_pieces : Nat} {h_t_pieces_first : Nat} {h_t_pieces_size : Nat} {h_t_pieces_value : Nat} {h_t_chain_ahead : Nat} {h_t_chain_worths : Nat} {h_t_chain_cuts : Nat} {h_t_sums : Nat} {h_t_sums_bits : Nat} {h_t_days : Nat} {h_t_imageChain : Nat} {h_t_imageDays : Nat} {h_t_tape : Nat} {h_t_draft : Nat} {h_t_sets : Nat} {h_t_choice : Nat} {h_t_best : Nat} {h_t_delay : Nat} {h_t_sheets : Nat} {h_t_wanted : Nat} {h_t_seenRow : Nat} {s_hasImage : Int32} {s_chain_kind : Int32} {s_chain_links : Int32} {s_chain_cutCount : Int32} {s_pieces_count : Int32} {s_pieces_first : Nat → Int32} {s_pieces_size : Nat → Int32} {s_pieces_value : Nat → Int32} {s_chain_ahead : Nat → Int32} {s_chain_worths : Nat → Int32} {s_chain_cuts : Nat → Int32} {s_sums_words : Int32} {s_sums_bits : Nat → Int64} {x0 : Int32} {res : Int32 × Int32 × (Nat → Int32) × (Nat → Int32) × (Nat → Int32) × Int32 × (Nat → Int64)} (C : CX p s m args meth c cX10_pays wsX10_pays RX10 2 D k A (some .int)) (hA : A = va_A w0 sz)  (h : B_X10_pays_44 s_pieces_count s_pieces_first s_pieces_size s_pieces_value s_sums_words s_sums_bits x0 = some res) : GG p l e rm_X10_pays s m args below meth c (MQ below (cQi D w0 sz res.1 (W_X10_pays k h_t h_t_chain h_t_pieces h_t_pieces_first h_t_pieces_size h_t_pieces_value h_t_chain_ahead h_t_chain_worths h_t_chain_cuts h_t_sums h_t_sums_bits h_t_days h_t_imageChain h_t_imageDays h_t_tape h_t_draft h_t_sets h_t_choice h_t_best h_t_delay h_t_sheets h_t_wanted h_t_seenRow s_hasImage s_chain_kind s_chain_links s_chain_cutCount res.2.1 res.2.2.1 res.2.2.2.1 res.2.2.2.2.1 s_chain_ahead s_chain_worths s_chain_cuts res.2.2.2.2.2.1 res.2.2.2.2.2.2)) args s 0 0 A) D A 2 0 0 44 [] [.int x0] (W_X10_pays k h_t h_t_chain h_t_pieces h_t_pieces_first h_t_pieces_size h_t_pieces_value h_t_chain_ahead h_t_chain_worths h_t_chain_cuts h_t_sums h_t_sums_bits h_t_days h_t_imageChain h_t_imageDays h_t_tape h_t_draft h_t_sets h_t_choice h_t_best h_t_delay h_t_sheets h_t_wanted h_t_seenRow s_hasImage s_chain_kind s_chain_links s_chain_cutCount s_pieces_count s_pieces_first s_pieces_size s_pieces_value s_chain_ahead s_chain_worths s_chain_cuts s_sums_words s_sums_bits) := by
  unfold B_X10_pays_44 at h
  obtain rfl := Option.some.inj h
  exact g_iret 44 C hA rfl dX10_pays_44 rfl
set_option maxHeartbeats 4000000 in
set_option maxRecDepth 100000 in
theorem k_X10_pays {l : Launch} {D : va_G} {k : Nat → ClassId} (h_t : Nat) (h_t_chain : Nat) (h_t_pieces : Nat) (h_t_pieces_first : Nat) (h_t_pieces_size : Nat) (h_t_pieces_value : Nat) (h_t_chain_ahead : Nat) (h_t_chain_worths : Nat) (h_t_chain_cuts : Nat) (h_t_sums : Nat) (h_t_sums_bits : Nat) (h_t_days : Nat) (h_t_imageChain : Nat) (h_t_imageDays : Nat) (h_t_tape : Nat) (h_t_draft : Nat) (h_t_sets : Nat) (h_t_choice : Nat) (h_t_best : Nat) (h_t_delay : Nat) (h_t_sheets : Nat) (h_t_wanted : Nat) (h_t_seenRow : Nat) (s_hasImage : Int32) (s_chain_kind : Int32) (s_chain_links : Int32) (s_chain_cutCount : Int32) (s_pieces_count : Int32) (s_pieces_first : Nat → Int32) (s_pieces_size : Nat → Int32) (s_pieces_value : Nat → Int32) (s_chain_ahead : Nat → Int32) (s_chain_worths : Nat → Int32) (s_chain_cuts : Nat → Int32) (s_sums_words : Int32) (s_sums_bits : Nat → Int64) (v1 : Int32) (res : Int32 × Int32 × (Nat → Int32) × (Nat → Int32) × (Nat → Int32) × Int32 × (Nat → Int64)) (h : f_X10_pays s_chain_kind s_chain_links s_chain_cutCount s_pieces_count s_pieces_first s_pieces_size s_pieces_value s_chain_ahead s_chain_worths s_chain_cuts s_sums_words s_sums_bits v1 = some res) (sz : Nat) : Met l yX10_pays wsX10_pays rm_X10_pays (cPre D k [.ref h_t, .int v1] (W_X10_pays k h_t h_t_chain h_t_pieces h_t_pieces_first h_t_pieces_size h_t_pieces_value h_t_chain_ahead h_t_chain_worths h_t_chain_cuts h_t_sums h_t_sums_bits h_t_days h_t_imageChain h_t_imageDays h_t_tape h_t_draft h_t_sets h_t_choice h_t_best h_t_delay h_t_sheets h_t_wanted h_t_seenRow s_hasImage s_chain_kind s_chain_links s_chain_cutCount s_pieces_count s_pieces_first s_pieces_size s_pieces_value s_chain_ahead s_chain_worths s_chain_cuts s_sums_words s_sums_bits) sz) (cQi D (W_X10_pays k h_t h_t_chain h_t_pieces h_t_pieces_first h_t_pieces_size h_t_pieces_value h_t_chain_ahead h_t_chain_worths h_t_chain_cuts h_t_sums h_t_sums_bits h_t_days h_t_imageChain h_t_imageDays h_t_tape h_t_draft h_t_sets h_t_choice h_t_best h_t_delay h_t_sheets h_t_wanted h_t_seenRow s_hasImage s_chain_kind s_chain_links s_chain_cutCount s_pieces_count s_pieces_first s_pieces_size s_pieces_value s_chain_ahead s_chain_worths s_chain_cuts s_sums_words s_sums_bits) sz res.1 (W_X10_pays k h_t h_t_chain h_t_pieces h_t_pieces_first h_t_pieces_size h_t_pieces_value h_t_chain_ahead h_t_chain_worths h_t_chain_cuts h_t_sums h_t_sums_bits h_t_days h_t_imageChain h_t_imageDays h_t_tape h_t_draft h_t_sets h_t_choice h_t_best h_t_delay h_t_sheets h_t_wanted h_t_seenRow s_hasImage s_chain_kind s_chain_links s_chain_cutCount res.2.1 res.2.2.1 res.2.2.2.1 res.2.2.2.2.1 s_chain_ahead s_chain_worths s_chain_cuts res.2.2.2.2.2.1 res.2.2.2.2.2.2)) 0 0 (va_A (W_X10_pays k h_t h_t_chain h_t_pieces h_t_pieces_first h_t_pieces_size h_t_pieces_value h_t_chain_ahead h_t_chain_worths h_t_chain_cuts h_t_sums h_t_sums_bits h_t_days h_t_imageChain h_t_imageDays h_t_tape h_t_draft h_t_sets h_t_choice h_t_best h_t_delay h_t_sheets h_t_wanted h_t_seenRow s_hasImage s_chain_kind s_chain_links s_chain_cutCount s_pieces_count s_pieces_first s_pieces_size s_pieces_value s_chain_ahead s_chain_worths s_chain_cuts s_sums_words s_sums_bits) sz) := by
  refine met_of [(0, .ref h_t), (1, .int v1)] (by decide) rfl rfl (Nat.le_of_ble_eq_true rfl) rfl ?_
  intro p e s m args below meth c A hA hsz C
  unfold f_X10_pays at h
  refine g_iload_n 0 C 1 dX10_pays_0 rfl rfl ?_
  refine g_iconst 1 C (0 : Int32) dX10_pays_1 (by decide) ?_
  refine g_sipush 2 C (999 : Int32) dX10_pays_2 (by decide) ?_
  obtain ⟨q1, e2, h⟩ := bi_e h
  refine g_callSi 5 C (As := [.int v1, .int (0 : Int32), .int (999 : Int32)]) [] [0, 1, 2, 3, 4, 5, 6, 7, 8, 9, 10] [0, 1, 2, 3, 4, 5, 6, 7, 8, 9, 10] (W_X10_pays k h_t h_t_chain h_t_pieces h_t_pieces_first h_t_pieces_size h_t_pieces_value h_t_chain_ahead h_t_chain_worths h_t_chain_cuts h_t_sums h_t_sums_bits h_t_days h_t_imageChain h_t_imageDays h_t_tape h_t_draft h_t_sets h_t_choice h_t_best h_t_delay h_t_sheets h_t_wanted h_t_seenRow s_hasImage s_chain_kind s_chain_links s_chain_cutCount s_pieces_count s_pieces_first s_pieces_size s_pieces_value s_chain_ahead s_chain_worths s_chain_cuts s_sums_words s_sums_bits) (fun sz => k_X10_within v1 (0 : Int32) (999 : Int32) q1 e2 sz) gX10_pays_X10_within rfl pd_X10_within rfl ⟨rfl, rfl, Nat.le_of_ble_eq_true rfl, Nat.le_of_ble_eq_true rfl⟩ (Nat.le_of_ble_eq_true rfl) ⟨Nat.zero_le _, Nat.zero_le _⟩ ⟨rfl, rfl, rfl, rfl, rfl, by decide, rfl⟩ rfl dX10_pays_5 ?_
  refine g_if_ne 8 13 C dX10_pays_8 (by decide) (fun c => ?_) (fun c => ?_)
  · replace h := if_e c h
    refine g_aload_n 13 C 0 dX10_pays_13 rfl rfl ?_
    obtain ⟨q3, e4, h⟩ := bi_e h
    refine g_callVv 14 C (As := []) [0, 1, 2, 3, 4, 5, 6, 7, 8] [9, 10] [2, 3, 4, 5, 6, 7, 8, 9, 10, 0, 1] (W_X10_pays k h_t h_t_chain h_t_pieces h_t_pieces_first h_t_pieces_size h_t_pieces_value h_t_chain_ahead h_t_chain_worths h_t_chain_cuts h_t_sums h_t_sums_bits h_t_days h_t_imageChain h_t_imageDays h_t_tape h_t_draft h_t_sets h_t_choice h_t_best h_t_delay h_t_sheets h_t_wanted h_t_seenRow s_hasImage s_chain_kind s_chain_links s_chain_cutCount q3.1 q3.2.1 q3.2.2.1 q3.2.2.2 s_chain_ahead s_chain_worths s_chain_cuts s_sums_words s_sums_bits) 0 (fun sz => k_X10_divide h_t h_t_chain h_t_pieces h_t_pieces_first h_t_pieces_size h_t_pieces_value h_t_chain_ahead h_t_chain_worths h_t_chain_cuts h_t_days h_t_imageChain h_t_imageDays h_t_tape h_t_draft h_t_sums h_t_sets h_t_choice h_t_best h_t_delay h_t_sheets h_t_wanted h_t_seenRow s_hasImage s_chain_kind s_chain_links s_chain_cutCount s_pieces_count s_pieces_first s_pieces_size s_pieces_value s_chain_ahead s_chain_worths s_chain_cuts q3 e4 sz) gX10_pays_X10_divide rfl pd_X10_divide rfl rfl rfl ⟨rfl, rfl, Nat.le_of_ble_eq_true rfl, Nat.le_of_ble_eq_true rfl⟩ (Nat.le_of_ble_eq_true rfl) ⟨Nat.zero_le _, Nat.zero_le _⟩ ⟨rfl, rfl, rfl, rfl, rfl, by decide, rfl⟩ rfl dX10_pays_14 ?_
    refine g_aload_n 17 C 0 dX10_pays_17 rfl rfl ?_
    refine g_get 18 C in_X10_pays_X10 0 8 rfl rfl (by decide) fl_X10_pays_49 rfl rfl dX10_pays_18 ?_
    refine g_aload_n 21 C 0 dX10_pays_21 rfl rfl ?_
    refine g_get 22 C in_X10_pays_X10 0 7 rfl rfl (by decide) fl_X10_pays_42 rfl rfl dX10_pays_22 ?_
    obtain ⟨q5, e6, h⟩ := bi_e h
    refine g_callVv 25 C (As := [.ref h_t_pieces]) [9, 10, 2, 5] [0, 1, 3, 4, 6, 7, 8] [0, 1, 9, 2, 3, 10, 4, 5, 6, 7, 8] (W_X10_pays k h_t h_t_chain h_t_pieces h_t_pieces_first h_t_pieces_size h_t_pieces_value h_t_chain_ahead h_t_chain_worths h_t_chain_cuts h_t_sums h_t_sums_bits h_t_days h_t_imageChain h_t_imageDays h_t_tape h_t_draft h_t_sets h_t_choice h_t_best h_t_delay h_t_sheets h_t_wanted h_t_seenRow s_hasImage s_chain_kind s_chain_links s_chain_cutCount q3.1 q3.2.1 q3.2.2.1 q3.2.2.2 s_chain_ahead s_chain_worths s_chain_cuts q5.1 q5.2) 9 (fun sz => k_X8_load h_t_sums h_t_sums_bits h_t_pieces h_t_pieces_value h_t_pieces_first h_t_pieces_size s_sums_words s_sums_bits q3.1 q3.2.2.2 q5 e6 sz) gX10_pays_X8_load rfl pd_X8_load rfl rfl rfl ⟨rfl, rfl, Nat.le_of_ble_eq_true rfl, Nat.le_of_ble_eq_true rfl⟩ (Nat.le_of_ble_eq_true rfl) ⟨Nat.zero_le _, Nat.zero_le _⟩ ⟨rfl, rfl, rfl, rfl, rfl, by decide, rfl⟩ rfl dX10_pays_25 ?_
    refine g_aload_n 28 C 0 dX10_pays_28 rfl rfl ?_
    refine g_get 29 C in_X10_pays_X10 0 8 rfl rfl (by decide) fl_X10_pays_49 rfl rfl dX10_pays_29 ?_
    refine g_iload_n 32 C 1 dX10_pays_32 rfl rfl ?_
    obtain ⟨q7, e8, h⟩ := bi_e h
    refine g_callVi 33 C (As := [.int v1]) [9, 10] [0, 1, 2, 3, 4, 5, 6, 7, 8] [0, 1, 2, 3, 4, 5, 6, 7, 8, 9, 10] (W_X10_pays k h_t h_t_chain h_t_pieces h_t_pieces_first h_t_pieces_size h_t_pieces_value h_t_chain_ahead h_t_chain_worths h_t_chain_cuts h_t_sums h_t_sums_bits h_t_days h_t_imageChain h_t_imageDays h_t_tape h_t_draft h_t_sets h_t_choice h_t_best h_t_delay h_t_sheets h_t_wanted h_t_seenRow s_hasImage s_chain_kind s_chain_links s_chain_cutCount q3.1 q3.2.1 q3.2.2.1 q3.2.2.2 s_chain_ahead s_chain_worths s_chain_cuts q5.1 q5.2) 9 (fun sz => k_X8_has h_t_sums h_t_sums_bits q5.1 q5.2 v1 q7 e8 sz) gX10_pays_X8_has rfl pd_X8_has rfl rfl rfl ⟨rfl, rfl, Nat.le_of_ble_eq_true rfl, Nat.le_of_ble_eq_true rfl⟩ (Nat.le_of_ble_eq_true rfl) ⟨Nat.zero_le _, Nat.zero_le _⟩ ⟨rfl, rfl, rfl, rfl, rfl, by decide, rfl⟩ rfl dX10_pays_33 ?_
    refine g_if_eq 36 43 C dX10_pays_36 (by decide) (fun c => ?_) (fun c => ?_)
    · replace h := it_e c h
      refine g_iconst 43 C (0 : Int32) dX10_pays_43 (by decide) ?_
      refine GG.sub (lv' := []) [] rfl ?_
      exact ok_B_X10_pays_44 C hA h
    · replace h := if_e c h
      refine g_iconst 39 C (1 : Int32) dX10_pays_39 (by decide) ?_
      refine g_goto 40 44 C dX10_pays_40 (by decide) ?_
      refine GG.sub (lv' := []) [] rfl ?_
      exact ok_B_X10_pays_44 C hA h
  · replace h := it_e c h
    refine g_iconst 11 C (-1 : Int32) dX10_pays_11 (by decide) ?_
    obtain rfl := Option.some.inj h
    exact g_iret 12 C hA rfl dX10_pays_12 rfl
end
