/-! THE CLAIM OUT OF ONE WALK OF THE LAW'S BODY. Your part is whole_start (and what it stands on); all else here is the same for every law, but numbers. -/
def R_law : String := "LinkDaysLaw"
def lw_P (b : Addr) (xs : List Int32) (args : Array Value) (s : State) : Prop := args = #[.ref b] ∧ s.IntsAt b xs ∧ xs.length ≤ 3584 ∧ (Jvm.Cond.and given_1 narrow_1).before args s = true
def lw_Q (_ : Array Value) (s : State) (o : Outcome) (t : State) : Prop := o = .returned (some (.int 1)) ∧ Framed s o t [] 600000 7302250
def lw_Z (below : List Frame) (a : Array Value) (s : State) : State → Prop := fun t => ∃ o, t.status = .running ∧ Ended t below o ∧ lw_Q a s o t
/-- the law's own end, with 1 on the stack, nothing written that was there before, its room as the claim has it -/
theorem lw_ret {p : Program} {l : Launch} {e : Env} {s : State} {m : MethodId} {below : List Frame} {meth : Method} {c : Code} {b : Nat} (hx : p.tables.exec = Jvm.exec) (hb : c.code = code) (hr : meth.sig.returnType = ret) (hlocks : meth.locks = false) {pc : Nat} {H : Heap} {ls : Array Slot} (hdg : decode code pc = .ok (.ireturn, 1)) : W p l e room_1 s m #[Value.ref b] below meth c H [] 600000 7302250 (lw_Z below #[Value.ref b] s) (F0 m pc ls [.int 1]) := by
  intro T hT X
  obtain ⟨fs, hret, hrun, hended, hW, hframe⟩ := X.leave (v := some (.int 1)) (hlocks := hlocks) (fun h => by rw [hr] at h; cases h)
  have hmeth' : T.vm.method? m = some meth := X.method'
  refine ⟨T.setFrames fs, ?_, .returned (some (.int 1)), hrun, hended, rfl, ⟨_, rfl⟩, hW, hframe⟩
  jvm_step X.here [X.here.top, hx, hb, hdg, hmeth', hr, ret, narrow_b1]
  (try refine ⟨rfl, ?_⟩); (try refine ⟨rfl, ?_⟩)
  first | (intro acts; rw [hret _ acts rfl rfl rfl]) | rw [hret _ _ rfl rfl rfl]
  exact Steps.refl _
/-- what holds at the law's entry: the machine, the code, the tables' words (any of lw_tbl by 'hts w (by decide +kernel)'), the script of L ints xs at the cell b, what the Statement gives of the start (any of its parts by flat_of_before) -/
def lw_At (p : Program) (s : State) (m : MethodId) (meth : Method) (c : Code) (b L : Nat) (xs : Nat → Int32) : Prop :=
  p.tables.exec = Jvm.exec ∧ c.code = code ∧ meth.sig.returnType = ret ∧ c.maxLocals = 4 ∧ s.vm.findClass R_law = some m.cls ∧ (∀ w ∈ lw_tbl, w.before #[Value.ref b] s = true) ∧ va_X b L xs s s.heap ∧ b < s.heap.size ∧ meth.locks = false ∧ (Jvm.Cond.and given_1 narrow_1).before #[Value.ref b] s = true
section
variable {p : Program} {l : Launch} {e : Env} {s : State} {m : MethodId} {args : Array Value} {below : List Frame} {meth : Method} {c : Code} {D : va_G} {k : Nat → ClassId} {A : Nat → Prop}
set_option maxHeartbeats 40000000 in
set_option maxRecDepth 100000 in
/-- one call of the script -/
theorem law_step {hx_t : Nat} {hx_t_chain : Nat} {hx_t_best : Nat} {hx_t_best_known : Nat} {hx_t_chain_worths : Nat} {hx_t_chain_ahead : Nat} {hx_t_chain_cuts : Nat} {hx_t_tape : Nat} {hx_t_tape_bytes : Nat} {hx_t_draft : Nat} {hx_t_draft_worths : Nat} {hx_t_draft_ahead : Nat} {hx_t_draft_cuts : Nat} {hx_t_pieces : Nat} {hx_t_pieces_first : Nat} {hx_t_pieces_size : Nat} {hx_t_pieces_value : Nat} {hx_t_days : Nat} {hx_t_days_dues : Nat} {hx_t_sums : Nat} {hx_t_sums_bits : Nat} {hx_t_sets : Nat} {hx_t_sets_worths : Nat} {hx_t_sets_ends : Nat} {hx_t_sets_order : Nat} {hx_t_sets_notes : Nat} {hx_t_best_far : Nat} {hx_t_choice : Nat} {hx_t_choice_row : Nat} {hx_t_best_rows : Nat} {gx_t_best_rows : Nat → Nat} {hx_t_sets_lookedAt : Nat} {hx_t_delay : Nat} {hx_t_delay_row : Nat} {hx_t_delay_paid : Nat} {hx_t_delay_counts : Nat} {hx_t_imageChain : Nat} {hx_t_imageChain_worths : Nat} {hx_t_imageChain_ahead : Nat} {hx_t_imageChain_cuts : Nat} {hx_t_imageDays : Nat} {hx_t_imageDays_dues : Nat} {hx_t_wanted : Nat} {hx_t_seenRow : Nat} {hx_t_sheets : Nat} {gx_t_sheets : Nat → Nat} {gx_t_sheets_items : Nat → Nat} {hy_t : Nat} {hy_t_w : Nat} {hy_t_firsts : Nat} {hy_t_sizes : Nat} {hy_t_worths : Nat} {hy_t_tape : Nat} {hy_t_readWorths : Nat} {hy_t_dues : Nat} {hy_t_sums : Nat} {hy_t_worthOf : Nat} {hy_t_lies : Nat} {hy_t_pairs : Nat} {hy_t_row : Nat} {hy_t_hands : Nat} {hy_t_lates : Nat} {hy_t_paidOn : Nat} {hy_t_fixed : Nat} {hy_t_lanes : Nat} {hy_t_longs : Nat} {hy_t_used : Nat} {hy_t_items : Nat} {hy_t_hand : Nat} {x_hasImage : Int32} {x_chain_kind : Int32} {x_chain_links : Int32} {x_chain_cutCount : Int32} {x_best_known : Nat → Int32} {x_chain_worths : Nat → Int32} {x_chain_ahead : Nat → Int32} {x_chain_cuts : Nat → Int32} {x_tape_length : Int32} {x_tape_at : Int32} {x_tape_bytes : Nat → Int32} {x_draft_kind : Int32} {x_draft_links : Int32} {x_draft_cutCount : Int32} {x_draft_worths : Nat → Int32} {x_draft_ahead : Nat → Int32} {x_draft_cuts : Nat → Int32} {x_pieces_count : Int32} {x_pieces_first : Nat → Int32} {x_pieces_size : Nat → Int32} {x_pieces_value : Nat → Int32} {x_days_each : Int32} {x_days_off : Int32} {x_days_twice : Int32} {x_days_dues : Nat → Int32} {x_sums_words : Int32} {x_sums_bits : Nat → Int64} {x_sets_whole : Int32} {x_sets_pieceCount : Int32} {x_sets_lookedBack : Int32} {x_sets_worths : Nat → Int32} {x_sets_ends : Nat → Int32} {x_sets_order : Nat → Int32} {x_sets_notes : Nat → Int32} {x_best_far : Nat → Int32} {x_choice_size : Int32} {x_choice_bound : Int32} {x_choice_row : Nat → Int32} {x_best_rows : Nat → Nat → Int32} {x_sets_lookedAt : Nat → Int32} {x_delay_most : Int64} {x_delay_row : Nat → Int32} {x_delay_paid : Nat → Int64} {x_delay_counts : Nat → Int64} {x_imageChain_kind : Int32} {x_imageChain_links : Int32} {x_imageChain_cutCount : Int32} {x_imageChain_worths : Nat → Int32} {x_imageChain_ahead : Nat → Int32} {x_imageChain_cuts : Nat → Int32} {x_imageDays_each : Int32} {x_imageDays_off : Int32} {x_imageDays_twice : Int32} {x_imageDays_dues : Nat → Int32} {x_wanted : Nat → Int32} {x_seenRow : Nat → Int32} {x_sheets_there : Nat → Int32} {x_sheets_lane : Nat → Int32} {x_sheets_length : Nat → Int32} {x_sheets_items : Nat → Nat → Int64} {y_isKept : Int32} {y_taped : Int32} {y_pieces : Int32} {y_at : Int32} {y_readMany : Int32} {y_readKind : Int32} {y_readCut : Int32} {y_rowSet : Int32} {y_bestSet : Int32} {y_w : Nat → Int32} {y_firsts : Nat → Int32} {y_sizes : Nat → Int32} {y_worths : Nat → Int32} {y_tape : Nat → Int32} {y_readWorths : Nat → Int32} {y_dues : Nat → Int32} {y_sums : Nat → Int64} {y_worthOf : Nat → Int32} {y_lies : Nat → Int32} {y_pairs : Nat → Int32} {y_row : Nat → Int32} {y_hands : Nat → Int32} {y_lates : Nat → Int32} {y_paidOn : Nat → Int64} {y_fixed : Nat → Int32} {y_lanes : Nat → Int32} {y_longs : Nat → Int32} {y_used : Nat → Int32} {y_items : Nat → Int64} {y_hand : Nat → Int64} {b L : Nat} {xs : Nat → Int32} {v3 a0 : Int32} (C : CX p s m args meth c cL_law lw_tbl RL 4 D k A (some .boolean)) (hX : va_X b L xs s s.heap) (hbl : b < s.heap.size) (hbA : ¬ A b) {a1 : Int32} (h1 : vp_in (v3 + (1 : Int32)) L) (e1 : xs (v3 + (1 : Int32)).toNatClampNeg = a1) {a2 : Int32} (h2 : vp_in (v3 + (2 : Int32)) L) (e2 : xs (v3 + (2 : Int32)).toNatClampNeg = a2) {a3 : Int32} (h3 : vp_in (v3 + (3 : Int32)) L) (e3 : xs (v3 + (3 : Int32)).toNatClampNeg = a3) {a4 : Int32} (h4 : vp_in (v3 + (4 : Int32)) L) (e4 : xs (v3 + (4 : Int32)).toNatClampNeg = a4) {a5 : Int32} (h5 : vp_in (v3 + (5 : Int32)) L) (e5 : xs (v3 + (5 : Int32)).toNatClampNeg = a5) {a6 : Int32} (h6 : vp_in (v3 + (6 : Int32)) L) (e6 : xs (v3 + (6 : Int32)).toNatClampNeg = a6) (hR : Rel x_chain_kind x_chain_links x_chain_cutCount x_chain_worths x_chain_ahead x_chain_cuts x_days_each x_days_off x_days_twice x_days_dues x_best_known x_best_far x_best_rows x_hasImage x_imageChain_kind x_imageChain_links x_imageChain_cutCount x_imageChain_worths x_imageChain_ahead x_imageChain_cuts x_imageDays_each x_imageDays_off x_imageDays_twice x_imageDays_dues x_tape_length x_tape_bytes x_sheets_there x_sheets_lane x_sheets_length x_sheets_items x_draft_ahead x_sets_whole x_sets_pieceCount x_sets_lookedBack x_sets_worths x_sets_lookedAt x_sets_ends x_sets_order x_sets_notes y_w y_isKept y_taped y_tape y_lanes y_longs y_items) (next : ∀ (x_hasImage : Int32) (x_chain_kind : Int32) (x_chain_links : Int32) (x_chain_cutCount : Int32) (x_best_known : Nat → Int32) (x_chain_worths : Nat → Int32) (x_chain_ahead : Nat → Int32) (x_chain_cuts : Nat → Int32) (x_tape_length : Int32) (x_tape_at : Int32) (x_tape_bytes : Nat → Int32) (x_draft_kind : Int32) (x_draft_links : Int32) (x_draft_cutCount : Int32) (x_draft_worths : Nat → Int32) (x_draft_ahead : Nat → Int32) (x_draft_cuts : Nat → Int32) (x_pieces_count : Int32) (x_pieces_first : Nat → Int32) (x_pieces_size : Nat → Int32) (x_pieces_value : Nat → Int32) (x_days_each : Int32) (x_days_off : Int32) (x_days_twice : Int32) (x_days_dues : Nat → Int32) (x_sums_words : Int32) (x_sums_bits : Nat → Int64) (x_sets_whole : Int32) (x_sets_pieceCount : Int32) (x_sets_lookedBack : Int32) (x_sets_worths : Nat → Int32) (x_sets_ends : Nat → Int32) (x_sets_order : Nat → Int32) (x_sets_notes : Nat → Int32) (x_best_far : Nat → Int32) (x_choice_size : Int32) (x_choice_bound : Int32) (x_choice_row : Nat → Int32) (x_best_rows : Nat → Nat → Int32) (x_sets_lookedAt : Nat → Int32) (x_delay_most : Int64) (x_delay_row : Nat → Int32) (x_delay_paid : Nat → Int64) (x_delay_counts : Nat → Int64) (x_imageChain_kind : Int32) (x_imageChain_links : Int32) (x_imageChain_cutCount : Int32) (x_imageChain_worths : Nat → Int32) (x_imageChain_ahead : Nat → Int32) (x_imageChain_cuts : Nat → Int32) (x_imageDays_each : Int32) (x_imageDays_off : Int32) (x_imageDays_twice : Int32) (x_imageDays_dues : Nat → Int32) (x_wanted : Nat → Int32) (x_seenRow : Nat → Int32) (x_sheets_there : Nat → Int32) (x_sheets_lane : Nat → Int32) (x_sheets_length : Nat → Int32) (x_sheets_items : Nat → Nat → Int64) (y_isKept : Int32) (y_taped : Int32) (y_pieces : Int32) (y_at : Int32) (y_readMany : Int32) (y_readKind : Int32) (y_readCut : Int32) (y_rowSet : Int32) (y_bestSet : Int32) (y_w : Nat → Int32) (y_firsts : Nat → Int32) (y_sizes : Nat → Int32) (y_worths : Nat → Int32) (y_tape : Nat → Int32) (y_readWorths : Nat → Int32) (y_dues : Nat → Int32) (y_sums : Nat → Int64) (y_worthOf : Nat → Int32) (y_lies : Nat → Int32) (y_pairs : Nat → Int32) (y_row : Nat → Int32) (y_hands : Nat → Int32) (y_lates : Nat → Int32) (y_paidOn : Nat → Int64) (y_fixed : Nat → Int32) (y_lanes : Nat → Int32) (y_longs : Nat → Int32) (y_used : Nat → Int32) (y_items : Nat → Int64) (y_hand : Nat → Int64), Rel x_chain_kind x_chain_links x_chain_cutCount x_chain_worths x_chain_ahead x_chain_cuts x_days_each x_days_off x_days_twice x_days_dues x_best_known x_best_far x_best_rows x_hasImage x_imageChain_kind x_imageChain_links x_imageChain_cutCount x_imageChain_worths x_imageChain_ahead x_imageChain_cuts x_imageDays_each x_imageDays_off x_imageDays_twice x_imageDays_dues x_tape_length x_tape_bytes x_sheets_there x_sheets_lane x_sheets_length x_sheets_items x_draft_ahead x_sets_whole x_sets_pieceCount x_sets_lookedBack x_sets_worths x_sets_lookedAt x_sets_ends x_sets_order x_sets_notes y_w y_isKept y_taped y_tape y_lanes y_longs y_items → GG p l e room_1 s m args below meth c (lw_Z below args s) D A 4 79 185710 1046 [(0, .ref b), (1, .ref hx_t), (2, .ref hy_t), (3, .int v3)] [] (W_X10_full k hx_t hx_t_chain hx_t_best hx_t_best_known hx_t_chain_worths hx_t_chain_ahead hx_t_chain_cuts hx_t_tape hx_t_tape_bytes hx_t_draft hx_t_draft_worths hx_t_draft_ahead hx_t_draft_cuts hx_t_pieces hx_t_pieces_first hx_t_pieces_size hx_t_pieces_value hx_t_days hx_t_days_dues hx_t_sums hx_t_sums_bits hx_t_sets hx_t_sets_worths hx_t_sets_ends hx_t_sets_order hx_t_sets_notes hx_t_best_far hx_t_choice hx_t_choice_row hx_t_best_rows gx_t_best_rows hx_t_sets_lookedAt hx_t_delay hx_t_delay_row hx_t_delay_paid hx_t_delay_counts hx_t_imageChain hx_t_imageChain_worths hx_t_imageChain_ahead hx_t_imageChain_cuts hx_t_imageDays hx_t_imageDays_dues hx_t_wanted hx_t_seenRow hx_t_sheets gx_t_sheets gx_t_sheets_items x_hasImage x_chain_kind x_chain_links x_chain_cutCount x_best_known x_chain_worths x_chain_ahead x_chain_cuts x_tape_length x_tape_at x_tape_bytes x_draft_kind x_draft_links x_draft_cutCount x_draft_worths x_draft_ahead x_draft_cuts x_pieces_count x_pieces_first x_pieces_size x_pieces_value x_days_each x_days_off x_days_twice x_days_dues x_sums_words x_sums_bits x_sets_whole x_sets_pieceCount x_sets_lookedBack x_sets_worths x_sets_ends x_sets_order x_sets_notes x_best_far x_choice_size x_choice_bound x_choice_row x_best_rows x_sets_lookedAt x_delay_most x_delay_row x_delay_paid x_delay_counts x_imageChain_kind x_imageChain_links x_imageChain_cutCount x_imageChain_worths x_imageChain_ahead x_imageChain_cuts x_imageDays_each x_imageDays_off x_imageDays_twice x_imageDays_dues x_wanted x_seenRow x_sheets_there x_sheets_lane x_sheets_length x_sheets_items ++ W_X11_full k hy_t hy_t_w hy_t_firsts hy_t_sizes hy_t_worths hy_t_tape hy_t_readWorths hy_t_dues hy_t_sums hy_t_worthOf hy_t_lies hy_t_pairs hy_t_row hy_t_hands hy_t_lates hy_t_paidOn hy_t_fixed hy_t_lanes hy_t_longs hy_t_used hy_t_items hy_t_hand y_isKept y_taped y_pieces y_at y_readMany y_readKind y_readCut y_rowSet y_bestSet y_w y_firsts y_sizes y_worths y_tape y_readWorths y_dues y_sums y_worthOf y_lies y_pairs y_row y_hands y_lates y_paidOn y_fixed y_lanes y_longs y_used y_items y_hand)) : GG p l e room_1 s m args below meth c (lw_Z below args s) D A 4 79 185710 33 [(0, .ref b), (1, .ref hx_t), (2, .ref hy_t), (3, .int v3)] [.int (a0 &&& (31 : Int32))] (W_X10_full k hx_t hx_t_chain hx_t_best hx_t_best_known hx_t_chain_worths hx_t_chain_ahead hx_t_chain_cuts hx_t_tape hx_t_tape_bytes hx_t_draft hx_t_draft_worths hx_t_draft_ahead hx_t_draft_cuts hx_t_pieces hx_t_pieces_first hx_t_pieces_size hx_t_pieces_value hx_t_days hx_t_days_dues hx_t_sums hx_t_sums_bits hx_t_sets hx_t_sets_worths hx_t_sets_ends hx_t_sets_order hx_t_sets_notes hx_t_best_far hx_t_choice hx_t_choice_row hx_t_best_rows gx_t_best_rows hx_t_sets_lookedAt hx_t_delay hx_t_delay_row hx_t_delay_paid hx_t_delay_counts hx_t_imageChain hx_t_imageChain_worths hx_t_imageChain_ahead hx_t_imageChain_cuts hx_t_imageDays hx_t_imageDays_dues hx_t_wanted hx_t_seenRow hx_t_sheets gx_t_sheets gx_t_sheets_items x_hasImage x_chain_kind x_chain_links x_chain_cutCount x_best_known x_chain_worths x_chain_ahead x_chain_cuts x_tape_length x_tape_at x_tape_bytes x_draft_kind x_draft_links x_draft_cutCount x_draft_worths x_draft_ahead x_draft_cuts x_pieces_count x_pieces_first x_pieces_size x_pieces_value x_days_each x_days_off x_days_twice x_days_dues x_sums_words x_sums_bits x_sets_whole x_sets_pieceCount x_sets_lookedBack x_sets_worths x_sets_ends x_sets_order x_sets_notes x_best_far x_choice_size x_choice_bound x_choice_row x_best_rows x_sets_lookedAt x_delay_most x_delay_row x_delay_paid x_delay_counts x_imageChain_kind x_imageChain_links x_imageChain_cutCount x_imageChain_worths x_imageChain_ahead x_imageChain_cuts x_imageDays_each x_imageDays_off x_imageDays_twice x_imageDays_dues x_wanted x_seenRow x_sheets_there x_sheets_lane x_sheets_length x_sheets_items ++ W_X11_full k hy_t hy_t_w hy_t_firsts hy_t_sizes hy_t_worths hy_t_tape hy_t_readWorths hy_t_dues hy_t_sums hy_t_worthOf hy_t_lies hy_t_pairs hy_t_row hy_t_hands hy_t_lates hy_t_paidOn hy_t_fixed hy_t_lanes hy_t_longs hy_t_used hy_t_items hy_t_hand y_isKept y_taped y_pieces y_at y_readMany y_readKind y_readCut y_rowSet y_bestSet y_w y_firsts y_sizes y_worths y_tape y_readWorths y_dues y_sums y_worthOf y_lies y_pairs y_row y_hands y_lates y_paidOn y_fixed y_lanes y_longs y_used y_items y_hand) := by
  by_cases c0 : a0 &&& (31 : Int32) = (0 : Int32)
  · obtain ⟨rx, ry, ex, ey, heq, hR'⟩ := tq_kind hR a1
    refine g_tableIn 33 160 C dL_law_33 (by rw [c0]; decide) (by rw [c0]; decide) (by rw [c0]; rfl) (by decide) ?_
    exact lc_kind C hX hbl hbA h1 e1 rx ex ry ey heq (next _ _ _ _ _ _ _ _ _ _ _ _ _ _ _ _ _ _ _ _ _ _ _ _ _ _ _ _ _ _ _ _ _ _ _ _ _ _ _ _ _ _ _ _ _ _ _ _ _ _ _ _ _ _ _ _ _ _ _ _ _ _ _ _ _ _ _ _ _ _ _ _ _ _ _ _ _ _ _ _ _ _ _ _ _ _ _ _ _ _ hR')
  by_cases c1 : a0 &&& (31 : Int32) = (1 : Int32)
  · obtain ⟨rx, ry, ex, ey, heq, hR'⟩ := tq_link hR a1
    refine g_tableIn 33 183 C dL_law_33 (by rw [c1]; decide) (by rw [c1]; decide) (by rw [c1]; rfl) (by decide) ?_
    exact lc_link C hX hbl hbA h1 e1 rx ex ry ey heq (next _ _ _ _ _ _ _ _ _ _ _ _ _ _ _ _ _ _ _ _ _ _ _ _ _ _ _ _ _ _ _ _ _ _ _ _ _ _ _ _ _ _ _ _ _ _ _ _ _ _ _ _ _ _ _ _ _ _ _ _ _ _ _ _ _ _ _ _ _ _ _ _ _ _ _ _ _ _ _ _ _ _ _ _ _ _ _ _ _ _ hR')
  by_cases c2 : a0 &&& (31 : Int32) = (2 : Int32)
  · obtain ⟨rx, ry, ex, ey, heq, hR'⟩ := tq_worth hR a1 a2
    refine g_tableIn 33 206 C dL_law_33 (by rw [c2]; decide) (by rw [c2]; decide) (by rw [c2]; rfl) (by decide) ?_
    exact lc_worth C hX hbl hbA h1 e1 h2 e2 rx ex ry ey heq (next _ _ _ _ _ _ _ _ _ _ _ _ _ _ _ _ _ _ _ _ _ _ _ _ _ _ _ _ _ _ _ _ _ _ _ _ _ _ _ _ _ _ _ _ _ _ _ _ _ _ _ _ _ _ _ _ _ _ _ _ _ _ _ _ _ _ _ _ _ _ _ _ _ _ _ _ _ _ _ _ _ _ _ _ _ _ _ _ _ _ hR')
  by_cases c3 : a0 &&& (31 : Int32) = (3 : Int32)
  · obtain ⟨rx, ry, ex, ey, heq, hR'⟩ := tq_cut hR a1
    refine g_tableIn 33 239 C dL_law_33 (by rw [c3]; decide) (by rw [c3]; decide) (by rw [c3]; rfl) (by decide) ?_
    exact lc_cut C hX hbl hbA h1 e1 rx ex ry ey heq (next _ _ _ _ _ _ _ _ _ _ _ _ _ _ _ _ _ _ _ _ _ _ _ _ _ _ _ _ _ _ _ _ _ _ _ _ _ _ _ _ _ _ _ _ _ _ _ _ _ _ _ _ _ _ _ _ _ _ _ _ _ _ _ _ _ _ _ _ _ _ _ _ _ _ _ _ _ _ _ _ _ _ _ _ _ _ _ _ _ _ hR')
  by_cases c4 : a0 &&& (31 : Int32) = (4 : Int32)
  · obtain ⟨rx, ry, ex, ey, heq, hR'⟩ := tq_mend hR a1
    refine g_tableIn 33 262 C dL_law_33 (by rw [c4]; decide) (by rw [c4]; decide) (by rw [c4]; rfl) (by decide) ?_
    exact lc_mend C hX hbl hbA h1 e1 rx ex ry ey heq (next _ _ _ _ _ _ _ _ _ _ _ _ _ _ _ _ _ _ _ _ _ _ _ _ _ _ _ _ _ _ _ _ _ _ _ _ _ _ _ _ _ _ _ _ _ _ _ _ _ _ _ _ _ _ _ _ _ _ _ _ _ _ _ _ _ _ _ _ _ _ _ _ _ _ _ _ _ _ _ _ _ _ _ _ _ _ _ _ _ _ hR')
  by_cases c5 : a0 &&& (31 : Int32) = (5 : Int32)
  · obtain ⟨rx, ry, ex, ey, heq, hR'⟩ := tq_type hR (((a1.toInt64 <<< ((32 : Int32).toInt64 &&& 63)) ||| (a2.toInt64 &&& (4294967295 : Int64)))) a3
    refine g_tableIn 33 285 C dL_law_33 (by rw [c5]; decide) (by rw [c5]; decide) (by rw [c5]; rfl) (by decide) ?_
    exact lc_type C hX hbl hbA h1 e1 h2 e2 h3 e3 rx ex ry ey heq (next _ _ _ _ _ _ _ _ _ _ _ _ _ _ _ _ _ _ _ _ _ _ _ _ _ _ _ _ _ _ _ _ _ _ _ _ _ _ _ _ _ _ _ _ _ _ _ _ _ _ _ _ _ _ _ _ _ _ _ _ _ _ _ _ _ _ _ _ _ _ _ _ _ _ _ _ _ _ _ _ _ _ _ _ _ _ _ _ _ _ hR')
  by_cases c6 : a0 &&& (31 : Int32) = (6 : Int32)
  · obtain ⟨rx, ry, ex, ey, heq, hR'⟩ := tq_chain hR 
    refine g_tableIn 33 348 C dL_law_33 (by rw [c6]; decide) (by rw [c6]; decide) (by rw [c6]; rfl) (by decide) ?_
    exact lc_chain C hX hbl hbA rx ex ry ey heq (next _ _ _ _ _ _ _ _ _ _ _ _ _ _ _ _ _ _ _ _ _ _ _ _ _ _ _ _ _ _ _ _ _ _ _ _ _ _ _ _ _ _ _ _ _ _ _ _ _ _ _ _ _ _ _ _ _ _ _ _ _ _ _ _ _ _ _ _ _ _ _ _ _ _ _ _ _ _ _ _ _ _ _ _ _ _ _ _ _ _ hR')
  by_cases c7 : a0 &&& (31 : Int32) = (7 : Int32)
  · obtain ⟨rx, ry, ex, ey, heq, hR'⟩ := tq_count hR a1
    refine g_tableIn 33 361 C dL_law_33 (by rw [c7]; decide) (by rw [c7]; decide) (by rw [c7]; rfl) (by decide) ?_
    exact lc_count C hX hbl hbA h1 e1 rx ex ry ey heq (next _ _ _ _ _ _ _ _ _ _ _ _ _ _ _ _ _ _ _ _ _ _ _ _ _ _ _ _ _ _ _ _ _ _ _ _ _ _ _ _ _ _ _ _ _ _ _ _ _ _ _ _ _ _ _ _ _ _ _ _ _ _ _ _ _ _ _ _ _ _ _ _ _ _ _ _ _ _ _ _ _ _ _ _ _ _ _ _ _ _ hR')
  by_cases c8 : a0 &&& (31 : Int32) = (8 : Int32)
  · obtain ⟨rx, ry, ex, ey, heq, hR'⟩ := tq_piece hR a1 a2
    refine g_tableIn 33 384 C dL_law_33 (by rw [c8]; decide) (by rw [c8]; decide) (by rw [c8]; rfl) (by decide) ?_
    exact lc_piece C hX hbl hbA h1 e1 h2 e2 rx ex ry ey heq (next _ _ _ _ _ _ _ _ _ _ _ _ _ _ _ _ _ _ _ _ _ _ _ _ _ _ _ _ _ _ _ _ _ _ _ _ _ _ _ _ _ _ _ _ _ _ _ _ _ _ _ _ _ _ _ _ _ _ _ _ _ _ _ _ _ _ _ _ _ _ _ _ _ _ _ _ _ _ _ _ _ _ _ _ _ _ _ _ _ _ hR')
  by_cases c9 : a0 &&& (31 : Int32) = (9 : Int32)
  · obtain ⟨rx, ry, ex, ey, heq, hR'⟩ := tq_notch hR a1
    refine g_tableIn 33 417 C dL_law_33 (by rw [c9]; decide) (by rw [c9]; decide) (by rw [c9]; rfl) (by decide) ?_
    exact lc_notch C hX hbl hbA h1 e1 rx ex ry ey heq (next _ _ _ _ _ _ _ _ _ _ _ _ _ _ _ _ _ _ _ _ _ _ _ _ _ _ _ _ _ _ _ _ _ _ _ _ _ _ _ _ _ _ _ _ _ _ _ _ _ _ _ _ _ _ _ _ _ _ _ _ _ _ _ _ _ _ _ _ _ _ _ _ _ _ _ _ _ _ _ _ _ _ _ _ _ _ _ _ _ _ hR')
  by_cases c10 : a0 &&& (31 : Int32) = (10 : Int32)
  · obtain ⟨rx, ry, ex, ey, heq, hR'⟩ := tq_rate hR a1 a2
    refine g_tableIn 33 440 C dL_law_33 (by rw [c10]; decide) (by rw [c10]; decide) (by rw [c10]; rfl) (by decide) ?_
    exact lc_rate C hX hbl hbA h1 e1 h2 e2 rx ex ry ey heq (next _ _ _ _ _ _ _ _ _ _ _ _ _ _ _ _ _ _ _ _ _ _ _ _ _ _ _ _ _ _ _ _ _ _ _ _ _ _ _ _ _ _ _ _ _ _ _ _ _ _ _ _ _ _ _ _ _ _ _ _ _ _ _ _ _ _ _ _ _ _ _ _ _ _ _ _ _ _ _ _ _ _ _ _ _ _ _ _ _ _ hR')
  by_cases c11 : a0 &&& (31 : Int32) = (11 : Int32)
  · obtain ⟨rx, ry, ex, ey, heq, hR'⟩ := tq_due hR a1
    refine g_tableIn 33 473 C dL_law_33 (by rw [c11]; decide) (by rw [c11]; decide) (by rw [c11]; rfl) (by decide) ?_
    exact lc_due C hX hbl hbA h1 e1 rx ex ry ey heq (next _ _ _ _ _ _ _ _ _ _ _ _ _ _ _ _ _ _ _ _ _ _ _ _ _ _ _ _ _ _ _ _ _ _ _ _ _ _ _ _ _ _ _ _ _ _ _ _ _ _ _ _ _ _ _ _ _ _ _ _ _ _ _ _ _ _ _ _ _ _ _ _ _ _ _ _ _ _ _ _ _ _ _ _ _ _ _ _ _ _ hR')
  by_cases c12 : a0 &&& (31 : Int32) = (12 : Int32)
  · obtain ⟨rx, ry, ex, ey, heq, hR'⟩ := tq_pays hR a1
    refine g_tableIn 33 496 C dL_law_33 (by rw [c12]; decide) (by rw [c12]; decide) (by rw [c12]; rfl) (by decide) ?_
    exact lc_pays C hX hbl hbA h1 e1 rx ex ry ey heq (next _ _ _ _ _ _ _ _ _ _ _ _ _ _ _ _ _ _ _ _ _ _ _ _ _ _ _ _ _ _ _ _ _ _ _ _ _ _ _ _ _ _ _ _ _ _ _ _ _ _ _ _ _ _ _ _ _ _ _ _ _ _ _ _ _ _ _ _ _ _ _ _ _ _ _ _ _ _ _ _ _ _ _ _ _ _ _ _ _ _ hR')
  by_cases c13 : a0 &&& (31 : Int32) = (13 : Int32)
  · obtain ⟨rx, ry, ex, ey, heq, hR'⟩ := tq_far hR 
    refine g_tableIn 33 519 C dL_law_33 (by rw [c13]; decide) (by rw [c13]; decide) (by rw [c13]; rfl) (by decide) ?_
    exact lc_far C hX hbl hbA rx ex ry ey heq (next _ _ _ _ _ _ _ _ _ _ _ _ _ _ _ _ _ _ _ _ _ _ _ _ _ _ _ _ _ _ _ _ _ _ _ _ _ _ _ _ _ _ _ _ _ _ _ _ _ _ _ _ _ _ _ _ _ _ _ _ _ _ _ _ _ _ _ _ _ _ _ _ _ _ _ _ _ _ _ _ _ _ _ _ _ _ _ _ _ _ hR')
  by_cases c14 : a0 &&& (31 : Int32) = (14 : Int32)
  · obtain ⟨rx, ry, ex, ey, heq, hR'⟩ := tq_kept hR 
    refine g_tableIn 33 532 C dL_law_33 (by rw [c14]; decide) (by rw [c14]; decide) (by rw [c14]; rfl) (by decide) ?_
    exact lc_kept C hX hbl hbA rx ex ry ey heq (next _ _ _ _ _ _ _ _ _ _ _ _ _ _ _ _ _ _ _ _ _ _ _ _ _ _ _ _ _ _ _ _ _ _ _ _ _ _ _ _ _ _ _ _ _ _ _ _ _ _ _ _ _ _ _ _ _ _ _ _ _ _ _ _ _ _ _ _ _ _ _ _ _ _ _ _ _ _ _ _ _ _ _ _ _ _ _ _ _ _ hR')
  by_cases c15 : a0 &&& (31 : Int32) = (15 : Int32)
  · obtain ⟨rx, ry, ex, ey, heq, hR'⟩ := tq_two hR a1
    refine g_tableIn 33 545 C dL_law_33 (by rw [c15]; decide) (by rw [c15]; decide) (by rw [c15]; rfl) (by decide) ?_
    exact lc_two C hX hbl hbA h1 e1 rx ex ry ey heq (next _ _ _ _ _ _ _ _ _ _ _ _ _ _ _ _ _ _ _ _ _ _ _ _ _ _ _ _ _ _ _ _ _ _ _ _ _ _ _ _ _ _ _ _ _ _ _ _ _ _ _ _ _ _ _ _ _ _ _ _ _ _ _ _ _ _ _ _ _ _ _ _ _ _ _ _ _ _ _ _ _ _ _ _ _ _ _ _ _ _ hR')
  by_cases c16 : a0 &&& (31 : Int32) = (16 : Int32)
  · obtain ⟨rx, ry, ex, ey, heq, hR'⟩ := tq_most hR a1 a2
    refine g_tableIn 33 568 C dL_law_33 (by rw [c16]; decide) (by rw [c16]; decide) (by rw [c16]; rfl) (by decide) ?_
    exact lc_most C hX hbl hbA h1 e1 h2 e2 rx ex ry ey heq (next _ _ _ _ _ _ _ _ _ _ _ _ _ _ _ _ _ _ _ _ _ _ _ _ _ _ _ _ _ _ _ _ _ _ _ _ _ _ _ _ _ _ _ _ _ _ _ _ _ _ _ _ _ _ _ _ _ _ _ _ _ _ _ _ _ _ _ _ _ _ _ _ _ _ _ _ _ _ _ _ _ _ _ _ _ _ _ _ _ _ hR')
  by_cases c17 : a0 &&& (31 : Int32) = (17 : Int32)
  · obtain ⟨rx, ry, ex, ey, heq, hR'⟩ := tq_fewest hR a1
    refine g_tableIn 33 601 C dL_law_33 (by rw [c17]; decide) (by rw [c17]; decide) (by rw [c17]; rfl) (by decide) ?_
    exact lc_fewest C hX hbl hbA h1 e1 rx ex ry ey heq (next _ _ _ _ _ _ _ _ _ _ _ _ _ _ _ _ _ _ _ _ _ _ _ _ _ _ _ _ _ _ _ _ _ _ _ _ _ _ _ _ _ _ _ _ _ _ _ _ _ _ _ _ _ _ _ _ _ _ _ _ _ _ _ _ _ _ _ _ _ _ _ _ _ _ _ _ _ _ _ _ _ _ _ _ _ _ _ _ _ _ hR')
  by_cases c18 : a0 &&& (31 : Int32) = (18 : Int32)
  · obtain ⟨rx, ry, ex, ey, heq, hR'⟩ := tq_handed hR a1 a2
    refine g_tableIn 33 624 C dL_law_33 (by rw [c18]; decide) (by rw [c18]; decide) (by rw [c18]; rfl) (by decide) ?_
    exact lc_handed C hX hbl hbA h1 e1 h2 e2 rx ex ry ey heq (next _ _ _ _ _ _ _ _ _ _ _ _ _ _ _ _ _ _ _ _ _ _ _ _ _ _ _ _ _ _ _ _ _ _ _ _ _ _ _ _ _ _ _ _ _ _ _ _ _ _ _ _ _ _ _ _ _ _ _ _ _ _ _ _ _ _ _ _ _ _ _ _ _ _ _ _ _ _ _ _ _ _ _ _ _ _ _ _ _ _ hR')
  by_cases c19 : a0 &&& (31 : Int32) = (19 : Int32)
  · obtain ⟨rx, ry, ex, ey, heq, hR'⟩ := tq_late hR a1 a2
    refine g_tableIn 33 657 C dL_law_33 (by rw [c19]; decide) (by rw [c19]; decide) (by rw [c19]; rfl) (by decide) ?_
    exact lc_late C hX hbl hbA h1 e1 h2 e2 rx ex ry ey heq (next _ _ _ _ _ _ _ _ _ _ _ _ _ _ _ _ _ _ _ _ _ _ _ _ _ _ _ _ _ _ _ _ _ _ _ _ _ _ _ _ _ _ _ _ _ _ _ _ _ _ _ _ _ _ _ _ _ _ _ _ _ _ _ _ _ _ _ _ _ _ _ _ _ _ _ _ _ _ _ _ _ _ _ _ _ _ _ _ _ _ hR')
  by_cases c20 : a0 &&& (31 : Int32) = (20 : Int32)
  · obtain ⟨rx, ry, ex, ey, heq, hR'⟩ := tq_image hR 
    refine g_tableIn 33 690 C dL_law_33 (by rw [c20]; decide) (by rw [c20]; decide) (by rw [c20]; rfl) (by decide) ?_
    exact lc_image C hX hbl hbA rx ex ry ey heq (next _ _ _ _ _ _ _ _ _ _ _ _ _ _ _ _ _ _ _ _ _ _ _ _ _ _ _ _ _ _ _ _ _ _ _ _ _ _ _ _ _ _ _ _ _ _ _ _ _ _ _ _ _ _ _ _ _ _ _ _ _ _ _ _ _ _ _ _ _ _ _ _ _ _ _ _ _ _ _ _ _ _ _ _ _ _ _ _ _ _ hR')
  by_cases c21 : a0 &&& (31 : Int32) = (21 : Int32)
  · obtain ⟨rx, ry, ex, ey, heq, hR'⟩ := tq_restore hR 
    refine g_tableIn 33 703 C dL_law_33 (by rw [c21]; decide) (by rw [c21]; decide) (by rw [c21]; rfl) (by decide) ?_
    exact lc_restore C hX hbl hbA rx ex ry ey heq (next _ _ _ _ _ _ _ _ _ _ _ _ _ _ _ _ _ _ _ _ _ _ _ _ _ _ _ _ _ _ _ _ _ _ _ _ _ _ _ _ _ _ _ _ _ _ _ _ _ _ _ _ _ _ _ _ _ _ _ _ _ _ _ _ _ _ _ _ _ _ _ _ _ _ _ _ _ _ _ _ _ _ _ _ _ _ _ _ _ _ hR')
  by_cases c22 : a0 &&& (31 : Int32) = (22 : Int32)
  · obtain ⟨rx, ry, ex, ey, heq, hR'⟩ := tq_seen hR a1 a2 a3 a4 a5 a6
    refine g_tableIn 33 716 C dL_law_33 (by rw [c22]; decide) (by rw [c22]; decide) (by rw [c22]; rfl) (by decide) ?_
    exact lc_seen C hX hbl hbA h1 e1 h2 e2 h3 e3 h4 e4 h5 e5 h6 e6 rx ex ry ey heq (next _ _ _ _ _ _ _ _ _ _ _ _ _ _ _ _ _ _ _ _ _ _ _ _ _ _ _ _ _ _ _ _ _ _ _ _ _ _ _ _ _ _ _ _ _ _ _ _ _ _ _ _ _ _ _ _ _ _ _ _ _ _ _ _ _ _ _ _ _ _ _ _ _ _ _ _ _ _ _ _ _ _ _ _ _ _ _ _ _ _ hR')
  by_cases c23 : a0 &&& (31 : Int32) = (23 : Int32)
  · obtain ⟨rx, ry, ex, ey, heq, hR'⟩ := tq_film hR a1 a2 a3
    refine g_tableIn 33 791 C dL_law_33 (by rw [c23]; decide) (by rw [c23]; decide) (by rw [c23]; rfl) (by decide) ?_
    exact lc_film C hX hbl hbA h1 e1 h2 e2 h3 e3 rx ex ry ey heq (next _ _ _ _ _ _ _ _ _ _ _ _ _ _ _ _ _ _ _ _ _ _ _ _ _ _ _ _ _ _ _ _ _ _ _ _ _ _ _ _ _ _ _ _ _ _ _ _ _ _ _ _ _ _ _ _ _ _ _ _ _ _ _ _ _ _ _ _ _ _ _ _ _ _ _ _ _ _ _ _ _ _ _ _ _ _ _ _ _ _ hR')
  by_cases c24 : a0 &&& (31 : Int32) = (24 : Int32)
  · obtain ⟨rx, ry, ex, ey, heq, hR'⟩ := tq_sheet hR a1 a2 a3
    refine g_tableIn 33 834 C dL_law_33 (by rw [c24]; decide) (by rw [c24]; decide) (by rw [c24]; rfl) (by decide) ?_
    exact lc_sheet C hX hbl hbA h1 e1 h2 e2 h3 e3 rx ex ry ey heq (next _ _ _ _ _ _ _ _ _ _ _ _ _ _ _ _ _ _ _ _ _ _ _ _ _ _ _ _ _ _ _ _ _ _ _ _ _ _ _ _ _ _ _ _ _ _ _ _ _ _ _ _ _ _ _ _ _ _ _ _ _ _ _ _ _ _ _ _ _ _ _ _ _ _ _ _ _ _ _ _ _ _ _ _ _ _ _ _ _ _ hR')
  by_cases c25 : a0 &&& (31 : Int32) = (25 : Int32)
  · obtain ⟨rx, ry, ex, ey, heq, hR'⟩ := tq_drop hR a1
    refine g_tableIn 33 877 C dL_law_33 (by rw [c25]; decide) (by rw [c25]; decide) (by rw [c25]; rfl) (by decide) ?_
    exact lc_drop C hX hbl hbA h1 e1 rx ex ry ey heq (next _ _ _ _ _ _ _ _ _ _ _ _ _ _ _ _ _ _ _ _ _ _ _ _ _ _ _ _ _ _ _ _ _ _ _ _ _ _ _ _ _ _ _ _ _ _ _ _ _ _ _ _ _ _ _ _ _ _ _ _ _ _ _ _ _ _ _ _ _ _ _ _ _ _ _ _ _ _ _ _ _ _ _ _ _ _ _ _ _ _ hR')
  by_cases c26 : a0 &&& (31 : Int32) = (26 : Int32)
  · obtain ⟨rx, ry, ex, ey, heq, hR'⟩ := tq_item hR a1 a2 a3 (((a4.toInt64 <<< ((32 : Int32).toInt64 &&& 63)) ||| (a5.toInt64 &&& (4294967295 : Int64))))
    refine g_tableIn 33 900 C dL_law_33 (by rw [c26]; decide) (by rw [c26]; decide) (by rw [c26]; rfl) (by decide) ?_
    exact lc_item C hX hbl hbA h1 e1 h2 e2 h3 e3 h4 e4 h5 e5 rx ex ry ey heq (next _ _ _ _ _ _ _ _ _ _ _ _ _ _ _ _ _ _ _ _ _ _ _ _ _ _ _ _ _ _ _ _ _ _ _ _ _ _ _ _ _ _ _ _ _ _ _ _ _ _ _ _ _ _ _ _ _ _ _ _ _ _ _ _ _ _ _ _ _ _ _ _ _ _ _ _ _ _ _ _ _ _ _ _ _ _ _ _ _ _ hR')
  by_cases c27 : a0 &&& (31 : Int32) = (27 : Int32)
  · obtain ⟨rx, ry, ex, ey, heq, hR'⟩ := tq_copy hR a1 a2 a3 a4 a5
    refine g_tableIn 33 983 C dL_law_33 (by rw [c27]; decide) (by rw [c27]; decide) (by rw [c27]; rfl) (by decide) ?_
    exact lc_copy C hX hbl hbA h1 e1 h2 e2 h3 e3 h4 e4 h5 e5 rx ex ry ey heq (next _ _ _ _ _ _ _ _ _ _ _ _ _ _ _ _ _ _ _ _ _ _ _ _ _ _ _ _ _ _ _ _ _ _ _ _ _ _ _ _ _ _ _ _ _ _ _ _ _ _ _ _ _ _ _ _ _ _ _ _ _ _ _ _ _ _ _ _ _ _ _ _ _ _ _ _ _ _ _ _ _ _ _ _ _ _ _ _ _ _ hR')
  refine g_tableOut 33 1046 C dL_law_33 (sw_out 28 (by decide) (by intro j hj; match j, hj with | 0, _ => exact c0 | 1, _ => exact c1 | 2, _ => exact c2 | 3, _ => exact c3 | 4, _ => exact c4 | 5, _ => exact c5 | 6, _ => exact c6 | 7, _ => exact c7 | 8, _ => exact c8 | 9, _ => exact c9 | 10, _ => exact c10 | 11, _ => exact c11 | 12, _ => exact c12 | 13, _ => exact c13 | 14, _ => exact c14 | 15, _ => exact c15 | 16, _ => exact c16 | 17, _ => exact c17 | 18, _ => exact c18 | 19, _ => exact c19 | 20, _ => exact c20 | 21, _ => exact c21 | 22, _ => exact c22 | 23, _ => exact c23 | 24, _ => exact c24 | 25, _ => exact c25 | 26, _ => exact c26 | 27, _ => exact c27 | j + 28, hj => exact absurd hj (by omega))) (by decide) ?_
  exact next _ _ _ _ _ _ _ _ _ _ _ _ _ _ _ _ _ _ _ _ _ _ _ _ _ _ _ _ _ _ _ _ _ _ _ _ _ _ _ _ _ _ _ _ _ _ _ _ _ _ _ _ _ _ _ _ _ _ _ _ _ _ _ _ _ _ _ _ _ _ _ _ _ _ _ _ _ _ _ _ _ _ _ _ _ _ _ _ _ _ hR
set_option maxHeartbeats 40000000 in
set_option maxRecDepth 100000 in
theorem law_loop {hx_t : Nat} {hx_t_chain : Nat} {hx_t_best : Nat} {hx_t_best_known : Nat} {hx_t_chain_worths : Nat} {hx_t_chain_ahead : Nat} {hx_t_chain_cuts : Nat} {hx_t_tape : Nat} {hx_t_tape_bytes : Nat} {hx_t_draft : Nat} {hx_t_draft_worths : Nat} {hx_t_draft_ahead : Nat} {hx_t_draft_cuts : Nat} {hx_t_pieces : Nat} {hx_t_pieces_first : Nat} {hx_t_pieces_size : Nat} {hx_t_pieces_value : Nat} {hx_t_days : Nat} {hx_t_days_dues : Nat} {hx_t_sums : Nat} {hx_t_sums_bits : Nat} {hx_t_sets : Nat} {hx_t_sets_worths : Nat} {hx_t_sets_ends : Nat} {hx_t_sets_order : Nat} {hx_t_sets_notes : Nat} {hx_t_best_far : Nat} {hx_t_choice : Nat} {hx_t_choice_row : Nat} {hx_t_best_rows : Nat} {gx_t_best_rows : Nat → Nat} {hx_t_sets_lookedAt : Nat} {hx_t_delay : Nat} {hx_t_delay_row : Nat} {hx_t_delay_paid : Nat} {hx_t_delay_counts : Nat} {hx_t_imageChain : Nat} {hx_t_imageChain_worths : Nat} {hx_t_imageChain_ahead : Nat} {hx_t_imageChain_cuts : Nat} {hx_t_imageDays : Nat} {hx_t_imageDays_dues : Nat} {hx_t_wanted : Nat} {hx_t_seenRow : Nat} {hx_t_sheets : Nat} {gx_t_sheets : Nat → Nat} {gx_t_sheets_items : Nat → Nat} {hy_t : Nat} {hy_t_w : Nat} {hy_t_firsts : Nat} {hy_t_sizes : Nat} {hy_t_worths : Nat} {hy_t_tape : Nat} {hy_t_readWorths : Nat} {hy_t_dues : Nat} {hy_t_sums : Nat} {hy_t_worthOf : Nat} {hy_t_lies : Nat} {hy_t_pairs : Nat} {hy_t_row : Nat} {hy_t_hands : Nat} {hy_t_lates : Nat} {hy_t_paidOn : Nat} {hy_t_fixed : Nat} {hy_t_lanes : Nat} {hy_t_longs : Nat} {hy_t_used : Nat} {hy_t_items : Nat} {hy_t_hand : Nat} {b L : Nat} {xs : Nat → Int32} (hL : L ≤ 3584) (C : CX p s m args meth c cL_law lw_tbl RL 4 D k A (some .boolean)) (ha : args = #[Value.ref b]) (hAe : A = (fun q : Nat => s.heap.size ≤ q)) (hX : va_X b L xs s s.heap) (hbl : b < s.heap.size) (hbA : ¬ A b) :
    ∀ (n j : Nat), 7 * j ≤ L + 7 → L + 7 < 7 * j + 7 * n → ∀ (x_hasImage : Int32) (x_chain_kind : Int32) (x_chain_links : Int32) (x_chain_cutCount : Int32) (x_best_known : Nat → Int32) (x_chain_worths : Nat → Int32) (x_chain_ahead : Nat → Int32) (x_chain_cuts : Nat → Int32) (x_tape_length : Int32) (x_tape_at : Int32) (x_tape_bytes : Nat → Int32) (x_draft_kind : Int32) (x_draft_links : Int32) (x_draft_cutCount : Int32) (x_draft_worths : Nat → Int32) (x_draft_ahead : Nat → Int32) (x_draft_cuts : Nat → Int32) (x_pieces_count : Int32) (x_pieces_first : Nat → Int32) (x_pieces_size : Nat → Int32) (x_pieces_value : Nat → Int32) (x_days_each : Int32) (x_days_off : Int32) (x_days_twice : Int32) (x_days_dues : Nat → Int32) (x_sums_words : Int32) (x_sums_bits : Nat → Int64) (x_sets_whole : Int32) (x_sets_pieceCount : Int32) (x_sets_lookedBack : Int32) (x_sets_worths : Nat → Int32) (x_sets_ends : Nat → Int32) (x_sets_order : Nat → Int32) (x_sets_notes : Nat → Int32) (x_best_far : Nat → Int32) (x_choice_size : Int32) (x_choice_bound : Int32) (x_choice_row : Nat → Int32) (x_best_rows : Nat → Nat → Int32) (x_sets_lookedAt : Nat → Int32) (x_delay_most : Int64) (x_delay_row : Nat → Int32) (x_delay_paid : Nat → Int64) (x_delay_counts : Nat → Int64) (x_imageChain_kind : Int32) (x_imageChain_links : Int32) (x_imageChain_cutCount : Int32) (x_imageChain_worths : Nat → Int32) (x_imageChain_ahead : Nat → Int32) (x_imageChain_cuts : Nat → Int32) (x_imageDays_each : Int32) (x_imageDays_off : Int32) (x_imageDays_twice : Int32) (x_imageDays_dues : Nat → Int32) (x_wanted : Nat → Int32) (x_seenRow : Nat → Int32) (x_sheets_there : Nat → Int32) (x_sheets_lane : Nat → Int32) (x_sheets_length : Nat → Int32) (x_sheets_items : Nat → Nat → Int64) (y_isKept : Int32) (y_taped : Int32) (y_pieces : Int32) (y_at : Int32) (y_readMany : Int32) (y_readKind : Int32) (y_readCut : Int32) (y_rowSet : Int32) (y_bestSet : Int32) (y_w : Nat → Int32) (y_firsts : Nat → Int32) (y_sizes : Nat → Int32) (y_worths : Nat → Int32) (y_tape : Nat → Int32) (y_readWorths : Nat → Int32) (y_dues : Nat → Int32) (y_sums : Nat → Int64) (y_worthOf : Nat → Int32) (y_lies : Nat → Int32) (y_pairs : Nat → Int32) (y_row : Nat → Int32) (y_hands : Nat → Int32) (y_lates : Nat → Int32) (y_paidOn : Nat → Int64) (y_fixed : Nat → Int32) (y_lanes : Nat → Int32) (y_longs : Nat → Int32) (y_used : Nat → Int32) (y_items : Nat → Int64) (y_hand : Nat → Int64), Rel x_chain_kind x_chain_links x_chain_cutCount x_chain_worths x_chain_ahead x_chain_cuts x_days_each x_days_off x_days_twice x_days_dues x_best_known x_best_far x_best_rows x_hasImage x_imageChain_kind x_imageChain_links x_imageChain_cutCount x_imageChain_worths x_imageChain_ahead x_imageChain_cuts x_imageDays_each x_imageDays_off x_imageDays_twice x_imageDays_dues x_tape_length x_tape_bytes x_sheets_there x_sheets_lane x_sheets_length x_sheets_items x_draft_ahead x_sets_whole x_sets_pieceCount x_sets_lookedBack x_sets_worths x_sets_lookedAt x_sets_ends x_sets_order x_sets_notes y_w y_isKept y_taped y_tape y_lanes y_longs y_items → GG p l e room_1 s m args below meth c (lw_Z below args s) D A 4 79 185710 18 [(0, .ref b), (1, .ref hx_t), (2, .ref hy_t), (3, .int (nI (7 * j)))] [] (W_X10_full k hx_t hx_t_chain hx_t_best hx_t_best_known hx_t_chain_worths hx_t_chain_ahead hx_t_chain_cuts hx_t_tape hx_t_tape_bytes hx_t_draft hx_t_draft_worths hx_t_draft_ahead hx_t_draft_cuts hx_t_pieces hx_t_pieces_first hx_t_pieces_size hx_t_pieces_value hx_t_days hx_t_days_dues hx_t_sums hx_t_sums_bits hx_t_sets hx_t_sets_worths hx_t_sets_ends hx_t_sets_order hx_t_sets_notes hx_t_best_far hx_t_choice hx_t_choice_row hx_t_best_rows gx_t_best_rows hx_t_sets_lookedAt hx_t_delay hx_t_delay_row hx_t_delay_paid hx_t_delay_counts hx_t_imageChain hx_t_imageChain_worths hx_t_imageChain_ahead hx_t_imageChain_cuts hx_t_imageDays hx_t_imageDays_dues hx_t_wanted hx_t_seenRow hx_t_sheets gx_t_sheets gx_t_sheets_items x_hasImage x_chain_kind x_chain_links x_chain_cutCount x_best_known x_chain_worths x_chain_ahead x_chain_cuts x_tape_length x_tape_at x_tape_bytes x_draft_kind x_draft_links x_draft_cutCount x_draft_worths x_draft_ahead x_draft_cuts x_pieces_count x_pieces_first x_pieces_size x_pieces_value x_days_each x_days_off x_days_twice x_days_dues x_sums_words x_sums_bits x_sets_whole x_sets_pieceCount x_sets_lookedBack x_sets_worths x_sets_ends x_sets_order x_sets_notes x_best_far x_choice_size x_choice_bound x_choice_row x_best_rows x_sets_lookedAt x_delay_most x_delay_row x_delay_paid x_delay_counts x_imageChain_kind x_imageChain_links x_imageChain_cutCount x_imageChain_worths x_imageChain_ahead x_imageChain_cuts x_imageDays_each x_imageDays_off x_imageDays_twice x_imageDays_dues x_wanted x_seenRow x_sheets_there x_sheets_lane x_sheets_length x_sheets_items ++ W_X11_full k hy_t hy_t_w hy_t_firsts hy_t_sizes hy_t_worths hy_t_tape hy_t_readWorths hy_t_dues hy_t_sums hy_t_worthOf hy_t_lies hy_t_pairs hy_t_row hy_t_hands hy_t_lates hy_t_paidOn hy_t_fixed hy_t_lanes hy_t_longs hy_t_used hy_t_items hy_t_hand y_isKept y_taped y_pieces y_at y_readMany y_readKind y_readCut y_rowSet y_bestSet y_w y_firsts y_sizes y_worths y_tape y_readWorths y_dues y_sums y_worthOf y_lies y_pairs y_row y_hands y_lates y_paidOn y_fixed y_lanes y_longs y_used y_items y_hand) := by
  intro n
  induction n with
  | zero => intro j h1 h2; exact absurd h2 (by omega)
  | succ n ih =>
    intro j h1 h2 x_hasImage x_chain_kind x_chain_links x_chain_cutCount x_best_known x_chain_worths x_chain_ahead x_chain_cuts x_tape_length x_tape_at x_tape_bytes x_draft_kind x_draft_links x_draft_cutCount x_draft_worths x_draft_ahead x_draft_cuts x_pieces_count x_pieces_first x_pieces_size x_pieces_value x_days_each x_days_off x_days_twice x_days_dues x_sums_words x_sums_bits x_sets_whole x_sets_pieceCount x_sets_lookedBack x_sets_worths x_sets_ends x_sets_order x_sets_notes x_best_far x_choice_size x_choice_bound x_choice_row x_best_rows x_sets_lookedAt x_delay_most x_delay_row x_delay_paid x_delay_counts x_imageChain_kind x_imageChain_links x_imageChain_cutCount x_imageChain_worths x_imageChain_ahead x_imageChain_cuts x_imageDays_each x_imageDays_off x_imageDays_twice x_imageDays_dues x_wanted x_seenRow x_sheets_there x_sheets_lane x_sheets_length x_sheets_items y_isKept y_taped y_pieces y_at y_readMany y_readKind y_readCut y_rowSet y_bestSet y_w y_firsts y_sizes y_worths y_tape y_readWorths y_dues y_sums y_worthOf y_lies y_pairs y_row y_hands y_lates y_paidOn y_fixed y_lanes y_longs y_used y_items y_hand hR
    refine g_iload_n 18 C 3 dL_law_18 rfl rfl ?_
    refine g_aload_n 19 C 0 dL_law_19 rfl rfl ?_
    refine g_slen 20 C hX hbl hbA dL_law_20 ?_
    refine g_bipush 21 C (7 : Int32) dL_law_21 (by decide) ?_
    refine g_isub 23 C dL_law_23 ?_
    have eL : (Int32.ofNat L - 7).toInt = (L : Int) - 7 := pk_sub_toInt (a := L) (b := 7) (by omega) (by decide)
    have ej : (nI (7 * j)).toInt = ((7 * j : Nat) : Int) := nI_toInt (by omega)
    refine g_icmp_gt 24 1052 C dL_law_24 (by decide) (fun c9 => ?_) (fun c9 => ?_)
    · refine g_iconst 1052 C (1 : Int32) dL_law_1052 (by decide) ?_
      intro H locs ls hP hD hS hl
      refine va_forget (fun q hq => by have := hS.2.2 q hq; rw [hAe] at this; exact this) ?_
      refine W.widen (k := 600000) (n := 7302250) (by decide) (by decide) ?_
      subst ha
      exact lw_ret C.1 C.2.1 C.2.2.2.2.2.2.1 C.2.2.2.2.2.2.2.1 dL_law_1053
    · have hlt : 7 * j + 7 ≤ L := by
        have h9 : ¬ (Int32.ofNat L - 7).toInt < (nI (7 * j)).toInt := fun z => c9 (Int32.lt_iff_toInt_lt.mpr z)
        rw [eL, ej] at h9
        omega
      have hin : ∀ d : Nat, d ≤ 6 → vp_in (nI (7 * j) + nI d) L := fun d hd => by rw [nI_add]; exact vp_in_nI (by omega) (by omega)
      refine g_aload_n 27 C 0 dL_law_27 rfl rfl ?_
      refine g_iload_n 28 C 3 dL_law_28 rfl rfl ?_
      refine g_sld 29 C hX hbl hbA (vp_in_nI (by omega) (by omega)) rfl dL_law_29 ?_
      refine g_bipush 30 C (31 : Int32) dL_law_30 (by decide) ?_
      refine g_iand 32 C dL_law_32 ?_
      refine law_step C hX hbl hbA (hin 1 (by decide)) rfl (hin 2 (by decide)) rfl (hin 3 (by decide)) rfl (hin 4 (by decide)) rfl (hin 5 (by decide)) rfl (hin 6 (by decide)) rfl hR ?_
      intro x_hasImage x_chain_kind x_chain_links x_chain_cutCount x_best_known x_chain_worths x_chain_ahead x_chain_cuts x_tape_length x_tape_at x_tape_bytes x_draft_kind x_draft_links x_draft_cutCount x_draft_worths x_draft_ahead x_draft_cuts x_pieces_count x_pieces_first x_pieces_size x_pieces_value x_days_each x_days_off x_days_twice x_days_dues x_sums_words x_sums_bits x_sets_whole x_sets_pieceCount x_sets_lookedBack x_sets_worths x_sets_ends x_sets_order x_sets_notes x_best_far x_choice_size x_choice_bound x_choice_row x_best_rows x_sets_lookedAt x_delay_most x_delay_row x_delay_paid x_delay_counts x_imageChain_kind x_imageChain_links x_imageChain_cutCount x_imageChain_worths x_imageChain_ahead x_imageChain_cuts x_imageDays_each x_imageDays_off x_imageDays_twice x_imageDays_dues x_wanted x_seenRow x_sheets_there x_sheets_lane x_sheets_length x_sheets_items y_isKept y_taped y_pieces y_at y_readMany y_readKind y_readCut y_rowSet y_bestSet y_w y_firsts y_sizes y_worths y_tape y_readWorths y_dues y_sums y_worthOf y_lies y_pairs y_row y_hands y_lates y_paidOn y_fixed y_lanes y_longs y_used y_items y_hand hR
      refine g_iinc 1046 C 3 (7 : Int32) [(3, .int (nI (7 * j) + (7 : Int32))), (0, .ref b), (1, .ref hx_t), (2, .ref hy_t)] dL_law_1046 rfl (by decide) (by decide) rfl ?_
      refine g_goto 1049 18 C dL_law_1049 (by decide) ?_
      have e7 : nI (7 * j) + (7 : Int32) = nI (7 * (j + 1)) := nI_add (7 * j) 7
      rw [e7]
      refine GG.sub (lv' := [(0, .ref b), (1, .ref hx_t), (2, .ref hy_t), (3, .int (nI (7 * (j + 1))))]) [1, 2, 3, 0] rfl ?_
      exact ih (j + 1) (by omega) (by omega) _ _ _ _ _ _ _ _ _ _ _ _ _ _ _ _ _ _ _ _ _ _ _ _ _ _ _ _ _ _ _ _ _ _ _ _ _ _ _ _ _ _ _ _ _ _ _ _ _ _ _ _ _ _ _ _ _ _ _ _ _ _ _ _ _ _ _ _ _ _ _ _ _ _ _ _ _ _ _ _ _ _ _ _ _ _ _ _ _ _ hR
end
set_option maxHeartbeats 40000000 in
set_option maxRecDepth 100000 in
/-- the law, from its entry -/
theorem whole_start {p : Program} {e : Env} {s : State} {m : MethodId} {below : List Frame} {meth : Method} {c : Code} (l : Launch) {b L : Nat} {xs : Nat → Int32} (hL : L ≤ 3584) (C0 : lw_At p s m meth c b L xs) : W p l e room_1 s m #[Value.ref b] below meth c s.heap [] 0 0 (lw_Z below #[Value.ref b] s) (entryFrame m ([Value.ref b] : List Value).toArray 4) := by
  obtain ⟨hx, hb, hr, hml, hown, hts, hX, hbl, hlocks, hgv⟩ := C0
  obtain ⟨rd, hd0, hR⟩ := tq_init
  obtain ⟨D, k, hK, hN⟩ := st_all (A := (fun q : Nat => s.heap.size ≤ q)) hts hgv (fun a h => Nat.not_le.mpr h)
  have C : CX p s m #[Value.ref b] meth c cL_law lw_tbl RL 4 D k (fun q : Nat => s.heap.size ≤ q) (some .boolean) := ⟨hx, hb, hts, hown, hK, hml, hr, hlocks, fun _ h => h, hN⟩
  have hbA : ¬ (fun q : Nat => s.heap.size ≤ q) b := Nat.not_le.mpr hbl
  have hl := lv_entry ([.ref b]) (n := 4) (Nat.le_of_ble_eq_true rfl)
  rw [lg_entry_eq]
  generalize (lg_sl ([.ref b]) ++ List.replicate (4 - (lg_sl ([.ref b])).length) Slot.unset).toArray = ls at hl ⊢
  have hl : lv_has ls 4 [(0, .ref b)] := hl
  suffices G : GG p l e room_1 s m #[Value.ref b] below meth c (lw_Z below #[Value.ref b] s) D (fun q : Nat => s.heap.size ≤ q) 4 0 0 0 [(0, .ref b)] [] [] by
    exact G s.heap [] ls (fun k q h => by simp at h) ⟨fun i j p q h => by simp at h, fun k q h => by simp at h⟩ va_S.rf hl
  refine g_newo (ci := 10) 0 C [.null, .null, .null, .null, .int 0, .null, .null, .null, .null, .null, .null, .null, .null, .null, .null, .null] wi_wsX100 tyX10 tyX10_ok lt_cl_X10 lt_it_X10 lt_ini_X10 rfl (fun j hj => by rcases (show j = 0 ∨ j = 1 ∨ j = 2 ∨ j = 3 ∨ j = 4 ∨ j = 5 ∨ j = 6 ∨ j = 7 ∨ j = 8 ∨ j = 9 ∨ j = 10 ∨ j = 11 ∨ j = 12 ∨ j = 13 ∨ j = 14 ∨ j = 15 by omega) with rfl | rfl | rfl | rfl | rfl | rfl | rfl | rfl | rfl | rfl | rfl | rfl | rfl | rfl | rfl | rfl <;> rfl) (Nat.le_of_ble_eq_true rfl) (Nat.le_of_ble_eq_true rfl) dL_law_0 (fun q1 => ?_)
  refine g_dup 3 C dL_law_3 rfl ?_
  refine g_callI 4 C (As := []) [0] [] (fun sz => k_X10_init q1 rd hd0 sz) gT_X10_init rfl lt_ml_X10 lt_im_X10 lt_ini_X10 rfl pdI_X10_init rfl ⟨rfl, rfl, Nat.le_of_ble_eq_true rfl, Nat.le_of_ble_eq_true rfl⟩ (Nat.le_of_ble_eq_true rfl) ⟨Nat.le_of_ble_eq_true rfl, Nat.le_of_ble_eq_true rfl⟩ rfl rfl rfl rfl (by decide) rfl dL_law_4 (fun u1 => ?_)
  refine g_astore_n 7 C [(1, .ref q1), (0, .ref b)] dL_law_7 rfl (by decide) rfl ?_
  refine g_newo (ci := 11) 8 C [.null, .int 0, .null, .int 0, .null, .null, .null, .int 0, .int 0, .null, .int 0, .int 0, .int 0, .null, .null, .null, .null, .null, .null, .int 0, .int 0, .null, .null, .null, .null, .null, .null, .null, .null, .null] wi_wsX110 tyX11 tyX11_ok lt_cl_X11 lt_it_X11 lt_ini_X11 rfl (fun j hj => by rcases (show j = 0 ∨ j = 1 ∨ j = 2 ∨ j = 3 ∨ j = 4 ∨ j = 5 ∨ j = 6 ∨ j = 7 ∨ j = 8 ∨ j = 9 ∨ j = 10 ∨ j = 11 ∨ j = 12 ∨ j = 13 ∨ j = 14 ∨ j = 15 ∨ j = 16 ∨ j = 17 ∨ j = 18 ∨ j = 19 ∨ j = 20 ∨ j = 21 ∨ j = 22 ∨ j = 23 ∨ j = 24 ∨ j = 25 ∨ j = 26 ∨ j = 27 ∨ j = 28 ∨ j = 29 by omega) with rfl | rfl | rfl | rfl | rfl | rfl | rfl | rfl | rfl | rfl | rfl | rfl | rfl | rfl | rfl | rfl | rfl | rfl | rfl | rfl | rfl | rfl | rfl | rfl | rfl | rfl | rfl | rfl | rfl | rfl <;> rfl) (Nat.le_of_ble_eq_true rfl) (Nat.le_of_ble_eq_true rfl) dL_law_8 (fun q2 => ?_)
  refine g_dup 11 C dL_law_11 rfl ?_
  refine g_callI 12 C (As := []) [57] [0, 1, 2, 3, 4, 5, 6, 7, 8, 9, 10, 11, 12, 13, 14, 15, 16, 17, 18, 19, 20, 21, 22, 23, 24, 25, 26, 27, 28, 29, 30, 31, 32, 33, 34, 35, 36, 37, 38, 39, 40, 41, 42, 43, 44, 45, 46, 47, 48, 49, 50, 51, 52, 53, 54, 55, 56] (fun sz => k_X11_init q2 sz) gT_X11_init rfl lt_ml_X11 lt_im_X11 lt_ini_X11 rfl pdI_X11_init rfl ⟨rfl, rfl, Nat.le_of_ble_eq_true rfl, Nat.le_of_ble_eq_true rfl⟩ (Nat.le_of_ble_eq_true rfl) ⟨Nat.le_of_ble_eq_true rfl, Nat.le_of_ble_eq_true rfl⟩ rfl rfl rfl rfl (by decide) rfl dL_law_12 (fun u2 => ?_)
  refine GG.weq (ws' := (W_X10_full k q1 (u1.1 0) (u1.1 1) (u1.1 2) (u1.1 3) (u1.1 4) (u1.1 5) (u1.1 6) (u1.1 7) (u1.1 8) (u1.1 9) (u1.1 10) (u1.1 11) (u1.1 12) (u1.1 13) (u1.1 14) (u1.1 15) (u1.1 16) (u1.1 17) (u1.1 18) (u1.1 19) (u1.1 20) (u1.1 21) (u1.1 22) (u1.1 23) (u1.1 24) (u1.1 25) (u1.1 26) (u1.1 27) (u1.1 28) u1.2.1 (u1.1 29) (u1.1 30) (u1.1 31) (u1.1 32) (u1.1 33) (u1.1 34) (u1.1 35) (u1.1 36) (u1.1 37) (u1.1 38) (u1.1 39) (u1.1 40) (u1.1 41) (u1.1 42) u1.2.2.1 u1.2.2.2 0 (0 : Int32) chain0.1 0 (fun _ => 0) chain0.2.1 chain0.2.2 (fun _ => 0) 0 0 (fun _ => 0) (0 : Int32) chain0.1 0 chain0.2.1 chain0.2.2 (fun _ => 0) 0 (fun _ => 0) (fun _ => 0) (fun _ => 0) (1 : Int32) 0 0 rd 0 (fun _ => 0) 0 0 0 (fun _ => 0) (fun _ => 0) (fun _ => 0) (fun _ => 0) (fun _ => 0) 0 0 (fun _ => 0) (fun _ => (fun _ => 0)) (fun _ => 0) 0 (fun _ => 0) (fun _ => 0) (fun _ => 0) (0 : Int32) chain0.1 0 chain0.2.1 chain0.2.2 (fun _ => 0) (1 : Int32) 0 0 rd (fun _ => 0) (fun _ => 0) (fun _ => 0) (fun _ => 0) (fun _ => 0) (fun _ => (fun _ => 0))) ++ (W_X11_full k q2 (u2 0) (u2 1) (u2 2) (u2 3) (u2 4) (u2 5) (u2 6) (u2 7) (u2 8) (u2 9) (u2 10) (u2 11) (u2 12) (u2 13) (u2 14) (u2 15) (u2 16) (u2 17) (u2 18) (u2 19) (u2 20) 0 0 0 0 0 0 0 0 0 (upd (upd (upd (fun _ => 0) 1 (1 : Int32)) 2 (1 : Int32)) 27 (1 : Int32)) (fun _ => 0) (fun _ => 0) (fun _ => 0) (fun _ => 0) (fun _ => 0) (fun _ => 0) (fun _ => 0) (fun _ => 0) (fun _ => 0) (fun _ => 0) (fun _ => 0) (fun _ => 0) (fun _ => 0) (fun _ => 0) (fun _ => 0) (upd (upd (upd (upd (fun _ => 0) 0 (-1 : Int32)) 1 (-1 : Int32)) 2 (-1 : Int32)) 3 (-1 : Int32)) (fun _ => 0) (fun _ => 0) (fun _ => 0) (fun _ => 0))) rfl ?_
  refine g_astore_n 15 C [(2, .ref q2), (1, .ref q1), (0, .ref b)] dL_law_15 rfl (by decide) rfl ?_
  refine g_iconst 16 C (0 : Int32) dL_law_16 (by decide) ?_
  refine g_istore_n 17 C [(3, .int (0 : Int32)), (2, .ref q2), (1, .ref q1), (0, .ref b)] dL_law_17 rfl (by decide) rfl ?_
  refine GG.sub (lv' := [(0, .ref b), (1, .ref q1), (2, .ref q2), (3, .int (nI (7 * 0)))]) [3, 2, 1, 0] rfl ?_
  exact law_loop hL C rfl rfl hX hbl hbA (L + 2) 0 (by omega) (by omega) _ _ _ _ _ _ _ _ _ _ _ _ _ _ _ _ _ _ _ _ _ _ _ _ _ _ _ _ _ _ _ _ _ _ _ _ _ _ _ _ _ _ _ _ _ _ _ _ _ _ _ _ _ _ _ _ _ _ _ _ _ _ _ _ _ _ _ _ _ _ _ _ _ _ _ _ _ _ _ _ _ _ _ _ _ _ _ _ _ _ hR
set_option maxHeartbeats 4000000 in
theorem lw_walk (l : Launch) (b : Addr) (xs : List Int32) : MetFree l x (headSpec (Jvm.Cond.code x code maxLocals ret :: tables_1) room_1) (lw_P b xs) (fun _ _ _ _ _ => True) lw_Q := by
  refine MetFree.of_bodyS (code := code) (maxLocals := maxLocals) (ret := ret) (by decide) ?_ ?_
  · intro args s m h hn
    obtain ⟨meth, c, h1, h2, h3, h4, h5, h6, -, -⟩ := Cond.code_spec hn (atoms_spec (ws := Jvm.Cond.code x code maxLocals ret :: tables_1) h _ List.mem_cons_self)
    exact ⟨meth, c, h1, h2, h3, h4, h5, h6⟩
  · intro p e s m args below meth c s₁ B hml0 hP _
    obtain ⟨rfl, hx, hbd, hgv⟩ := hP
    obtain ⟨scr, harrAt, hlist, hof, hsmall⟩ := hx
    obtain ⟨hcb, hkn, -, -⟩ := State.arrayAt?_spec harrAt
    have hown : s.vm.findClass R_law = some m.cls := findClass_of_methodNamed B.named
    have hts0 : ∀ c ∈ (Jvm.Cond.code x code maxLocals ret :: tables_1), c.before #[Value.ref b] s = true := atoms_spec (ws := Jvm.Cond.code x code maxLocals ret :: tables_1) B.pre
    have hts : ∀ w ∈ lw_tbl, w.before #[Value.ref b] s = true := k2_hts_sels lw_privs (fun w hw => hts0 w (List.mem_cons_of_mem _ hw)) lw_privs_ok
    have hml : c.maxLocals = 4 := B.maxLocals_eq (hts0 _ List.mem_cons_self)
    have X₀ : Stand p l e room_1 s m #[Value.ref b] below meth c s₁ [] 0 0 := Stand.of_body B
    have hh0 : s₁.heap = s.heap := by rw [B.state]; rfl
    have hsz : scr.slots.size = xs.length := by rw [← Array.length_toList, hlist, List.length_map]
    have hval : ∀ j : Nat, j < xs.length → scr.slots[j]? = some (.int (xs.getD j 0)) := fun j hj => by
      rw [← Array.getElem?_toList, hlist]
      simp [hj]
    have hbl : b < s.heap.size := (Array.getElem?_eq_some_iff.mp hcb).1
    have hX : va_X b xs.length (fun j => xs.getD j 0) s s.heap := ⟨scr, hcb, hof, hkn, hsz, hval⟩
    have K : W p l e room_1 s m #[Value.ref b] below meth c s₁.heap [] 0 0 (lw_Z below #[Value.ref b] s) (entryFrame m ([Value.ref b] : List Value).toArray 4) := by
      rw [hh0]
      exact whole_start l hbd ⟨B.exec, B.bytes, B.returns, hml, hown, hts, hX, hbl, B.notSynchronized, hgv⟩
    obtain ⟨t, a1, o, b1, b2, b3⟩ := K s₁ rfl X₀
    exact ⟨t, o, a1, b1, b2, b3⟩
theorem lw_pre_spec {args : Array Value} {s : State} (h : (Jvm.Cond.and given_1 narrow_1).before args s = true) (hr : rest_1_c.before args s = true) : ∃ (b : Addr) (xs : List Int32), lw_P b xs args s := by
  have hs := flat_of_before _ h
  have hq := flat_of_before _ hr
  have hc : (Cond.count 1).before args s = true := hs _ (by decide +kernel)
  have harr : (Cond.arrayOf (.arg 0) .int).before args s = true := hs _ (by decide +kernel)
  have hle : (Cond.le (.length (.arg 0)) (.int 3584)).before args s = true := hs _ (by decide +kernel)
  have hlen : (Cond.isInt (.length (.arg 0))).before args s = true := hq _ (by decide +kernel)
  have hall : (Cond.all (.arg 0) (.isInt (.elem (.arg 0) (.index 0)))).before args s = true := hq _ (by decide +kernel)
  obtain ⟨b, xs, hb, hx⟩ := State.ints_of_pre rfl harr hlen hall
  have hsm : xs.length < 2 ^ 31 := hx.choose_spec.2.2.2
  have hev : (Term.length (.arg 0)).eval args s none [] s = some (.int xs.length.toInt32) := hx.length_eval hb
  have hv := Cond.le_ints hev (show (Term.int 3584).eval args s none [] s = some (.int 3584) from rfl)
  have hd : xs.length.toInt32 ≤ 3584 := by
    simpa [Cond.before, Cond.holds, hv] using hle
  have hN : xs.length ≤ 3584 := (Int32.ofNat_le_ofNat hsm (by decide)).mp (show Int32.ofNat xs.length ≤ Int32.ofNat 3584 from hd)
  exact ⟨b, xs, Cond.one_arg hc (show args[0]? = some (.ref b) from hb), hx, hN, h⟩
theorem lw_comes (l : Launch) : Comes l x (Jvm.Cond.code x code maxLocals ret :: tables_1) room_1 (fun tb e args s => Calls_1 tb e args s ∧ rest_1 tb e args s ∧ Pre_1 tb e args s)
    (fun _ _ args s o t => lw_Q args s o t) := by
  intro p e ha hc hk s m args below hf hfit hheap happ hpre
  obtain ⟨b, xs, hP⟩ := lw_pre_spec hpre.2.2 hpre.2.1
  obtain ⟨k, o, h1, h2, h3, hQ⟩ := lw_walk l b xs p e ha hc hk s m args below hf ((Spec.applies_iff_loose hf).mp happ).1 hP trivial
  exact ⟨k, o, h1, h2, h3, hQ⟩
theorem lw_frame {s t : State} {o : Outcome} {args : Array Value} (h : Framed s o t [] 600000 7302250) :
    Framed s o t (fieldLocs frame_1_writes args s ++ arrayLocs frame_1_arrays args s ++ staticLocs frame_1_statics s) 600000 7302250 := h
theorem lw_limb (L : Cond) (hL : ∀ (args : Array Value) (s t : State), L.after args s (.returned (some (.int 1))) t = true) :
    ArmFor flags0 classFile x code maxLocals ret World_1 tables_1 room_1 Calls_1 rest_1 Pre_1
      (fun tb e a s o t => postC L tb e a s o t ∧ Framed s o t (fieldLocs frame_1_writes a s ++ arrayLocs frame_1_arrays a s ++ staticLocs frame_1_statics s) 600000 7302250) := by
  intro l _ _ _ p e ha hc hk s m args below hf hfit hheap happ hpre
  obtain ⟨k, o, h1, h2, h3, rfl, hF⟩ := lw_comes l p e ha hc hk s m args below hf hfit hheap happ hpre
  exact ⟨k, _, h1, h2, h3, hL args s _, lw_frame hF⟩
theorem i_vc : Claimed_1_1 ∧ Claimed_1_2 := ⟨lw_limb limb_1_1 (fun args s t => by simp [limb_1_1, Cond.after, Cond.holds, Cond.value]), lw_limb limb_1_2 (fun args s t => Cond.after_iff.mpr (by
  first | (rw [show limb_1_2 = Cond.eq .result (.int 1) from rfl, Cond.eq_ints (x := 1) (y := 1) rfl rfl]; simp; done) | (simp [limb_1_2, Cond.value, Term.eval]; done)))⟩

