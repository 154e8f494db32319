/-! X11_piece -/
abbrev W_X11_piece (k : Nat → ClassId) (h_t : Nat) (h_t_w : Nat) (h_t_firsts : Nat) (h_t_sizes : Nat) (h_t_worths : Nat) (h_t_tape : Nat) (h_t_readWorths : Nat) (h_t_dues : Nat) (h_t_sums : Nat) (h_t_worthOf : Nat) (h_t_lies : Nat) (h_t_pairs : Nat) (h_t_row : Nat) (h_t_hands : Nat) (h_t_paidOn : Nat) (h_t_lates : Nat) (h_t_fixed : Nat) (h_t_lanes : Nat) (h_t_longs : Nat) (h_t_items : Nat) (h_t_hand : Nat) (h_t_used : Nat) (s_isKept : Int32) (s_taped : Int32) (s_pieces : Int32) (s_at : Int32) (s_readMany : Int32) (s_readKind : Int32) (s_readCut : Int32) (s_rowSet : Int32) (s_bestSet : Int32) (s_w : Nat → Int32) (s_firsts : Nat → Int32) (s_sizes : Nat → Int32) (s_worths : Nat → Int32) : va_W := [(h_t, .inr (11, [.ref h_t_w, .int s_isKept, .ref h_t_tape, .int s_taped, .ref h_t_firsts, .ref h_t_sizes, .ref h_t_worths, .int s_pieces, .int s_at, .ref h_t_readWorths, .int s_readMany, .int s_readKind, .int s_readCut, .ref h_t_dues, .ref h_t_sums, .ref h_t_worthOf, .ref h_t_lies, .ref h_t_pairs, .ref h_t_row, .int s_rowSet, .int s_bestSet, .ref h_t_hands, .ref h_t_paidOn, .ref h_t_lates, .ref h_t_fixed, .ref h_t_lanes, .ref h_t_longs, .ref h_t_items, .ref h_t_hand, .ref h_t_used])), (h_t_w, .inl (k 0, 60, .inl s_w)), (h_t_firsts, .inl (k 0, 24, .inl s_firsts)), (h_t_sizes, .inl (k 0, 24, .inl s_sizes)), (h_t_worths, .inl (k 0, 24, .inl s_worths))]
def rm_X11_piece : Room := { frames := 3, cells := 0, slots := 0, locals := 66 }
theorem in_X11_piece_X11 : ∀ w ∈ u_ws RX11 TX11 30, w ∈ wsX11_piece := by decide +kernel
theorem ct_X11_piece_156 : Cond.constantLong RX11 156 (2 : Int64) ∈ wsX11_piece := by decide +kernel
theorem fl_X11_piece_16 : Cond.fieldLink RX11 16 "LinkDaysModel" "firsts" "[I" ∈ wsX11_piece := by decide +kernel
theorem fl_X11_piece_19 : Cond.fieldLink RX11 19 "LinkDaysModel" "sizes" "[I" ∈ wsX11_piece := by decide +kernel
theorem fl_X11_piece_22 : Cond.fieldLink RX11 22 "LinkDaysModel" "worths" "[I" ∈ wsX11_piece := by decide +kernel
theorem fl_X11_piece_85 : Cond.fieldLink RX11 85 "LinkDaysModel" "pieces" "I" ∈ wsX11_piece := by decide +kernel
theorem pd_X11_piece : yX11_piece.cls = RX11 ∧ yX11_piece.cls ≠ "java/lang/invoke/MethodHandle" ∧ yX11_piece.cls ≠ "java/lang/invoke/VarHandle" ∧ (parseMethodDescriptor yX11_piece.desc).map (fun d => d.parameters.length) = some 2 := by decide +kernel
section
variable {p : Program} {l : Launch} {e : Env} {s : State} {m : MethodId} {args : Array Value} {below : List Frame} {meth : Method} {c : Code} {D : va_G} {k : Nat → ClassId} {A : Nat → Prop} {w0 : va_W} {sz : Nat}
set_option maxHeartbeats 4000000 in
set_option maxRecDepth 100000 in
theorem ok_B_X11_piece_32 {h_t : Nat} {h_t_w : Nat} {h_t_firsts : Nat} {h_t_sizes : Nat} {h_t_worths : Nat} {h_t_tape : Nat} {h_t_readWorths : Nat} {h_t_dues : Nat} {h_t_sums : Nat} {h_t_worthOf : Nat} {h_t_lies : Nat} {h_t_pairs : Nat} {h_t_row : Nat} {h_t_hands : Nat} {h_t_paidOn : Nat} {h_t_lates : Nat} {h_t_fixed : Nat} {h_t_lanes : Nat} {h_t_longs : Nat} {h_t_items : Nat} {h_t_hand : Nat} {h_t_used : Nat} {s_isKept : Int32} {s_taped : Int32} {s_pieces : Int32} {s_at : Int32} {s_readMany : Int32} {s_readKind : Int32} {s_readCut : Int32} {s_rowSet : Int32} {s_bestSet : Int32} {s_w : Nat → Int32} {s_firsts : Nat → Int32} {s_sizes : Nat → Int32} {s_worths : Nat → Int32} {res : Int32 × Int32 × (Nat → Int32) × (Nat → Int32) × (Nat → Int32)} (C : CX p s m args meth c cX11_piece wsX11_piece RX11 3 D k A (some .int)) (hA : A = va_A w0 sz)  (h : B_X11_piece_32 s_pieces s_firsts s_sizes s_worths = some res) : GG p l e rm_X11_piece s m args below meth c (MQ below (cQi D w0 sz res.1 (W_X11_piece k h_t h_t_w h_t_firsts h_t_sizes h_t_worths h_t_tape h_t_readWorths h_t_dues h_t_sums h_t_worthOf h_t_lies h_t_pairs h_t_row h_t_hands h_t_paidOn h_t_lates h_t_fixed h_t_lanes h_t_longs h_t_items h_t_hand h_t_used s_isKept s_taped res.2.1 s_at s_readMany s_readKind s_readCut s_rowSet s_bestSet s_w res.2.2.1 res.2.2.2.1 res.2.2.2.2)) args s 0 0 A) D A 3 0 0 32 [] [] (W_X11_piece k h_t h_t_w h_t_firsts h_t_sizes h_t_worths h_t_tape h_t_readWorths h_t_dues h_t_sums h_t_worthOf h_t_lies h_t_pairs h_t_row h_t_hands h_t_paidOn h_t_lates h_t_fixed h_t_lanes h_t_longs h_t_items h_t_hand h_t_used s_isKept s_taped s_pieces s_at s_readMany s_readKind s_readCut s_rowSet s_bestSet s_w s_firsts s_sizes s_worths) := by
  unfold B_X11_piece_32 at h
  refine g_iconst 32 C (-1 : Int32) dX11_piece_32 (by decide) ?_
  obtain rfl := Option.some.inj h
  exact g_iret 33 C hA rfl dX11_piece_33 rfl
set_option maxHeartbeats 4000000 in
set_option maxRecDepth 100000 in
theorem ok_B_X11_piece_67 {h_t : Nat} {h_t_w : Nat} {h_t_firsts : Nat} {h_t_sizes : Nat} {h_t_worths : Nat} {h_t_tape : Nat} {h_t_readWorths : Nat} {h_t_dues : Nat} {h_t_sums : Nat} {h_t_worthOf : Nat} {h_t_lies : Nat} {h_t_pairs : Nat} {h_t_row : Nat} {h_t_hands : Nat} {h_t_paidOn : Nat} {h_t_lates : Nat} {h_t_fixed : Nat} {h_t_lanes : Nat} {h_t_longs : Nat} {h_t_items : Nat} {h_t_hand : Nat} {h_t_used : Nat} {s_isKept : Int32} {s_taped : Int32} {s_pieces : Int32} {s_at : Int32} {s_readMany : Int32} {s_readKind : Int32} {s_readCut : Int32} {s_rowSet : Int32} {s_bestSet : Int32} {s_w : Nat → Int32} {s_firsts : Nat → Int32} {s_sizes : Nat → Int32} {s_worths : Nat → Int32} {x0 : Int32} {res : Int32 × Int32 × (Nat → Int32) × (Nat → Int32) × (Nat → Int32)} (C : CX p s m args meth c cX11_piece wsX11_piece RX11 3 D k A (some .int)) (hA : A = va_A w0 sz)  (h : B_X11_piece_67 s_pieces s_firsts s_sizes s_worths x0 = some res) : GG p l e rm_X11_piece s m args below meth c (MQ below (cQi D w0 sz res.1 (W_X11_piece k h_t h_t_w h_t_firsts h_t_sizes h_t_worths h_t_tape h_t_readWorths h_t_dues h_t_sums h_t_worthOf h_t_lies h_t_pairs h_t_row h_t_hands h_t_paidOn h_t_lates h_t_fixed h_t_lanes h_t_longs h_t_items h_t_hand h_t_used s_isKept s_taped res.2.1 s_at s_readMany s_readKind s_readCut s_rowSet s_bestSet s_w res.2.2.1 res.2.2.2.1 res.2.2.2.2)) args s 0 0 A) D A 3 0 0 67 [] [.int x0] (W_X11_piece k h_t h_t_w h_t_firsts h_t_sizes h_t_worths h_t_tape h_t_readWorths h_t_dues h_t_sums h_t_worthOf h_t_lies h_t_pairs h_t_row h_t_hands h_t_paidOn h_t_lates h_t_fixed h_t_lanes h_t_longs h_t_items h_t_hand h_t_used s_isKept s_taped s_pieces s_at s_readMany s_readKind s_readCut s_rowSet s_bestSet s_w s_firsts s_sizes s_worths) := by
  unfold B_X11_piece_67 at h
  obtain rfl := Option.some.inj h
  exact g_iret 67 C hA rfl dX11_piece_67 rfl
set_option maxHeartbeats 4000000 in
set_option maxRecDepth 100000 in
theorem k_X11_piece {l : Launch} {D : va_G} {k : Nat → ClassId} (h_t : Nat) (h_t_w : Nat) (h_t_firsts : Nat) (h_t_sizes : Nat) (h_t_worths : Nat) (h_t_tape : Nat) (h_t_readWorths : Nat) (h_t_dues : Nat) (h_t_sums : Nat) (h_t_worthOf : Nat) (h_t_lies : Nat) (h_t_pairs : Nat) (h_t_row : Nat) (h_t_hands : Nat) (h_t_paidOn : Nat) (h_t_lates : Nat) (h_t_fixed : Nat) (h_t_lanes : Nat) (h_t_longs : Nat) (h_t_items : Nat) (h_t_hand : Nat) (h_t_used : Nat) (s_isKept : Int32) (s_taped : Int32) (s_pieces : Int32) (s_at : Int32) (s_readMany : Int32) (s_readKind : Int32) (s_readCut : Int32) (s_rowSet : Int32) (s_bestSet : Int32) (s_w : Nat → Int32) (s_firsts : Nat → Int32) (s_sizes : Nat → Int32) (s_worths : Nat → Int32) (v1 : Int32) (v2 : Int32) (res : Int32 × Int32 × (Nat → Int32) × (Nat → Int32) × (Nat → Int32)) (h : f_X11_piece s_w s_firsts s_sizes s_worths v1 v2 = some res) (sz : Nat) : Met l yX11_piece wsX11_piece rm_X11_piece (cPre D k [.ref h_t, .int v1, .int v2] (W_X11_piece k h_t h_t_w h_t_firsts h_t_sizes h_t_worths h_t_tape h_t_readWorths h_t_dues h_t_sums h_t_worthOf h_t_lies h_t_pairs h_t_row h_t_hands h_t_paidOn h_t_lates h_t_fixed h_t_lanes h_t_longs h_t_items h_t_hand h_t_used s_isKept s_taped s_pieces s_at s_readMany s_readKind s_readCut s_rowSet s_bestSet s_w s_firsts s_sizes s_worths) sz) (cQi D (W_X11_piece k h_t h_t_w h_t_firsts h_t_sizes h_t_worths h_t_tape h_t_readWorths h_t_dues h_t_sums h_t_worthOf h_t_lies h_t_pairs h_t_row h_t_hands h_t_paidOn h_t_lates h_t_fixed h_t_lanes h_t_longs h_t_items h_t_hand h_t_used s_isKept s_taped s_pieces s_at s_readMany s_readKind s_readCut s_rowSet s_bestSet s_w s_firsts s_sizes s_worths) sz res.1 (W_X11_piece k h_t h_t_w h_t_firsts h_t_sizes h_t_worths h_t_tape h_t_readWorths h_t_dues h_t_sums h_t_worthOf h_t_lies h_t_pairs h_t_row h_t_hands h_t_paidOn h_t_lates h_t_fixed h_t_lanes h_t_longs h_t_items h_t_hand h_t_used s_isKept s_taped res.2.1 s_at s_readMany s_readKind s_readCut s_rowSet s_bestSet s_w res.2.2.1 res.2.2.2.1 res.2.2.2.2)) 0 0 (va_A (W_X11_piece k h_t h_t_w h_t_firsts h_t_sizes h_t_worths h_t_tape h_t_readWorths h_t_dues h_t_sums h_t_worthOf h_t_lies h_t_pairs h_t_row h_t_hands h_t_paidOn h_t_lates h_t_fixed h_t_lanes h_t_longs h_t_items h_t_hand h_t_used s_isKept s_taped s_pieces s_at s_readMany s_readKind s_readCut s_rowSet s_bestSet s_w s_firsts s_sizes s_worths) sz) := by
  refine met_of [(0, .ref h_t), (1, .int v1), (2, .int v2)] (by decide) rfl rfl (Nat.le_of_ble_eq_true rfl) rfl ?_
  intro p e s m args below meth c A hA hsz C
  unfold f_X11_piece at h
  refine g_aload_n 0 C 0 dX11_piece_0 rfl rfl ?_
  obtain ⟨q1, e2, h⟩ := bi_e h
  refine g_callVv 1 C (As := []) [0, 1, 2, 3, 4] [] [0, 1, 2, 3, 4] (W_X11_piece k h_t h_t_w h_t_firsts h_t_sizes h_t_worths h_t_tape h_t_readWorths h_t_dues h_t_sums h_t_worthOf h_t_lies h_t_pairs h_t_row h_t_hands h_t_paidOn h_t_lates h_t_fixed h_t_lanes h_t_longs h_t_items h_t_hand h_t_used s_isKept s_taped q1.1 s_at s_readMany s_readKind s_readCut s_rowSet s_bestSet s_w q1.2.1 q1.2.2.1 q1.2.2.2) 0 (fun sz => k_X11_layNow h_t h_t_w h_t_firsts h_t_sizes h_t_worths h_t_tape h_t_readWorths h_t_dues h_t_sums h_t_worthOf h_t_lies h_t_pairs h_t_row h_t_hands h_t_paidOn h_t_lates h_t_fixed h_t_lanes h_t_longs h_t_items h_t_hand h_t_used s_isKept s_taped s_pieces s_at s_readMany s_readKind s_readCut s_rowSet s_bestSet s_w s_firsts s_sizes s_worths q1 e2 sz) gX11_piece_X11_layNow rfl pd_X11_layNow rfl rfl rfl ⟨rfl, rfl, Nat.le_of_ble_eq_true rfl, Nat.le_of_ble_eq_true rfl⟩ (Nat.le_of_ble_eq_true rfl) ⟨Nat.zero_le _, Nat.zero_le _⟩ ⟨rfl, rfl, rfl, rfl, rfl, by decide, rfl⟩ rfl dX11_piece_1 ?_
  refine g_iload_n 4 C 1 dX11_piece_4 rfl rfl ?_
  refine g_i2l 5 C dX11_piece_5 ?_
  refine g_lconst 6 C (0 : Int64) dX11_piece_6 (by decide) ?_
  refine g_aload_n 7 C 0 dX11_piece_7 rfl rfl ?_
  refine g_get 8 C in_X11_piece_X11 0 7 rfl rfl (by decide) fl_X11_piece_85 rfl rfl dX11_piece_8 ?_
  refine g_iconst 11 C (1 : Int32) dX11_piece_11 (by decide) ?_
  refine g_isub 12 C dX11_piece_12 ?_
  refine g_i2l 13 C dX11_piece_13 ?_
  obtain ⟨q3, e4, h⟩ := bi_e h
  refine g_callSi 14 C (As := [.long v1.toInt64, .long (0 : Int64), .long ((q1.1 - (1 : Int32)).toInt64)]) [] [0, 1, 2, 3, 4] [0, 1, 2, 3, 4] (W_X11_piece k h_t h_t_w h_t_firsts h_t_sizes h_t_worths h_t_tape h_t_readWorths h_t_dues h_t_sums h_t_worthOf h_t_lies h_t_pairs h_t_row h_t_hands h_t_paidOn h_t_lates h_t_fixed h_t_lanes h_t_longs h_t_items h_t_hand h_t_used s_isKept s_taped q1.1 s_at s_readMany s_readKind s_readCut s_rowSet s_bestSet s_w q1.2.1 q1.2.2.1 q1.2.2.2) (fun sz => k_X11_in v1.toInt64 (0 : Int64) ((q1.1 - (1 : Int32)).toInt64) q3 e4 sz) gX11_piece_X11_in rfl pd_X11_in rfl ⟨rfl, rfl, Nat.le_of_ble_eq_true rfl, Nat.le_of_ble_eq_true rfl⟩ (Nat.le_of_ble_eq_true rfl) ⟨Nat.zero_le _, Nat.zero_le _⟩ ⟨rfl, rfl, rfl, rfl, rfl, by decide, rfl⟩ rfl dX11_piece_14 ?_
  refine g_if_eq 17 32 C dX11_piece_17 (by decide) (fun c => ?_) (fun c => ?_)
  · replace h := it_e c h
    refine GG.sub (lv' := []) [] rfl ?_
    exact ok_B_X11_piece_32 C hA h
  · replace h := if_e c h
    refine g_iload_n 20 C 2 dX11_piece_20 rfl rfl ?_
    refine g_i2l 21 C dX11_piece_21 ?_
    refine g_lconst 22 C (0 : Int64) dX11_piece_22 (by decide) ?_
    refine g_ldc2 23 C (2 : Int64) dX11_piece_23 ct_X11_piece_156 ?_
    obtain ⟨q5, e6, h⟩ := bi_e h
    refine g_callSi 26 C (As := [.long v2.toInt64, .long (0 : Int64), .long (2 : Int64)]) [] [0, 1, 2, 3, 4] [0, 1, 2, 3, 4] (W_X11_piece k h_t h_t_w h_t_firsts h_t_sizes h_t_worths h_t_tape h_t_readWorths h_t_dues h_t_sums h_t_worthOf h_t_lies h_t_pairs h_t_row h_t_hands h_t_paidOn h_t_lates h_t_fixed h_t_lanes h_t_longs h_t_items h_t_hand h_t_used s_isKept s_taped q1.1 s_at s_readMany s_readKind s_readCut s_rowSet s_bestSet s_w q1.2.1 q1.2.2.1 q1.2.2.2) (fun sz => k_X11_in v2.toInt64 (0 : Int64) (2 : Int64) q5 e6 sz) gX11_piece_X11_in rfl pd_X11_in rfl ⟨rfl, rfl, Nat.le_of_ble_eq_true rfl, Nat.le_of_ble_eq_true rfl⟩ (Nat.le_of_ble_eq_true rfl) ⟨Nat.zero_le _, Nat.zero_le _⟩ ⟨rfl, rfl, rfl, rfl, rfl, by decide, rfl⟩ rfl dX11_piece_26 ?_
    refine g_if_ne 29 34 C dX11_piece_29 (by decide) (fun c => ?_) (fun c => ?_)
    · replace h := if_e c h
      refine g_iload_n 34 C 2 dX11_piece_34 rfl rfl ?_
      refine g_if_ne 35 47 C dX11_piece_35 (by decide) (fun c => ?_) (fun c => ?_)
      · replace h := if_e c h
        refine g_iload_n 47 C 2 dX11_piece_47 rfl rfl ?_
        refine g_iconst 48 C (1 : Int32) dX11_piece_48 (by decide) ?_
        refine g_icmp_ne 49 61 C dX11_piece_49 (by decide) (fun c => ?_) (fun c => ?_)
        · replace h := if_e c h
          refine g_aload_n 61 C 0 dX11_piece_61 rfl rfl ?_
          refine g_get 62 C in_X11_piece_X11 0 6 rfl rfl (by decide) fl_X11_piece_22 rfl rfl dX11_piece_62 ?_
          refine g_iload_n 65 C 1 dX11_piece_65 rfl rfl ?_
          obtain ⟨o7, h⟩ := ob_e h
          refine g_iald 66 C 4 rfl o7 dX11_piece_66 ?_
          refine GG.sub (lv' := []) [] rfl ?_
          exact ok_B_X11_piece_67 C hA h
        · replace h := it_e c h
          refine g_aload_n 52 C 0 dX11_piece_52 rfl rfl ?_
          refine g_get 53 C in_X11_piece_X11 0 5 rfl rfl (by decide) fl_X11_piece_19 rfl rfl dX11_piece_53 ?_
          refine g_iload_n 56 C 1 dX11_piece_56 rfl rfl ?_
          obtain ⟨o8, h⟩ := ob_e h
          refine g_iald 57 C 3 rfl o8 dX11_piece_57 ?_
          refine g_goto 58 67 C dX11_piece_58 (by decide) ?_
          refine GG.sub (lv' := []) [] rfl ?_
          exact ok_B_X11_piece_67 C hA h
      · replace h := it_e c h
        refine g_aload_n 38 C 0 dX11_piece_38 rfl rfl ?_
        refine g_get 39 C in_X11_piece_X11 0 4 rfl rfl (by decide) fl_X11_piece_16 rfl rfl dX11_piece_39 ?_
        refine g_iload_n 42 C 1 dX11_piece_42 rfl rfl ?_
        obtain ⟨o9, h⟩ := ob_e h
        refine g_iald 43 C 2 rfl o9 dX11_piece_43 ?_
        refine g_goto 44 67 C dX11_piece_44 (by decide) ?_
        refine GG.sub (lv' := []) [] rfl ?_
        exact ok_B_X11_piece_67 C hA h
    · replace h := it_e c h
      refine GG.sub (lv' := []) [] rfl ?_
      exact ok_B_X11_piece_32 C hA h
end

/-! X11_atOf -/
abbrev W_X11_atOf (k : Nat → ClassId) : va_W := []
def rm_X11_atOf : Room := { frames := 1, cells := 0, slots := 0, locals := 21 }
theorem pd_X11_atOf : yX11_atOf.cls ≠ "java/lang/invoke/MethodHandle" ∧ yX11_atOf.cls ≠ "java/lang/invoke/VarHandle" ∧ (parseMethodDescriptor yX11_atOf.desc).map (fun d => d.parameters.length) = some 2 := by decide +kernel
section
variable {p : Program} {l : Launch} {e : Env} {s : State} {m : MethodId} {args : Array Value} {below : List Frame} {meth : Method} {c : Code} {D : va_G} {k : Nat → ClassId} {A : Nat → Prop} {w0 : va_W} {sz : Nat}
set_option maxHeartbeats 4000000 in
set_option maxRecDepth 100000 in
theorem ok_L_X11_atOf_4 {v1 : Int32} {res : Int32} (C : CX p s m args meth c cX11_atOf wsX11_atOf RX11 4 D k A (some .int)) (hA : A = va_A w0 sz) {kx : Int32 × Int32 → Option (Int32)} (hx : ∀ t : Int32 × Int32, kx t = some res → GG p l e rm_X11_atOf s m args below meth c (MQ below (cQi D w0 sz res (W_X11_atOf k)) args s 0 0 A) D A 4 0 0 21 [(2, .int t.1)] [] (W_X11_atOf k)) : ∀ (n : Nat) (t : Int32 × Int32), L_X11_atOf_4 v1 kx n t = some res → GG p l e rm_X11_atOf s m args below meth c (MQ below (cQi D w0 sz res (W_X11_atOf k)) args s 0 0 A) D A 4 0 0 4 [(1, .int v1), (2, .int t.1), (3, .int t.2)] [] (W_X11_atOf k) := by
  intro n
  induction n with
  | zero => intro t h; cases h
  | succ n ih =>
    intro t h
    obtain ⟨v2, v3⟩ := t
    replace h : LB_X11_atOf_4 v1 kx (L_X11_atOf_4 v1 kx n) v2 v3 = some res := h
    have hr := ih
    unfold LB_X11_atOf_4 at h
    refine g_iload_n 4 C 2 dX11_atOf_4 rfl rfl ?_
    refine g_iload_n 5 C 0 dX11_atOf_5 rfl rfl ?_
    refine g_icmp_ge 6 21 C dX11_atOf_6 (by decide) (fun c => ?_) (fun c => ?_)
    · replace h := it_e c h
      refine GG.sub (lv' := [(2, .int v2)]) [1] rfl ?_
      exact hx (v2, v3) h
    · replace h := if_e c h
      refine g_iload_n 9 C 1 dX11_atOf_9 rfl rfl ?_
      refine g_iload_n 10 C 1 dX11_atOf_10 rfl rfl ?_
      refine g_iconst 11 C (1 : Int32) dX11_atOf_11 (by decide) ?_
      refine g_isub 12 C dX11_atOf_12 ?_
      refine g_iand 13 C dX11_atOf_13 ?_
      refine g_istore_n 14 C [(2, .int (v2 &&& (v2 - (1 : Int32)))), (1, .int v1), (3, .int v3)] dX11_atOf_14 rfl (by decide) rfl ?_
      refine g_iinc 15 C 2 (1 : Int32) [(3, .int (v3 + (1 : Int32))), (2, .int (v2 &&& (v2 - (1 : Int32)))), (1, .int v1)] dX11_atOf_15 rfl (by decide) (by decide) rfl ?_
      refine g_goto 18 4 C dX11_atOf_18 (by decide) ?_
      refine GG.sub (lv' := [(1, .int v1), (2, .int (v2 &&& (v2 - (1 : Int32)))), (3, .int (v3 + (1 : Int32)))]) [2, 1, 0] rfl ?_
      exact hr ((v2 &&& (v2 - (1 : Int32))), (v3 + (1 : Int32))) h
set_option maxHeartbeats 4000000 in
set_option maxRecDepth 100000 in
theorem ok_L_X11_atOf_23 {v2 : Int32} {res : Int32} (C : CX p s m args meth c cX11_atOf wsX11_atOf RX11 4 D k A (some .int)) (hA : A = va_A w0 sz) {kx : Int32 → Option (Int32)} (hx : ∀ t : Int32, kx t = some res → GG p l e rm_X11_atOf s m args below meth c (MQ below (cQi D w0 sz res (W_X11_atOf k)) args s 0 0 A) D A 4 0 0 37 [(3, .int t)] [] (W_X11_atOf k)) : ∀ (n : Nat) (t : Int32), L_X11_atOf_23 v2 kx n t = some res → GG p l e rm_X11_atOf s m args below meth c (MQ below (cQi D w0 sz res (W_X11_atOf k)) args s 0 0 A) D A 4 0 0 23 [(2, .int v2), (3, .int t)] [] (W_X11_atOf k) := by
  intro n
  induction n with
  | zero => intro t h; cases h
  | succ n ih =>
    intro t h
    obtain ⟨v3, rfl⟩ : ∃ z, z = t := ⟨_, rfl⟩
    replace h : LB_X11_atOf_23 v2 kx (L_X11_atOf_23 v2 kx n) v3 = some res := h
    have hr := ih
    unfold LB_X11_atOf_23 at h
    refine g_iload_n 23 C 0 dX11_atOf_23 rfl rfl ?_
    refine g_iload_n 24 C 1 dX11_atOf_24 rfl rfl ?_
    obtain ⟨q1, e2, h⟩ := bi_e h
    refine g_callSi 25 C (As := [.int v2, .int v3]) [] [] [] (W_X11_atOf k) (fun sz => k_X11_has v2 v3 q1 e2 sz) gX11_atOf_X11_has rfl pd_X11_has rfl ⟨rfl, rfl, Nat.le_of_ble_eq_true rfl, Nat.le_of_ble_eq_true rfl⟩ (Nat.le_of_ble_eq_true rfl) ⟨Nat.zero_le _, Nat.zero_le _⟩ ⟨rfl, rfl, rfl, rfl, rfl, by decide, rfl⟩ rfl dX11_atOf_25 ?_
    refine g_if_ne 28 37 C dX11_atOf_28 (by decide) (fun c => ?_) (fun c => ?_)
    · replace h := if_e c h
      refine GG.sub (lv' := [(3, .int v3)]) [1] rfl ?_
      exact hx v3 h
    · replace h := it_e c h
      refine g_iinc 31 C 1 (1 : Int32) [(3, .int (v3 + (1 : Int32))), (2, .int v2)] dX11_atOf_31 rfl (by decide) (by decide) rfl ?_
      refine g_goto 34 23 C dX11_atOf_34 (by decide) ?_
      refine GG.sub (lv' := [(2, .int v2), (3, .int (v3 + (1 : Int32)))]) [1, 0] rfl ?_
      exact hr (v3 + (1 : Int32)) h
set_option maxHeartbeats 4000000 in
set_option maxRecDepth 100000 in
theorem ok_B_X11_atOf_37 {v3 : Int32} {res : Int32} (C : CX p s m args meth c cX11_atOf wsX11_atOf RX11 4 D k A (some .int)) (hA : A = va_A w0 sz)  (h : B_X11_atOf_37 v3 = some res) : GG p l e rm_X11_atOf s m args below meth c (MQ below (cQi D w0 sz res (W_X11_atOf k)) args s 0 0 A) D A 4 0 0 37 [(3, .int v3)] [] (W_X11_atOf k) := by
  unfold B_X11_atOf_37 at h
  refine g_iload_n 37 C 0 dX11_atOf_37 rfl rfl ?_
  obtain rfl := Option.some.inj h
  exact g_iret 38 C hA rfl dX11_atOf_38 rfl
set_option maxHeartbeats 4000000 in
set_option maxRecDepth 100000 in
theorem ok_B_X11_atOf_21 {v2 : Int32} {res : Int32} (C : CX p s m args meth c cX11_atOf wsX11_atOf RX11 4 D k A (some .int)) (hA : A = va_A w0 sz)  (h : B_X11_atOf_21 v2 = some res) : GG p l e rm_X11_atOf s m args below meth c (MQ below (cQi D w0 sz res (W_X11_atOf k)) args s 0 0 A) D A 4 0 0 21 [(2, .int v2)] [] (W_X11_atOf k) := by
  unfold B_X11_atOf_21 at h
  refine g_iconst 21 C (0 : Int32) dX11_atOf_21 (by decide) ?_
  refine g_istore_n 22 C [(3, .int (0 : Int32)), (2, .int v2)] dX11_atOf_22 rfl (by decide) rfl ?_
  refine GG.sub (lv' := [(2, .int v2), (3, .int (0 : Int32))]) [1, 0] rfl ?_
  exact ok_L_X11_atOf_23 C hA (fun t h => by
    refine GG.sub (lv' := [(3, .int t)]) [0] rfl ?_
    exact ok_B_X11_atOf_37 C hA h) FUEL (0 : Int32) h
set_option maxHeartbeats 4000000 in
set_option maxRecDepth 100000 in
theorem k_X11_atOf {l : Launch} {D : va_G} {k : Nat → ClassId} (v0 : Int32) (v1 : Int32) (res : Int32) (h : f_X11_atOf v0 v1 = some res) (sz : Nat) : Met l yX11_atOf wsX11_atOf rm_X11_atOf (cPre D k [.int v0, .int v1] (W_X11_atOf k) sz) (cQi D (W_X11_atOf k) sz res (W_X11_atOf k)) 0 0 (va_A (W_X11_atOf k) sz) := by
  refine met_of [(0, .int v0), (1, .int v1)] (by decide) rfl rfl (Nat.le_of_ble_eq_true rfl) rfl ?_
  intro p e s m args below meth c A hA hsz C
  unfold f_X11_atOf at h
  refine g_iload_n 0 C 0 dX11_atOf_0 rfl rfl ?_
  refine g_istore_n 1 C [(2, .int v0), (0, .int v0), (1, .int v1)] dX11_atOf_1 rfl (by decide) rfl ?_
  refine g_iconst 2 C (0 : Int32) dX11_atOf_2 (by decide) ?_
  refine g_istore_n 3 C [(3, .int (0 : Int32)), (2, .int v0), (0, .int v0), (1, .int v1)] dX11_atOf_3 rfl (by decide) rfl ?_
  refine GG.sub (lv' := [(1, .int v1), (2, .int v0), (3, .int (0 : Int32))]) [3, 1, 0] rfl ?_
  exact ok_L_X11_atOf_4 C hA (fun t h => by
    refine GG.sub (lv' := [(2, .int t.1)]) [0] rfl ?_
    exact ok_B_X11_atOf_21 C hA h) FUEL (v0, (0 : Int32)) h
end

/-! X11_notch -/
abbrev W_X11_notch (k : Nat → ClassId) (h_t : Nat) (h_t_w : Nat) (h_t_tape : Nat) (h_t_firsts : Nat) (h_t_sizes : Nat) (h_t_worths : Nat) (h_t_readWorths : Nat) (h_t_dues : Nat) (h_t_sums : Nat) (h_t_worthOf : Nat) (h_t_lies : Nat) (h_t_pairs : Nat) (h_t_row : Nat) (h_t_hands : Nat) (h_t_paidOn : Nat) (h_t_lates : Nat) (h_t_fixed : Nat) (h_t_lanes : Nat) (h_t_longs : Nat) (h_t_items : Nat) (h_t_hand : Nat) (h_t_used : Nat) (s_isKept : Int32) (s_taped : Int32) (s_pieces : Int32) (s_at : Int32) (s_readMany : Int32) (s_readKind : Int32) (s_readCut : Int32) (s_rowSet : Int32) (s_bestSet : Int32) (s_w : Nat → Int32) : va_W := [(h_t, .inr (11, [.ref h_t_w, .int s_isKept, .ref h_t_tape, .int s_taped, .ref h_t_firsts, .ref h_t_sizes, .ref h_t_worths, .int s_pieces, .int s_at, .ref h_t_readWorths, .int s_readMany, .int s_readKind, .int s_readCut, .ref h_t_dues, .ref h_t_sums, .ref h_t_worthOf, .ref h_t_lies, .ref h_t_pairs, .ref h_t_row, .int s_rowSet, .int s_bestSet, .ref h_t_hands, .ref h_t_paidOn, .ref h_t_lates, .ref h_t_fixed, .ref h_t_lanes, .ref h_t_longs, .ref h_t_items, .ref h_t_hand, .ref h_t_used])), (h_t_w, .inl (k 0, 60, .inl s_w))]
def rm_X11_notch : Room := { frames := 2, cells := 0, slots := 0, locals := 44 }
theorem in_X11_notch_X11 : ∀ w ∈ u_ws RX11 TX11 30, w ∈ wsX11_notch := by decide +kernel
theorem fl_X11_notch_7 : Cond.fieldLink RX11 7 "LinkDaysModel" "w" "[I" ∈ wsX11_notch := by decide +kernel
theorem pd_X11_notch : yX11_notch.cls = RX11 ∧ yX11_notch.cls ≠ "java/lang/invoke/MethodHandle" ∧ yX11_notch.cls ≠ "java/lang/invoke/VarHandle" ∧ (parseMethodDescriptor yX11_notch.desc).map (fun d => d.parameters.length) = some 1 := by decide +kernel
section
variable {p : Program} {l : Launch} {e : Env} {s : State} {m : MethodId} {args : Array Value} {below : List Frame} {meth : Method} {c : Code} {D : va_G} {k : Nat → ClassId} {A : Nat → Prop} {w0 : va_W} {sz : Nat}
set_option maxHeartbeats 4000000 in
set_option maxRecDepth 100000 in
theorem ok_B_X11_notch_37 {h_t : Nat} {h_t_w : Nat} {h_t_tape : Nat} {h_t_firsts : Nat} {h_t_sizes : Nat} {h_t_worths : Nat} {h_t_readWorths : Nat} {h_t_dues : Nat} {h_t_sums : Nat} {h_t_worthOf : Nat} {h_t_lies : Nat} {h_t_pairs : Nat} {h_t_row : Nat} {h_t_hands : Nat} {h_t_paidOn : Nat} {h_t_lates : Nat} {h_t_fixed : Nat} {h_t_lanes : Nat} {h_t_longs : Nat} {h_t_items : Nat} {h_t_hand : Nat} {h_t_used : Nat} {s_isKept : Int32} {s_taped : Int32} {s_pieces : Int32} {s_at : Int32} {s_readMany : Int32} {s_readKind : Int32} {s_readCut : Int32} {s_rowSet : Int32} {s_bestSet : Int32} {s_w : Nat → Int32} {x0 : Int32} {res : Int32} (C : CX p s m args meth c cX11_notch wsX11_notch RX11 2 D k A (some .int)) (hA : A = va_A w0 sz)  (h : B_X11_notch_37 x0 = some res) : GG p l e rm_X11_notch s m args below meth c (MQ below (cQi D w0 sz res (W_X11_notch k h_t h_t_w h_t_tape h_t_firsts h_t_sizes h_t_worths h_t_readWorths h_t_dues h_t_sums h_t_worthOf h_t_lies h_t_pairs h_t_row h_t_hands h_t_paidOn h_t_lates h_t_fixed h_t_lanes h_t_longs h_t_items h_t_hand h_t_used s_isKept s_taped s_pieces s_at s_readMany s_readKind s_readCut s_rowSet s_bestSet s_w)) args s 0 0 A) D A 2 0 0 37 [] [.int x0] (W_X11_notch k h_t h_t_w h_t_tape h_t_firsts h_t_sizes h_t_worths h_t_readWorths h_t_dues h_t_sums h_t_worthOf h_t_lies h_t_pairs h_t_row h_t_hands h_t_paidOn h_t_lates h_t_fixed h_t_lanes h_t_longs h_t_items h_t_hand h_t_used s_isKept s_taped s_pieces s_at s_readMany s_readKind s_readCut s_rowSet s_bestSet s_w) := by
  unfold B_X11_notch_37 at h
  obtain rfl := Option.some.inj h
  exact g_iret 37 C hA rfl dX11_notch_37 rfl
set_option maxHeartbeats 4000000 in
set_option maxRecDepth 100000 in
theorem k_X11_notch {l : Launch} {D : va_G} {k : Nat → ClassId} (h_t : Nat) (h_t_w : Nat) (h_t_tape : Nat) (h_t_firsts : Nat) (h_t_sizes : Nat) (h_t_worths : Nat) (h_t_readWorths : Nat) (h_t_dues : Nat) (h_t_sums : Nat) (h_t_worthOf : Nat) (h_t_lies : Nat) (h_t_pairs : Nat) (h_t_row : Nat) (h_t_hands : Nat) (h_t_paidOn : Nat) (h_t_lates : Nat) (h_t_fixed : Nat) (h_t_lanes : Nat) (h_t_longs : Nat) (h_t_items : Nat) (h_t_hand : Nat) (h_t_used : Nat) (s_isKept : Int32) (s_taped : Int32) (s_pieces : Int32) (s_at : Int32) (s_readMany : Int32) (s_readKind : Int32) (s_readCut : Int32) (s_rowSet : Int32) (s_bestSet : Int32) (s_w : Nat → Int32) (v1 : Int32) (res : Int32) (h : f_X11_notch s_w v1 = some res) (sz : Nat) : Met l yX11_notch wsX11_notch rm_X11_notch (cPre D k [.ref h_t, .int v1] (W_X11_notch k h_t h_t_w h_t_tape h_t_firsts h_t_sizes h_t_worths h_t_readWorths h_t_dues h_t_sums h_t_worthOf h_t_lies h_t_pairs h_t_row h_t_hands h_t_paidOn h_t_lates h_t_fixed h_t_lanes h_t_longs h_t_items h_t_hand h_t_used s_isKept s_taped s_pieces s_at s_readMany s_readKind s_readCut s_rowSet s_bestSet s_w) sz) (cQi D (W_X11_notch k h_t h_t_w h_t_tape h_t_firsts h_t_sizes h_t_worths h_t_readWorths h_t_dues h_t_sums h_t_worthOf h_t_lies h_t_pairs h_t_row h_t_hands h_t_paidOn h_t_lates h_t_fixed h_t_lanes h_t_longs h_t_items h_t_hand h_t_used s_isKept s_taped s_pieces s_at s_readMany s_readKind s_readCut s_rowSet s_bestSet s_w) sz res (W_X11_notch k h_t h_t_w h_t_tape h_t_firsts h_t_sizes h_t_worths h_t_readWorths h_t_dues h_t_sums h_t_worthOf h_t_lies h_t_pairs h_t_row h_t_hands h_t_paidOn h_t_lates h_t_fixed h_t_lanes h_t_longs h_t_items h_t_hand h_t_used s_isKept s_taped s_pieces s_at s_readMany s_readKind s_readCut s_rowSet s_bestSet s_w)) 0 0 (va_A (W_X11_notch k h_t h_t_w h_t_tape h_t_firsts h_t_sizes h_t_worths h_t_readWorths h_t_dues h_t_sums h_t_worthOf h_t_lies h_t_pairs h_t_row h_t_hands h_t_paidOn h_t_lates h_t_fixed h_t_lanes h_t_longs h_t_items h_t_hand h_t_used s_isKept s_taped s_pieces s_at s_readMany s_readKind s_readCut s_rowSet s_bestSet s_w) sz) := by
  refine met_of [(0, .ref h_t), (1, .int v1)] (by decide) rfl rfl (Nat.le_of_ble_eq_true rfl) rfl ?_
  intro p e s m args below meth c A hA hsz C
  unfold f_X11_notch at h
  refine g_iload_n 0 C 1 dX11_notch_0 rfl rfl ?_
  refine g_i2l 1 C dX11_notch_1 ?_
  refine g_lconst 2 C (0 : Int64) dX11_notch_2 (by decide) ?_
  refine g_aload_n 3 C 0 dX11_notch_3 rfl rfl ?_
  refine g_get 4 C in_X11_notch_X11 0 0 rfl rfl (by decide) fl_X11_notch_7 rfl rfl dX11_notch_4 ?_
  refine g_bipush 7 C (26 : Int32) dX11_notch_7 (by decide) ?_
  obtain ⟨o1, h⟩ := ob_e h
  refine g_iald 9 C 1 rfl o1 dX11_notch_9 ?_
  obtain ⟨q2, e3, h⟩ := bi_e h
  refine g_callSi 10 C (As := [.int (s_w (26 : Int32).toNatClampNeg)]) [] [0, 1] [0, 1] (W_X11_notch k h_t h_t_w h_t_tape h_t_firsts h_t_sizes h_t_worths h_t_readWorths h_t_dues h_t_sums h_t_worthOf h_t_lies h_t_pairs h_t_row h_t_hands h_t_paidOn h_t_lates h_t_fixed h_t_lanes h_t_longs h_t_items h_t_hand h_t_used s_isKept s_taped s_pieces s_at s_readMany s_readKind s_readCut s_rowSet s_bestSet s_w) (fun sz => k_X11_ones (s_w (26 : Int32).toNatClampNeg) q2 e3 sz) gX11_notch_X11_ones rfl pd_X11_ones rfl ⟨rfl, rfl, Nat.le_of_ble_eq_true rfl, Nat.le_of_ble_eq_true rfl⟩ (Nat.le_of_ble_eq_true rfl) ⟨Nat.zero_le _, Nat.zero_le _⟩ ⟨rfl, rfl, rfl, rfl, rfl, by decide, rfl⟩ rfl dX11_notch_10 ?_
  refine g_iconst 13 C (1 : Int32) dX11_notch_13 (by decide) ?_
  refine g_isub 14 C dX11_notch_14 ?_
  refine g_i2l 15 C dX11_notch_15 ?_
  obtain ⟨q4, e5, h⟩ := bi_e h
  refine g_callSi 16 C (As := [.long v1.toInt64, .long (0 : Int64), .long ((q2 - (1 : Int32)).toInt64)]) [] [0, 1] [0, 1] (W_X11_notch k h_t h_t_w h_t_tape h_t_firsts h_t_sizes h_t_worths h_t_readWorths h_t_dues h_t_sums h_t_worthOf h_t_lies h_t_pairs h_t_row h_t_hands h_t_paidOn h_t_lates h_t_fixed h_t_lanes h_t_longs h_t_items h_t_hand h_t_used s_isKept s_taped s_pieces s_at s_readMany s_readKind s_readCut s_rowSet s_bestSet s_w) (fun sz => k_X11_in v1.toInt64 (0 : Int64) ((q2 - (1 : Int32)).toInt64) q4 e5 sz) gX11_notch_X11_in rfl pd_X11_in rfl ⟨rfl, rfl, Nat.le_of_ble_eq_true rfl, Nat.le_of_ble_eq_true rfl⟩ (Nat.le_of_ble_eq_true rfl) ⟨Nat.zero_le _, Nat.zero_le _⟩ ⟨rfl, rfl, rfl, rfl, rfl, by decide, rfl⟩ rfl dX11_notch_16 ?_
  refine g_if_eq 19 36 C dX11_notch_19 (by decide) (fun c => ?_) (fun c => ?_)
  · replace h := it_e c h
    refine g_iconst 36 C (-1 : Int32) dX11_notch_36 (by decide) ?_
    refine GG.sub (lv' := []) [] rfl ?_
    exact ok_B_X11_notch_37 C hA h
  · replace h := if_e c h
    refine g_aload_n 22 C 0 dX11_notch_22 rfl rfl ?_
    refine g_get 23 C in_X11_notch_X11 0 0 rfl rfl (by decide) fl_X11_notch_7 rfl rfl dX11_notch_23 ?_
    refine g_bipush 26 C (26 : Int32) dX11_notch_26 (by decide) ?_
    obtain ⟨o6, h⟩ := ob_e h
    refine g_iald 28 C 1 rfl o6 dX11_notch_28 ?_
    refine g_iload_n 29 C 1 dX11_notch_29 rfl rfl ?_
    obtain ⟨q7, e8, h⟩ := bi_e h
    refine g_callSi 30 C (As := [.int (s_w (26 : Int32).toNatClampNeg), .int v1]) [] [0, 1] [0, 1] (W_X11_notch k h_t h_t_w h_t_tape h_t_firsts h_t_sizes h_t_worths h_t_readWorths h_t_dues h_t_sums h_t_worthOf h_t_lies h_t_pairs h_t_row h_t_hands h_t_paidOn h_t_lates h_t_fixed h_t_lanes h_t_longs h_t_items h_t_hand h_t_used s_isKept s_taped s_pieces s_at s_readMany s_readKind s_readCut s_rowSet s_bestSet s_w) (fun sz => k_X11_atOf (s_w (26 : Int32).toNatClampNeg) v1 q7 e8 sz) gX11_notch_X11_atOf rfl pd_X11_atOf rfl ⟨rfl, rfl, Nat.le_of_ble_eq_true rfl, Nat.le_of_ble_eq_true rfl⟩ (Nat.le_of_ble_eq_true rfl) ⟨Nat.zero_le _, Nat.zero_le _⟩ ⟨rfl, rfl, rfl, rfl, rfl, by decide, rfl⟩ rfl dX11_notch_30 ?_
    refine g_goto 33 37 C dX11_notch_33 (by decide) ?_
    refine GG.sub (lv' := []) [] rfl ?_
    exact ok_B_X11_notch_37 C hA h
end

/-! X11_rate -/
abbrev W_X11_rate (k : Nat → ClassId) (h_t : Nat) (h_t_w : Nat) (h_t_tape : Nat) (h_t_firsts : Nat) (h_t_sizes : Nat) (h_t_worths : Nat) (h_t_readWorths : Nat) (h_t_dues : Nat) (h_t_sums : Nat) (h_t_worthOf : Nat) (h_t_lies : Nat) (h_t_pairs : Nat) (h_t_row : Nat) (h_t_hands : Nat) (h_t_paidOn : Nat) (h_t_lates : Nat) (h_t_fixed : Nat) (h_t_lanes : Nat) (h_t_longs : Nat) (h_t_items : Nat) (h_t_hand : Nat) (h_t_used : Nat) (s_isKept : Int32) (s_taped : Int32) (s_pieces : Int32) (s_at : Int32) (s_readMany : Int32) (s_readKind : Int32) (s_readCut : Int32) (s_rowSet : Int32) (s_bestSet : Int32) (s_w : Nat → Int32) : va_W := [(h_t, .inr (11, [.ref h_t_w, .int s_isKept, .ref h_t_tape, .int s_taped, .ref h_t_firsts, .ref h_t_sizes, .ref h_t_worths, .int s_pieces, .int s_at, .ref h_t_readWorths, .int s_readMany, .int s_readKind, .int s_readCut, .ref h_t_dues, .ref h_t_sums, .ref h_t_worthOf, .ref h_t_lies, .ref h_t_pairs, .ref h_t_row, .int s_rowSet, .int s_bestSet, .ref h_t_hands, .ref h_t_paidOn, .ref h_t_lates, .ref h_t_fixed, .ref h_t_lanes, .ref h_t_longs, .ref h_t_items, .ref h_t_hand, .ref h_t_used])), (h_t_w, .inl (k 0, 60, .inl s_w))]
def rm_X11_rate : Room := { frames := 1, cells := 0, slots := 0, locals := 25 }
theorem in_X11_rate_X11 : ∀ w ∈ u_ws RX11 TX11 30, w ∈ wsX11_rate := by decide +kernel
theorem ct_X11_rate_102 : Cond.constantLong RX11 102 (9 : Int64) ∈ wsX11_rate := by decide +kernel
theorem ct_X11_rate_156 : Cond.constantLong RX11 156 (2 : Int64) ∈ wsX11_rate := by decide +kernel
theorem ct_X11_rate_162 : Cond.constantLong RX11 162 (127 : Int64) ∈ wsX11_rate := by decide +kernel
theorem fl_X11_rate_7 : Cond.fieldLink RX11 7 "LinkDaysModel" "w" "[I" ∈ wsX11_rate := by decide +kernel
theorem pd_X11_rate : yX11_rate.cls = RX11 ∧ yX11_rate.cls ≠ "java/lang/invoke/MethodHandle" ∧ yX11_rate.cls ≠ "java/lang/invoke/VarHandle" ∧ (parseMethodDescriptor yX11_rate.desc).map (fun d => d.parameters.length) = some 2 := by decide +kernel
section
variable {p : Program} {l : Launch} {e : Env} {s : State} {m : MethodId} {args : Array Value} {below : List Frame} {meth : Method} {c : Code} {D : va_G} {k : Nat → ClassId} {A : Nat → Prop} {w0 : va_W} {sz : Nat}
set_option maxHeartbeats 4000000 in
set_option maxRecDepth 100000 in
theorem ok_B_X11_rate_45 {h_t : Nat} {h_t_w : Nat} {h_t_tape : Nat} {h_t_firsts : Nat} {h_t_sizes : Nat} {h_t_worths : Nat} {h_t_readWorths : Nat} {h_t_dues : Nat} {h_t_sums : Nat} {h_t_worthOf : Nat} {h_t_lies : Nat} {h_t_pairs : Nat} {h_t_row : Nat} {h_t_hands : Nat} {h_t_paidOn : Nat} {h_t_lates : Nat} {h_t_fixed : Nat} {h_t_lanes : Nat} {h_t_longs : Nat} {h_t_items : Nat} {h_t_hand : Nat} {h_t_used : Nat} {s_isKept : Int32} {s_taped : Int32} {s_pieces : Int32} {s_at : Int32} {s_readMany : Int32} {s_readKind : Int32} {s_readCut : Int32} {s_rowSet : Int32} {s_bestSet : Int32} {s_w : Nat → Int32} {v1 : Int32} {v2 : Int32} {x0 : Int32} {res : Int32 × (Nat → Int32)} (C : CX p s m args meth c cX11_rate wsX11_rate RX11 5 D k A (some .int)) (hA : A = va_A w0 sz)  (h : B_X11_rate_45 s_w v1 v2 x0 = some res) : GG p l e rm_X11_rate s m args below meth c (MQ below (cQi D w0 sz res.1 (W_X11_rate k h_t h_t_w h_t_tape h_t_firsts h_t_sizes h_t_worths h_t_readWorths h_t_dues h_t_sums h_t_worthOf h_t_lies h_t_pairs h_t_row h_t_hands h_t_paidOn h_t_lates h_t_fixed h_t_lanes h_t_longs h_t_items h_t_hand h_t_used s_isKept s_taped s_pieces s_at s_readMany s_readKind s_readCut s_rowSet s_bestSet res.2)) args s 0 0 A) D A 5 0 0 45 [(0, .ref h_t), (1, .int v1), (2, .int v2)] [.int x0] (W_X11_rate k h_t h_t_w h_t_tape h_t_firsts h_t_sizes h_t_worths h_t_readWorths h_t_dues h_t_sums h_t_worthOf h_t_lies h_t_pairs h_t_row h_t_hands h_t_paidOn h_t_lates h_t_fixed h_t_lanes h_t_longs h_t_items h_t_hand h_t_used s_isKept s_taped s_pieces s_at s_readMany s_readKind s_readCut s_rowSet s_bestSet s_w) := by
  unfold B_X11_rate_45 at h
  refine g_istore_n 45 C [(3, .int x0), (0, .ref h_t), (1, .int v1), (2, .int v2)] dX11_rate_45 rfl (by decide) rfl ?_
  refine g_iload_n 46 C 0 dX11_rate_46 rfl rfl ?_
  refine g_if_ne 47 52 C dX11_rate_47 (by decide) (fun c => ?_) (fun c => ?_)
  · replace h := if_e c h
    refine g_aload_n 52 C 1 dX11_rate_52 rfl rfl ?_
    refine g_get 53 C in_X11_rate_X11 0 0 rfl rfl (by decide) fl_X11_rate_7 rfl rfl dX11_rate_53 ?_
    refine g_bipush 56 C (27 : Int32) dX11_rate_56 (by decide) ?_
    refine g_iload_n 58 C 2 dX11_rate_58 rfl rfl ?_
    refine g_iadd 59 C dX11_rate_59 ?_
    obtain ⟨o3, h⟩ := ob_e h
    refine g_iald 60 C 1 rfl o3 dX11_rate_60 ?_
    refine g_istore 61 C [(4, .int (s_w ((27 : Int32) + v1).toNatClampNeg)), (3, .int x0), (0, .ref h_t), (1, .int v1), (2, .int v2)] dX11_rate_61 (by decide) rfl ?_
    refine g_aload_n 63 C 2 dX11_rate_63 rfl rfl ?_
    refine g_get 64 C in_X11_rate_X11 0 0 rfl rfl (by decide) fl_X11_rate_7 rfl rfl dX11_rate_64 ?_
    refine g_bipush 67 C (27 : Int32) dX11_rate_67 (by decide) ?_
    refine g_iload_n 69 C 3 dX11_rate_69 rfl rfl ?_
    refine g_iadd 70 C dX11_rate_70 ?_
    refine g_iload_n 71 C 4 dX11_rate_71 rfl rfl ?_
    obtain ⟨o4, h⟩ := ob_e h
    refine g_iast 72 C (W_X11_rate k h_t h_t_w h_t_tape h_t_firsts h_t_sizes h_t_worths h_t_readWorths h_t_dues h_t_sums h_t_worthOf h_t_lies h_t_pairs h_t_row h_t_hands h_t_paidOn h_t_lates h_t_fixed h_t_lanes h_t_longs h_t_items h_t_hand h_t_used s_isKept s_taped s_pieces s_at s_readMany s_readKind s_readCut s_rowSet s_bestSet (upd s_w ((27 : Int32) + v1).toNatClampNeg v2)) 1 rfl o4 rfl dX11_rate_72 ?_
    refine g_iload 73 C 0 dX11_rate_73 rfl ?_
    obtain rfl := Option.some.inj h
    exact g_iret 75 C hA rfl dX11_rate_75 rfl
  · replace h := it_e c h
    refine g_iconst 50 C (-1 : Int32) dX11_rate_50 (by decide) ?_
    obtain rfl := Option.some.inj h
    exact g_iret 51 C hA rfl dX11_rate_51 rfl
set_option maxHeartbeats 4000000 in
set_option maxRecDepth 100000 in
theorem ok_B_X11_rate_44 {h_t : Nat} {h_t_w : Nat} {h_t_tape : Nat} {h_t_firsts : Nat} {h_t_sizes : Nat} {h_t_worths : Nat} {h_t_readWorths : Nat} {h_t_dues : Nat} {h_t_sums : Nat} {h_t_worthOf : Nat} {h_t_lies : Nat} {h_t_pairs : Nat} {h_t_row : Nat} {h_t_hands : Nat} {h_t_paidOn : Nat} {h_t_lates : Nat} {h_t_fixed : Nat} {h_t_lanes : Nat} {h_t_longs : Nat} {h_t_items : Nat} {h_t_hand : Nat} {h_t_used : Nat} {s_isKept : Int32} {s_taped : Int32} {s_pieces : Int32} {s_at : Int32} {s_readMany : Int32} {s_readKind : Int32} {s_readCut : Int32} {s_rowSet : Int32} {s_bestSet : Int32} {s_w : Nat → Int32} {v1 : Int32} {v2 : Int32} {res : Int32 × (Nat → Int32)} (C : CX p s m args meth c cX11_rate wsX11_rate RX11 5 D k A (some .int)) (hA : A = va_A w0 sz)  (h : B_X11_rate_44 s_w v1 v2 = some res) : GG p l e rm_X11_rate s m args below meth c (MQ below (cQi D w0 sz res.1 (W_X11_rate k h_t h_t_w h_t_tape h_t_firsts h_t_sizes h_t_worths h_t_readWorths h_t_dues h_t_sums h_t_worthOf h_t_lies h_t_pairs h_t_row h_t_hands h_t_paidOn h_t_lates h_t_fixed h_t_lanes h_t_longs h_t_items h_t_hand h_t_used s_isKept s_taped s_pieces s_at s_readMany s_readKind s_readCut s_rowSet s_bestSet res.2)) args s 0 0 A) D A 5 0 0 44 [(0, .ref h_t), (1, .int v1), (2, .int v2)] [] (W_X11_rate k h_t h_t_w h_t_tape h_t_firsts h_t_sizes h_t_worths h_t_readWorths h_t_dues h_t_sums h_t_worthOf h_t_lies h_t_pairs h_t_row h_t_hands h_t_paidOn h_t_lates h_t_fixed h_t_lanes h_t_longs h_t_items h_t_hand h_t_used s_isKept s_taped s_pieces s_at s_readMany s_readKind s_readCut s_rowSet s_bestSet s_w) := by
  unfold B_X11_rate_44 at h
  refine g_iconst 44 C (0 : Int32) dX11_rate_44 (by decide) ?_
  refine GG.sub (lv' := [(0, .ref h_t), (1, .int v1), (2, .int v2)]) [0, 1, 2] rfl ?_
  exact ok_B_X11_rate_45 C hA h
set_option maxHeartbeats 4000000 in
set_option maxRecDepth 100000 in
theorem k_X11_rate {l : Launch} {D : va_G} {k : Nat → ClassId} (h_t : Nat) (h_t_w : Nat) (h_t_tape : Nat) (h_t_firsts : Nat) (h_t_sizes : Nat) (h_t_worths : Nat) (h_t_readWorths : Nat) (h_t_dues : Nat) (h_t_sums : Nat) (h_t_worthOf : Nat) (h_t_lies : Nat) (h_t_pairs : Nat) (h_t_row : Nat) (h_t_hands : Nat) (h_t_paidOn : Nat) (h_t_lates : Nat) (h_t_fixed : Nat) (h_t_lanes : Nat) (h_t_longs : Nat) (h_t_items : Nat) (h_t_hand : Nat) (h_t_used : Nat) (s_isKept : Int32) (s_taped : Int32) (s_pieces : Int32) (s_at : Int32) (s_readMany : Int32) (s_readKind : Int32) (s_readCut : Int32) (s_rowSet : Int32) (s_bestSet : Int32) (s_w : Nat → Int32) (v1 : Int32) (v2 : Int32) (res : Int32 × (Nat → Int32)) (h : f_X11_rate s_w v1 v2 = some res) (sz : Nat) : Met l yX11_rate wsX11_rate rm_X11_rate (cPre D k [.ref h_t, .int v1, .int v2] (W_X11_rate k h_t h_t_w h_t_tape h_t_firsts h_t_sizes h_t_worths h_t_readWorths h_t_dues h_t_sums h_t_worthOf h_t_lies h_t_pairs h_t_row h_t_hands h_t_paidOn h_t_lates h_t_fixed h_t_lanes h_t_longs h_t_items h_t_hand h_t_used s_isKept s_taped s_pieces s_at s_readMany s_readKind s_readCut s_rowSet s_bestSet s_w) sz) (cQi D (W_X11_rate k h_t h_t_w h_t_tape h_t_firsts h_t_sizes h_t_worths h_t_readWorths h_t_dues h_t_sums h_t_worthOf h_t_lies h_t_pairs h_t_row h_t_hands h_t_paidOn h_t_lates h_t_fixed h_t_lanes h_t_longs h_t_items h_t_hand h_t_used s_isKept s_taped s_pieces s_at s_readMany s_readKind s_readCut s_rowSet s_bestSet s_w) sz res.1 (W_X11_rate k h_t h_t_w h_t_tape h_t_firsts h_t_sizes h_t_worths h_t_readWorths h_t_dues h_t_sums h_t_worthOf h_t_lies h_t_pairs h_t_row h_t_hands h_t_paidOn h_t_lates h_t_fixed h_t_lanes h_t_longs h_t_items h_t_hand h_t_used s_isKept s_taped s_pieces s_at s_readMany s_readKind s_readCut s_rowSet s_bestSet res.2)) 0 0 (va_A (W_X11_rate k h_t h_t_w h_t_tape h_t_firsts h_t_sizes h_t_worths h_t_readWorths h_t_dues h_t_sums h_t_worthOf h_t_lies h_t_pairs h_t_row h_t_hands h_t_paidOn h_t_lates h_t_fixed h_t_lanes h_t_longs h_t_items h_t_hand h_t_used s_isKept s_taped s_pieces s_at s_readMany s_readKind s_readCut s_rowSet s_bestSet s_w) sz) := by
  refine met_of [(0, .ref h_t), (1, .int v1), (2, .int v2)] (by decide) rfl rfl (Nat.le_of_ble_eq_true rfl) rfl ?_
  intro p e s m args below meth c A hA hsz C
  unfold f_X11_rate at h
  refine g_iload_n 0 C 1 dX11_rate_0 rfl rfl ?_
  refine g_if_ne 1 16 C dX11_rate_1 (by decide) (fun c => ?_) (fun c => ?_)
  · replace h := if_e c h
    refine g_iload_n 16 C 1 dX11_rate_16 rfl rfl ?_
    refine g_i2l 17 C dX11_rate_17 ?_
    refine g_lconst 18 C (1 : Int64) dX11_rate_18 (by decide) ?_
    refine g_ldc2 19 C (2 : Int64) dX11_rate_19 ct_X11_rate_156 ?_
    obtain ⟨q1, e2, h⟩ := bi_e h
    refine g_callSi 22 C (As := [.long v1.toInt64, .long (1 : Int64), .long (2 : Int64)]) [] [0, 1] [0, 1] (W_X11_rate k h_t h_t_w h_t_tape h_t_firsts h_t_sizes h_t_worths h_t_readWorths h_t_dues h_t_sums h_t_worthOf h_t_lies h_t_pairs h_t_row h_t_hands h_t_paidOn h_t_lates h_t_fixed h_t_lanes h_t_longs h_t_items h_t_hand h_t_used s_isKept s_taped s_pieces s_at s_readMany s_readKind s_readCut s_rowSet s_bestSet s_w) (fun sz => k_X11_in v1.toInt64 (1 : Int64) (2 : Int64) q1 e2 sz) gX11_rate_X11_in rfl pd_X11_in rfl ⟨rfl, rfl, Nat.le_of_ble_eq_true rfl, Nat.le_of_ble_eq_true rfl⟩ (Nat.le_of_ble_eq_true rfl) ⟨Nat.zero_le _, Nat.zero_le _⟩ ⟨rfl, rfl, rfl, rfl, rfl, by decide, rfl⟩ rfl dX11_rate_22 ?_
    refine g_if_eq 25 44 C dX11_rate_25 (by decide) (fun c => ?_) (fun c => ?_)
    · replace h := it_e c h
      refine GG.sub (lv' := [(0, .ref h_t), (1, .int v1), (2, .int v2)]) [0, 1, 2] rfl ?_
      exact ok_B_X11_rate_44 C hA h
    · replace h := if_e c h
      refine g_iload_n 28 C 2 dX11_rate_28 rfl rfl ?_
      refine g_i2l 29 C dX11_rate_29 ?_
      refine g_lconst 30 C (0 : Int64) dX11_rate_30 (by decide) ?_
      refine g_ldc2 31 C (127 : Int64) dX11_rate_31 ct_X11_rate_162 ?_
      obtain ⟨q5, e6, h⟩ := bi_e h
      refine g_callSi 34 C (As := [.long v2.toInt64, .long (0 : Int64), .long (127 : Int64)]) [] [0, 1] [0, 1] (W_X11_rate k h_t h_t_w h_t_tape h_t_firsts h_t_sizes h_t_worths h_t_readWorths h_t_dues h_t_sums h_t_worthOf h_t_lies h_t_pairs h_t_row h_t_hands h_t_paidOn h_t_lates h_t_fixed h_t_lanes h_t_longs h_t_items h_t_hand h_t_used s_isKept s_taped s_pieces s_at s_readMany s_readKind s_readCut s_rowSet s_bestSet s_w) (fun sz => k_X11_in v2.toInt64 (0 : Int64) (127 : Int64) q5 e6 sz) gX11_rate_X11_in rfl pd_X11_in rfl ⟨rfl, rfl, Nat.le_of_ble_eq_true rfl, Nat.le_of_ble_eq_true rfl⟩ (Nat.le_of_ble_eq_true rfl) ⟨Nat.zero_le _, Nat.zero_le _⟩ ⟨rfl, rfl, rfl, rfl, rfl, by decide, rfl⟩ rfl dX11_rate_34 ?_
      refine g_if_eq 37 44 C dX11_rate_37 (by decide) (fun c => ?_) (fun c => ?_)
      · replace h := it_e c h
        refine GG.sub (lv' := [(0, .ref h_t), (1, .int v1), (2, .int v2)]) [0, 1, 2] rfl ?_
        exact ok_B_X11_rate_44 C hA h
      · replace h := if_e c h
        refine g_iconst 40 C (1 : Int32) dX11_rate_40 (by decide) ?_
        refine g_goto 41 45 C dX11_rate_41 (by decide) ?_
        refine GG.sub (lv' := [(0, .ref h_t), (1, .int v1), (2, .int v2)]) [0, 1, 2] rfl ?_
        exact ok_B_X11_rate_45 C hA h
  · replace h := it_e c h
    refine g_iload_n 4 C 2 dX11_rate_4 rfl rfl ?_
    refine g_i2l 5 C dX11_rate_5 ?_
    refine g_lconst 6 C (1 : Int64) dX11_rate_6 (by decide) ?_
    refine g_ldc2 7 C (9 : Int64) dX11_rate_7 ct_X11_rate_102 ?_
    obtain ⟨q7, e8, h⟩ := bi_e h
    refine g_callSi 10 C (As := [.long v2.toInt64, .long (1 : Int64), .long (9 : Int64)]) [] [0, 1] [0, 1] (W_X11_rate k h_t h_t_w h_t_tape h_t_firsts h_t_sizes h_t_worths h_t_readWorths h_t_dues h_t_sums h_t_worthOf h_t_lies h_t_pairs h_t_row h_t_hands h_t_paidOn h_t_lates h_t_fixed h_t_lanes h_t_longs h_t_items h_t_hand h_t_used s_isKept s_taped s_pieces s_at s_readMany s_readKind s_readCut s_rowSet s_bestSet s_w) (fun sz => k_X11_in v2.toInt64 (1 : Int64) (9 : Int64) q7 e8 sz) gX11_rate_X11_in rfl pd_X11_in rfl ⟨rfl, rfl, Nat.le_of_ble_eq_true rfl, Nat.le_of_ble_eq_true rfl⟩ (Nat.le_of_ble_eq_true rfl) ⟨Nat.zero_le _, Nat.zero_le _⟩ ⟨rfl, rfl, rfl, rfl, rfl, by decide, rfl⟩ rfl dX11_rate_10 ?_
    refine g_goto 13 45 C dX11_rate_13 (by decide) ?_
    refine GG.sub (lv' := [(0, .ref h_t), (1, .int v1), (2, .int v2)]) [0, 1, 2] rfl ?_
    exact ok_B_X11_rate_45 C hA h
end

/-! X11_layDues -/
abbrev W_X11_layDues (k : Nat → ClassId) (h_t : Nat) (h_t_dues : Nat) (h_t_w : Nat) (h_t_tape : Nat) (h_t_firsts : Nat) (h_t_sizes : Nat) (h_t_worths : Nat) (h_t_readWorths : Nat) (h_t_sums : Nat) (h_t_worthOf : Nat) (h_t_lies : Nat) (h_t_pairs : Nat) (h_t_row : Nat) (h_t_hands : Nat) (h_t_paidOn : Nat) (h_t_lates : Nat) (h_t_fixed : Nat) (h_t_lanes : Nat) (h_t_longs : Nat) (h_t_items : Nat) (h_t_hand : Nat) (h_t_used : Nat) (s_isKept : Int32) (s_taped : Int32) (s_pieces : Int32) (s_at : Int32) (s_readMany : Int32) (s_readKind : Int32) (s_readCut : Int32) (s_rowSet : Int32) (s_bestSet : Int32) (s_dues : Nat → Int32) (s_w : Nat → Int32) : va_W := [(h_t, .inr (11, [.ref h_t_w, .int s_isKept, .ref h_t_tape, .int s_taped, .ref h_t_firsts, .ref h_t_sizes, .ref h_t_worths, .int s_pieces, .int s_at, .ref h_t_readWorths, .int s_readMany, .int s_readKind, .int s_readCut, .ref h_t_dues, .ref h_t_sums, .ref h_t_worthOf, .ref h_t_lies, .ref h_t_pairs, .ref h_t_row, .int s_rowSet, .int s_bestSet, .ref h_t_hands, .ref h_t_paidOn, .ref h_t_lates, .ref h_t_fixed, .ref h_t_lanes, .ref h_t_longs, .ref h_t_items, .ref h_t_hand, .ref h_t_used])), (h_t_dues, .inl (k 0, 61, .inl s_dues)), (h_t_w, .inl (k 0, 60, .inl s_w))]
def rm_X11_layDues : Room := { frames := 1, cells := 0, slots := 0, locals := 21 }
theorem in_X11_layDues_X11 : ∀ w ∈ u_ws RX11 TX11 30, w ∈ wsX11_layDues := by decide +kernel
theorem fl_X11_layDues_28 : Cond.fieldLink RX11 28 "LinkDaysModel" "dues" "[I" ∈ wsX11_layDues := by decide +kernel
theorem fl_X11_layDues_7 : Cond.fieldLink RX11 7 "LinkDaysModel" "w" "[I" ∈ wsX11_layDues := by decide +kernel
theorem pd_X11_layDues : yX11_layDues.cls = RX11 ∧ yX11_layDues.cls ≠ "java/lang/invoke/MethodHandle" ∧ yX11_layDues.cls ≠ "java/lang/invoke/VarHandle" ∧ (parseMethodDescriptor yX11_layDues.desc).map (fun d => d.parameters.length) = some 0 := by decide +kernel
section
variable {p : Program} {l : Launch} {e : Env} {s : State} {m : MethodId} {args : Array Value} {below : List Frame} {meth : Method} {c : Code} {D : va_G} {k : Nat → ClassId} {A : Nat → Prop} {w0 : va_W} {sz : Nat}
set_option maxHeartbeats 4000000 in
set_option maxRecDepth 100000 in
theorem ok_B_X11_layDues_73 {h_t : Nat} {h_t_dues : Nat} {h_t_w : Nat} {h_t_tape : Nat} {h_t_firsts : Nat} {h_t_sizes : Nat} {h_t_worths : Nat} {h_t_readWorths : Nat} {h_t_sums : Nat} {h_t_worthOf : Nat} {h_t_lies : Nat} {h_t_pairs : Nat} {h_t_row : Nat} {h_t_hands : Nat} {h_t_paidOn : Nat} {h_t_lates : Nat} {h_t_fixed : Nat} {h_t_lanes : Nat} {h_t_longs : Nat} {h_t_items : Nat} {h_t_hand : Nat} {h_t_used : Nat} {s_isKept : Int32} {s_taped : Int32} {s_pieces : Int32} {s_at : Int32} {s_readMany : Int32} {s_readKind : Int32} {s_readCut : Int32} {s_rowSet : Int32} {s_bestSet : Int32} {s_dues : Nat → Int32} {s_w : Nat → Int32} {v1 : Int32} {x0 : Int32} {res : (Nat → Int32)} {kx rec : Int32 × (Nat → Int32) → Option ((Nat → Int32))} (C : CX p s m args meth c cX11_layDues wsX11_layDues RX11 4 D k A none) (hA : A = va_A w0 sz) (hx : ∀ t : Int32 × (Nat → Int32), kx t = some res → GG p l e rm_X11_layDues s m args below meth c (MQ below (cQv D w0 sz (W_X11_layDues k h_t h_t_dues h_t_w h_t_tape h_t_firsts h_t_sizes h_t_worths h_t_readWorths h_t_sums h_t_worthOf h_t_lies h_t_pairs h_t_row h_t_hands h_t_paidOn h_t_lates h_t_fixed h_t_lanes h_t_longs h_t_items h_t_hand h_t_used s_isKept s_taped s_pieces s_at s_readMany s_readKind s_readCut s_rowSet s_bestSet res s_w)) args s 0 0 A) D A 4 0 0 96 [] [] (W_X11_layDues k h_t h_t_dues h_t_w h_t_tape h_t_firsts h_t_sizes h_t_worths h_t_readWorths h_t_sums h_t_worthOf h_t_lies h_t_pairs h_t_row h_t_hands h_t_paidOn h_t_lates h_t_fixed h_t_lanes h_t_longs h_t_items h_t_hand h_t_used s_isKept s_taped s_pieces s_at s_readMany s_readKind s_readCut s_rowSet s_bestSet t.2 s_w)) (hr : ∀ t : Int32 × (Nat → Int32), rec t = some res → GG p l e rm_X11_layDues s m args below meth c (MQ below (cQv D w0 sz (W_X11_layDues k h_t h_t_dues h_t_w h_t_tape h_t_firsts h_t_sizes h_t_worths h_t_readWorths h_t_sums h_t_worthOf h_t_lies h_t_pairs h_t_row h_t_hands h_t_paidOn h_t_lates h_t_fixed h_t_lanes h_t_longs h_t_items h_t_hand h_t_used s_isKept s_taped s_pieces s_at s_readMany s_readKind s_readCut s_rowSet s_bestSet res s_w)) args s 0 0 A) D A 4 0 0 9 [(0, .ref h_t), (1, .int t.1)] [] (W_X11_layDues k h_t h_t_dues h_t_w h_t_tape h_t_firsts h_t_sizes h_t_worths h_t_readWorths h_t_sums h_t_worthOf h_t_lies h_t_pairs h_t_row h_t_hands h_t_paidOn h_t_lates h_t_fixed h_t_lanes h_t_longs h_t_items h_t_hand h_t_used s_isKept s_taped s_pieces s_at s_readMany s_readKind s_readCut s_rowSet s_bestSet t.2 s_w))  (h : B_X11_layDues_73 kx rec s_dues v1 x0 = some res) : GG p l e rm_X11_layDues s m args below meth c (MQ below (cQv D w0 sz (W_X11_layDues k h_t h_t_dues h_t_w h_t_tape h_t_firsts h_t_sizes h_t_worths h_t_readWorths h_t_sums h_t_worthOf h_t_lies h_t_pairs h_t_row h_t_hands h_t_paidOn h_t_lates h_t_fixed h_t_lanes h_t_longs h_t_items h_t_hand h_t_used s_isKept s_taped s_pieces s_at s_readMany s_readKind s_readCut s_rowSet s_bestSet res s_w)) args s 0 0 A) D A 4 0 0 73 [(0, .ref h_t), (1, .int v1)] [.int x0] (W_X11_layDues k h_t h_t_dues h_t_w h_t_tape h_t_firsts h_t_sizes h_t_worths h_t_readWorths h_t_sums h_t_worthOf h_t_lies h_t_pairs h_t_row h_t_hands h_t_paidOn h_t_lates h_t_fixed h_t_lanes h_t_longs h_t_items h_t_hand h_t_used s_isKept s_taped s_pieces s_at s_readMany s_readKind s_readCut s_rowSet s_bestSet s_dues s_w) := by
  unfold B_X11_layDues_73 at h
  refine g_istore_n 73 C [(3, .int x0), (0, .ref h_t), (1, .int v1)] dX11_layDues_73 rfl (by decide) rfl ?_
  refine g_aload_n 74 C 1 dX11_layDues_74 rfl rfl ?_
  refine g_get 75 C in_X11_layDues_X11 0 13 rfl rfl (by decide) fl_X11_layDues_28 rfl rfl dX11_layDues_75 ?_
  refine g_iload_n 78 C 2 dX11_layDues_78 rfl rfl ?_
  refine g_aload_n 79 C 1 dX11_layDues_79 rfl rfl ?_
  refine g_get 80 C in_X11_layDues_X11 0 13 rfl rfl (by decide) fl_X11_layDues_28 rfl rfl dX11_layDues_80 ?_
  refine g_iload_n 83 C 2 dX11_layDues_83 rfl rfl ?_
  refine g_iconst 84 C (1 : Int32) dX11_layDues_84 (by decide) ?_
  refine g_isub 85 C dX11_layDues_85 ?_
  obtain ⟨o9, h⟩ := ob_e h
  refine g_iald 86 C 1 rfl o9 dX11_layDues_86 ?_
  refine g_iload_n 87 C 0 dX11_layDues_87 rfl rfl ?_
  refine g_iadd 88 C dX11_layDues_88 ?_
  obtain ⟨o10, h⟩ := ob_e h
  refine g_iast 89 C (W_X11_layDues k h_t h_t_dues h_t_w h_t_tape h_t_firsts h_t_sizes h_t_worths h_t_readWorths h_t_sums h_t_worthOf h_t_lies h_t_pairs h_t_row h_t_hands h_t_paidOn h_t_lates h_t_fixed h_t_lanes h_t_longs h_t_items h_t_hand h_t_used s_isKept s_taped s_pieces s_at s_readMany s_readKind s_readCut s_rowSet s_bestSet (upd s_dues v1.toNatClampNeg ((s_dues (v1 - (1 : Int32)).toNatClampNeg) + x0)) s_w) 1 rfl o10 rfl dX11_layDues_89 ?_
  refine g_iinc 90 C 2 (1 : Int32) [(1, .int (v1 + (1 : Int32))), (3, .int x0), (0, .ref h_t)] dX11_layDues_90 rfl (by decide) (by decide) rfl ?_
  refine g_goto 93 9 C dX11_layDues_93 (by decide) ?_
  refine GG.sub (lv' := [(0, .ref h_t), (1, .int (v1 + (1 : Int32)))]) [2, 0] rfl ?_
  exact hr ((v1 + (1 : Int32)), (upd s_dues v1.toNatClampNeg ((s_dues (v1 - (1 : Int32)).toNatClampNeg) + x0))) h
set_option maxHeartbeats 4000000 in
set_option maxRecDepth 100000 in
theorem ok_L_X11_layDues_9 {h_t : Nat} {h_t_dues : Nat} {h_t_w : Nat} {h_t_tape : Nat} {h_t_firsts : Nat} {h_t_sizes : Nat} {h_t_worths : Nat} {h_t_readWorths : Nat} {h_t_sums : Nat} {h_t_worthOf : Nat} {h_t_lies : Nat} {h_t_pairs : Nat} {h_t_row : Nat} {h_t_hands : Nat} {h_t_paidOn : Nat} {h_t_lates : Nat} {h_t_fixed : Nat} {h_t_lanes : Nat} {h_t_longs : Nat} {h_t_items : Nat} {h_t_hand : Nat} {h_t_used : Nat} {s_isKept : Int32} {s_taped : Int32} {s_pieces : Int32} {s_at : Int32} {s_readMany : Int32} {s_readKind : Int32} {s_readCut : Int32} {s_rowSet : Int32} {s_bestSet : Int32} {s_w : Nat → Int32} {res : (Nat → Int32)} (C : CX p s m args meth c cX11_layDues wsX11_layDues RX11 4 D k A none) (hA : A = va_A w0 sz) {kx : Int32 × (Nat → Int32) → Option ((Nat → Int32))} (hx : ∀ t : Int32 × (Nat → Int32), kx t = some res → GG p l e rm_X11_layDues s m args below meth c (MQ below (cQv D w0 sz (W_X11_layDues k h_t h_t_dues h_t_w h_t_tape h_t_firsts h_t_sizes h_t_worths h_t_readWorths h_t_sums h_t_worthOf h_t_lies h_t_pairs h_t_row h_t_hands h_t_paidOn h_t_lates h_t_fixed h_t_lanes h_t_longs h_t_items h_t_hand h_t_used s_isKept s_taped s_pieces s_at s_readMany s_readKind s_readCut s_rowSet s_bestSet res s_w)) args s 0 0 A) D A 4 0 0 96 [] [] (W_X11_layDues k h_t h_t_dues h_t_w h_t_tape h_t_firsts h_t_sizes h_t_worths h_t_readWorths h_t_sums h_t_worthOf h_t_lies h_t_pairs h_t_row h_t_hands h_t_paidOn h_t_lates h_t_fixed h_t_lanes h_t_longs h_t_items h_t_hand h_t_used s_isKept s_taped s_pieces s_at s_readMany s_readKind s_readCut s_rowSet s_bestSet t.2 s_w)) : ∀ (n : Nat) (t : Int32 × (Nat → Int32)), L_X11_layDues_9 s_w kx n t = some res → GG p l e rm_X11_layDues s m args below meth c (MQ below (cQv D w0 sz (W_X11_layDues k h_t h_t_dues h_t_w h_t_tape h_t_firsts h_t_sizes h_t_worths h_t_readWorths h_t_sums h_t_worthOf h_t_lies h_t_pairs h_t_row h_t_hands h_t_paidOn h_t_lates h_t_fixed h_t_lanes h_t_longs h_t_items h_t_hand h_t_used s_isKept s_taped s_pieces s_at s_readMany s_readKind s_readCut s_rowSet s_bestSet res s_w)) args s 0 0 A) D A 4 0 0 9 [(0, .ref h_t), (1, .int t.1)] [] (W_X11_layDues k h_t h_t_dues h_t_w h_t_tape h_t_firsts h_t_sizes h_t_worths h_t_readWorths h_t_sums h_t_worthOf h_t_lies h_t_pairs h_t_row h_t_hands h_t_paidOn h_t_lates h_t_fixed h_t_lanes h_t_longs h_t_items h_t_hand h_t_used s_isKept s_taped s_pieces s_at s_readMany s_readKind s_readCut s_rowSet s_bestSet t.2 s_w) := by
  intro n
  induction n with
  | zero => intro t h; cases h
  | succ n ih =>
    intro t h
    obtain ⟨v1, s_dues⟩ := t
    replace h : LB_X11_layDues_9 s_w kx (L_X11_layDues_9 s_w kx n) v1 s_dues = some res := h
    have hr := ih
    unfold LB_X11_layDues_9 at h
    refine g_iload_n 9 C 1 dX11_layDues_9 rfl rfl ?_
    refine g_bipush 10 C (60 : Int32) dX11_layDues_10 (by decide) ?_
    refine g_icmp_gt 12 96 C dX11_layDues_12 (by decide) (fun c => ?_) (fun c => ?_)
    · replace h := it_e c h
      refine GG.sub (lv' := []) [] rfl ?_
      exact hx (v1, s_dues) h
    · replace h := if_e c h
      refine g_iload_n 15 C 1 dX11_layDues_15 rfl rfl ?_
      refine g_iconst 16 C (1 : Int32) dX11_layDues_16 (by decide) ?_
      refine g_isub 17 C dX11_layDues_17 ?_
      refine g_bipush 18 C (7 : Int32) dX11_layDues_18 (by decide) ?_
      refine g_irem 20 C dX11_layDues_20 (by decide) ?_
      refine g_istore_n 21 C [(2, .int ((v1 - (1 : Int32)) - (v1 - (1 : Int32)) / (7 : Int32) * (7 : Int32))), (0, .ref h_t), (1, .int v1)] dX11_layDues_21 rfl (by decide) rfl ?_
      refine g_aload_n 22 C 1 dX11_layDues_22 rfl rfl ?_
      refine g_get 23 C in_X11_layDues_X11 0 0 rfl rfl (by decide) fl_X11_layDues_7 rfl rfl dX11_layDues_23 ?_
      refine g_bipush 26 C (28 : Int32) dX11_layDues_26 (by decide) ?_
      obtain ⟨o2, h⟩ := ob_e h
      refine g_iald 28 C 2 rfl o2 dX11_layDues_28 ?_
      refine g_iload_n 29 C 0 dX11_layDues_29 rfl rfl ?_
      obtain ⟨q3, e4, h⟩ := bi_e h
      refine g_callSi 30 C (As := [.int (s_w (28 : Int32).toNatClampNeg), .int ((v1 - (1 : Int32)) - (v1 - (1 : Int32)) / (7 : Int32) * (7 : Int32))]) [] [0, 1, 2] [0, 1, 2] (W_X11_layDues k h_t h_t_dues h_t_w h_t_tape h_t_firsts h_t_sizes h_t_worths h_t_readWorths h_t_sums h_t_worthOf h_t_lies h_t_pairs h_t_row h_t_hands h_t_paidOn h_t_lates h_t_fixed h_t_lanes h_t_longs h_t_items h_t_hand h_t_used s_isKept s_taped s_pieces s_at s_readMany s_readKind s_readCut s_rowSet s_bestSet s_dues s_w) (fun sz => k_X11_has (s_w (28 : Int32).toNatClampNeg) ((v1 - (1 : Int32)) - (v1 - (1 : Int32)) / (7 : Int32) * (7 : Int32)) q3 e4 sz) gX11_layDues_X11_has rfl pd_X11_has rfl ⟨rfl, rfl, Nat.le_of_ble_eq_true rfl, Nat.le_of_ble_eq_true rfl⟩ (Nat.le_of_ble_eq_true rfl) ⟨Nat.zero_le _, Nat.zero_le _⟩ ⟨rfl, rfl, rfl, rfl, rfl, by decide, rfl⟩ rfl dX11_layDues_30 ?_
      refine g_if_eq 33 40 C dX11_layDues_33 (by decide) (fun c => ?_) (fun c => ?_)
      · replace h := it_e c h
        refine g_aload_n 40 C 1 dX11_layDues_40 rfl rfl ?_
        refine g_get 41 C in_X11_layDues_X11 0 0 rfl rfl (by decide) fl_X11_layDues_7 rfl rfl dX11_layDues_41 ?_
        refine g_bipush 44 C (29 : Int32) dX11_layDues_44 (by decide) ?_
        obtain ⟨o5, h⟩ := ob_e h
        refine g_iald 46 C 2 rfl o5 dX11_layDues_46 ?_
        refine g_iload_n 47 C 0 dX11_layDues_47 rfl rfl ?_
        obtain ⟨q6, e7, h⟩ := bi_e h
        refine g_callSi 48 C (As := [.int (s_w (29 : Int32).toNatClampNeg), .int ((v1 - (1 : Int32)) - (v1 - (1 : Int32)) / (7 : Int32) * (7 : Int32))]) [] [0, 1, 2] [0, 1, 2] (W_X11_layDues k h_t h_t_dues h_t_w h_t_tape h_t_firsts h_t_sizes h_t_worths h_t_readWorths h_t_sums h_t_worthOf h_t_lies h_t_pairs h_t_row h_t_hands h_t_paidOn h_t_lates h_t_fixed h_t_lanes h_t_longs h_t_items h_t_hand h_t_used s_isKept s_taped s_pieces s_at s_readMany s_readKind s_readCut s_rowSet s_bestSet s_dues s_w) (fun sz => k_X11_has (s_w (29 : Int32).toNatClampNeg) ((v1 - (1 : Int32)) - (v1 - (1 : Int32)) / (7 : Int32) * (7 : Int32)) q6 e7 sz) gX11_layDues_X11_has rfl pd_X11_has rfl ⟨rfl, rfl, Nat.le_of_ble_eq_true rfl, Nat.le_of_ble_eq_true rfl⟩ (Nat.le_of_ble_eq_true rfl) ⟨Nat.zero_le _, Nat.zero_le _⟩ ⟨rfl, rfl, rfl, rfl, rfl, by decide, rfl⟩ rfl dX11_layDues_48 ?_
        refine g_if_eq 51 66 C dX11_layDues_51 (by decide) (fun c => ?_) (fun c => ?_)
        · replace h := it_e c h
          refine g_aload_n 66 C 1 dX11_layDues_66 rfl rfl ?_
          refine g_get 67 C in_X11_layDues_X11 0 0 rfl rfl (by decide) fl_X11_layDues_7 rfl rfl dX11_layDues_67 ?_
          refine g_bipush 70 C (27 : Int32) dX11_layDues_70 (by decide) ?_
          obtain ⟨o8, h⟩ := ob_e h
          refine g_iald 72 C 2 rfl o8 dX11_layDues_72 ?_
          refine GG.sub (lv' := [(0, .ref h_t), (1, .int v1)]) [1, 2] rfl ?_
          exact ok_B_X11_layDues_73 C hA hx hr h
        · replace h := if_e c h
          refine g_iconst 54 C (2 : Int32) dX11_layDues_54 (by decide) ?_
          refine g_aload_n 55 C 1 dX11_layDues_55 rfl rfl ?_
          refine g_get 56 C in_X11_layDues_X11 0 0 rfl rfl (by decide) fl_X11_layDues_7 rfl rfl dX11_layDues_56 ?_
          refine g_bipush 59 C (27 : Int32) dX11_layDues_59 (by decide) ?_
          obtain ⟨o11, h⟩ := ob_e h
          refine g_iald 61 C 2 rfl o11 dX11_layDues_61 ?_
          refine g_imul 62 C dX11_layDues_62 ?_
          refine g_goto 63 73 C dX11_layDues_63 (by decide) ?_
          refine GG.sub (lv' := [(0, .ref h_t), (1, .int v1)]) [1, 2] rfl ?_
          exact ok_B_X11_layDues_73 C hA hx hr h
      · replace h := if_e c h
        refine g_iconst 36 C (0 : Int32) dX11_layDues_36 (by decide) ?_
        refine g_goto 37 73 C dX11_layDues_37 (by decide) ?_
        refine GG.sub (lv' := [(0, .ref h_t), (1, .int v1)]) [1, 2] rfl ?_
        exact ok_B_X11_layDues_73 C hA hx hr h
set_option maxHeartbeats 4000000 in
set_option maxRecDepth 100000 in
theorem ok_B_X11_layDues_96 {h_t : Nat} {h_t_dues : Nat} {h_t_w : Nat} {h_t_tape : Nat} {h_t_firsts : Nat} {h_t_sizes : Nat} {h_t_worths : Nat} {h_t_readWorths : Nat} {h_t_sums : Nat} {h_t_worthOf : Nat} {h_t_lies : Nat} {h_t_pairs : Nat} {h_t_row : Nat} {h_t_hands : Nat} {h_t_paidOn : Nat} {h_t_lates : Nat} {h_t_fixed : Nat} {h_t_lanes : Nat} {h_t_longs : Nat} {h_t_items : Nat} {h_t_hand : Nat} {h_t_used : Nat} {s_isKept : Int32} {s_taped : Int32} {s_pieces : Int32} {s_at : Int32} {s_readMany : Int32} {s_readKind : Int32} {s_readCut : Int32} {s_rowSet : Int32} {s_bestSet : Int32} {s_dues : Nat → Int32} {s_w : Nat → Int32} {res : (Nat → Int32)} (C : CX p s m args meth c cX11_layDues wsX11_layDues RX11 4 D k A none) (hA : A = va_A w0 sz)  (h : B_X11_layDues_96 s_dues = some res) : GG p l e rm_X11_layDues s m args below meth c (MQ below (cQv D w0 sz (W_X11_layDues k h_t h_t_dues h_t_w h_t_tape h_t_firsts h_t_sizes h_t_worths h_t_readWorths h_t_sums h_t_worthOf h_t_lies h_t_pairs h_t_row h_t_hands h_t_paidOn h_t_lates h_t_fixed h_t_lanes h_t_longs h_t_items h_t_hand h_t_used s_isKept s_taped s_pieces s_at s_readMany s_readKind s_readCut s_rowSet s_bestSet res s_w)) args s 0 0 A) D A 4 0 0 96 [] [] (W_X11_layDues k h_t h_t_dues h_t_w h_t_tape h_t_firsts h_t_sizes h_t_worths h_t_readWorths h_t_sums h_t_worthOf h_t_lies h_t_pairs h_t_row h_t_hands h_t_paidOn h_t_lates h_t_fixed h_t_lanes h_t_longs h_t_items h_t_hand h_t_used s_isKept s_taped s_pieces s_at s_readMany s_readKind s_readCut s_rowSet s_bestSet s_dues s_w) := by
  unfold B_X11_layDues_96 at h
  obtain rfl := Option.some.inj h
  exact g_vret 96 C hA dX11_layDues_96 rfl
set_option maxHeartbeats 4000000 in
set_option maxRecDepth 100000 in
theorem k_X11_layDues {l : Launch} {D : va_G} {k : Nat → ClassId} (h_t : Nat) (h_t_dues : Nat) (h_t_w : Nat) (h_t_tape : Nat) (h_t_firsts : Nat) (h_t_sizes : Nat) (h_t_worths : Nat) (h_t_readWorths : Nat) (h_t_sums : Nat) (h_t_worthOf : Nat) (h_t_lies : Nat) (h_t_pairs : Nat) (h_t_row : Nat) (h_t_hands : Nat) (h_t_paidOn : Nat) (h_t_lates : Nat) (h_t_fixed : Nat) (h_t_lanes : Nat) (h_t_longs : Nat) (h_t_items : Nat) (h_t_hand : Nat) (h_t_used : Nat) (s_isKept : Int32) (s_taped : Int32) (s_pieces : Int32) (s_at : Int32) (s_readMany : Int32) (s_readKind : Int32) (s_readCut : Int32) (s_rowSet : Int32) (s_bestSet : Int32) (s_dues : Nat → Int32) (s_w : Nat → Int32) (res : (Nat → Int32)) (h : f_X11_layDues s_dues s_w = some res) (sz : Nat) : Met l yX11_layDues wsX11_layDues rm_X11_layDues (cPre D k [.ref h_t] (W_X11_layDues k h_t h_t_dues h_t_w h_t_tape h_t_firsts h_t_sizes h_t_worths h_t_readWorths h_t_sums h_t_worthOf h_t_lies h_t_pairs h_t_row h_t_hands h_t_paidOn h_t_lates h_t_fixed h_t_lanes h_t_longs h_t_items h_t_hand h_t_used s_isKept s_taped s_pieces s_at s_readMany s_readKind s_readCut s_rowSet s_bestSet s_dues s_w) sz) (cQv D (W_X11_layDues k h_t h_t_dues h_t_w h_t_tape h_t_firsts h_t_sizes h_t_worths h_t_readWorths h_t_sums h_t_worthOf h_t_lies h_t_pairs h_t_row h_t_hands h_t_paidOn h_t_lates h_t_fixed h_t_lanes h_t_longs h_t_items h_t_hand h_t_used s_isKept s_taped s_pieces s_at s_readMany s_readKind s_readCut s_rowSet s_bestSet s_dues s_w) sz (W_X11_layDues k h_t h_t_dues h_t_w h_t_tape h_t_firsts h_t_sizes h_t_worths h_t_readWorths h_t_sums h_t_worthOf h_t_lies h_t_pairs h_t_row h_t_hands h_t_paidOn h_t_lates h_t_fixed h_t_lanes h_t_longs h_t_items h_t_hand h_t_used s_isKept s_taped s_pieces s_at s_readMany s_readKind s_readCut s_rowSet s_bestSet res s_w)) 0 0 (va_A (W_X11_layDues k h_t h_t_dues h_t_w h_t_tape h_t_firsts h_t_sizes h_t_worths h_t_readWorths h_t_sums h_t_worthOf h_t_lies h_t_pairs h_t_row h_t_hands h_t_paidOn h_t_lates h_t_fixed h_t_lanes h_t_longs h_t_items h_t_hand h_t_used s_isKept s_taped s_pieces s_at s_readMany s_readKind s_readCut s_rowSet s_bestSet s_dues s_w) sz) := by
  refine met_of [(0, .ref h_t)] (by decide) rfl rfl (Nat.le_of_ble_eq_true rfl) rfl ?_
  intro p e s m args below meth c A hA hsz C
  unfold f_X11_layDues at h
  refine g_aload_n 0 C 0 dX11_layDues_0 rfl rfl ?_
  refine g_get 1 C in_X11_layDues_X11 0 13 rfl rfl (by decide) fl_X11_layDues_28 rfl rfl dX11_layDues_1 ?_
  refine g_iconst 4 C (0 : Int32) dX11_layDues_4 (by decide) ?_
  refine g_iconst 5 C (0 : Int32) dX11_layDues_5 (by decide) ?_
  obtain ⟨o1, h⟩ := ob_e h
  refine g_iast 6 C (W_X11_layDues k h_t h_t_dues h_t_w h_t_tape h_t_firsts h_t_sizes h_t_worths h_t_readWorths h_t_sums h_t_worthOf h_t_lies h_t_pairs h_t_row h_t_hands h_t_paidOn h_t_lates h_t_fixed h_t_lanes h_t_longs h_t_items h_t_hand h_t_used s_isKept s_taped s_pieces s_at s_readMany s_readKind s_readCut s_rowSet s_bestSet (upd s_dues (0 : Int32).toNatClampNeg (0 : Int32)) s_w) 1 rfl o1 rfl dX11_layDues_6 ?_
  refine g_iconst 7 C (1 : Int32) dX11_layDues_7 (by decide) ?_
  refine g_istore_n 8 C [(1, .int (1 : Int32)), (0, .ref h_t)] dX11_layDues_8 rfl (by decide) rfl ?_
  refine GG.sub (lv' := [(0, .ref h_t), (1, .int (1 : Int32))]) [1, 0] rfl ?_
  exact ok_L_X11_layDues_9 C hA (fun t h => by
    refine GG.sub (lv' := []) [] rfl ?_
    exact ok_B_X11_layDues_96 C hA h) FUEL ((1 : Int32), (upd s_dues (0 : Int32).toNatClampNeg (0 : Int32))) h
end

/-! X11_due -/
abbrev W_X11_due (k : Nat → ClassId) (h_t : Nat) (h_t_dues : Nat) (h_t_w : Nat) (h_t_tape : Nat) (h_t_firsts : Nat) (h_t_sizes : Nat) (h_t_worths : Nat) (h_t_readWorths : Nat) (h_t_sums : Nat) (h_t_worthOf : Nat) (h_t_lies : Nat) (h_t_pairs : Nat) (h_t_row : Nat) (h_t_hands : Nat) (h_t_paidOn : Nat) (h_t_lates : Nat) (h_t_fixed : Nat) (h_t_lanes : Nat) (h_t_longs : Nat) (h_t_items : Nat) (h_t_hand : Nat) (h_t_used : Nat) (s_isKept : Int32) (s_taped : Int32) (s_pieces : Int32) (s_at : Int32) (s_readMany : Int32) (s_readKind : Int32) (s_readCut : Int32) (s_rowSet : Int32) (s_bestSet : Int32) (s_dues : Nat → Int32) (s_w : Nat → Int32) : va_W := [(h_t, .inr (11, [.ref h_t_w, .int s_isKept, .ref h_t_tape, .int s_taped, .ref h_t_firsts, .ref h_t_sizes, .ref h_t_worths, .int s_pieces, .int s_at, .ref h_t_readWorths, .int s_readMany, .int s_readKind, .int s_readCut, .ref h_t_dues, .ref h_t_sums, .ref h_t_worthOf, .ref h_t_lies, .ref h_t_pairs, .ref h_t_row, .int s_rowSet, .int s_bestSet, .ref h_t_hands, .ref h_t_paidOn, .ref h_t_lates, .ref h_t_fixed, .ref h_t_lanes, .ref h_t_longs, .ref h_t_items, .ref h_t_hand, .ref h_t_used])), (h_t_dues, .inl (k 0, 61, .inl s_dues)), (h_t_w, .inl (k 0, 60, .inl s_w))]
def rm_X11_due : Room := { frames := 2, cells := 0, slots := 0, locals := 44 }
theorem in_X11_due_X11 : ∀ w ∈ u_ws RX11 TX11 30, w ∈ wsX11_due := by decide +kernel
theorem ct_X11_due_164 : Cond.constantLong RX11 164 (60 : Int64) ∈ wsX11_due := by decide +kernel
theorem fl_X11_due_28 : Cond.fieldLink RX11 28 "LinkDaysModel" "dues" "[I" ∈ wsX11_due := by decide +kernel
theorem pd_X11_due : yX11_due.cls = RX11 ∧ yX11_due.cls ≠ "java/lang/invoke/MethodHandle" ∧ yX11_due.cls ≠ "java/lang/invoke/VarHandle" ∧ (parseMethodDescriptor yX11_due.desc).map (fun d => d.parameters.length) = some 1 := by decide +kernel
section
variable {p : Program} {l : Launch} {e : Env} {s : State} {m : MethodId} {args : Array Value} {below : List Frame} {meth : Method} {c : Code} {D : va_G} {k : Nat → ClassId} {A : Nat → Prop} {w0 : va_W} {sz : Nat}
set_option maxHeartbeats 4000000 in
set_option maxRecDepth 100000 in
theorem k_X11_due {l : Launch} {D : va_G} {k : Nat → ClassId} (h_t : Nat) (h_t_dues : Nat) (h_t_w : Nat) (h_t_tape : Nat) (h_t_firsts : Nat) (h_t_sizes : Nat) (h_t_worths : Nat) (h_t_readWorths : Nat) (h_t_sums : Nat) (h_t_worthOf : Nat) (h_t_lies : Nat) (h_t_pairs : Nat) (h_t_row : Nat) (h_t_hands : Nat) (h_t_paidOn : Nat) (h_t_lates : Nat) (h_t_fixed : Nat) (h_t_lanes : Nat) (h_t_longs : Nat) (h_t_items : Nat) (h_t_hand : Nat) (h_t_used : Nat) (s_isKept : Int32) (s_taped : Int32) (s_pieces : Int32) (s_at : Int32) (s_readMany : Int32) (s_readKind : Int32) (s_readCut : Int32) (s_rowSet : Int32) (s_bestSet : Int32) (s_dues : Nat → Int32) (s_w : Nat → Int32) (v1 : Int32) (res : Int32 × (Nat → Int32)) (h : f_X11_due s_dues s_w v1 = some res) (sz : Nat) : Met l yX11_due wsX11_due rm_X11_due (cPre D k [.ref h_t, .int v1] (W_X11_due k h_t h_t_dues h_t_w h_t_tape h_t_firsts h_t_sizes h_t_worths h_t_readWorths h_t_sums h_t_worthOf h_t_lies h_t_pairs h_t_row h_t_hands h_t_paidOn h_t_lates h_t_fixed h_t_lanes h_t_longs h_t_items h_t_hand h_t_used s_isKept s_taped s_pieces s_at s_readMany s_readKind s_readCut s_rowSet s_bestSet s_dues s_w) sz) (cQi D (W_X11_due k h_t h_t_dues h_t_w h_t_tape h_t_firsts h_t_sizes h_t_worths h_t_readWorths h_t_sums h_t_worthOf h_t_lies h_t_pairs h_t_row h_t_hands h_t_paidOn h_t_lates h_t_fixed h_t_lanes h_t_longs h_t_items h_t_hand h_t_used s_isKept s_taped s_pieces s_at s_readMany s_readKind s_readCut s_rowSet s_bestSet s_dues s_w) sz res.1 (W_X11_due k h_t h_t_dues h_t_w h_t_tape h_t_firsts h_t_sizes h_t_worths h_t_readWorths h_t_sums h_t_worthOf h_t_lies h_t_pairs h_t_row h_t_hands h_t_paidOn h_t_lates h_t_fixed h_t_lanes h_t_longs h_t_items h_t_hand h_t_used s_isKept s_taped s_pieces s_at s_readMany s_readKind s_readCut s_rowSet s_bestSet res.2 s_w)) 0 0 (va_A (W_X11_due k h_t h_t_dues h_t_w h_t_tape h_t_firsts h_t_sizes h_t_worths h_t_readWorths h_t_sums h_t_worthOf h_t_lies h_t_pairs h_t_row h_t_hands h_t_paidOn h_t_lates h_t_fixed h_t_lanes h_t_longs h_t_items h_t_hand h_t_used s_isKept s_taped s_pieces s_at s_readMany s_readKind s_readCut s_rowSet s_bestSet s_dues s_w) sz) := by
  refine met_of [(0, .ref h_t), (1, .int v1)] (by decide) rfl rfl (Nat.le_of_ble_eq_true rfl) rfl ?_
  intro p e s m args below meth c A hA hsz C
  unfold f_X11_due at h
  refine g_iload_n 0 C 1 dX11_due_0 rfl rfl ?_
  refine g_i2l 1 C dX11_due_1 ?_
  refine g_lconst 2 C (1 : Int64) dX11_due_2 (by decide) ?_
  refine g_ldc2 3 C (60 : Int64) dX11_due_3 ct_X11_due_164 ?_
  obtain ⟨q1, e2, h⟩ := bi_e h
  refine g_callSi 6 C (As := [.long v1.toInt64, .long (1 : Int64), .long (60 : Int64)]) [] [0, 1, 2] [0, 1, 2] (W_X11_due k h_t h_t_dues h_t_w h_t_tape h_t_firsts h_t_sizes h_t_worths h_t_readWorths h_t_sums h_t_worthOf h_t_lies h_t_pairs h_t_row h_t_hands h_t_paidOn h_t_lates h_t_fixed h_t_lanes h_t_longs h_t_items h_t_hand h_t_used s_isKept s_taped s_pieces s_at s_readMany s_readKind s_readCut s_rowSet s_bestSet s_dues s_w) (fun sz => k_X11_in v1.toInt64 (1 : Int64) (60 : Int64) q1 e2 sz) gX11_due_X11_in rfl pd_X11_in rfl ⟨rfl, rfl, Nat.le_of_ble_eq_true rfl, Nat.le_of_ble_eq_true rfl⟩ (Nat.le_of_ble_eq_true rfl) ⟨Nat.zero_le _, Nat.zero_le _⟩ ⟨rfl, rfl, rfl, rfl, rfl, by decide, rfl⟩ rfl dX11_due_6 ?_
  refine g_if_ne 9 14 C dX11_due_9 (by decide) (fun c => ?_) (fun c => ?_)
  · replace h := if_e c h
    refine g_aload_n 14 C 0 dX11_due_14 rfl rfl ?_
    obtain ⟨q3, e4, h⟩ := bi_e h
    refine g_callVv 15 C (As := []) [0, 1, 2] [] [0, 1, 2] (W_X11_due k h_t h_t_dues h_t_w h_t_tape h_t_firsts h_t_sizes h_t_worths h_t_readWorths h_t_sums h_t_worthOf h_t_lies h_t_pairs h_t_row h_t_hands h_t_paidOn h_t_lates h_t_fixed h_t_lanes h_t_longs h_t_items h_t_hand h_t_used s_isKept s_taped s_pieces s_at s_readMany s_readKind s_readCut s_rowSet s_bestSet q3 s_w) 0 (fun sz => k_X11_layDues h_t h_t_dues h_t_w h_t_tape h_t_firsts h_t_sizes h_t_worths h_t_readWorths h_t_sums h_t_worthOf h_t_lies h_t_pairs h_t_row h_t_hands h_t_paidOn h_t_lates h_t_fixed h_t_lanes h_t_longs h_t_items h_t_hand h_t_used s_isKept s_taped s_pieces s_at s_readMany s_readKind s_readCut s_rowSet s_bestSet s_dues s_w q3 e4 sz) gX11_due_X11_layDues rfl pd_X11_layDues rfl rfl rfl ⟨rfl, rfl, Nat.le_of_ble_eq_true rfl, Nat.le_of_ble_eq_true rfl⟩ (Nat.le_of_ble_eq_true rfl) ⟨Nat.zero_le _, Nat.zero_le _⟩ ⟨rfl, rfl, rfl, rfl, rfl, by decide, rfl⟩ rfl dX11_due_15 ?_
    refine g_aload_n 18 C 0 dX11_due_18 rfl rfl ?_
    refine g_get 19 C in_X11_due_X11 0 13 rfl rfl (by decide) fl_X11_due_28 rfl rfl dX11_due_19 ?_
    refine g_iload_n 22 C 1 dX11_due_22 rfl rfl ?_
    obtain ⟨o5, h⟩ := ob_e h
    refine g_iald 23 C 1 rfl o5 dX11_due_23 ?_
    obtain rfl := Option.some.inj h
    exact g_iret 24 C hA rfl dX11_due_24 rfl
  · replace h := it_e c h
    refine g_iconst 12 C (-1 : Int32) dX11_due_12 (by decide) ?_
    obtain rfl := Option.some.inj h
    exact g_iret 13 C hA rfl dX11_due_13 rfl
end

/-! X11_laySums -/
abbrev W_X11_laySums (k : Nat → ClassId) (h_t : Nat) (h_t_sums : Nat) (h_t_worths : Nat) (h_t_w : Nat) (h_t_tape : Nat) (h_t_firsts : Nat) (h_t_sizes : Nat) (h_t_readWorths : Nat) (h_t_dues : Nat) (h_t_worthOf : Nat) (h_t_lies : Nat) (h_t_pairs : Nat) (h_t_row : Nat) (h_t_hands : Nat) (h_t_paidOn : Nat) (h_t_lates : Nat) (h_t_fixed : Nat) (h_t_lanes : Nat) (h_t_longs : Nat) (h_t_items : Nat) (h_t_hand : Nat) (h_t_used : Nat) (s_isKept : Int32) (s_taped : Int32) (s_pieces : Int32) (s_at : Int32) (s_readMany : Int32) (s_readKind : Int32) (s_readCut : Int32) (s_rowSet : Int32) (s_bestSet : Int32) (s_sums : Nat → Int64) (s_worths : Nat → Int32) : va_W := [(h_t, .inr (11, [.ref h_t_w, .int s_isKept, .ref h_t_tape, .int s_taped, .ref h_t_firsts, .ref h_t_sizes, .ref h_t_worths, .int s_pieces, .int s_at, .ref h_t_readWorths, .int s_readMany, .int s_readKind, .int s_readCut, .ref h_t_dues, .ref h_t_sums, .ref h_t_worthOf, .ref h_t_lies, .ref h_t_pairs, .ref h_t_row, .int s_rowSet, .int s_bestSet, .ref h_t_hands, .ref h_t_paidOn, .ref h_t_lates, .ref h_t_fixed, .ref h_t_lanes, .ref h_t_longs, .ref h_t_items, .ref h_t_hand, .ref h_t_used])), (h_t_sums, .inl (k 1, 4, .inr (.inl s_sums))), (h_t_worths, .inl (k 0, 24, .inl s_worths))]
def rm_X11_laySums : Room := { frames := 0, cells := 0, slots := 0, locals := 0 }
theorem in_X11_laySums_X11 : ∀ w ∈ u_ws RX11 TX11 30, w ∈ wsX11_laySums := by decide +kernel
theorem fl_X11_laySums_22 : Cond.fieldLink RX11 22 "LinkDaysModel" "worths" "[I" ∈ wsX11_laySums := by decide +kernel
theorem fl_X11_laySums_31 : Cond.fieldLink RX11 31 "LinkDaysModel" "sums" "[J" ∈ wsX11_laySums := by decide +kernel
theorem fl_X11_laySums_85 : Cond.fieldLink RX11 85 "LinkDaysModel" "pieces" "I" ∈ wsX11_laySums := by decide +kernel
theorem pd_X11_laySums : yX11_laySums.cls = RX11 ∧ yX11_laySums.cls ≠ "java/lang/invoke/MethodHandle" ∧ yX11_laySums.cls ≠ "java/lang/invoke/VarHandle" ∧ (parseMethodDescriptor yX11_laySums.desc).map (fun d => d.parameters.length) = some 0 := by decide +kernel
section
variable {p : Program} {l : Launch} {e : Env} {s : State} {m : MethodId} {args : Array Value} {below : List Frame} {meth : Method} {c : Code} {D : va_G} {k : Nat → ClassId} {A : Nat → Prop} {w0 : va_W} {sz : Nat}
set_option maxHeartbeats 4000000 in
set_option maxRecDepth 100000 in
theorem ok_B_X11_laySums_112 {h_t : Nat} {h_t_sums : Nat} {h_t_worths : Nat} {h_t_w : Nat} {h_t_tape : Nat} {h_t_firsts : Nat} {h_t_sizes : Nat} {h_t_readWorths : Nat} {h_t_dues : Nat} {h_t_worthOf : Nat} {h_t_lies : Nat} {h_t_pairs : Nat} {h_t_row : Nat} {h_t_hands : Nat} {h_t_paidOn : Nat} {h_t_lates : Nat} {h_t_fixed : Nat} {h_t_lanes : Nat} {h_t_longs : Nat} {h_t_items : Nat} {h_t_hand : Nat} {h_t_used : Nat} {s_isKept : Int32} {s_taped : Int32} {s_pieces : Int32} {s_at : Int32} {s_readMany : Int32} {s_readKind : Int32} {s_readCut : Int32} {s_rowSet : Int32} {s_bestSet : Int32} {s_sums : Nat → Int64} {s_worths : Nat → Int32} {v1 : Int32} {v2 : Int32} {v3 : Int32} {v4 : Int32} {x0 : Int64} {x1 : Int64} {res : (Nat → Int64)} {kx rec : Int32 × (Nat → Int64) → Option ((Nat → Int64))} (C : CX p s m args meth c cX11_laySums wsX11_laySums RX11 7 D k A none) (hA : A = va_A w0 sz) (hx : ∀ t : Int32 × (Nat → Int64), kx t = some res → GG p l e rm_X11_laySums s m args below meth c (MQ below (cQv D w0 sz (W_X11_laySums k h_t h_t_sums h_t_worths h_t_w h_t_tape h_t_firsts h_t_sizes h_t_readWorths h_t_dues h_t_worthOf h_t_lies h_t_pairs h_t_row h_t_hands h_t_paidOn h_t_lates h_t_fixed h_t_lanes h_t_longs h_t_items h_t_hand h_t_used s_isKept s_taped s_pieces s_at s_readMany s_readKind s_readCut s_rowSet s_bestSet res s_worths)) args s 0 0 A) D A 7 0 0 133 [(0, .ref h_t), (1, .int v1)] [] (W_X11_laySums k h_t h_t_sums h_t_worths h_t_w h_t_tape h_t_firsts h_t_sizes h_t_readWorths h_t_dues h_t_worthOf h_t_lies h_t_pairs h_t_row h_t_hands h_t_paidOn h_t_lates h_t_fixed h_t_lanes h_t_longs h_t_items h_t_hand h_t_used s_isKept s_taped s_pieces s_at s_readMany s_readKind s_readCut s_rowSet s_bestSet t.2 s_worths)) (hr : ∀ t : Int32 × (Nat → Int64), rec t = some res → GG p l e rm_X11_laySums s m args below meth c (MQ below (cQv D w0 sz (W_X11_laySums k h_t h_t_sums h_t_worths h_t_w h_t_tape h_t_firsts h_t_sizes h_t_readWorths h_t_dues h_t_worthOf h_t_lies h_t_pairs h_t_row h_t_hands h_t_paidOn h_t_lates h_t_fixed h_t_lanes h_t_longs h_t_items h_t_hand h_t_used s_isKept s_taped s_pieces s_at s_readMany s_readKind s_readCut s_rowSet s_bestSet res s_worths)) args s 0 0 A) D A 7 0 0 61 [(0, .ref h_t), (1, .int v1), (2, .int v2), (3, .int v3), (4, .int t.1)] [] (W_X11_laySums k h_t h_t_sums h_t_worths h_t_w h_t_tape h_t_firsts h_t_sizes h_t_readWorths h_t_dues h_t_worthOf h_t_lies h_t_pairs h_t_row h_t_hands h_t_paidOn h_t_lates h_t_fixed h_t_lanes h_t_longs h_t_items h_t_hand h_t_used s_isKept s_taped s_pieces s_at s_readMany s_readKind s_readCut s_rowSet s_bestSet t.2 s_worths))  (h : B_X11_laySums_112 kx rec s_sums v4 x0 x1 = some res) : GG p l e rm_X11_laySums s m args below meth c (MQ below (cQv D w0 sz (W_X11_laySums k h_t h_t_sums h_t_worths h_t_w h_t_tape h_t_firsts h_t_sizes h_t_readWorths h_t_dues h_t_worthOf h_t_lies h_t_pairs h_t_row h_t_hands h_t_paidOn h_t_lates h_t_fixed h_t_lanes h_t_longs h_t_items h_t_hand h_t_used s_isKept s_taped s_pieces s_at s_readMany s_readKind s_readCut s_rowSet s_bestSet res s_worths)) args s 0 0 A) D A 7 0 0 112 [(0, .ref h_t), (1, .int v1), (2, .int v2), (3, .int v3), (4, .int v4)] [.long x0, .long x1] (W_X11_laySums k h_t h_t_sums h_t_worths h_t_w h_t_tape h_t_firsts h_t_sizes h_t_readWorths h_t_dues h_t_worthOf h_t_lies h_t_pairs h_t_row h_t_hands h_t_paidOn h_t_lates h_t_fixed h_t_lanes h_t_longs h_t_items h_t_hand h_t_used s_isKept s_taped s_pieces s_at s_readMany s_readKind s_readCut s_rowSet s_bestSet s_sums s_worths) := by
  unfold B_X11_laySums_112 at h
  refine g_lor 112 C dX11_laySums_112 ?_
  refine g_lstore 113 C [(5, .long (x1 ||| x0)), (0, .ref h_t), (1, .int v1), (2, .int v2), (3, .int v3), (4, .int v4)] dX11_laySums_113 (by decide) rfl ?_
  refine g_aload_n 115 C 1 dX11_laySums_115 rfl rfl ?_
  refine g_get 116 C in_X11_laySums_X11 0 14 rfl rfl (by decide) fl_X11_laySums_31 rfl rfl dX11_laySums_116 ?_
  refine g_iload 119 C 5 dX11_laySums_119 rfl ?_
  refine g_dup2 121 C dX11_laySums_121 rfl rfl ?_
  obtain ⟨o8, h⟩ := ob_e h
  refine g_lald 122 C 1 rfl o8 dX11_laySums_122 ?_
  refine g_lload 123 C 0 dX11_laySums_123 rfl ?_
  refine g_lor 125 C dX11_laySums_125 ?_
  obtain ⟨o9, h⟩ := ob_e h
  refine g_last 126 C (W_X11_laySums k h_t h_t_sums h_t_worths h_t_w h_t_tape h_t_firsts h_t_sizes h_t_readWorths h_t_dues h_t_worthOf h_t_lies h_t_pairs h_t_row h_t_hands h_t_paidOn h_t_lates h_t_fixed h_t_lanes h_t_longs h_t_items h_t_hand h_t_used s_isKept s_taped s_pieces s_at s_readMany s_readKind s_readCut s_rowSet s_bestSet (vp_updL s_sums v4.toNatClampNeg ((s_sums v4.toNatClampNeg) ||| (x1 ||| x0))) s_worths) 1 rfl o9 rfl dX11_laySums_126 ?_
  refine g_iinc 127 C 5 (-1 : Int32) [(4, .int (v4 + (-1 : Int32))), (5, .long (x1 ||| x0)), (0, .ref h_t), (1, .int v1), (2, .int v2), (3, .int v3)] dX11_laySums_127 rfl (by decide) (by decide) rfl ?_
  refine g_goto 130 61 C dX11_laySums_130 (by decide) ?_
  refine GG.sub (lv' := [(0, .ref h_t), (1, .int v1), (2, .int v2), (3, .int v3), (4, .int (v4 + (-1 : Int32)))]) [2, 3, 4, 5, 0] rfl ?_
  exact hr ((v4 + (-1 : Int32)), (vp_updL s_sums v4.toNatClampNeg ((s_sums v4.toNatClampNeg) ||| (x1 ||| x0)))) h
set_option maxHeartbeats 4000000 in
set_option maxRecDepth 100000 in
theorem ok_B_X11_laySums_111 {h_t : Nat} {h_t_sums : Nat} {h_t_worths : Nat} {h_t_w : Nat} {h_t_tape : Nat} {h_t_firsts : Nat} {h_t_sizes : Nat} {h_t_readWorths : Nat} {h_t_dues : Nat} {h_t_worthOf : Nat} {h_t_lies : Nat} {h_t_pairs : Nat} {h_t_row : Nat} {h_t_hands : Nat} {h_t_paidOn : Nat} {h_t_lates : Nat} {h_t_fixed : Nat} {h_t_lanes : Nat} {h_t_longs : Nat} {h_t_items : Nat} {h_t_hand : Nat} {h_t_used : Nat} {s_isKept : Int32} {s_taped : Int32} {s_pieces : Int32} {s_at : Int32} {s_readMany : Int32} {s_readKind : Int32} {s_readCut : Int32} {s_rowSet : Int32} {s_bestSet : Int32} {s_sums : Nat → Int64} {s_worths : Nat → Int32} {v1 : Int32} {v2 : Int32} {v3 : Int32} {v4 : Int32} {x0 : Int64} {res : (Nat → Int64)} {kx rec : Int32 × (Nat → Int64) → Option ((Nat → Int64))} (C : CX p s m args meth c cX11_laySums wsX11_laySums RX11 7 D k A none) (hA : A = va_A w0 sz) (hx : ∀ t : Int32 × (Nat → Int64), kx t = some res → GG p l e rm_X11_laySums s m args below meth c (MQ below (cQv D w0 sz (W_X11_laySums k h_t h_t_sums h_t_worths h_t_w h_t_tape h_t_firsts h_t_sizes h_t_readWorths h_t_dues h_t_worthOf h_t_lies h_t_pairs h_t_row h_t_hands h_t_paidOn h_t_lates h_t_fixed h_t_lanes h_t_longs h_t_items h_t_hand h_t_used s_isKept s_taped s_pieces s_at s_readMany s_readKind s_readCut s_rowSet s_bestSet res s_worths)) args s 0 0 A) D A 7 0 0 133 [(0, .ref h_t), (1, .int v1)] [] (W_X11_laySums k h_t h_t_sums h_t_worths h_t_w h_t_tape h_t_firsts h_t_sizes h_t_readWorths h_t_dues h_t_worthOf h_t_lies h_t_pairs h_t_row h_t_hands h_t_paidOn h_t_lates h_t_fixed h_t_lanes h_t_longs h_t_items h_t_hand h_t_used s_isKept s_taped s_pieces s_at s_readMany s_readKind s_readCut s_rowSet s_bestSet t.2 s_worths)) (hr : ∀ t : Int32 × (Nat → Int64), rec t = some res → GG p l e rm_X11_laySums s m args below meth c (MQ below (cQv D w0 sz (W_X11_laySums k h_t h_t_sums h_t_worths h_t_w h_t_tape h_t_firsts h_t_sizes h_t_readWorths h_t_dues h_t_worthOf h_t_lies h_t_pairs h_t_row h_t_hands h_t_paidOn h_t_lates h_t_fixed h_t_lanes h_t_longs h_t_items h_t_hand h_t_used s_isKept s_taped s_pieces s_at s_readMany s_readKind s_readCut s_rowSet s_bestSet res s_worths)) args s 0 0 A) D A 7 0 0 61 [(0, .ref h_t), (1, .int v1), (2, .int v2), (3, .int v3), (4, .int t.1)] [] (W_X11_laySums k h_t h_t_sums h_t_worths h_t_w h_t_tape h_t_firsts h_t_sizes h_t_readWorths h_t_dues h_t_worthOf h_t_lies h_t_pairs h_t_row h_t_hands h_t_paidOn h_t_lates h_t_fixed h_t_lanes h_t_longs h_t_items h_t_hand h_t_used s_isKept s_taped s_pieces s_at s_readMany s_readKind s_readCut s_rowSet s_bestSet t.2 s_worths))  (h : B_X11_laySums_111 kx rec s_sums v4 x0 = some res) : GG p l e rm_X11_laySums s m args below meth c (MQ below (cQv D w0 sz (W_X11_laySums k h_t h_t_sums h_t_worths h_t_w h_t_tape h_t_firsts h_t_sizes h_t_readWorths h_t_dues h_t_worthOf h_t_lies h_t_pairs h_t_row h_t_hands h_t_paidOn h_t_lates h_t_fixed h_t_lanes h_t_longs h_t_items h_t_hand h_t_used s_isKept s_taped s_pieces s_at s_readMany s_readKind s_readCut s_rowSet s_bestSet res s_worths)) args s 0 0 A) D A 7 0 0 111 [(0, .ref h_t), (1, .int v1), (2, .int v2), (3, .int v3), (4, .int v4)] [.long x0] (W_X11_laySums k h_t h_t_sums h_t_worths h_t_w h_t_tape h_t_firsts h_t_sizes h_t_readWorths h_t_dues h_t_worthOf h_t_lies h_t_pairs h_t_row h_t_hands h_t_paidOn h_t_lates h_t_fixed h_t_lanes h_t_longs h_t_items h_t_hand h_t_used s_isKept s_taped s_pieces s_at s_readMany s_readKind s_readCut s_rowSet s_bestSet s_sums s_worths) := by
  unfold B_X11_laySums_111 at h
  refine g_lconst 111 C (0 : Int64) dX11_laySums_111 (by decide) ?_
  refine GG.sub (lv' := [(0, .ref h_t), (1, .int v1), (2, .int v2), (3, .int v3), (4, .int v4)]) [0, 1, 2, 3, 4] rfl ?_
  exact ok_B_X11_laySums_112 C hA hx hr h
set_option maxHeartbeats 4000000 in
set_option maxRecDepth 100000 in
theorem ok_L_X11_laySums_61 {h_t : Nat} {h_t_sums : Nat} {h_t_worths : Nat} {h_t_w : Nat} {h_t_tape : Nat} {h_t_firsts : Nat} {h_t_sizes : Nat} {h_t_readWorths : Nat} {h_t_dues : Nat} {h_t_worthOf : Nat} {h_t_lies : Nat} {h_t_pairs : Nat} {h_t_row : Nat} {h_t_hands : Nat} {h_t_paidOn : Nat} {h_t_lates : Nat} {h_t_fixed : Nat} {h_t_lanes : Nat} {h_t_longs : Nat} {h_t_items : Nat} {h_t_hand : Nat} {h_t_used : Nat} {s_isKept : Int32} {s_taped : Int32} {s_pieces : Int32} {s_at : Int32} {s_readMany : Int32} {s_readKind : Int32} {s_readCut : Int32} {s_rowSet : Int32} {s_bestSet : Int32} {s_worths : Nat → Int32} {v1 : Int32} {v2 : Int32} {v3 : Int32} {res : (Nat → Int64)} (C : CX p s m args meth c cX11_laySums wsX11_laySums RX11 7 D k A none) (hA : A = va_A w0 sz) {kx : Int32 × (Nat → Int64) → Option ((Nat → Int64))} (hx : ∀ t : Int32 × (Nat → Int64), kx t = some res → GG p l e rm_X11_laySums s m args below meth c (MQ below (cQv D w0 sz (W_X11_laySums k h_t h_t_sums h_t_worths h_t_w h_t_tape h_t_firsts h_t_sizes h_t_readWorths h_t_dues h_t_worthOf h_t_lies h_t_pairs h_t_row h_t_hands h_t_paidOn h_t_lates h_t_fixed h_t_lanes h_t_longs h_t_items h_t_hand h_t_used s_isKept s_taped s_pieces s_at s_readMany s_readKind s_readCut s_rowSet s_bestSet res s_worths)) args s 0 0 A) D A 7 0 0 133 [(0, .ref h_t), (1, .int v1)] [] (W_X11_laySums k h_t h_t_sums h_t_worths h_t_w h_t_tape h_t_firsts h_t_sizes h_t_readWorths h_t_dues h_t_worthOf h_t_lies h_t_pairs h_t_row h_t_hands h_t_paidOn h_t_lates h_t_fixed h_t_lanes h_t_longs h_t_items h_t_hand h_t_used s_isKept s_taped s_pieces s_at s_readMany s_readKind s_readCut s_rowSet s_bestSet t.2 s_worths)) : ∀ (n : Nat) (t : Int32 × (Nat → Int64)), L_X11_laySums_61 v2 v3 kx n t = some res → GG p l e rm_X11_laySums s m args below meth c (MQ below (cQv D w0 sz (W_X11_laySums k h_t h_t_sums h_t_worths h_t_w h_t_tape h_t_firsts h_t_sizes h_t_readWorths h_t_dues h_t_worthOf h_t_lies h_t_pairs h_t_row h_t_hands h_t_paidOn h_t_lates h_t_fixed h_t_lanes h_t_longs h_t_items h_t_hand h_t_used s_isKept s_taped s_pieces s_at s_readMany s_readKind s_readCut s_rowSet s_bestSet res s_worths)) args s 0 0 A) D A 7 0 0 61 [(0, .ref h_t), (1, .int v1), (2, .int v2), (3, .int v3), (4, .int t.1)] [] (W_X11_laySums k h_t h_t_sums h_t_worths h_t_w h_t_tape h_t_firsts h_t_sizes h_t_readWorths h_t_dues h_t_worthOf h_t_lies h_t_pairs h_t_row h_t_hands h_t_paidOn h_t_lates h_t_fixed h_t_lanes h_t_longs h_t_items h_t_hand h_t_used s_isKept s_taped s_pieces s_at s_readMany s_readKind s_readCut s_rowSet s_bestSet t.2 s_worths) := by
  intro n
  induction n with
  | zero => intro t h; cases h
  | succ n ih =>
    intro t h
    obtain ⟨v4, s_sums⟩ := t
    replace h : LB_X11_laySums_61 v2 v3 kx (L_X11_laySums_61 v2 v3 kx n) v4 s_sums = some res := h
    have hr := ih
    unfold LB_X11_laySums_61 at h
    refine g_iload 61 C 4 dX11_laySums_61 rfl ?_
    refine g_iload_n 63 C 2 dX11_laySums_63 rfl rfl ?_
    refine g_icmp_lt 64 133 C dX11_laySums_64 (by decide) (fun c => ?_) (fun c => ?_)
    · replace h := it_e c h
      refine GG.sub (lv' := [(0, .ref h_t), (1, .int v1)]) [0, 1] rfl ?_
      exact hx (v4, s_sums) h
    · replace h := if_e c h
      refine g_aload_n 67 C 0 dX11_laySums_67 rfl rfl ?_
      refine g_get 68 C in_X11_laySums_X11 0 14 rfl rfl (by decide) fl_X11_laySums_31 rfl rfl dX11_laySums_68 ?_
      refine g_iload 71 C 4 dX11_laySums_71 rfl ?_
      refine g_iload_n 73 C 2 dX11_laySums_73 rfl rfl ?_
      refine g_isub 74 C dX11_laySums_74 ?_
      obtain ⟨o7, h⟩ := ob_e h
      refine g_lald 75 C 1 rfl o7 dX11_laySums_75 ?_
      refine g_iload_n 76 C 3 dX11_laySums_76 rfl rfl ?_
      refine g_lshl 77 C dX11_laySums_77 ?_
      refine g_lstore 78 C [(5, .long ((s_sums (v4 - v2).toNatClampNeg) <<< (v3.toInt64 &&& 63))), (0, .ref h_t), (1, .int v1), (2, .int v2), (3, .int v3), (4, .int v4)] dX11_laySums_78 (by decide) rfl ?_
      refine g_lload 80 C 0 dX11_laySums_80 rfl ?_
      refine g_iload_n 82 C 4 dX11_laySums_82 rfl rfl ?_
      refine g_if_le 83 111 C dX11_laySums_83 (by decide) (fun c => ?_) (fun c => ?_)
      · replace h := it_e c h
        refine GG.sub (lv' := [(0, .ref h_t), (1, .int v1), (2, .int v2), (3, .int v3), (4, .int v4)]) [1, 2, 3, 4, 5] rfl ?_
        exact ok_B_X11_laySums_111 C hA hx hr h
      · replace h := if_e c h
        refine g_iload 86 C 5 dX11_laySums_86 rfl ?_
        refine g_iload_n 88 C 3 dX11_laySums_88 rfl rfl ?_
        refine g_icmp_le 89 111 C dX11_laySums_89 (by decide) (fun c => ?_) (fun c => ?_)
        · replace h := it_e c h
          refine GG.sub (lv' := [(0, .ref h_t), (1, .int v1), (2, .int v2), (3, .int v3), (4, .int v4)]) [1, 2, 3, 4, 5] rfl ?_
          exact ok_B_X11_laySums_111 C hA hx hr h
        · replace h := if_e c h
          refine g_aload_n 92 C 1 dX11_laySums_92 rfl rfl ?_
          refine g_get 93 C in_X11_laySums_X11 0 14 rfl rfl (by decide) fl_X11_laySums_31 rfl rfl dX11_laySums_93 ?_
          refine g_iload 96 C 5 dX11_laySums_96 rfl ?_
          refine g_iload_n 98 C 3 dX11_laySums_98 rfl rfl ?_
          refine g_isub 99 C dX11_laySums_99 ?_
          refine g_iconst 100 C (1 : Int32) dX11_laySums_100 (by decide) ?_
          refine g_isub 101 C dX11_laySums_101 ?_
          obtain ⟨o10, h⟩ := ob_e h
          refine g_lald 102 C 1 rfl o10 dX11_laySums_102 ?_
          refine g_bipush 103 C (64 : Int32) dX11_laySums_103 (by decide) ?_
          refine g_iload_n 105 C 4 dX11_laySums_105 rfl rfl ?_
          refine g_isub 106 C dX11_laySums_106 ?_
          refine g_lushr 107 C dX11_laySums_107 ?_
          refine g_goto 108 112 C dX11_laySums_108 (by decide) ?_
          refine GG.sub (lv' := [(0, .ref h_t), (1, .int v1), (2, .int v2), (3, .int v3), (4, .int v4)]) [1, 2, 3, 4, 5] rfl ?_
          exact ok_B_X11_laySums_112 C hA hx hr h
set_option maxHeartbeats 4000000 in
set_option maxRecDepth 100000 in
theorem ok_B_X11_laySums_133 {h_t : Nat} {h_t_sums : Nat} {h_t_worths : Nat} {h_t_w : Nat} {h_t_tape : Nat} {h_t_firsts : Nat} {h_t_sizes : Nat} {h_t_readWorths : Nat} {h_t_dues : Nat} {h_t_worthOf : Nat} {h_t_lies : Nat} {h_t_pairs : Nat} {h_t_row : Nat} {h_t_hands : Nat} {h_t_paidOn : Nat} {h_t_lates : Nat} {h_t_fixed : Nat} {h_t_lanes : Nat} {h_t_longs : Nat} {h_t_items : Nat} {h_t_hand : Nat} {h_t_used : Nat} {s_isKept : Int32} {s_taped : Int32} {s_pieces : Int32} {s_at : Int32} {s_readMany : Int32} {s_readKind : Int32} {s_readCut : Int32} {s_rowSet : Int32} {s_bestSet : Int32} {s_sums : Nat → Int64} {s_worths : Nat → Int32} {v1 : Int32} {res : (Nat → Int64)} {kx rec : Int32 × (Nat → Int64) → Option ((Nat → Int64))} (C : CX p s m args meth c cX11_laySums wsX11_laySums RX11 7 D k A none) (hA : A = va_A w0 sz) (hx : ∀ t : Int32 × (Nat → Int64), kx t = some res → GG p l e rm_X11_laySums s m args below meth c (MQ below (cQv D w0 sz (W_X11_laySums k h_t h_t_sums h_t_worths h_t_w h_t_tape h_t_firsts h_t_sizes h_t_readWorths h_t_dues h_t_worthOf h_t_lies h_t_pairs h_t_row h_t_hands h_t_paidOn h_t_lates h_t_fixed h_t_lanes h_t_longs h_t_items h_t_hand h_t_used s_isKept s_taped s_pieces s_at s_readMany s_readKind s_readCut s_rowSet s_bestSet res s_worths)) args s 0 0 A) D A 7 0 0 139 [] [] (W_X11_laySums k h_t h_t_sums h_t_worths h_t_w h_t_tape h_t_firsts h_t_sizes h_t_readWorths h_t_dues h_t_worthOf h_t_lies h_t_pairs h_t_row h_t_hands h_t_paidOn h_t_lates h_t_fixed h_t_lanes h_t_longs h_t_items h_t_hand h_t_used s_isKept s_taped s_pieces s_at s_readMany s_readKind s_readCut s_rowSet s_bestSet t.2 s_worths)) (hr : ∀ t : Int32 × (Nat → Int64), rec t = some res → GG p l e rm_X11_laySums s m args below meth c (MQ below (cQv D w0 sz (W_X11_laySums k h_t h_t_sums h_t_worths h_t_w h_t_tape h_t_firsts h_t_sizes h_t_readWorths h_t_dues h_t_worthOf h_t_lies h_t_pairs h_t_row h_t_hands h_t_paidOn h_t_lates h_t_fixed h_t_lanes h_t_longs h_t_items h_t_hand h_t_used s_isKept s_taped s_pieces s_at s_readMany s_readKind s_readCut s_rowSet s_bestSet res s_worths)) args s 0 0 A) D A 7 0 0 30 [(0, .ref h_t), (1, .int t.1)] [] (W_X11_laySums k h_t h_t_sums h_t_worths h_t_w h_t_tape h_t_firsts h_t_sizes h_t_readWorths h_t_dues h_t_worthOf h_t_lies h_t_pairs h_t_row h_t_hands h_t_paidOn h_t_lates h_t_fixed h_t_lanes h_t_longs h_t_items h_t_hand h_t_used s_isKept s_taped s_pieces s_at s_readMany s_readKind s_readCut s_rowSet s_bestSet t.2 s_worths))  (h : B_X11_laySums_133 kx rec s_sums v1 = some res) : GG p l e rm_X11_laySums s m args below meth c (MQ below (cQv D w0 sz (W_X11_laySums k h_t h_t_sums h_t_worths h_t_w h_t_tape h_t_firsts h_t_sizes h_t_readWorths h_t_dues h_t_worthOf h_t_lies h_t_pairs h_t_row h_t_hands h_t_paidOn h_t_lates h_t_fixed h_t_lanes h_t_longs h_t_items h_t_hand h_t_used s_isKept s_taped s_pieces s_at s_readMany s_readKind s_readCut s_rowSet s_bestSet res s_worths)) args s 0 0 A) D A 7 0 0 133 [(0, .ref h_t), (1, .int v1)] [] (W_X11_laySums k h_t h_t_sums h_t_worths h_t_w h_t_tape h_t_firsts h_t_sizes h_t_readWorths h_t_dues h_t_worthOf h_t_lies h_t_pairs h_t_row h_t_hands h_t_paidOn h_t_lates h_t_fixed h_t_lanes h_t_longs h_t_items h_t_hand h_t_used s_isKept s_taped s_pieces s_at s_readMany s_readKind s_readCut s_rowSet s_bestSet s_sums s_worths) := by
  unfold B_X11_laySums_133 at h
  refine g_iinc 133 C 1 (1 : Int32) [(1, .int (v1 + (1 : Int32))), (0, .ref h_t)] dX11_laySums_133 rfl (by decide) (by decide) rfl ?_
  refine g_goto 136 30 C dX11_laySums_136 (by decide) ?_
  refine GG.sub (lv' := [(0, .ref h_t), (1, .int (v1 + (1 : Int32)))]) [1, 0] rfl ?_
  exact hr ((v1 + (1 : Int32)), s_sums) h
set_option maxHeartbeats 4000000 in
set_option maxRecDepth 100000 in
theorem ok_L_X11_laySums_30 {h_t : Nat} {h_t_sums : Nat} {h_t_worths : Nat} {h_t_w : Nat} {h_t_tape : Nat} {h_t_firsts : Nat} {h_t_sizes : Nat} {h_t_readWorths : Nat} {h_t_dues : Nat} {h_t_worthOf : Nat} {h_t_lies : Nat} {h_t_pairs : Nat} {h_t_row : Nat} {h_t_hands : Nat} {h_t_paidOn : Nat} {h_t_lates : Nat} {h_t_fixed : Nat} {h_t_lanes : Nat} {h_t_longs : Nat} {h_t_items : Nat} {h_t_hand : Nat} {h_t_used : Nat} {s_isKept : Int32} {s_taped : Int32} {s_pieces : Int32} {s_at : Int32} {s_readMany : Int32} {s_readKind : Int32} {s_readCut : Int32} {s_rowSet : Int32} {s_bestSet : Int32} {s_worths : Nat → Int32} {res : (Nat → Int64)} (C : CX p s m args meth c cX11_laySums wsX11_laySums RX11 7 D k A none) (hA : A = va_A w0 sz) {kx : Int32 × (Nat → Int64) → Option ((Nat → Int64))} (hx : ∀ t : Int32 × (Nat → Int64), kx t = some res → GG p l e rm_X11_laySums s m args below meth c (MQ below (cQv D w0 sz (W_X11_laySums k h_t h_t_sums h_t_worths h_t_w h_t_tape h_t_firsts h_t_sizes h_t_readWorths h_t_dues h_t_worthOf h_t_lies h_t_pairs h_t_row h_t_hands h_t_paidOn h_t_lates h_t_fixed h_t_lanes h_t_longs h_t_items h_t_hand h_t_used s_isKept s_taped s_pieces s_at s_readMany s_readKind s_readCut s_rowSet s_bestSet res s_worths)) args s 0 0 A) D A 7 0 0 139 [] [] (W_X11_laySums k h_t h_t_sums h_t_worths h_t_w h_t_tape h_t_firsts h_t_sizes h_t_readWorths h_t_dues h_t_worthOf h_t_lies h_t_pairs h_t_row h_t_hands h_t_paidOn h_t_lates h_t_fixed h_t_lanes h_t_longs h_t_items h_t_hand h_t_used s_isKept s_taped s_pieces s_at s_readMany s_readKind s_readCut s_rowSet s_bestSet t.2 s_worths)) : ∀ (n : Nat) (t : Int32 × (Nat → Int64)), L_X11_laySums_30 s_pieces s_worths kx n t = some res → GG p l e rm_X11_laySums s m args below meth c (MQ below (cQv D w0 sz (W_X11_laySums k h_t h_t_sums h_t_worths h_t_w h_t_tape h_t_firsts h_t_sizes h_t_readWorths h_t_dues h_t_worthOf h_t_lies h_t_pairs h_t_row h_t_hands h_t_paidOn h_t_lates h_t_fixed h_t_lanes h_t_longs h_t_items h_t_hand h_t_used s_isKept s_taped s_pieces s_at s_readMany s_readKind s_readCut s_rowSet s_bestSet res s_worths)) args s 0 0 A) D A 7 0 0 30 [(0, .ref h_t), (1, .int t.1)] [] (W_X11_laySums k h_t h_t_sums h_t_worths h_t_w h_t_tape h_t_firsts h_t_sizes h_t_readWorths h_t_dues h_t_worthOf h_t_lies h_t_pairs h_t_row h_t_hands h_t_paidOn h_t_lates h_t_fixed h_t_lanes h_t_longs h_t_items h_t_hand h_t_used s_isKept s_taped s_pieces s_at s_readMany s_readKind s_readCut s_rowSet s_bestSet t.2 s_worths) := by
  intro n
  induction n with
  | zero => intro t h; cases h
  | succ n ih =>
    intro t h
    obtain ⟨v1, s_sums⟩ := t
    replace h : LB_X11_laySums_30 s_pieces s_worths kx (L_X11_laySums_30 s_pieces s_worths kx n) v1 s_sums = some res := h
    have hr := ih
    unfold LB_X11_laySums_30 at h
    refine g_iload_n 30 C 1 dX11_laySums_30 rfl rfl ?_
    refine g_aload_n 31 C 0 dX11_laySums_31 rfl rfl ?_
    refine g_get 32 C in_X11_laySums_X11 0 7 rfl rfl (by decide) fl_X11_laySums_85 rfl rfl dX11_laySums_32 ?_
    refine g_icmp_ge 35 139 C dX11_laySums_35 (by decide) (fun c => ?_) (fun c => ?_)
    · replace h := it_e c h
      refine GG.sub (lv' := []) [] rfl ?_
      exact hx (v1, s_sums) h
    · replace h := if_e c h
      refine g_aload_n 38 C 0 dX11_laySums_38 rfl rfl ?_
      refine g_get 39 C in_X11_laySums_X11 0 6 rfl rfl (by decide) fl_X11_laySums_22 rfl rfl dX11_laySums_39 ?_
      refine g_iload_n 42 C 1 dX11_laySums_42 rfl rfl ?_
      obtain ⟨o5, h⟩ := ob_e h
      refine g_iald 43 C 2 rfl o5 dX11_laySums_43 ?_
      refine g_bipush 44 C (64 : Int32) dX11_laySums_44 (by decide) ?_
      refine g_idiv 46 C dX11_laySums_46 (by decide) ?_
      refine g_istore_n 47 C [(2, .int ((s_worths v1.toNatClampNeg) / (64 : Int32))), (0, .ref h_t), (1, .int v1)] dX11_laySums_47 rfl (by decide) rfl ?_
      refine g_aload_n 48 C 1 dX11_laySums_48 rfl rfl ?_
      refine g_get 49 C in_X11_laySums_X11 0 6 rfl rfl (by decide) fl_X11_laySums_22 rfl rfl dX11_laySums_49 ?_
      refine g_iload_n 52 C 2 dX11_laySums_52 rfl rfl ?_
      obtain ⟨o6, h⟩ := ob_e h
      refine g_iald 53 C 2 rfl o6 dX11_laySums_53 ?_
      refine g_bipush 54 C (64 : Int32) dX11_laySums_54 (by decide) ?_
      refine g_irem 56 C dX11_laySums_56 (by decide) ?_
      refine g_istore_n 57 C [(3, .int ((s_worths v1.toNatClampNeg) - (s_worths v1.toNatClampNeg) / (64 : Int32) * (64 : Int32))), (2, .int ((s_worths v1.toNatClampNeg) / (64 : Int32))), (0, .ref h_t), (1, .int v1)] dX11_laySums_57 rfl (by decide) rfl ?_
      refine g_iconst 58 C (3 : Int32) dX11_laySums_58 (by decide) ?_
      refine g_istore 59 C [(4, .int (3 : Int32)), (3, .int ((s_worths v1.toNatClampNeg) - (s_worths v1.toNatClampNeg) / (64 : Int32) * (64 : Int32))), (2, .int ((s_worths v1.toNatClampNeg) / (64 : Int32))), (0, .ref h_t), (1, .int v1)] dX11_laySums_59 (by decide) rfl ?_
      refine GG.sub (lv' := [(0, .ref h_t), (1, .int v1), (2, .int ((s_worths v1.toNatClampNeg) / (64 : Int32))), (3, .int ((s_worths v1.toNatClampNeg) - (s_worths v1.toNatClampNeg) / (64 : Int32) * (64 : Int32))), (4, .int (3 : Int32))]) [3, 4, 2, 1, 0] rfl ?_
      exact ok_L_X11_laySums_61 C hA (fun t h => by
        refine GG.sub (lv' := [(0, .ref h_t), (1, .int v1)]) [0, 1] rfl ?_
        exact ok_B_X11_laySums_133 C hA hx hr h) FUEL ((3 : Int32), s_sums) h
set_option maxHeartbeats 4000000 in
set_option maxRecDepth 100000 in
theorem ok_B_X11_laySums_139 {h_t : Nat} {h_t_sums : Nat} {h_t_worths : Nat} {h_t_w : Nat} {h_t_tape : Nat} {h_t_firsts : Nat} {h_t_sizes : Nat} {h_t_readWorths : Nat} {h_t_dues : Nat} {h_t_worthOf : Nat} {h_t_lies : Nat} {h_t_pairs : Nat} {h_t_row : Nat} {h_t_hands : Nat} {h_t_paidOn : Nat} {h_t_lates : Nat} {h_t_fixed : Nat} {h_t_lanes : Nat} {h_t_longs : Nat} {h_t_items : Nat} {h_t_hand : Nat} {h_t_used : Nat} {s_isKept : Int32} {s_taped : Int32} {s_pieces : Int32} {s_at : Int32} {s_readMany : Int32} {s_readKind : Int32} {s_readCut : Int32} {s_rowSet : Int32} {s_bestSet : Int32} {s_sums : Nat → Int64} {s_worths : Nat → Int32} {res : (Nat → Int64)} (C : CX p s m args meth c cX11_laySums wsX11_laySums RX11 7 D k A none) (hA : A = va_A w0 sz)  (h : B_X11_laySums_139 s_sums = some res) : GG p l e rm_X11_laySums s m args below meth c (MQ below (cQv D w0 sz (W_X11_laySums k h_t h_t_sums h_t_worths h_t_w h_t_tape h_t_firsts h_t_sizes h_t_readWorths h_t_dues h_t_worthOf h_t_lies h_t_pairs h_t_row h_t_hands h_t_paidOn h_t_lates h_t_fixed h_t_lanes h_t_longs h_t_items h_t_hand h_t_used s_isKept s_taped s_pieces s_at s_readMany s_readKind s_readCut s_rowSet s_bestSet res s_worths)) args s 0 0 A) D A 7 0 0 139 [] [] (W_X11_laySums k h_t h_t_sums h_t_worths h_t_w h_t_tape h_t_firsts h_t_sizes h_t_readWorths h_t_dues h_t_worthOf h_t_lies h_t_pairs h_t_row h_t_hands h_t_paidOn h_t_lates h_t_fixed h_t_lanes h_t_longs h_t_items h_t_hand h_t_used s_isKept s_taped s_pieces s_at s_readMany s_readKind s_readCut s_rowSet s_bestSet s_sums s_worths) := by
  unfold B_X11_laySums_139 at h
  obtain rfl := Option.some.inj h
  exact g_vret 139 C hA dX11_laySums_139 rfl
set_option maxHeartbeats 4000000 in
set_option maxRecDepth 100000 in
theorem k_X11_laySums {l : Launch} {D : va_G} {k : Nat → ClassId} (h_t : Nat) (h_t_sums : Nat) (h_t_worths : Nat) (h_t_w : Nat) (h_t_tape : Nat) (h_t_firsts : Nat) (h_t_sizes : Nat) (h_t_readWorths : Nat) (h_t_dues : Nat) (h_t_worthOf : Nat) (h_t_lies : Nat) (h_t_pairs : Nat) (h_t_row : Nat) (h_t_hands : Nat) (h_t_paidOn : Nat) (h_t_lates : Nat) (h_t_fixed : Nat) (h_t_lanes : Nat) (h_t_longs : Nat) (h_t_items : Nat) (h_t_hand : Nat) (h_t_used : Nat) (s_isKept : Int32) (s_taped : Int32) (s_pieces : Int32) (s_at : Int32) (s_readMany : Int32) (s_readKind : Int32) (s_readCut : Int32) (s_rowSet : Int32) (s_bestSet : Int32) (s_sums : Nat → Int64) (s_worths : Nat → Int32) (res : (Nat → Int64)) (h : f_X11_laySums s_pieces s_sums s_worths = some res) (sz : Nat) : Met l yX11_laySums wsX11_laySums rm_X11_laySums (cPre D k [.ref h_t] (W_X11_laySums k h_t h_t_sums h_t_worths h_t_w h_t_tape h_t_firsts h_t_sizes h_t_readWorths h_t_dues h_t_worthOf h_t_lies h_t_pairs h_t_row h_t_hands h_t_paidOn h_t_lates h_t_fixed h_t_lanes h_t_longs h_t_items h_t_hand h_t_used s_isKept s_taped s_pieces s_at s_readMany s_readKind s_readCut s_rowSet s_bestSet s_sums s_worths) sz) (cQv D (W_X11_laySums k h_t h_t_sums h_t_worths h_t_w h_t_tape h_t_firsts h_t_sizes h_t_readWorths h_t_dues h_t_worthOf h_t_lies h_t_pairs h_t_row h_t_hands h_t_paidOn h_t_lates h_t_fixed h_t_lanes h_t_longs h_t_items h_t_hand h_t_used s_isKept s_taped s_pieces s_at s_readMany s_readKind s_readCut s_rowSet s_bestSet s_sums s_worths) sz (W_X11_laySums k h_t h_t_sums h_t_worths h_t_w h_t_tape h_t_firsts h_t_sizes h_t_readWorths h_t_dues h_t_worthOf h_t_lies h_t_pairs h_t_row h_t_hands h_t_paidOn h_t_lates h_t_fixed h_t_lanes h_t_longs h_t_items h_t_hand h_t_used s_isKept s_taped s_pieces s_at s_readMany s_readKind s_readCut s_rowSet s_bestSet res s_worths)) 0 0 (va_A (W_X11_laySums k h_t h_t_sums h_t_worths h_t_w h_t_tape h_t_firsts h_t_sizes h_t_readWorths h_t_dues h_t_worthOf h_t_lies h_t_pairs h_t_row h_t_hands h_t_paidOn h_t_lates h_t_fixed h_t_lanes h_t_longs h_t_items h_t_hand h_t_used s_isKept s_taped s_pieces s_at s_readMany s_readKind s_readCut s_rowSet s_bestSet s_sums s_worths) sz) := by
  refine met_of [(0, .ref h_t)] (by decide) rfl rfl (Nat.le_of_ble_eq_true rfl) rfl ?_
  intro p e s m args below meth c A hA hsz C
  unfold f_X11_laySums at h
  refine g_aload_n 0 C 0 dX11_laySums_0 rfl rfl ?_
  refine g_get 1 C in_X11_laySums_X11 0 14 rfl rfl (by decide) fl_X11_laySums_31 rfl rfl dX11_laySums_1 ?_
  refine g_iconst 4 C (0 : Int32) dX11_laySums_4 (by decide) ?_
  refine g_lconst 5 C (1 : Int64) dX11_laySums_5 (by decide) ?_
  obtain ⟨o1, h⟩ := ob_e h
  refine g_last 6 C (W_X11_laySums k h_t h_t_sums h_t_worths h_t_w h_t_tape h_t_firsts h_t_sizes h_t_readWorths h_t_dues h_t_worthOf h_t_lies h_t_pairs h_t_row h_t_hands h_t_paidOn h_t_lates h_t_fixed h_t_lanes h_t_longs h_t_items h_t_hand h_t_used s_isKept s_taped s_pieces s_at s_readMany s_readKind s_readCut s_rowSet s_bestSet (vp_updL s_sums (0 : Int32).toNatClampNeg (1 : Int64)) s_worths) 1 rfl o1 rfl dX11_laySums_6 ?_
  refine g_aload_n 7 C 0 dX11_laySums_7 rfl rfl ?_
  refine g_get 8 C in_X11_laySums_X11 0 14 rfl rfl (by decide) fl_X11_laySums_31 rfl rfl dX11_laySums_8 ?_
  refine g_iconst 11 C (1 : Int32) dX11_laySums_11 (by decide) ?_
  refine g_lconst 12 C (0 : Int64) dX11_laySums_12 (by decide) ?_
  obtain ⟨o2, h⟩ := ob_e h
  refine g_last 13 C (W_X11_laySums k h_t h_t_sums h_t_worths h_t_w h_t_tape h_t_firsts h_t_sizes h_t_readWorths h_t_dues h_t_worthOf h_t_lies h_t_pairs h_t_row h_t_hands h_t_paidOn h_t_lates h_t_fixed h_t_lanes h_t_longs h_t_items h_t_hand h_t_used s_isKept s_taped s_pieces s_at s_readMany s_readKind s_readCut s_rowSet s_bestSet (vp_updL (vp_updL s_sums (0 : Int32).toNatClampNeg (1 : Int64)) (1 : Int32).toNatClampNeg (0 : Int64)) s_worths) 1 rfl o2 rfl dX11_laySums_13 ?_
  refine g_aload_n 14 C 0 dX11_laySums_14 rfl rfl ?_
  refine g_get 15 C in_X11_laySums_X11 0 14 rfl rfl (by decide) fl_X11_laySums_31 rfl rfl dX11_laySums_15 ?_
  refine g_iconst 18 C (2 : Int32) dX11_laySums_18 (by decide) ?_
  refine g_lconst 19 C (0 : Int64) dX11_laySums_19 (by decide) ?_
  obtain ⟨o3, h⟩ := ob_e h
  refine g_last 20 C (W_X11_laySums k h_t h_t_sums h_t_worths h_t_w h_t_tape h_t_firsts h_t_sizes h_t_readWorths h_t_dues h_t_worthOf h_t_lies h_t_pairs h_t_row h_t_hands h_t_paidOn h_t_lates h_t_fixed h_t_lanes h_t_longs h_t_items h_t_hand h_t_used s_isKept s_taped s_pieces s_at s_readMany s_readKind s_readCut s_rowSet s_bestSet (vp_updL (vp_updL (vp_updL s_sums (0 : Int32).toNatClampNeg (1 : Int64)) (1 : Int32).toNatClampNeg (0 : Int64)) (2 : Int32).toNatClampNeg (0 : Int64)) s_worths) 1 rfl o3 rfl dX11_laySums_20 ?_
  refine g_aload_n 21 C 0 dX11_laySums_21 rfl rfl ?_
  refine g_get 22 C in_X11_laySums_X11 0 14 rfl rfl (by decide) fl_X11_laySums_31 rfl rfl dX11_laySums_22 ?_
  refine g_iconst 25 C (3 : Int32) dX11_laySums_25 (by decide) ?_
  refine g_lconst 26 C (0 : Int64) dX11_laySums_26 (by decide) ?_
  obtain ⟨o4, h⟩ := ob_e h
  refine g_last 27 C (W_X11_laySums k h_t h_t_sums h_t_worths h_t_w h_t_tape h_t_firsts h_t_sizes h_t_readWorths h_t_dues h_t_worthOf h_t_lies h_t_pairs h_t_row h_t_hands h_t_paidOn h_t_lates h_t_fixed h_t_lanes h_t_longs h_t_items h_t_hand h_t_used s_isKept s_taped s_pieces s_at s_readMany s_readKind s_readCut s_rowSet s_bestSet (vp_updL (vp_updL (vp_updL (vp_updL s_sums (0 : Int32).toNatClampNeg (1 : Int64)) (1 : Int32).toNatClampNeg (0 : Int64)) (2 : Int32).toNatClampNeg (0 : Int64)) (3 : Int32).toNatClampNeg (0 : Int64)) s_worths) 1 rfl o4 rfl dX11_laySums_27 ?_
  refine g_iconst 28 C (0 : Int32) dX11_laySums_28 (by decide) ?_
  refine g_istore_n 29 C [(1, .int (0 : Int32)), (0, .ref h_t)] dX11_laySums_29 rfl (by decide) rfl ?_
  refine GG.sub (lv' := [(0, .ref h_t), (1, .int (0 : Int32))]) [1, 0] rfl ?_
  exact ok_L_X11_laySums_30 C hA (fun t h => by
    refine GG.sub (lv' := []) [] rfl ?_
    exact ok_B_X11_laySums_139 C hA h) FUEL ((0 : Int32), (vp_updL (vp_updL (vp_updL (vp_updL s_sums (0 : Int32).toNatClampNeg (1 : Int64)) (1 : Int32).toNatClampNeg (0 : Int64)) (2 : Int32).toNatClampNeg (0 : Int64)) (3 : Int32).toNatClampNeg (0 : Int64))) h
end

/-! X11_isPaid -/
abbrev W_X11_isPaid (k : Nat → ClassId) (h_t : Nat) (h_t_sums : Nat) (h_t_w : Nat) (h_t_tape : Nat) (h_t_firsts : Nat) (h_t_sizes : Nat) (h_t_worths : Nat) (h_t_readWorths : Nat) (h_t_dues : Nat) (h_t_worthOf : Nat) (h_t_lies : Nat) (h_t_pairs : Nat) (h_t_row : Nat) (h_t_hands : Nat) (h_t_paidOn : Nat) (h_t_lates : Nat) (h_t_fixed : Nat) (h_t_lanes : Nat) (h_t_longs : Nat) (h_t_items : Nat) (h_t_hand : Nat) (h_t_used : Nat) (s_isKept : Int32) (s_taped : Int32) (s_pieces : Int32) (s_at : Int32) (s_readMany : Int32) (s_readKind : Int32) (s_readCut : Int32) (s_rowSet : Int32) (s_bestSet : Int32) (s_sums : Nat → Int64) : va_W := [(h_t, .inr (11, [.ref h_t_w, .int s_isKept, .ref h_t_tape, .int s_taped, .ref h_t_firsts, .ref h_t_sizes, .ref h_t_worths, .int s_pieces, .int s_at, .ref h_t_readWorths, .int s_readMany, .int s_readKind, .int s_readCut, .ref h_t_dues, .ref h_t_sums, .ref h_t_worthOf, .ref h_t_lies, .ref h_t_pairs, .ref h_t_row, .int s_rowSet, .int s_bestSet, .ref h_t_hands, .ref h_t_paidOn, .ref h_t_lates, .ref h_t_fixed, .ref h_t_lanes, .ref h_t_longs, .ref h_t_items, .ref h_t_hand, .ref h_t_used])), (h_t_sums, .inl (k 1, 4, .inr (.inl s_sums)))]
def rm_X11_isPaid : Room := { frames := 0, cells := 0, slots := 0, locals := 0 }
theorem in_X11_isPaid_X11 : ∀ w ∈ u_ws RX11 TX11 30, w ∈ wsX11_isPaid := by decide +kernel
theorem fl_X11_isPaid_31 : Cond.fieldLink RX11 31 "LinkDaysModel" "sums" "[J" ∈ wsX11_isPaid := by decide +kernel
theorem pd_X11_isPaid : yX11_isPaid.cls = RX11 ∧ yX11_isPaid.cls ≠ "java/lang/invoke/MethodHandle" ∧ yX11_isPaid.cls ≠ "java/lang/invoke/VarHandle" ∧ (parseMethodDescriptor yX11_isPaid.desc).map (fun d => d.parameters.length) = some 1 := by decide +kernel
section
variable {p : Program} {l : Launch} {e : Env} {s : State} {m : MethodId} {args : Array Value} {below : List Frame} {meth : Method} {c : Code} {D : va_G} {k : Nat → ClassId} {A : Nat → Prop} {w0 : va_W} {sz : Nat}
set_option maxHeartbeats 4000000 in
set_option maxRecDepth 100000 in
theorem ok_B_X11_isPaid_33 {h_t : Nat} {h_t_sums : Nat} {h_t_w : Nat} {h_t_tape : Nat} {h_t_firsts : Nat} {h_t_sizes : Nat} {h_t_worths : Nat} {h_t_readWorths : Nat} {h_t_dues : Nat} {h_t_worthOf : Nat} {h_t_lies : Nat} {h_t_pairs : Nat} {h_t_row : Nat} {h_t_hands : Nat} {h_t_paidOn : Nat} {h_t_lates : Nat} {h_t_fixed : Nat} {h_t_lanes : Nat} {h_t_longs : Nat} {h_t_items : Nat} {h_t_hand : Nat} {h_t_used : Nat} {s_isKept : Int32} {s_taped : Int32} {s_pieces : Int32} {s_at : Int32} {s_readMany : Int32} {s_readKind : Int32} {s_readCut : Int32} {s_rowSet : Int32} {s_bestSet : Int32} {s_sums : Nat → Int64} {x0 : Int32} {res : Int32} (C : CX p s m args meth c cX11_isPaid wsX11_isPaid RX11 2 D k A (some .boolean)) (hA : A = va_A w0 sz)  (h : B_X11_isPaid_33 x0 = some res) : GG p l e rm_X11_isPaid s m args below meth c (MQ below (cQi D w0 sz res (W_X11_isPaid k h_t h_t_sums h_t_w h_t_tape h_t_firsts h_t_sizes h_t_worths h_t_readWorths h_t_dues h_t_worthOf h_t_lies h_t_pairs h_t_row h_t_hands h_t_paidOn h_t_lates h_t_fixed h_t_lanes h_t_longs h_t_items h_t_hand h_t_used s_isKept s_taped s_pieces s_at s_readMany s_readKind s_readCut s_rowSet s_bestSet s_sums)) args s 0 0 A) D A 2 0 0 33 [] [.int x0] (W_X11_isPaid k h_t h_t_sums h_t_w h_t_tape h_t_firsts h_t_sizes h_t_worths h_t_readWorths h_t_dues h_t_worthOf h_t_lies h_t_pairs h_t_row h_t_hands h_t_paidOn h_t_lates h_t_fixed h_t_lanes h_t_longs h_t_items h_t_hand h_t_used s_isKept s_taped s_pieces s_at s_readMany s_readKind s_readCut s_rowSet s_bestSet s_sums) := by
  unfold B_X11_isPaid_33 at h
  obtain ⟨o1, h⟩ := ob_e h
  obtain rfl := Option.some.inj h
  exact g_zret 33 C hA rfl (zb_n o1) dX11_isPaid_33 rfl
set_option maxHeartbeats 4000000 in
set_option maxRecDepth 100000 in
theorem ok_B_X11_isPaid_32 {h_t : Nat} {h_t_sums : Nat} {h_t_w : Nat} {h_t_tape : Nat} {h_t_firsts : Nat} {h_t_sizes : Nat} {h_t_worths : Nat} {h_t_readWorths : Nat} {h_t_dues : Nat} {h_t_worthOf : Nat} {h_t_lies : Nat} {h_t_pairs : Nat} {h_t_row : Nat} {h_t_hands : Nat} {h_t_paidOn : Nat} {h_t_lates : Nat} {h_t_fixed : Nat} {h_t_lanes : Nat} {h_t_longs : Nat} {h_t_items : Nat} {h_t_hand : Nat} {h_t_used : Nat} {s_isKept : Int32} {s_taped : Int32} {s_pieces : Int32} {s_at : Int32} {s_readMany : Int32} {s_readKind : Int32} {s_readCut : Int32} {s_rowSet : Int32} {s_bestSet : Int32} {s_sums : Nat → Int64} {res : Int32} (C : CX p s m args meth c cX11_isPaid wsX11_isPaid RX11 2 D k A (some .boolean)) (hA : A = va_A w0 sz)  (h : B_X11_isPaid_32 = some res) : GG p l e rm_X11_isPaid s m args below meth c (MQ below (cQi D w0 sz res (W_X11_isPaid k h_t h_t_sums h_t_w h_t_tape h_t_firsts h_t_sizes h_t_worths h_t_readWorths h_t_dues h_t_worthOf h_t_lies h_t_pairs h_t_row h_t_hands h_t_paidOn h_t_lates h_t_fixed h_t_lanes h_t_longs h_t_items h_t_hand h_t_used s_isKept s_taped s_pieces s_at s_readMany s_readKind s_readCut s_rowSet s_bestSet s_sums)) args s 0 0 A) D A 2 0 0 32 [] [] (W_X11_isPaid k h_t h_t_sums h_t_w h_t_tape h_t_firsts h_t_sizes h_t_worths h_t_readWorths h_t_dues h_t_worthOf h_t_lies h_t_pairs h_t_row h_t_hands h_t_paidOn h_t_lates h_t_fixed h_t_lanes h_t_longs h_t_items h_t_hand h_t_used s_isKept s_taped s_pieces s_at s_readMany s_readKind s_readCut s_rowSet s_bestSet s_sums) := by
  unfold B_X11_isPaid_32 at h
  refine g_iconst 32 C (0 : Int32) dX11_isPaid_32 (by decide) ?_
  refine GG.sub (lv' := []) [] rfl ?_
  exact ok_B_X11_isPaid_33 C hA h
set_option maxHeartbeats 4000000 in
set_option maxRecDepth 100000 in
theorem k_X11_isPaid {l : Launch} {D : va_G} {k : Nat → ClassId} (h_t : Nat) (h_t_sums : Nat) (h_t_w : Nat) (h_t_tape : Nat) (h_t_firsts : Nat) (h_t_sizes : Nat) (h_t_worths : Nat) (h_t_readWorths : Nat) (h_t_dues : Nat) (h_t_worthOf : Nat) (h_t_lies : Nat) (h_t_pairs : Nat) (h_t_row : Nat) (h_t_hands : Nat) (h_t_paidOn : Nat) (h_t_lates : Nat) (h_t_fixed : Nat) (h_t_lanes : Nat) (h_t_longs : Nat) (h_t_items : Nat) (h_t_hand : Nat) (h_t_used : Nat) (s_isKept : Int32) (s_taped : Int32) (s_pieces : Int32) (s_at : Int32) (s_readMany : Int32) (s_readKind : Int32) (s_readCut : Int32) (s_rowSet : Int32) (s_bestSet : Int32) (s_sums : Nat → Int64) (v1 : Int32) (res : Int32) (h : f_X11_isPaid s_sums v1 = some res) (sz : Nat) : Met l yX11_isPaid wsX11_isPaid rm_X11_isPaid (cPre D k [.ref h_t, .int v1] (W_X11_isPaid k h_t h_t_sums h_t_w h_t_tape h_t_firsts h_t_sizes h_t_worths h_t_readWorths h_t_dues h_t_worthOf h_t_lies h_t_pairs h_t_row h_t_hands h_t_paidOn h_t_lates h_t_fixed h_t_lanes h_t_longs h_t_items h_t_hand h_t_used s_isKept s_taped s_pieces s_at s_readMany s_readKind s_readCut s_rowSet s_bestSet s_sums) sz) (cQi D (W_X11_isPaid k h_t h_t_sums h_t_w h_t_tape h_t_firsts h_t_sizes h_t_worths h_t_readWorths h_t_dues h_t_worthOf h_t_lies h_t_pairs h_t_row h_t_hands h_t_paidOn h_t_lates h_t_fixed h_t_lanes h_t_longs h_t_items h_t_hand h_t_used s_isKept s_taped s_pieces s_at s_readMany s_readKind s_readCut s_rowSet s_bestSet s_sums) sz res (W_X11_isPaid k h_t h_t_sums h_t_w h_t_tape h_t_firsts h_t_sizes h_t_worths h_t_readWorths h_t_dues h_t_worthOf h_t_lies h_t_pairs h_t_row h_t_hands h_t_paidOn h_t_lates h_t_fixed h_t_lanes h_t_longs h_t_items h_t_hand h_t_used s_isKept s_taped s_pieces s_at s_readMany s_readKind s_readCut s_rowSet s_bestSet s_sums)) 0 0 (va_A (W_X11_isPaid k h_t h_t_sums h_t_w h_t_tape h_t_firsts h_t_sizes h_t_worths h_t_readWorths h_t_dues h_t_worthOf h_t_lies h_t_pairs h_t_row h_t_hands h_t_paidOn h_t_lates h_t_fixed h_t_lanes h_t_longs h_t_items h_t_hand h_t_used s_isKept s_taped s_pieces s_at s_readMany s_readKind s_readCut s_rowSet s_bestSet s_sums) sz) := by
  refine met_of [(0, .ref h_t), (1, .int v1)] (by decide) rfl rfl (Nat.le_of_ble_eq_true rfl) rfl ?_
  intro p e s m args below meth c A hA hsz C
  unfold f_X11_isPaid at h
  refine g_iload_n 0 C 1 dX11_isPaid_0 rfl rfl ?_
  refine g_sipush 1 C (256 : Int32) dX11_isPaid_1 (by decide) ?_
  refine g_icmp_ge 4 32 C dX11_isPaid_4 (by decide) (fun c => ?_) (fun c => ?_)
  · replace h := it_e c h
    refine GG.sub (lv' := []) [] rfl ?_
    exact ok_B_X11_isPaid_32 C hA h
  · replace h := if_e c h
    refine g_aload_n 7 C 0 dX11_isPaid_7 rfl rfl ?_
    refine g_get 8 C in_X11_isPaid_X11 0 14 rfl rfl (by decide) fl_X11_isPaid_31 rfl rfl dX11_isPaid_8 ?_
    refine g_iload_n 11 C 1 dX11_isPaid_11 rfl rfl ?_
    refine g_bipush 12 C (64 : Int32) dX11_isPaid_12 (by decide) ?_
    refine g_idiv 14 C dX11_isPaid_14 (by decide) ?_
    obtain ⟨o2, h⟩ := ob_e h
    refine g_lald 15 C 1 rfl o2 dX11_isPaid_15 ?_
    refine g_iload_n 16 C 1 dX11_isPaid_16 rfl rfl ?_
    refine g_bipush 17 C (64 : Int32) dX11_isPaid_17 (by decide) ?_
    refine g_irem 19 C dX11_isPaid_19 (by decide) ?_
    refine g_lshr 20 C dX11_isPaid_20 ?_
    refine g_lconst 21 C (1 : Int64) dX11_isPaid_21 (by decide) ?_
    refine g_land 22 C dX11_isPaid_22 ?_
    refine g_lconst 23 C (1 : Int64) dX11_isPaid_23 (by decide) ?_
    refine g_lcmp 24 C dX11_isPaid_24 ?_
    refine g_if_ne 25 32 C dX11_isPaid_25 (by decide) (fun c => ?_) (fun c => ?_)
    · replace h := if_e c h
      refine GG.sub (lv' := []) [] rfl ?_
      exact ok_B_X11_isPaid_32 C hA h
    · replace h := it_e c h
      refine g_iconst 28 C (1 : Int32) dX11_isPaid_28 (by decide) ?_
      refine g_goto 29 33 C dX11_isPaid_29 (by decide) ?_
      refine GG.sub (lv' := []) [] rfl ?_
      exact ok_B_X11_isPaid_33 C hA h
end

/-! X11_pays -/
abbrev W_X11_pays (k : Nat → ClassId) (h_t : Nat) (h_t_w : Nat) (h_t_firsts : Nat) (h_t_sizes : Nat) (h_t_worths : Nat) (h_t_sums : Nat) (h_t_tape : Nat) (h_t_readWorths : Nat) (h_t_dues : Nat) (h_t_worthOf : Nat) (h_t_lies : Nat) (h_t_pairs : Nat) (h_t_row : Nat) (h_t_hands : Nat) (h_t_paidOn : Nat) (h_t_lates : Nat) (h_t_fixed : Nat) (h_t_lanes : Nat) (h_t_longs : Nat) (h_t_items : Nat) (h_t_hand : Nat) (h_t_used : Nat) (s_isKept : Int32) (s_taped : Int32) (s_pieces : Int32) (s_at : Int32) (s_readMany : Int32) (s_readKind : Int32) (s_readCut : Int32) (s_rowSet : Int32) (s_bestSet : Int32) (s_w : Nat → Int32) (s_firsts : Nat → Int32) (s_sizes : Nat → Int32) (s_worths : Nat → Int32) (s_sums : Nat → Int64) : va_W := [(h_t, .inr (11, [.ref h_t_w, .int s_isKept, .ref h_t_tape, .int s_taped, .ref h_t_firsts, .ref h_t_sizes, .ref h_t_worths, .int s_pieces, .int s_at, .ref h_t_readWorths, .int s_readMany, .int s_readKind, .int s_readCut, .ref h_t_dues, .ref h_t_sums, .ref h_t_worthOf, .ref h_t_lies, .ref h_t_pairs, .ref h_t_row, .int s_rowSet, .int s_bestSet, .ref h_t_hands, .ref h_t_paidOn, .ref h_t_lates, .ref h_t_fixed, .ref h_t_lanes, .ref h_t_longs, .ref h_t_items, .ref h_t_hand, .ref h_t_used])), (h_t_w, .inl (k 0, 60, .inl s_w)), (h_t_firsts, .inl (k 0, 24, .inl s_firsts)), (h_t_sizes, .inl (k 0, 24, .inl s_sizes)), (h_t_worths, .inl (k 0, 24, .inl s_worths)), (h_t_sums, .inl (k 1, 4, .inr (.inl s_sums)))]
def rm_X11_pays : Room := { frames := 3, cells := 0, slots := 0, locals := 66 }
theorem ct_X11_pays_169 : Cond.constantLong RX11 169 (999 : Int64) ∈ wsX11_pays := by decide +kernel
theorem pd_X11_pays : yX11_pays.cls = RX11 ∧ yX11_pays.cls ≠ "java/lang/invoke/MethodHandle" ∧ yX11_pays.cls ≠ "java/lang/invoke/VarHandle" ∧ (parseMethodDescriptor yX11_pays.desc).map (fun d => d.parameters.length) = some 1 := by decide +kernel
section
variable {p : Program} {l : Launch} {e : Env} {s : State} {m : MethodId} {args : Array Value} {below : List Frame} {meth : Method} {c : Code} {D : va_G} {k : Nat → ClassId} {A : Nat → Prop} {w0 : va_W} {sz : Nat}
set_option maxHeartbeats 4000000 in
set_option maxRecDepth 100000 in
theorem ok_B_X11_pays_35 {h_t : Nat} {h_t_w : Nat} {h_t_firsts : Nat} {h_t_sizes : Nat} {h_t_worths : Nat} {h_t_sums : Nat} {h_t_tape : Nat} {h_t_readWorths : Nat} {h_t_dues : Nat} {h_t_worthOf : Nat} {h_t_lies : Nat} {h_t_pairs : Nat} {h_t_row : Nat} {h_t_hands : Nat} {h_t_paidOn : Nat} {h_t_lates : Nat} {h_t_fixed : Nat} {h_t_lanes : Nat} {h_t_longs : Nat} {h_t_items : Nat} {h_t_hand : Nat} {h_t_used : Nat} {s_isKept : Int32} {s_taped : Int32} {s_pieces : Int32} {s_at : Int32} {s_readMany : Int32} {s_readKind : Int32} {s_readCut : Int32} {s_rowSet : Int32} {s_bestSet : Int32} {s_w : Nat → Int32} {s_firsts : Nat → Int32} {s_sizes : Nat → Int32} {s_worths : Nat → Int32} {s_sums : Nat → Int64} {x0 : Int32} {res : Int32 × Int32 × (Nat → Int32) × (Nat → Int32) × (Nat → Int32) × (Nat → Int64)} (C : CX p s m args meth c cX11_pays wsX11_pays RX11 2 D k A (some .int)) (hA : A = va_A w0 sz)  (h : B_X11_pays_35 s_pieces s_firsts s_sizes s_worths s_sums x0 = some res) : GG p l e rm_X11_pays s m args below meth c (MQ below (cQi D w0 sz res.1 (W_X11_pays k h_t h_t_w h_t_firsts h_t_sizes h_t_worths h_t_sums h_t_tape h_t_readWorths h_t_dues h_t_worthOf h_t_lies h_t_pairs h_t_row h_t_hands h_t_paidOn h_t_lates h_t_fixed h_t_lanes h_t_longs h_t_items h_t_hand h_t_used s_isKept s_taped res.2.1 s_at s_readMany s_readKind s_readCut s_rowSet s_bestSet s_w res.2.2.1 res.2.2.2.1 res.2.2.2.2.1 res.2.2.2.2.2)) args s 0 0 A) D A 2 0 0 35 [] [.int x0] (W_X11_pays k h_t h_t_w h_t_firsts h_t_sizes h_t_worths h_t_sums h_t_tape h_t_readWorths h_t_dues h_t_worthOf h_t_lies h_t_pairs h_t_row h_t_hands h_t_paidOn h_t_lates h_t_fixed h_t_lanes h_t_longs h_t_items h_t_hand h_t_used s_isKept s_taped s_pieces s_at s_readMany s_readKind s_readCut s_rowSet s_bestSet s_w s_firsts s_sizes s_worths s_sums) := by
  unfold B_X11_pays_35 at h
  obtain rfl := Option.some.inj h
  exact g_iret 35 C hA rfl dX11_pays_35 rfl
set_option maxHeartbeats 4000000 in
set_option maxRecDepth 100000 in
theorem k_X11_pays {l : Launch} {D : va_G} {k : Nat → ClassId} (h_t : Nat) (h_t_w : Nat) (h_t_firsts : Nat) (h_t_sizes : Nat) (h_t_worths : Nat) (h_t_sums : Nat) (h_t_tape : Nat) (h_t_readWorths : Nat) (h_t_dues : Nat) (h_t_worthOf : Nat) (h_t_lies : Nat) (h_t_pairs : Nat) (h_t_row : Nat) (h_t_hands : Nat) (h_t_paidOn : Nat) (h_t_lates : Nat) (h_t_fixed : Nat) (h_t_lanes : Nat) (h_t_longs : Nat) (h_t_items : Nat) (h_t_hand : Nat) (h_t_used : Nat) (s_isKept : Int32) (s_taped : Int32) (s_pieces : Int32) (s_at : Int32) (s_readMany : Int32) (s_readKind : Int32) (s_readCut : Int32) (s_rowSet : Int32) (s_bestSet : Int32) (s_w : Nat → Int32) (s_firsts : Nat → Int32) (s_sizes : Nat → Int32) (s_worths : Nat → Int32) (s_sums : Nat → Int64) (v1 : Int32) (res : Int32 × Int32 × (Nat → Int32) × (Nat → Int32) × (Nat → Int32) × (Nat → Int64)) (h : f_X11_pays s_pieces s_w s_firsts s_sizes s_worths s_sums v1 = some res) (sz : Nat) : Met l yX11_pays wsX11_pays rm_X11_pays (cPre D k [.ref h_t, .int v1] (W_X11_pays k h_t h_t_w h_t_firsts h_t_sizes h_t_worths h_t_sums h_t_tape h_t_readWorths h_t_dues h_t_worthOf h_t_lies h_t_pairs h_t_row h_t_hands h_t_paidOn h_t_lates h_t_fixed h_t_lanes h_t_longs h_t_items h_t_hand h_t_used s_isKept s_taped s_pieces s_at s_readMany s_readKind s_readCut s_rowSet s_bestSet s_w s_firsts s_sizes s_worths s_sums) sz) (cQi D (W_X11_pays k h_t h_t_w h_t_firsts h_t_sizes h_t_worths h_t_sums h_t_tape h_t_readWorths h_t_dues h_t_worthOf h_t_lies h_t_pairs h_t_row h_t_hands h_t_paidOn h_t_lates h_t_fixed h_t_lanes h_t_longs h_t_items h_t_hand h_t_used s_isKept s_taped s_pieces s_at s_readMany s_readKind s_readCut s_rowSet s_bestSet s_w s_firsts s_sizes s_worths s_sums) sz res.1 (W_X11_pays k h_t h_t_w h_t_firsts h_t_sizes h_t_worths h_t_sums h_t_tape h_t_readWorths h_t_dues h_t_worthOf h_t_lies h_t_pairs h_t_row h_t_hands h_t_paidOn h_t_lates h_t_fixed h_t_lanes h_t_longs h_t_items h_t_hand h_t_used s_isKept s_taped res.2.1 s_at s_readMany s_readKind s_readCut s_rowSet s_bestSet s_w res.2.2.1 res.2.2.2.1 res.2.2.2.2.1 res.2.2.2.2.2)) 0 0 (va_A (W_X11_pays k h_t h_t_w h_t_firsts h_t_sizes h_t_worths h_t_sums h_t_tape h_t_readWorths h_t_dues h_t_worthOf h_t_lies h_t_pairs h_t_row h_t_hands h_t_paidOn h_t_lates h_t_fixed h_t_lanes h_t_longs h_t_items h_t_hand h_t_used s_isKept s_taped s_pieces s_at s_readMany s_readKind s_readCut s_rowSet s_bestSet s_w s_firsts s_sizes s_worths s_sums) sz) := by
  refine met_of [(0, .ref h_t), (1, .int v1)] (by decide) rfl rfl (Nat.le_of_ble_eq_true rfl) rfl ?_
  intro p e s m args below meth c A hA hsz C
  unfold f_X11_pays at h
  refine g_iload_n 0 C 1 dX11_pays_0 rfl rfl ?_
  refine g_i2l 1 C dX11_pays_1 ?_
  refine g_lconst 2 C (0 : Int64) dX11_pays_2 (by decide) ?_
  refine g_ldc2 3 C (999 : Int64) dX11_pays_3 ct_X11_pays_169 ?_
  obtain ⟨q1, e2, h⟩ := bi_e h
  refine g_callSi 6 C (As := [.long v1.toInt64, .long (0 : Int64), .long (999 : Int64)]) [] [0, 1, 2, 3, 4, 5] [0, 1, 2, 3, 4, 5] (W_X11_pays k h_t h_t_w h_t_firsts h_t_sizes h_t_worths h_t_sums h_t_tape h_t_readWorths h_t_dues h_t_worthOf h_t_lies h_t_pairs h_t_row h_t_hands h_t_paidOn h_t_lates h_t_fixed h_t_lanes h_t_longs h_t_items h_t_hand h_t_used s_isKept s_taped s_pieces s_at s_readMany s_readKind s_readCut s_rowSet s_bestSet s_w s_firsts s_sizes s_worths s_sums) (fun sz => k_X11_in v1.toInt64 (0 : Int64) (999 : Int64) q1 e2 sz) gX11_pays_X11_in rfl pd_X11_in rfl ⟨rfl, rfl, Nat.le_of_ble_eq_true rfl, Nat.le_of_ble_eq_true rfl⟩ (Nat.le_of_ble_eq_true rfl) ⟨Nat.zero_le _, Nat.zero_le _⟩ ⟨rfl, rfl, rfl, rfl, rfl, by decide, rfl⟩ rfl dX11_pays_6 ?_
  refine g_if_ne 9 14 C dX11_pays_9 (by decide) (fun c => ?_) (fun c => ?_)
  · replace h := if_e c h
    refine g_aload_n 14 C 0 dX11_pays_14 rfl rfl ?_
    obtain ⟨q3, e4, h⟩ := bi_e h
    refine g_callVv 15 C (As := []) [0, 1, 2, 3, 4] [5] [1, 2, 3, 4, 5, 0] (W_X11_pays k h_t h_t_w h_t_firsts h_t_sizes h_t_worths h_t_sums h_t_tape h_t_readWorths h_t_dues h_t_worthOf h_t_lies h_t_pairs h_t_row h_t_hands h_t_paidOn h_t_lates h_t_fixed h_t_lanes h_t_longs h_t_items h_t_hand h_t_used s_isKept s_taped q3.1 s_at s_readMany s_readKind s_readCut s_rowSet s_bestSet s_w q3.2.1 q3.2.2.1 q3.2.2.2 s_sums) 0 (fun sz => k_X11_layNow h_t h_t_w h_t_firsts h_t_sizes h_t_worths h_t_tape h_t_readWorths h_t_dues h_t_sums h_t_worthOf h_t_lies h_t_pairs h_t_row h_t_hands h_t_paidOn h_t_lates h_t_fixed h_t_lanes h_t_longs h_t_items h_t_hand h_t_used s_isKept s_taped s_pieces s_at s_readMany s_readKind s_readCut s_rowSet s_bestSet s_w s_firsts s_sizes s_worths q3 e4 sz) gX11_pays_X11_layNow rfl pd_X11_layNow rfl rfl rfl ⟨rfl, rfl, Nat.le_of_ble_eq_true rfl, Nat.le_of_ble_eq_true rfl⟩ (Nat.le_of_ble_eq_true rfl) ⟨Nat.zero_le _, Nat.zero_le _⟩ ⟨rfl, rfl, rfl, rfl, rfl, by decide, rfl⟩ rfl dX11_pays_15 ?_
    refine g_aload_n 18 C 0 dX11_pays_18 rfl rfl ?_
    obtain ⟨q5, e6, h⟩ := bi_e h
    refine g_callVv 19 C (As := []) [0, 5, 4] [1, 2, 3] [3, 0, 1, 2, 5, 4] (W_X11_pays k h_t h_t_w h_t_firsts h_t_sizes h_t_worths h_t_sums h_t_tape h_t_readWorths h_t_dues h_t_worthOf h_t_lies h_t_pairs h_t_row h_t_hands h_t_paidOn h_t_lates h_t_fixed h_t_lanes h_t_longs h_t_items h_t_hand h_t_used s_isKept s_taped q3.1 s_at s_readMany s_readKind s_readCut s_rowSet s_bestSet s_w q3.2.1 q3.2.2.1 q3.2.2.2 q5) 0 (fun sz => k_X11_laySums h_t h_t_sums h_t_worths h_t_w h_t_tape h_t_firsts h_t_sizes h_t_readWorths h_t_dues h_t_worthOf h_t_lies h_t_pairs h_t_row h_t_hands h_t_paidOn h_t_lates h_t_fixed h_t_lanes h_t_longs h_t_items h_t_hand h_t_used s_isKept s_taped q3.1 s_at s_readMany s_readKind s_readCut s_rowSet s_bestSet s_sums q3.2.2.2 q5 e6 sz) gX11_pays_X11_laySums rfl pd_X11_laySums rfl rfl rfl ⟨rfl, rfl, Nat.le_of_ble_eq_true rfl, Nat.le_of_ble_eq_true rfl⟩ (Nat.le_of_ble_eq_true rfl) ⟨Nat.zero_le _, Nat.zero_le _⟩ ⟨rfl, rfl, rfl, rfl, rfl, by decide, rfl⟩ rfl dX11_pays_19 ?_
    refine g_aload_n 22 C 0 dX11_pays_22 rfl rfl ?_
    refine g_iload_n 23 C 1 dX11_pays_23 rfl rfl ?_
    obtain ⟨q7, e8, h⟩ := bi_e h
    refine g_callVi 24 C (As := [.int v1]) [0, 5] [1, 2, 3, 4] [4, 0, 1, 2, 3, 5] (W_X11_pays k h_t h_t_w h_t_firsts h_t_sizes h_t_worths h_t_sums h_t_tape h_t_readWorths h_t_dues h_t_worthOf h_t_lies h_t_pairs h_t_row h_t_hands h_t_paidOn h_t_lates h_t_fixed h_t_lanes h_t_longs h_t_items h_t_hand h_t_used s_isKept s_taped q3.1 s_at s_readMany s_readKind s_readCut s_rowSet s_bestSet s_w q3.2.1 q3.2.2.1 q3.2.2.2 q5) 0 (fun sz => k_X11_isPaid h_t h_t_sums h_t_w h_t_tape h_t_firsts h_t_sizes h_t_worths h_t_readWorths h_t_dues h_t_worthOf h_t_lies h_t_pairs h_t_row h_t_hands h_t_paidOn h_t_lates h_t_fixed h_t_lanes h_t_longs h_t_items h_t_hand h_t_used s_isKept s_taped q3.1 s_at s_readMany s_readKind s_readCut s_rowSet s_bestSet q5 v1 q7 e8 sz) gX11_pays_X11_isPaid rfl pd_X11_isPaid rfl rfl rfl ⟨rfl, rfl, Nat.le_of_ble_eq_true rfl, Nat.le_of_ble_eq_true rfl⟩ (Nat.le_of_ble_eq_true rfl) ⟨Nat.zero_le _, Nat.zero_le _⟩ ⟨rfl, rfl, rfl, rfl, rfl, by decide, rfl⟩ rfl dX11_pays_24 ?_
    refine g_if_eq 27 34 C dX11_pays_27 (by decide) (fun c => ?_) (fun c => ?_)
    · replace h := it_e c h
      refine g_iconst 34 C (0 : Int32) dX11_pays_34 (by decide) ?_
      refine GG.sub (lv' := []) [] rfl ?_
      exact ok_B_X11_pays_35 C hA h
    · replace h := if_e c h
      refine g_iconst 30 C (1 : Int32) dX11_pays_30 (by decide) ?_
      refine g_goto 31 35 C dX11_pays_31 (by decide) ?_
      refine GG.sub (lv' := []) [] rfl ?_
      exact ok_B_X11_pays_35 C hA h
  · replace h := it_e c h
    refine g_iconst 12 C (-1 : Int32) dX11_pays_12 (by decide) ?_
    obtain rfl := Option.some.inj h
    exact g_iret 13 C hA rfl dX11_pays_13 rfl
end

/-! X11_farBy -/
abbrev W_X11_farBy (k : Nat → ClassId) (h_t : Nat) (h_t_w : Nat) (h_t_firsts : Nat) (h_t_sizes : Nat) (h_t_worths : Nat) (h_t_sums : Nat) (h_t_dues : Nat) (h_t_tape : Nat) (h_t_readWorths : Nat) (h_t_worthOf : Nat) (h_t_lies : Nat) (h_t_pairs : Nat) (h_t_row : Nat) (h_t_hands : Nat) (h_t_paidOn : Nat) (h_t_lates : Nat) (h_t_fixed : Nat) (h_t_lanes : Nat) (h_t_longs : Nat) (h_t_items : Nat) (h_t_hand : Nat) (h_t_used : Nat) (s_isKept : Int32) (s_taped : Int32) (s_pieces : Int32) (s_at : Int32) (s_readMany : Int32) (s_readKind : Int32) (s_readCut : Int32) (s_rowSet : Int32) (s_bestSet : Int32) (s_w : Nat → Int32) (s_firsts : Nat → Int32) (s_sizes : Nat → Int32) (s_worths : Nat → Int32) (s_sums : Nat → Int64) (s_dues : Nat → Int32) : va_W := [(h_t, .inr (11, [.ref h_t_w, .int s_isKept, .ref h_t_tape, .int s_taped, .ref h_t_firsts, .ref h_t_sizes, .ref h_t_worths, .int s_pieces, .int s_at, .ref h_t_readWorths, .int s_readMany, .int s_readKind, .int s_readCut, .ref h_t_dues, .ref h_t_sums, .ref h_t_worthOf, .ref h_t_lies, .ref h_t_pairs, .ref h_t_row, .int s_rowSet, .int s_bestSet, .ref h_t_hands, .ref h_t_paidOn, .ref h_t_lates, .ref h_t_fixed, .ref h_t_lanes, .ref h_t_longs, .ref h_t_items, .ref h_t_hand, .ref h_t_used])), (h_t_w, .inl (k 0, 60, .inl s_w)), (h_t_firsts, .inl (k 0, 24, .inl s_firsts)), (h_t_sizes, .inl (k 0, 24, .inl s_sizes)), (h_t_worths, .inl (k 0, 24, .inl s_worths)), (h_t_sums, .inl (k 1, 4, .inr (.inl s_sums))), (h_t_dues, .inl (k 0, 61, .inl s_dues))]
def rm_X11_farBy : Room := { frames := 2, cells := 0, slots := 0, locals := 46 }
theorem in_X11_farBy_X11 : ∀ w ∈ u_ws RX11 TX11 30, w ∈ wsX11_farBy := by decide +kernel
theorem fl_X11_farBy_28 : Cond.fieldLink RX11 28 "LinkDaysModel" "dues" "[I" ∈ wsX11_farBy := by decide +kernel
theorem pd_X11_farBy : yX11_farBy.cls = RX11 ∧ yX11_farBy.cls ≠ "java/lang/invoke/MethodHandle" ∧ yX11_farBy.cls ≠ "java/lang/invoke/VarHandle" ∧ (parseMethodDescriptor yX11_farBy.desc).map (fun d => d.parameters.length) = some 1 := by decide +kernel
section
variable {p : Program} {l : Launch} {e : Env} {s : State} {m : MethodId} {args : Array Value} {below : List Frame} {meth : Method} {c : Code} {D : va_G} {k : Nat → ClassId} {A : Nat → Prop} {w0 : va_W} {sz : Nat}
set_option maxHeartbeats 4000000 in
set_option maxRecDepth 100000 in
theorem ok_L_X11_farBy_11 {h_t : Nat} {h_t_w : Nat} {h_t_firsts : Nat} {h_t_sizes : Nat} {h_t_worths : Nat} {h_t_sums : Nat} {h_t_dues : Nat} {h_t_tape : Nat} {h_t_readWorths : Nat} {h_t_worthOf : Nat} {h_t_lies : Nat} {h_t_pairs : Nat} {h_t_row : Nat} {h_t_hands : Nat} {h_t_paidOn : Nat} {h_t_lates : Nat} {h_t_fixed : Nat} {h_t_lanes : Nat} {h_t_longs : Nat} {h_t_items : Nat} {h_t_hand : Nat} {h_t_used : Nat} {s_isKept : Int32} {s_taped : Int32} {s_pieces : Int32} {s_at : Int32} {s_readMany : Int32} {s_readKind : Int32} {s_readCut : Int32} {s_rowSet : Int32} {s_bestSet : Int32} {s_w : Nat → Int32} {s_firsts : Nat → Int32} {s_sizes : Nat → Int32} {s_worths : Nat → Int32} {s_sums : Nat → Int64} {s_dues : Nat → Int32} {res : Int32 × Int32 × (Nat → Int32) × (Nat → Int32) × (Nat → Int32) × (Nat → Int64)} (C : CX p s m args meth c cX11_farBy wsX11_farBy RX11 3 D k A (some .int)) (hA : A = va_A w0 sz) {kx : Int32 → Option (Int32 × Int32 × (Nat → Int32) × (Nat → Int32) × (Nat → Int32) × (Nat → Int64))} (hx : ∀ t : Int32, kx t = some res → GG p l e rm_X11_farBy s m args below meth c (MQ below (cQi D w0 sz res.1 (W_X11_farBy k h_t h_t_w h_t_firsts h_t_sizes h_t_worths h_t_sums h_t_dues h_t_tape h_t_readWorths h_t_worthOf h_t_lies h_t_pairs h_t_row h_t_hands h_t_paidOn h_t_lates h_t_fixed h_t_lanes h_t_longs h_t_items h_t_hand h_t_used s_isKept s_taped res.2.1 s_at s_readMany s_readKind s_readCut s_rowSet s_bestSet s_w res.2.2.1 res.2.2.2.1 res.2.2.2.2.1 res.2.2.2.2.2 s_dues)) args s 0 0 A) D A 3 0 0 38 [(2, .int t)] [] (W_X11_farBy k h_t h_t_w h_t_firsts h_t_sizes h_t_worths h_t_sums h_t_dues h_t_tape h_t_readWorths h_t_worthOf h_t_lies h_t_pairs h_t_row h_t_hands h_t_paidOn h_t_lates h_t_fixed h_t_lanes h_t_longs h_t_items h_t_hand h_t_used s_isKept s_taped s_pieces s_at s_readMany s_readKind s_readCut s_rowSet s_bestSet s_w s_firsts s_sizes s_worths s_sums s_dues)) : ∀ (n : Nat) (t : Int32), L_X11_farBy_11 s_sums s_dues kx n t = some res → GG p l e rm_X11_farBy s m args below meth c (MQ below (cQi D w0 sz res.1 (W_X11_farBy k h_t h_t_w h_t_firsts h_t_sizes h_t_worths h_t_sums h_t_dues h_t_tape h_t_readWorths h_t_worthOf h_t_lies h_t_pairs h_t_row h_t_hands h_t_paidOn h_t_lates h_t_fixed h_t_lanes h_t_longs h_t_items h_t_hand h_t_used s_isKept s_taped res.2.1 s_at s_readMany s_readKind s_readCut s_rowSet s_bestSet s_w res.2.2.1 res.2.2.2.1 res.2.2.2.2.1 res.2.2.2.2.2 s_dues)) args s 0 0 A) D A 3 0 0 11 [(0, .ref h_t), (2, .int t)] [] (W_X11_farBy k h_t h_t_w h_t_firsts h_t_sizes h_t_worths h_t_sums h_t_dues h_t_tape h_t_readWorths h_t_worthOf h_t_lies h_t_pairs h_t_row h_t_hands h_t_paidOn h_t_lates h_t_fixed h_t_lanes h_t_longs h_t_items h_t_hand h_t_used s_isKept s_taped s_pieces s_at s_readMany s_readKind s_readCut s_rowSet s_bestSet s_w s_firsts s_sizes s_worths s_sums s_dues) := by
  intro n
  induction n with
  | zero => intro t h; cases h
  | succ n ih =>
    intro t h
    obtain ⟨v2, rfl⟩ : ∃ z, z = t := ⟨_, rfl⟩
    replace h : LB_X11_farBy_11 s_sums s_dues kx (L_X11_farBy_11 s_sums s_dues kx n) v2 = some res := h
    have hr := ih
    unfold LB_X11_farBy_11 at h
    refine g_iload_n 11 C 1 dX11_farBy_11 rfl rfl ?_
    refine g_bipush 12 C (60 : Int32) dX11_farBy_12 (by decide) ?_
    refine g_icmp_ge 14 38 C dX11_farBy_14 (by decide) (fun c => ?_) (fun c => ?_)
    · replace h := it_e c h
      refine GG.sub (lv' := [(2, .int v2)]) [1] rfl ?_
      exact hx v2 h
    · replace h := if_e c h
      refine g_aload_n 17 C 0 dX11_farBy_17 rfl rfl ?_
      refine g_aload_n 18 C 0 dX11_farBy_18 rfl rfl ?_
      refine g_get 19 C in_X11_farBy_X11 0 13 rfl rfl (by decide) fl_X11_farBy_28 rfl rfl dX11_farBy_19 ?_
      refine g_iload_n 22 C 1 dX11_farBy_22 rfl rfl ?_
      refine g_iconst 23 C (1 : Int32) dX11_farBy_23 (by decide) ?_
      refine g_iadd 24 C dX11_farBy_24 ?_
      obtain ⟨o5, h⟩ := ob_e h
      refine g_iald 25 C 6 rfl o5 dX11_farBy_25 ?_
      obtain ⟨q6, e7, h⟩ := bi_e h
      refine g_callVi 26 C (As := [.int (s_dues (v2 + (1 : Int32)).toNatClampNeg)]) [0, 5] [1, 2, 3, 4, 6] [5, 0, 1, 2, 3, 6, 4] (W_X11_farBy k h_t h_t_w h_t_firsts h_t_sizes h_t_worths h_t_sums h_t_dues h_t_tape h_t_readWorths h_t_worthOf h_t_lies h_t_pairs h_t_row h_t_hands h_t_paidOn h_t_lates h_t_fixed h_t_lanes h_t_longs h_t_items h_t_hand h_t_used s_isKept s_taped s_pieces s_at s_readMany s_readKind s_readCut s_rowSet s_bestSet s_w s_firsts s_sizes s_worths s_sums s_dues) 0 (fun sz => k_X11_isPaid h_t h_t_sums h_t_w h_t_tape h_t_firsts h_t_sizes h_t_worths h_t_readWorths h_t_dues h_t_worthOf h_t_lies h_t_pairs h_t_row h_t_hands h_t_paidOn h_t_lates h_t_fixed h_t_lanes h_t_longs h_t_items h_t_hand h_t_used s_isKept s_taped s_pieces s_at s_readMany s_readKind s_readCut s_rowSet s_bestSet s_sums (s_dues (v2 + (1 : Int32)).toNatClampNeg) q6 e7 sz) gX11_farBy_X11_isPaid rfl pd_X11_isPaid rfl rfl rfl ⟨rfl, rfl, Nat.le_of_ble_eq_true rfl, Nat.le_of_ble_eq_true rfl⟩ (Nat.le_of_ble_eq_true rfl) ⟨Nat.zero_le _, Nat.zero_le _⟩ ⟨rfl, rfl, rfl, rfl, rfl, by decide, rfl⟩ rfl dX11_farBy_26 ?_
      refine g_if_eq 29 38 C dX11_farBy_29 (by decide) (fun c => ?_) (fun c => ?_)
      · replace h := it_e c h
        refine GG.sub (lv' := [(2, .int v2)]) [1] rfl ?_
        exact hx v2 h
      · replace h := if_e c h
        refine g_iinc 32 C 1 (1 : Int32) [(2, .int (v2 + (1 : Int32))), (0, .ref h_t)] dX11_farBy_32 rfl (by decide) (by decide) rfl ?_
        refine g_goto 35 11 C dX11_farBy_35 (by decide) ?_
        refine GG.sub (lv' := [(0, .ref h_t), (2, .int (v2 + (1 : Int32)))]) [1, 0] rfl ?_
        exact hr (v2 + (1 : Int32)) h
set_option maxHeartbeats 4000000 in
set_option maxRecDepth 100000 in
theorem ok_B_X11_farBy_38 {h_t : Nat} {h_t_w : Nat} {h_t_firsts : Nat} {h_t_sizes : Nat} {h_t_worths : Nat} {h_t_sums : Nat} {h_t_dues : Nat} {h_t_tape : Nat} {h_t_readWorths : Nat} {h_t_worthOf : Nat} {h_t_lies : Nat} {h_t_pairs : Nat} {h_t_row : Nat} {h_t_hands : Nat} {h_t_paidOn : Nat} {h_t_lates : Nat} {h_t_fixed : Nat} {h_t_lanes : Nat} {h_t_longs : Nat} {h_t_items : Nat} {h_t_hand : Nat} {h_t_used : Nat} {s_isKept : Int32} {s_taped : Int32} {s_pieces : Int32} {s_at : Int32} {s_readMany : Int32} {s_readKind : Int32} {s_readCut : Int32} {s_rowSet : Int32} {s_bestSet : Int32} {s_w : Nat → Int32} {s_firsts : Nat → Int32} {s_sizes : Nat → Int32} {s_worths : Nat → Int32} {s_sums : Nat → Int64} {s_dues : Nat → Int32} {v2 : Int32} {res : Int32 × Int32 × (Nat → Int32) × (Nat → Int32) × (Nat → Int32) × (Nat → Int64)} (C : CX p s m args meth c cX11_farBy wsX11_farBy RX11 3 D k A (some .int)) (hA : A = va_A w0 sz)  (h : B_X11_farBy_38 s_pieces s_firsts s_sizes s_worths s_sums v2 = some res) : GG p l e rm_X11_farBy s m args below meth c (MQ below (cQi D w0 sz res.1 (W_X11_farBy k h_t h_t_w h_t_firsts h_t_sizes h_t_worths h_t_sums h_t_dues h_t_tape h_t_readWorths h_t_worthOf h_t_lies h_t_pairs h_t_row h_t_hands h_t_paidOn h_t_lates h_t_fixed h_t_lanes h_t_longs h_t_items h_t_hand h_t_used s_isKept s_taped res.2.1 s_at s_readMany s_readKind s_readCut s_rowSet s_bestSet s_w res.2.2.1 res.2.2.2.1 res.2.2.2.2.1 res.2.2.2.2.2 s_dues)) args s 0 0 A) D A 3 0 0 38 [(2, .int v2)] [] (W_X11_farBy k h_t h_t_w h_t_firsts h_t_sizes h_t_worths h_t_sums h_t_dues h_t_tape h_t_readWorths h_t_worthOf h_t_lies h_t_pairs h_t_row h_t_hands h_t_paidOn h_t_lates h_t_fixed h_t_lanes h_t_longs h_t_items h_t_hand h_t_used s_isKept s_taped s_pieces s_at s_readMany s_readKind s_readCut s_rowSet s_bestSet s_w s_firsts s_sizes s_worths s_sums s_dues) := by
  unfold B_X11_farBy_38 at h
  refine g_iload_n 38 C 0 dX11_farBy_38 rfl rfl ?_
  obtain rfl := Option.some.inj h
  exact g_iret 39 C hA rfl dX11_farBy_39 rfl
set_option maxHeartbeats 4000000 in
set_option maxRecDepth 100000 in
theorem k_X11_farBy {l : Launch} {D : va_G} {k : Nat → ClassId} (h_t : Nat) (h_t_w : Nat) (h_t_firsts : Nat) (h_t_sizes : Nat) (h_t_worths : Nat) (h_t_sums : Nat) (h_t_dues : Nat) (h_t_tape : Nat) (h_t_readWorths : Nat) (h_t_worthOf : Nat) (h_t_lies : Nat) (h_t_pairs : Nat) (h_t_row : Nat) (h_t_hands : Nat) (h_t_paidOn : Nat) (h_t_lates : Nat) (h_t_fixed : Nat) (h_t_lanes : Nat) (h_t_longs : Nat) (h_t_items : Nat) (h_t_hand : Nat) (h_t_used : Nat) (s_isKept : Int32) (s_taped : Int32) (s_pieces : Int32) (s_at : Int32) (s_readMany : Int32) (s_readKind : Int32) (s_readCut : Int32) (s_rowSet : Int32) (s_bestSet : Int32) (s_w : Nat → Int32) (s_firsts : Nat → Int32) (s_sizes : Nat → Int32) (s_worths : Nat → Int32) (s_sums : Nat → Int64) (s_dues : Nat → Int32) (v1 : Int32) (res : Int32 × Int32 × (Nat → Int32) × (Nat → Int32) × (Nat → Int32) × (Nat → Int64)) (h : f_X11_farBy s_w s_firsts s_sizes s_worths s_sums s_dues v1 = some res) (sz : Nat) : Met l yX11_farBy wsX11_farBy rm_X11_farBy (cPre D k [.ref h_t, .int v1] (W_X11_farBy k h_t h_t_w h_t_firsts h_t_sizes h_t_worths h_t_sums h_t_dues h_t_tape h_t_readWorths h_t_worthOf h_t_lies h_t_pairs h_t_row h_t_hands h_t_paidOn h_t_lates h_t_fixed h_t_lanes h_t_longs h_t_items h_t_hand h_t_used s_isKept s_taped s_pieces s_at s_readMany s_readKind s_readCut s_rowSet s_bestSet s_w s_firsts s_sizes s_worths s_sums s_dues) sz) (cQi D (W_X11_farBy k h_t h_t_w h_t_firsts h_t_sizes h_t_worths h_t_sums h_t_dues h_t_tape h_t_readWorths h_t_worthOf h_t_lies h_t_pairs h_t_row h_t_hands h_t_paidOn h_t_lates h_t_fixed h_t_lanes h_t_longs h_t_items h_t_hand h_t_used s_isKept s_taped s_pieces s_at s_readMany s_readKind s_readCut s_rowSet s_bestSet s_w s_firsts s_sizes s_worths s_sums s_dues) sz res.1 (W_X11_farBy k h_t h_t_w h_t_firsts h_t_sizes h_t_worths h_t_sums h_t_dues h_t_tape h_t_readWorths h_t_worthOf h_t_lies h_t_pairs h_t_row h_t_hands h_t_paidOn h_t_lates h_t_fixed h_t_lanes h_t_longs h_t_items h_t_hand h_t_used s_isKept s_taped res.2.1 s_at s_readMany s_readKind s_readCut s_rowSet s_bestSet s_w res.2.2.1 res.2.2.2.1 res.2.2.2.2.1 res.2.2.2.2.2 s_dues)) 0 0 (va_A (W_X11_farBy k h_t h_t_w h_t_firsts h_t_sizes h_t_worths h_t_sums h_t_dues h_t_tape h_t_readWorths h_t_worthOf h_t_lies h_t_pairs h_t_row h_t_hands h_t_paidOn h_t_lates h_t_fixed h_t_lanes h_t_longs h_t_items h_t_hand h_t_used s_isKept s_taped s_pieces s_at s_readMany s_readKind s_readCut s_rowSet s_bestSet s_w s_firsts s_sizes s_worths s_sums s_dues) sz) := by
  refine met_of [(0, .ref h_t), (1, .int v1)] (by decide) rfl rfl (Nat.le_of_ble_eq_true rfl) rfl ?_
  intro p e s m args below meth c A hA hsz C
  unfold f_X11_farBy at h
  refine g_aload_n 0 C 0 dX11_farBy_0 rfl rfl ?_
  refine g_iload_n 1 C 1 dX11_farBy_1 rfl rfl ?_
  obtain ⟨q1, e2, h⟩ := bi_e h
  refine g_callVv 2 C (As := [.int v1]) [0, 1, 2, 3, 4] [5, 6] [2, 3, 4, 5, 6, 0, 1] (W_X11_farBy k h_t h_t_w h_t_firsts h_t_sizes h_t_worths h_t_sums h_t_dues h_t_tape h_t_readWorths h_t_worthOf h_t_lies h_t_pairs h_t_row h_t_hands h_t_paidOn h_t_lates h_t_fixed h_t_lanes h_t_longs h_t_items h_t_hand h_t_used s_isKept s_taped q1.1 s_at s_readMany s_readKind s_readCut s_rowSet s_bestSet s_w q1.2.1 q1.2.2.1 q1.2.2.2 s_sums s_dues) 0 (fun sz => k_X11_lay h_t h_t_w h_t_firsts h_t_sizes h_t_worths h_t_tape h_t_readWorths h_t_dues h_t_sums h_t_worthOf h_t_lies h_t_pairs h_t_row h_t_hands h_t_paidOn h_t_lates h_t_fixed h_t_lanes h_t_longs h_t_items h_t_hand h_t_used s_isKept s_taped s_pieces s_at s_readMany s_readKind s_readCut s_rowSet s_bestSet s_w s_firsts s_sizes s_worths v1 q1 e2 sz) gX11_farBy_X11_lay rfl pd_X11_lay rfl rfl rfl ⟨rfl, rfl, Nat.le_of_ble_eq_true rfl, Nat.le_of_ble_eq_true rfl⟩ (Nat.le_of_ble_eq_true rfl) ⟨Nat.zero_le _, Nat.zero_le _⟩ ⟨rfl, rfl, rfl, rfl, rfl, by decide, rfl⟩ rfl dX11_farBy_2 ?_
  refine g_aload_n 5 C 0 dX11_farBy_5 rfl rfl ?_
  obtain ⟨q3, e4, h⟩ := bi_e h
  refine g_callVv 6 C (As := []) [0, 5, 4] [1, 2, 3, 6] [4, 0, 1, 2, 6, 5, 3] (W_X11_farBy k h_t h_t_w h_t_firsts h_t_sizes h_t_worths h_t_sums h_t_dues h_t_tape h_t_readWorths h_t_worthOf h_t_lies h_t_pairs h_t_row h_t_hands h_t_paidOn h_t_lates h_t_fixed h_t_lanes h_t_longs h_t_items h_t_hand h_t_used s_isKept s_taped q1.1 s_at s_readMany s_readKind s_readCut s_rowSet s_bestSet s_w q1.2.1 q1.2.2.1 q1.2.2.2 q3 s_dues) 0 (fun sz => k_X11_laySums h_t h_t_sums h_t_worths h_t_w h_t_tape h_t_firsts h_t_sizes h_t_readWorths h_t_dues h_t_worthOf h_t_lies h_t_pairs h_t_row h_t_hands h_t_paidOn h_t_lates h_t_fixed h_t_lanes h_t_longs h_t_items h_t_hand h_t_used s_isKept s_taped q1.1 s_at s_readMany s_readKind s_readCut s_rowSet s_bestSet s_sums q1.2.2.2 q3 e4 sz) gX11_farBy_X11_laySums rfl pd_X11_laySums rfl rfl rfl ⟨rfl, rfl, Nat.le_of_ble_eq_true rfl, Nat.le_of_ble_eq_true rfl⟩ (Nat.le_of_ble_eq_true rfl) ⟨Nat.zero_le _, Nat.zero_le _⟩ ⟨rfl, rfl, rfl, rfl, rfl, by decide, rfl⟩ rfl dX11_farBy_6 ?_
  refine g_iconst 9 C (0 : Int32) dX11_farBy_9 (by decide) ?_
  refine g_istore_n 10 C [(2, .int (0 : Int32)), (0, .ref h_t), (1, .int v1)] dX11_farBy_10 rfl (by decide) rfl ?_
  refine GG.sub (lv' := [(0, .ref h_t), (2, .int (0 : Int32))]) [1, 0] rfl ?_
  exact ok_L_X11_farBy_11 C hA (fun t h => by
    refine GG.sub (lv' := [(2, .int t)]) [0] rfl ?_
    exact ok_B_X11_farBy_38 C hA h) FUEL (0 : Int32) h
end

/-! X11_far -/
abbrev W_X11_far (k : Nat → ClassId) (h_t : Nat) (h_t_dues : Nat) (h_t_w : Nat) (h_t_firsts : Nat) (h_t_sizes : Nat) (h_t_worths : Nat) (h_t_sums : Nat) (h_t_tape : Nat) (h_t_readWorths : Nat) (h_t_worthOf : Nat) (h_t_lies : Nat) (h_t_pairs : Nat) (h_t_row : Nat) (h_t_hands : Nat) (h_t_paidOn : Nat) (h_t_lates : Nat) (h_t_fixed : Nat) (h_t_lanes : Nat) (h_t_longs : Nat) (h_t_items : Nat) (h_t_hand : Nat) (h_t_used : Nat) (s_isKept : Int32) (s_taped : Int32) (s_pieces : Int32) (s_at : Int32) (s_readMany : Int32) (s_readKind : Int32) (s_readCut : Int32) (s_rowSet : Int32) (s_bestSet : Int32) (s_dues : Nat → Int32) (s_w : Nat → Int32) (s_firsts : Nat → Int32) (s_sizes : Nat → Int32) (s_worths : Nat → Int32) (s_sums : Nat → Int64) : va_W := [(h_t, .inr (11, [.ref h_t_w, .int s_isKept, .ref h_t_tape, .int s_taped, .ref h_t_firsts, .ref h_t_sizes, .ref h_t_worths, .int s_pieces, .int s_at, .ref h_t_readWorths, .int s_readMany, .int s_readKind, .int s_readCut, .ref h_t_dues, .ref h_t_sums, .ref h_t_worthOf, .ref h_t_lies, .ref h_t_pairs, .ref h_t_row, .int s_rowSet, .int s_bestSet, .ref h_t_hands, .ref h_t_paidOn, .ref h_t_lates, .ref h_t_fixed, .ref h_t_lanes, .ref h_t_longs, .ref h_t_items, .ref h_t_hand, .ref h_t_used])), (h_t_dues, .inl (k 0, 61, .inl s_dues)), (h_t_w, .inl (k 0, 60, .inl s_w)), (h_t_firsts, .inl (k 0, 24, .inl s_firsts)), (h_t_sizes, .inl (k 0, 24, .inl s_sizes)), (h_t_worths, .inl (k 0, 24, .inl s_worths)), (h_t_sums, .inl (k 1, 4, .inr (.inl s_sums)))]
def rm_X11_far : Room := { frames := 3, cells := 0, slots := 0, locals := 68 }
theorem in_X11_far_X11 : ∀ w ∈ u_ws RX11 TX11 30, w ∈ wsX11_far := by decide +kernel
theorem fl_X11_far_7 : Cond.fieldLink RX11 7 "LinkDaysModel" "w" "[I" ∈ wsX11_far := by decide +kernel
theorem pd_X11_far : yX11_far.cls = RX11 ∧ yX11_far.cls ≠ "java/lang/invoke/MethodHandle" ∧ yX11_far.cls ≠ "java/lang/invoke/VarHandle" ∧ (parseMethodDescriptor yX11_far.desc).map (fun d => d.parameters.length) = some 0 := by decide +kernel
section
variable {p : Program} {l : Launch} {e : Env} {s : State} {m : MethodId} {args : Array Value} {below : List Frame} {meth : Method} {c : Code} {D : va_G} {k : Nat → ClassId} {A : Nat → Prop} {w0 : va_W} {sz : Nat}
set_option maxHeartbeats 4000000 in
set_option maxRecDepth 100000 in
theorem k_X11_far {l : Launch} {D : va_G} {k : Nat → ClassId} (h_t : Nat) (h_t_dues : Nat) (h_t_w : Nat) (h_t_firsts : Nat) (h_t_sizes : Nat) (h_t_worths : Nat) (h_t_sums : Nat) (h_t_tape : Nat) (h_t_readWorths : Nat) (h_t_worthOf : Nat) (h_t_lies : Nat) (h_t_pairs : Nat) (h_t_row : Nat) (h_t_hands : Nat) (h_t_paidOn : Nat) (h_t_lates : Nat) (h_t_fixed : Nat) (h_t_lanes : Nat) (h_t_longs : Nat) (h_t_items : Nat) (h_t_hand : Nat) (h_t_used : Nat) (s_isKept : Int32) (s_taped : Int32) (s_pieces : Int32) (s_at : Int32) (s_readMany : Int32) (s_readKind : Int32) (s_readCut : Int32) (s_rowSet : Int32) (s_bestSet : Int32) (s_dues : Nat → Int32) (s_w : Nat → Int32) (s_firsts : Nat → Int32) (s_sizes : Nat → Int32) (s_worths : Nat → Int32) (s_sums : Nat → Int64) (res : Int32 × Int32 × (Nat → Int32) × (Nat → Int32) × (Nat → Int32) × (Nat → Int32) × (Nat → Int64)) (h : f_X11_far s_dues s_w s_firsts s_sizes s_worths s_sums = some res) (sz : Nat) : Met l yX11_far wsX11_far rm_X11_far (cPre D k [.ref h_t] (W_X11_far k h_t h_t_dues h_t_w h_t_firsts h_t_sizes h_t_worths h_t_sums h_t_tape h_t_readWorths h_t_worthOf h_t_lies h_t_pairs h_t_row h_t_hands h_t_paidOn h_t_lates h_t_fixed h_t_lanes h_t_longs h_t_items h_t_hand h_t_used s_isKept s_taped s_pieces s_at s_readMany s_readKind s_readCut s_rowSet s_bestSet s_dues s_w s_firsts s_sizes s_worths s_sums) sz) (cQi D (W_X11_far k h_t h_t_dues h_t_w h_t_firsts h_t_sizes h_t_worths h_t_sums h_t_tape h_t_readWorths h_t_worthOf h_t_lies h_t_pairs h_t_row h_t_hands h_t_paidOn h_t_lates h_t_fixed h_t_lanes h_t_longs h_t_items h_t_hand h_t_used s_isKept s_taped s_pieces s_at s_readMany s_readKind s_readCut s_rowSet s_bestSet s_dues s_w s_firsts s_sizes s_worths s_sums) sz res.1 (W_X11_far k h_t h_t_dues h_t_w h_t_firsts h_t_sizes h_t_worths h_t_sums h_t_tape h_t_readWorths h_t_worthOf h_t_lies h_t_pairs h_t_row h_t_hands h_t_paidOn h_t_lates h_t_fixed h_t_lanes h_t_longs h_t_items h_t_hand h_t_used s_isKept s_taped res.2.1 s_at s_readMany s_readKind s_readCut s_rowSet s_bestSet res.2.2.1 s_w res.2.2.2.1 res.2.2.2.2.1 res.2.2.2.2.2.1 res.2.2.2.2.2.2)) 0 0 (va_A (W_X11_far k h_t h_t_dues h_t_w h_t_firsts h_t_sizes h_t_worths h_t_sums h_t_tape h_t_readWorths h_t_worthOf h_t_lies h_t_pairs h_t_row h_t_hands h_t_paidOn h_t_lates h_t_fixed h_t_lanes h_t_longs h_t_items h_t_hand h_t_used s_isKept s_taped s_pieces s_at s_readMany s_readKind s_readCut s_rowSet s_bestSet s_dues s_w s_firsts s_sizes s_worths s_sums) sz) := by
  refine met_of [(0, .ref h_t)] (by decide) rfl rfl (Nat.le_of_ble_eq_true rfl) rfl ?_
  intro p e s m args below meth c A hA hsz C
  unfold f_X11_far at h
  refine g_aload_n 0 C 0 dX11_far_0 rfl rfl ?_
  obtain ⟨q1, e2, h⟩ := bi_e h
  refine g_callVv 1 C (As := []) [0, 1, 2] [3, 4, 5, 6] [4, 5, 6, 0, 1, 2, 3] (W_X11_far k h_t h_t_dues h_t_w h_t_firsts h_t_sizes h_t_worths h_t_sums h_t_tape h_t_readWorths h_t_worthOf h_t_lies h_t_pairs h_t_row h_t_hands h_t_paidOn h_t_lates h_t_fixed h_t_lanes h_t_longs h_t_items h_t_hand h_t_used s_isKept s_taped s_pieces s_at s_readMany s_readKind s_readCut s_rowSet s_bestSet q1 s_w s_firsts s_sizes s_worths s_sums) 0 (fun sz => k_X11_layDues h_t h_t_dues h_t_w h_t_tape h_t_firsts h_t_sizes h_t_worths h_t_readWorths h_t_sums h_t_worthOf h_t_lies h_t_pairs h_t_row h_t_hands h_t_paidOn h_t_lates h_t_fixed h_t_lanes h_t_longs h_t_items h_t_hand h_t_used s_isKept s_taped s_pieces s_at s_readMany s_readKind s_readCut s_rowSet s_bestSet s_dues s_w q1 e2 sz) gX11_far_X11_layDues rfl pd_X11_layDues rfl rfl rfl ⟨rfl, rfl, Nat.le_of_ble_eq_true rfl, Nat.le_of_ble_eq_true rfl⟩ (Nat.le_of_ble_eq_true rfl) ⟨Nat.zero_le _, Nat.zero_le _⟩ ⟨rfl, rfl, rfl, rfl, rfl, by decide, rfl⟩ rfl dX11_far_1 ?_
  refine g_aload_n 4 C 0 dX11_far_4 rfl rfl ?_
  refine g_aload_n 5 C 0 dX11_far_5 rfl rfl ?_
  refine g_get 6 C in_X11_far_X11 0 0 rfl rfl (by decide) fl_X11_far_7 rfl rfl dX11_far_6 ?_
  refine g_bipush 9 C (26 : Int32) dX11_far_9 (by decide) ?_
  obtain ⟨o3, h⟩ := ob_e h
  refine g_iald 11 C 2 rfl o3 dX11_far_11 ?_
  obtain ⟨q4, e5, h⟩ := bi_e h
  refine g_callVi 12 C (As := [.int (s_w (26 : Int32).toNatClampNeg)]) [0, 2, 3, 4, 5, 6, 1] [] [0, 6, 1, 2, 3, 4, 5] (W_X11_far k h_t h_t_dues h_t_w h_t_firsts h_t_sizes h_t_worths h_t_sums h_t_tape h_t_readWorths h_t_worthOf h_t_lies h_t_pairs h_t_row h_t_hands h_t_paidOn h_t_lates h_t_fixed h_t_lanes h_t_longs h_t_items h_t_hand h_t_used s_isKept s_taped q4.2.1 s_at s_readMany s_readKind s_readCut s_rowSet s_bestSet q1 s_w q4.2.2.1 q4.2.2.2.1 q4.2.2.2.2.1 q4.2.2.2.2.2) 0 (fun sz => k_X11_farBy h_t h_t_w h_t_firsts h_t_sizes h_t_worths h_t_sums h_t_dues h_t_tape h_t_readWorths h_t_worthOf h_t_lies h_t_pairs h_t_row h_t_hands h_t_paidOn h_t_lates h_t_fixed h_t_lanes h_t_longs h_t_items h_t_hand h_t_used s_isKept s_taped s_pieces s_at s_readMany s_readKind s_readCut s_rowSet s_bestSet s_w s_firsts s_sizes s_worths s_sums q1 (s_w (26 : Int32).toNatClampNeg) q4 e5 sz) gX11_far_X11_farBy rfl pd_X11_farBy rfl rfl rfl ⟨rfl, rfl, Nat.le_of_ble_eq_true rfl, Nat.le_of_ble_eq_true rfl⟩ (Nat.le_of_ble_eq_true rfl) ⟨Nat.zero_le _, Nat.zero_le _⟩ ⟨rfl, rfl, rfl, rfl, rfl, by decide, rfl⟩ rfl dX11_far_12 ?_
  obtain rfl := Option.some.inj h
  exact g_iret 15 C hA rfl dX11_far_15 rfl
end

/-! X11_laySets -/
abbrev W_X11_laySets (k : Nat → ClassId) (h_t : Nat) (h_t_worthOf : Nat) (h_t_worths : Nat) (h_t_w : Nat) (h_t_tape : Nat) (h_t_firsts : Nat) (h_t_sizes : Nat) (h_t_readWorths : Nat) (h_t_dues : Nat) (h_t_sums : Nat) (h_t_lies : Nat) (h_t_pairs : Nat) (h_t_row : Nat) (h_t_hands : Nat) (h_t_paidOn : Nat) (h_t_lates : Nat) (h_t_fixed : Nat) (h_t_lanes : Nat) (h_t_longs : Nat) (h_t_items : Nat) (h_t_hand : Nat) (h_t_used : Nat) (s_isKept : Int32) (s_taped : Int32) (s_pieces : Int32) (s_at : Int32) (s_readMany : Int32) (s_readKind : Int32) (s_readCut : Int32) (s_rowSet : Int32) (s_bestSet : Int32) (s_worthOf : Nat → Int32) (s_worths : Nat → Int32) : va_W := [(h_t, .inr (11, [.ref h_t_w, .int s_isKept, .ref h_t_tape, .int s_taped, .ref h_t_firsts, .ref h_t_sizes, .ref h_t_worths, .int s_pieces, .int s_at, .ref h_t_readWorths, .int s_readMany, .int s_readKind, .int s_readCut, .ref h_t_dues, .ref h_t_sums, .ref h_t_worthOf, .ref h_t_lies, .ref h_t_pairs, .ref h_t_row, .int s_rowSet, .int s_bestSet, .ref h_t_hands, .ref h_t_paidOn, .ref h_t_lates, .ref h_t_fixed, .ref h_t_lanes, .ref h_t_longs, .ref h_t_items, .ref h_t_hand, .ref h_t_used])), (h_t_worthOf, .inl (k 0, 2048, .inl s_worthOf)), (h_t_worths, .inl (k 0, 24, .inl s_worths))]
def rm_X11_laySets : Room := { frames := 0, cells := 0, slots := 0, locals := 0 }
theorem in_X11_laySets_X11 : ∀ w ∈ u_ws RX11 TX11 30, w ∈ wsX11_laySets := by decide +kernel
theorem fl_X11_laySets_22 : Cond.fieldLink RX11 22 "LinkDaysModel" "worths" "[I" ∈ wsX11_laySets := by decide +kernel
theorem fl_X11_laySets_35 : Cond.fieldLink RX11 35 "LinkDaysModel" "worthOf" "[I" ∈ wsX11_laySets := by decide +kernel
theorem fl_X11_laySets_85 : Cond.fieldLink RX11 85 "LinkDaysModel" "pieces" "I" ∈ wsX11_laySets := by decide +kernel
theorem pd_X11_laySets : yX11_laySets.cls = RX11 ∧ yX11_laySets.cls ≠ "java/lang/invoke/MethodHandle" ∧ yX11_laySets.cls ≠ "java/lang/invoke/VarHandle" ∧ (parseMethodDescriptor yX11_laySets.desc).map (fun d => d.parameters.length) = some 0 := by decide +kernel
section
variable {p : Program} {l : Launch} {e : Env} {s : State} {m : MethodId} {args : Array Value} {below : List Frame} {meth : Method} {c : Code} {D : va_G} {k : Nat → ClassId} {A : Nat → Prop} {w0 : va_W} {sz : Nat}
set_option maxHeartbeats 4000000 in
set_option maxRecDepth 100000 in
theorem ok_L_X11_laySets_21 {h_t : Nat} {h_t_worthOf : Nat} {h_t_worths : Nat} {h_t_w : Nat} {h_t_tape : Nat} {h_t_firsts : Nat} {h_t_sizes : Nat} {h_t_readWorths : Nat} {h_t_dues : Nat} {h_t_sums : Nat} {h_t_lies : Nat} {h_t_pairs : Nat} {h_t_row : Nat} {h_t_hands : Nat} {h_t_paidOn : Nat} {h_t_lates : Nat} {h_t_fixed : Nat} {h_t_lanes : Nat} {h_t_longs : Nat} {h_t_items : Nat} {h_t_hand : Nat} {h_t_used : Nat} {s_isKept : Int32} {s_taped : Int32} {s_pieces : Int32} {s_at : Int32} {s_readMany : Int32} {s_readKind : Int32} {s_readCut : Int32} {s_rowSet : Int32} {s_bestSet : Int32} {s_worths : Nat → Int32} {v1 : Int32} {res : (Nat → Int32)} (C : CX p s m args meth c cX11_laySets wsX11_laySets RX11 3 D k A none) (hA : A = va_A w0 sz) {kx : Int32 × (Nat → Int32) → Option ((Nat → Int32))} (hx : ∀ t : Int32 × (Nat → Int32), kx t = some res → GG p l e rm_X11_laySets s m args below meth c (MQ below (cQv D w0 sz (W_X11_laySets k h_t h_t_worthOf h_t_worths h_t_w h_t_tape h_t_firsts h_t_sizes h_t_readWorths h_t_dues h_t_sums h_t_lies h_t_pairs h_t_row h_t_hands h_t_paidOn h_t_lates h_t_fixed h_t_lanes h_t_longs h_t_items h_t_hand h_t_used s_isKept s_taped s_pieces s_at s_readMany s_readKind s_readCut s_rowSet s_bestSet res s_worths)) args s 0 0 A) D A 3 0 0 57 [(0, .ref h_t), (1, .int v1)] [] (W_X11_laySets k h_t h_t_worthOf h_t_worths h_t_w h_t_tape h_t_firsts h_t_sizes h_t_readWorths h_t_dues h_t_sums h_t_lies h_t_pairs h_t_row h_t_hands h_t_paidOn h_t_lates h_t_fixed h_t_lanes h_t_longs h_t_items h_t_hand h_t_used s_isKept s_taped s_pieces s_at s_readMany s_readKind s_readCut s_rowSet s_bestSet t.2 s_worths)) : ∀ (n : Nat) (t : Int32 × (Nat → Int32)), L_X11_laySets_21 s_worths v1 kx n t = some res → GG p l e rm_X11_laySets s m args below meth c (MQ below (cQv D w0 sz (W_X11_laySets k h_t h_t_worthOf h_t_worths h_t_w h_t_tape h_t_firsts h_t_sizes h_t_readWorths h_t_dues h_t_sums h_t_lies h_t_pairs h_t_row h_t_hands h_t_paidOn h_t_lates h_t_fixed h_t_lanes h_t_longs h_t_items h_t_hand h_t_used s_isKept s_taped s_pieces s_at s_readMany s_readKind s_readCut s_rowSet s_bestSet res s_worths)) args s 0 0 A) D A 3 0 0 21 [(0, .ref h_t), (1, .int v1), (2, .int t.1)] [] (W_X11_laySets k h_t h_t_worthOf h_t_worths h_t_w h_t_tape h_t_firsts h_t_sizes h_t_readWorths h_t_dues h_t_sums h_t_lies h_t_pairs h_t_row h_t_hands h_t_paidOn h_t_lates h_t_fixed h_t_lanes h_t_longs h_t_items h_t_hand h_t_used s_isKept s_taped s_pieces s_at s_readMany s_readKind s_readCut s_rowSet s_bestSet t.2 s_worths) := by
  intro n
  induction n with
  | zero => intro t h; cases h
  | succ n ih =>
    intro t h
    obtain ⟨v2, s_worthOf⟩ := t
    replace h : LB_X11_laySets_21 s_worths v1 kx (L_X11_laySets_21 s_worths v1 kx n) v2 s_worthOf = some res := h
    have hr := ih
    unfold LB_X11_laySets_21 at h
    refine g_iload_n 21 C 2 dX11_laySets_21 rfl rfl ?_
    refine g_iconst 22 C (2 : Int32) dX11_laySets_22 (by decide) ?_
    refine g_iload_n 23 C 1 dX11_laySets_23 rfl rfl ?_
    refine g_ishl 24 C dX11_laySets_24 ?_
    refine g_icmp_ge 25 57 C dX11_laySets_25 (by decide) (fun c => ?_) (fun c => ?_)
    · replace h := it_e c h
      refine GG.sub (lv' := [(0, .ref h_t), (1, .int v1)]) [0, 1] rfl ?_
      exact hx (v2, s_worthOf) h
    · replace h := if_e c h
      refine g_aload_n 28 C 0 dX11_laySets_28 rfl rfl ?_
      refine g_get 29 C in_X11_laySets_X11 0 15 rfl rfl (by decide) fl_X11_laySets_35 rfl rfl dX11_laySets_29 ?_
      refine g_iload_n 32 C 2 dX11_laySets_32 rfl rfl ?_
      refine g_aload_n 33 C 0 dX11_laySets_33 rfl rfl ?_
      refine g_get 34 C in_X11_laySets_X11 0 15 rfl rfl (by decide) fl_X11_laySets_35 rfl rfl dX11_laySets_34 ?_
      refine g_iload_n 37 C 2 dX11_laySets_37 rfl rfl ?_
      refine g_iconst 38 C (1 : Int32) dX11_laySets_38 (by decide) ?_
      refine g_iload_n 39 C 1 dX11_laySets_39 rfl rfl ?_
      refine g_ishl 40 C dX11_laySets_40 ?_
      refine g_isub 41 C dX11_laySets_41 ?_
      obtain ⟨o2, h⟩ := ob_e h
      refine g_iald 42 C 1 rfl o2 dX11_laySets_42 ?_
      refine g_aload_n 43 C 0 dX11_laySets_43 rfl rfl ?_
      refine g_get 44 C in_X11_laySets_X11 0 6 rfl rfl (by decide) fl_X11_laySets_22 rfl rfl dX11_laySets_44 ?_
      refine g_iload_n 47 C 1 dX11_laySets_47 rfl rfl ?_
      obtain ⟨o3, h⟩ := ob_e h
      refine g_iald 48 C 2 rfl o3 dX11_laySets_48 ?_
      refine g_iadd 49 C dX11_laySets_49 ?_
      obtain ⟨o4, h⟩ := ob_e h
      refine g_iast 50 C (W_X11_laySets k h_t h_t_worthOf h_t_worths h_t_w h_t_tape h_t_firsts h_t_sizes h_t_readWorths h_t_dues h_t_sums h_t_lies h_t_pairs h_t_row h_t_hands h_t_paidOn h_t_lates h_t_fixed h_t_lanes h_t_longs h_t_items h_t_hand h_t_used s_isKept s_taped s_pieces s_at s_readMany s_readKind s_readCut s_rowSet s_bestSet (upd s_worthOf v2.toNatClampNeg ((s_worthOf (v2 - ((1 : Int32) <<< (v1 &&& 31))).toNatClampNeg) + (s_worths v1.toNatClampNeg))) s_worths) 1 rfl o4 rfl dX11_laySets_50 ?_
      refine g_iinc 51 C 2 (1 : Int32) [(2, .int (v2 + (1 : Int32))), (0, .ref h_t), (1, .int v1)] dX11_laySets_51 rfl (by decide) (by decide) rfl ?_
      refine g_goto 54 21 C dX11_laySets_54 (by decide) ?_
      refine GG.sub (lv' := [(0, .ref h_t), (1, .int v1), (2, .int (v2 + (1 : Int32)))]) [1, 2, 0] rfl ?_
      exact hr ((v2 + (1 : Int32)), (upd s_worthOf v2.toNatClampNeg ((s_worthOf (v2 - ((1 : Int32) <<< (v1 &&& 31))).toNatClampNeg) + (s_worths v1.toNatClampNeg)))) h
set_option maxHeartbeats 4000000 in
set_option maxRecDepth 100000 in
theorem ok_B_X11_laySets_57 {h_t : Nat} {h_t_worthOf : Nat} {h_t_worths : Nat} {h_t_w : Nat} {h_t_tape : Nat} {h_t_firsts : Nat} {h_t_sizes : Nat} {h_t_readWorths : Nat} {h_t_dues : Nat} {h_t_sums : Nat} {h_t_lies : Nat} {h_t_pairs : Nat} {h_t_row : Nat} {h_t_hands : Nat} {h_t_paidOn : Nat} {h_t_lates : Nat} {h_t_fixed : Nat} {h_t_lanes : Nat} {h_t_longs : Nat} {h_t_items : Nat} {h_t_hand : Nat} {h_t_used : Nat} {s_isKept : Int32} {s_taped : Int32} {s_pieces : Int32} {s_at : Int32} {s_readMany : Int32} {s_readKind : Int32} {s_readCut : Int32} {s_rowSet : Int32} {s_bestSet : Int32} {s_worthOf : Nat → Int32} {s_worths : Nat → Int32} {v1 : Int32} {res : (Nat → Int32)} {kx rec : Int32 × (Nat → Int32) → Option ((Nat → Int32))} (C : CX p s m args meth c cX11_laySets wsX11_laySets RX11 3 D k A none) (hA : A = va_A w0 sz) (hx : ∀ t : Int32 × (Nat → Int32), kx t = some res → GG p l e rm_X11_laySets s m args below meth c (MQ below (cQv D w0 sz (W_X11_laySets k h_t h_t_worthOf h_t_worths h_t_w h_t_tape h_t_firsts h_t_sizes h_t_readWorths h_t_dues h_t_sums h_t_lies h_t_pairs h_t_row h_t_hands h_t_paidOn h_t_lates h_t_fixed h_t_lanes h_t_longs h_t_items h_t_hand h_t_used s_isKept s_taped s_pieces s_at s_readMany s_readKind s_readCut s_rowSet s_bestSet res s_worths)) args s 0 0 A) D A 3 0 0 63 [] [] (W_X11_laySets k h_t h_t_worthOf h_t_worths h_t_w h_t_tape h_t_firsts h_t_sizes h_t_readWorths h_t_dues h_t_sums h_t_lies h_t_pairs h_t_row h_t_hands h_t_paidOn h_t_lates h_t_fixed h_t_lanes h_t_longs h_t_items h_t_hand h_t_used s_isKept s_taped s_pieces s_at s_readMany s_readKind s_readCut s_rowSet s_bestSet t.2 s_worths)) (hr : ∀ t : Int32 × (Nat → Int32), rec t = some res → GG p l e rm_X11_laySets s m args below meth c (MQ below (cQv D w0 sz (W_X11_laySets k h_t h_t_worthOf h_t_worths h_t_w h_t_tape h_t_firsts h_t_sizes h_t_readWorths h_t_dues h_t_sums h_t_lies h_t_pairs h_t_row h_t_hands h_t_paidOn h_t_lates h_t_fixed h_t_lanes h_t_longs h_t_items h_t_hand h_t_used s_isKept s_taped s_pieces s_at s_readMany s_readKind s_readCut s_rowSet s_bestSet res s_worths)) args s 0 0 A) D A 3 0 0 9 [(0, .ref h_t), (1, .int t.1)] [] (W_X11_laySets k h_t h_t_worthOf h_t_worths h_t_w h_t_tape h_t_firsts h_t_sizes h_t_readWorths h_t_dues h_t_sums h_t_lies h_t_pairs h_t_row h_t_hands h_t_paidOn h_t_lates h_t_fixed h_t_lanes h_t_longs h_t_items h_t_hand h_t_used s_isKept s_taped s_pieces s_at s_readMany s_readKind s_readCut s_rowSet s_bestSet t.2 s_worths))  (h : B_X11_laySets_57 kx rec s_worthOf v1 = some res) : GG p l e rm_X11_laySets s m args below meth c (MQ below (cQv D w0 sz (W_X11_laySets k h_t h_t_worthOf h_t_worths h_t_w h_t_tape h_t_firsts h_t_sizes h_t_readWorths h_t_dues h_t_sums h_t_lies h_t_pairs h_t_row h_t_hands h_t_paidOn h_t_lates h_t_fixed h_t_lanes h_t_longs h_t_items h_t_hand h_t_used s_isKept s_taped s_pieces s_at s_readMany s_readKind s_readCut s_rowSet s_bestSet res s_worths)) args s 0 0 A) D A 3 0 0 57 [(0, .ref h_t), (1, .int v1)] [] (W_X11_laySets k h_t h_t_worthOf h_t_worths h_t_w h_t_tape h_t_firsts h_t_sizes h_t_readWorths h_t_dues h_t_sums h_t_lies h_t_pairs h_t_row h_t_hands h_t_paidOn h_t_lates h_t_fixed h_t_lanes h_t_longs h_t_items h_t_hand h_t_used s_isKept s_taped s_pieces s_at s_readMany s_readKind s_readCut s_rowSet s_bestSet s_worthOf s_worths) := by
  unfold B_X11_laySets_57 at h
  refine g_iinc 57 C 1 (1 : Int32) [(1, .int (v1 + (1 : Int32))), (0, .ref h_t)] dX11_laySets_57 rfl (by decide) (by decide) rfl ?_
  refine g_goto 60 9 C dX11_laySets_60 (by decide) ?_
  refine GG.sub (lv' := [(0, .ref h_t), (1, .int (v1 + (1 : Int32)))]) [1, 0] rfl ?_
  exact hr ((v1 + (1 : Int32)), s_worthOf) h
set_option maxHeartbeats 4000000 in
set_option maxRecDepth 100000 in
theorem ok_L_X11_laySets_9 {h_t : Nat} {h_t_worthOf : Nat} {h_t_worths : Nat} {h_t_w : Nat} {h_t_tape : Nat} {h_t_firsts : Nat} {h_t_sizes : Nat} {h_t_readWorths : Nat} {h_t_dues : Nat} {h_t_sums : Nat} {h_t_lies : Nat} {h_t_pairs : Nat} {h_t_row : Nat} {h_t_hands : Nat} {h_t_paidOn : Nat} {h_t_lates : Nat} {h_t_fixed : Nat} {h_t_lanes : Nat} {h_t_longs : Nat} {h_t_items : Nat} {h_t_hand : Nat} {h_t_used : Nat} {s_isKept : Int32} {s_taped : Int32} {s_pieces : Int32} {s_at : Int32} {s_readMany : Int32} {s_readKind : Int32} {s_readCut : Int32} {s_rowSet : Int32} {s_bestSet : Int32} {s_worths : Nat → Int32} {res : (Nat → Int32)} (C : CX p s m args meth c cX11_laySets wsX11_laySets RX11 3 D k A none) (hA : A = va_A w0 sz) {kx : Int32 × (Nat → Int32) → Option ((Nat → Int32))} (hx : ∀ t : Int32 × (Nat → Int32), kx t = some res → GG p l e rm_X11_laySets s m args below meth c (MQ below (cQv D w0 sz (W_X11_laySets k h_t h_t_worthOf h_t_worths h_t_w h_t_tape h_t_firsts h_t_sizes h_t_readWorths h_t_dues h_t_sums h_t_lies h_t_pairs h_t_row h_t_hands h_t_paidOn h_t_lates h_t_fixed h_t_lanes h_t_longs h_t_items h_t_hand h_t_used s_isKept s_taped s_pieces s_at s_readMany s_readKind s_readCut s_rowSet s_bestSet res s_worths)) args s 0 0 A) D A 3 0 0 63 [] [] (W_X11_laySets k h_t h_t_worthOf h_t_worths h_t_w h_t_tape h_t_firsts h_t_sizes h_t_readWorths h_t_dues h_t_sums h_t_lies h_t_pairs h_t_row h_t_hands h_t_paidOn h_t_lates h_t_fixed h_t_lanes h_t_longs h_t_items h_t_hand h_t_used s_isKept s_taped s_pieces s_at s_readMany s_readKind s_readCut s_rowSet s_bestSet t.2 s_worths)) : ∀ (n : Nat) (t : Int32 × (Nat → Int32)), L_X11_laySets_9 s_pieces s_worths kx n t = some res → GG p l e rm_X11_laySets s m args below meth c (MQ below (cQv D w0 sz (W_X11_laySets k h_t h_t_worthOf h_t_worths h_t_w h_t_tape h_t_firsts h_t_sizes h_t_readWorths h_t_dues h_t_sums h_t_lies h_t_pairs h_t_row h_t_hands h_t_paidOn h_t_lates h_t_fixed h_t_lanes h_t_longs h_t_items h_t_hand h_t_used s_isKept s_taped s_pieces s_at s_readMany s_readKind s_readCut s_rowSet s_bestSet res s_worths)) args s 0 0 A) D A 3 0 0 9 [(0, .ref h_t), (1, .int t.1)] [] (W_X11_laySets k h_t h_t_worthOf h_t_worths h_t_w h_t_tape h_t_firsts h_t_sizes h_t_readWorths h_t_dues h_t_sums h_t_lies h_t_pairs h_t_row h_t_hands h_t_paidOn h_t_lates h_t_fixed h_t_lanes h_t_longs h_t_items h_t_hand h_t_used s_isKept s_taped s_pieces s_at s_readMany s_readKind s_readCut s_rowSet s_bestSet t.2 s_worths) := by
  intro n
  induction n with
  | zero => intro t h; cases h
  | succ n ih =>
    intro t h
    obtain ⟨v1, s_worthOf⟩ := t
    replace h : LB_X11_laySets_9 s_pieces s_worths kx (L_X11_laySets_9 s_pieces s_worths kx n) v1 s_worthOf = some res := h
    have hr := ih
    unfold LB_X11_laySets_9 at h
    refine g_iload_n 9 C 1 dX11_laySets_9 rfl rfl ?_
    refine g_aload_n 10 C 0 dX11_laySets_10 rfl rfl ?_
    refine g_get 11 C in_X11_laySets_X11 0 7 rfl rfl (by decide) fl_X11_laySets_85 rfl rfl dX11_laySets_11 ?_
    refine g_icmp_ge 14 63 C dX11_laySets_14 (by decide) (fun c => ?_) (fun c => ?_)
    · replace h := it_e c h
      refine GG.sub (lv' := []) [] rfl ?_
      exact hx (v1, s_worthOf) h
    · replace h := if_e c h
      refine g_iconst 17 C (1 : Int32) dX11_laySets_17 (by decide) ?_
      refine g_iload_n 18 C 1 dX11_laySets_18 rfl rfl ?_
      refine g_ishl 19 C dX11_laySets_19 ?_
      refine g_istore_n 20 C [(2, .int ((1 : Int32) <<< (v1 &&& 31))), (0, .ref h_t), (1, .int v1)] dX11_laySets_20 rfl (by decide) rfl ?_
      refine GG.sub (lv' := [(0, .ref h_t), (1, .int v1), (2, .int ((1 : Int32) <<< (v1 &&& 31)))]) [1, 2, 0] rfl ?_
      exact ok_L_X11_laySets_21 C hA (fun t h => by
        refine GG.sub (lv' := [(0, .ref h_t), (1, .int v1)]) [0, 1] rfl ?_
        exact ok_B_X11_laySets_57 C hA hx hr h) FUEL (((1 : Int32) <<< (v1 &&& 31)), s_worthOf) h
set_option maxHeartbeats 4000000 in
set_option maxRecDepth 100000 in
theorem ok_B_X11_laySets_63 {h_t : Nat} {h_t_worthOf : Nat} {h_t_worths : Nat} {h_t_w : Nat} {h_t_tape : Nat} {h_t_firsts : Nat} {h_t_sizes : Nat} {h_t_readWorths : Nat} {h_t_dues : Nat} {h_t_sums : Nat} {h_t_lies : Nat} {h_t_pairs : Nat} {h_t_row : Nat} {h_t_hands : Nat} {h_t_paidOn : Nat} {h_t_lates : Nat} {h_t_fixed : Nat} {h_t_lanes : Nat} {h_t_longs : Nat} {h_t_items : Nat} {h_t_hand : Nat} {h_t_used : Nat} {s_isKept : Int32} {s_taped : Int32} {s_pieces : Int32} {s_at : Int32} {s_readMany : Int32} {s_readKind : Int32} {s_readCut : Int32} {s_rowSet : Int32} {s_bestSet : Int32} {s_worthOf : Nat → Int32} {s_worths : Nat → Int32} {res : (Nat → Int32)} (C : CX p s m args meth c cX11_laySets wsX11_laySets RX11 3 D k A none) (hA : A = va_A w0 sz)  (h : B_X11_laySets_63 s_worthOf = some res) : GG p l e rm_X11_laySets s m args below meth c (MQ below (cQv D w0 sz (W_X11_laySets k h_t h_t_worthOf h_t_worths h_t_w h_t_tape h_t_firsts h_t_sizes h_t_readWorths h_t_dues h_t_sums h_t_lies h_t_pairs h_t_row h_t_hands h_t_paidOn h_t_lates h_t_fixed h_t_lanes h_t_longs h_t_items h_t_hand h_t_used s_isKept s_taped s_pieces s_at s_readMany s_readKind s_readCut s_rowSet s_bestSet res s_worths)) args s 0 0 A) D A 3 0 0 63 [] [] (W_X11_laySets k h_t h_t_worthOf h_t_worths h_t_w h_t_tape h_t_firsts h_t_sizes h_t_readWorths h_t_dues h_t_sums h_t_lies h_t_pairs h_t_row h_t_hands h_t_paidOn h_t_lates h_t_fixed h_t_lanes h_t_longs h_t_items h_t_hand h_t_used s_isKept s_taped s_pieces s_at s_readMany s_readKind s_readCut s_rowSet s_bestSet s_worthOf s_worths) := by
  unfold B_X11_laySets_63 at h
  obtain rfl := Option.some.inj h
  exact g_vret 63 C hA dX11_laySets_63 rfl
set_option maxHeartbeats 4000000 in
set_option maxRecDepth 100000 in
theorem k_X11_laySets {l : Launch} {D : va_G} {k : Nat → ClassId} (h_t : Nat) (h_t_worthOf : Nat) (h_t_worths : Nat) (h_t_w : Nat) (h_t_tape : Nat) (h_t_firsts : Nat) (h_t_sizes : Nat) (h_t_readWorths : Nat) (h_t_dues : Nat) (h_t_sums : Nat) (h_t_lies : Nat) (h_t_pairs : Nat) (h_t_row : Nat) (h_t_hands : Nat) (h_t_paidOn : Nat) (h_t_lates : Nat) (h_t_fixed : Nat) (h_t_lanes : Nat) (h_t_longs : Nat) (h_t_items : Nat) (h_t_hand : Nat) (h_t_used : Nat) (s_isKept : Int32) (s_taped : Int32) (s_pieces : Int32) (s_at : Int32) (s_readMany : Int32) (s_readKind : Int32) (s_readCut : Int32) (s_rowSet : Int32) (s_bestSet : Int32) (s_worthOf : Nat → Int32) (s_worths : Nat → Int32) (res : (Nat → Int32)) (h : f_X11_laySets s_pieces s_worthOf s_worths = some res) (sz : Nat) : Met l yX11_laySets wsX11_laySets rm_X11_laySets (cPre D k [.ref h_t] (W_X11_laySets k h_t h_t_worthOf h_t_worths h_t_w h_t_tape h_t_firsts h_t_sizes h_t_readWorths h_t_dues h_t_sums h_t_lies h_t_pairs h_t_row h_t_hands h_t_paidOn h_t_lates h_t_fixed h_t_lanes h_t_longs h_t_items h_t_hand h_t_used s_isKept s_taped s_pieces s_at s_readMany s_readKind s_readCut s_rowSet s_bestSet s_worthOf s_worths) sz) (cQv D (W_X11_laySets k h_t h_t_worthOf h_t_worths h_t_w h_t_tape h_t_firsts h_t_sizes h_t_readWorths h_t_dues h_t_sums h_t_lies h_t_pairs h_t_row h_t_hands h_t_paidOn h_t_lates h_t_fixed h_t_lanes h_t_longs h_t_items h_t_hand h_t_used s_isKept s_taped s_pieces s_at s_readMany s_readKind s_readCut s_rowSet s_bestSet s_worthOf s_worths) sz (W_X11_laySets k h_t h_t_worthOf h_t_worths h_t_w h_t_tape h_t_firsts h_t_sizes h_t_readWorths h_t_dues h_t_sums h_t_lies h_t_pairs h_t_row h_t_hands h_t_paidOn h_t_lates h_t_fixed h_t_lanes h_t_longs h_t_items h_t_hand h_t_used s_isKept s_taped s_pieces s_at s_readMany s_readKind s_readCut s_rowSet s_bestSet res s_worths)) 0 0 (va_A (W_X11_laySets k h_t h_t_worthOf h_t_worths h_t_w h_t_tape h_t_firsts h_t_sizes h_t_readWorths h_t_dues h_t_sums h_t_lies h_t_pairs h_t_row h_t_hands h_t_paidOn h_t_lates h_t_fixed h_t_lanes h_t_longs h_t_items h_t_hand h_t_used s_isKept s_taped s_pieces s_at s_readMany s_readKind s_readCut s_rowSet s_bestSet s_worthOf s_worths) sz) := by
  refine met_of [(0, .ref h_t)] (by decide) rfl rfl (Nat.le_of_ble_eq_true rfl) rfl ?_
  intro p e s m args below meth c A hA hsz C
  unfold f_X11_laySets at h
  refine g_aload_n 0 C 0 dX11_laySets_0 rfl rfl ?_
  refine g_get 1 C in_X11_laySets_X11 0 15 rfl rfl (by decide) fl_X11_laySets_35 rfl rfl dX11_laySets_1 ?_
  refine g_iconst 4 C (0 : Int32) dX11_laySets_4 (by decide) ?_
  refine g_iconst 5 C (0 : Int32) dX11_laySets_5 (by decide) ?_
  obtain ⟨o1, h⟩ := ob_e h
  refine g_iast 6 C (W_X11_laySets k h_t h_t_worthOf h_t_worths h_t_w h_t_tape h_t_firsts h_t_sizes h_t_readWorths h_t_dues h_t_sums h_t_lies h_t_pairs h_t_row h_t_hands h_t_paidOn h_t_lates h_t_fixed h_t_lanes h_t_longs h_t_items h_t_hand h_t_used s_isKept s_taped s_pieces s_at s_readMany s_readKind s_readCut s_rowSet s_bestSet (upd s_worthOf (0 : Int32).toNatClampNeg (0 : Int32)) s_worths) 1 rfl o1 rfl dX11_laySets_6 ?_
  refine g_iconst 7 C (0 : Int32) dX11_laySets_7 (by decide) ?_
  refine g_istore_n 8 C [(1, .int (0 : Int32)), (0, .ref h_t)] dX11_laySets_8 rfl (by decide) rfl ?_
  refine GG.sub (lv' := [(0, .ref h_t), (1, .int (0 : Int32))]) [1, 0] rfl ?_
  exact ok_L_X11_laySets_9 C hA (fun t h => by
    refine GG.sub (lv' := []) [] rfl ?_
    exact ok_B_X11_laySets_63 C hA h) FUEL ((0 : Int32), (upd s_worthOf (0 : Int32).toNatClampNeg (0 : Int32))) h
end

/-! X11_kept -/
abbrev W_X11_kept (k : Nat → ClassId) (h_t : Nat) (h_t_dues : Nat) (h_t_w : Nat) (h_t_firsts : Nat) (h_t_sizes : Nat) (h_t_worths : Nat) (h_t_worthOf : Nat) (h_t_lies : Nat) (h_t_tape : Nat) (h_t_readWorths : Nat) (h_t_sums : Nat) (h_t_pairs : Nat) (h_t_row : Nat) (h_t_hands : Nat) (h_t_paidOn : Nat) (h_t_lates : Nat) (h_t_fixed : Nat) (h_t_lanes : Nat) (h_t_longs : Nat) (h_t_items : Nat) (h_t_hand : Nat) (h_t_used : Nat) (s_isKept : Int32) (s_taped : Int32) (s_pieces : Int32) (s_at : Int32) (s_readMany : Int32) (s_readKind : Int32) (s_readCut : Int32) (s_rowSet : Int32) (s_bestSet : Int32) (s_dues : Nat → Int32) (s_w : Nat → Int32) (s_firsts : Nat → Int32) (s_sizes : Nat → Int32) (s_worths : Nat → Int32) (s_worthOf : Nat → Int32) (s_lies : Nat → Int32) : va_W := [(h_t, .inr (11, [.ref h_t_w, .int s_isKept, .ref h_t_tape, .int s_taped, .ref h_t_firsts, .ref h_t_sizes, .ref h_t_worths, .int s_pieces, .int s_at, .ref h_t_readWorths, .int s_readMany, .int s_readKind, .int s_readCut, .ref h_t_dues, .ref h_t_sums, .ref h_t_worthOf, .ref h_t_lies, .ref h_t_pairs, .ref h_t_row, .int s_rowSet, .int s_bestSet, .ref h_t_hands, .ref h_t_paidOn, .ref h_t_lates, .ref h_t_fixed, .ref h_t_lanes, .ref h_t_longs, .ref h_t_items, .ref h_t_hand, .ref h_t_used])), (h_t_dues, .inl (k 0, 61, .inl s_dues)), (h_t_w, .inl (k 0, 60, .inl s_w)), (h_t_firsts, .inl (k 0, 24, .inl s_firsts)), (h_t_sizes, .inl (k 0, 24, .inl s_sizes)), (h_t_worths, .inl (k 0, 24, .inl s_worths)), (h_t_worthOf, .inl (k 0, 2048, .inl s_worthOf)), (h_t_lies, .inl (k 3, 2048, .inl s_lies))]
def rm_X11_kept : Room := { frames := 3, cells := 0, slots := 0, locals := 66 }
theorem in_X11_kept_X11 : ∀ w ∈ u_ws RX11 TX11 30, w ∈ wsX11_kept := by decide +kernel
theorem fl_X11_kept_28 : Cond.fieldLink RX11 28 "LinkDaysModel" "dues" "[I" ∈ wsX11_kept := by decide +kernel
theorem fl_X11_kept_35 : Cond.fieldLink RX11 35 "LinkDaysModel" "worthOf" "[I" ∈ wsX11_kept := by decide +kernel
theorem fl_X11_kept_38 : Cond.fieldLink RX11 38 "LinkDaysModel" "lies" "[Z" ∈ wsX11_kept := by decide +kernel
theorem fl_X11_kept_85 : Cond.fieldLink RX11 85 "LinkDaysModel" "pieces" "I" ∈ wsX11_kept := by decide +kernel
theorem pd_X11_kept : yX11_kept.cls = RX11 ∧ yX11_kept.cls ≠ "java/lang/invoke/MethodHandle" ∧ yX11_kept.cls ≠ "java/lang/invoke/VarHandle" ∧ (parseMethodDescriptor yX11_kept.desc).map (fun d => d.parameters.length) = some 0 := by decide +kernel
section
variable {p : Program} {l : Launch} {e : Env} {s : State} {m : MethodId} {args : Array Value} {below : List Frame} {meth : Method} {c : Code} {D : va_G} {k : Nat → ClassId} {A : Nat → Prop} {w0 : va_W} {sz : Nat}
set_option maxHeartbeats 4000000 in
set_option maxRecDepth 100000 in
theorem ok_B_X11_kept_40 {h_t : Nat} {h_t_dues : Nat} {h_t_w : Nat} {h_t_firsts : Nat} {h_t_sizes : Nat} {h_t_worths : Nat} {h_t_worthOf : Nat} {h_t_lies : Nat} {h_t_tape : Nat} {h_t_readWorths : Nat} {h_t_sums : Nat} {h_t_pairs : Nat} {h_t_row : Nat} {h_t_hands : Nat} {h_t_paidOn : Nat} {h_t_lates : Nat} {h_t_fixed : Nat} {h_t_lanes : Nat} {h_t_longs : Nat} {h_t_items : Nat} {h_t_hand : Nat} {h_t_used : Nat} {s_isKept : Int32} {s_taped : Int32} {s_pieces : Int32} {s_at : Int32} {s_readMany : Int32} {s_readKind : Int32} {s_readCut : Int32} {s_rowSet : Int32} {s_bestSet : Int32} {s_dues : Nat → Int32} {s_w : Nat → Int32} {s_firsts : Nat → Int32} {s_sizes : Nat → Int32} {s_worths : Nat → Int32} {s_worthOf : Nat → Int32} {s_lies : Nat → Int32} {v1 : Int32} {v2 : Int32} {x0 : Int32} {x1 : Int32} {res : Int32 × Int32 × (Nat → Int32) × (Nat → Int32) × (Nat → Int32) × (Nat → Int32) × (Nat → Int32) × (Nat → Int32)} {kx rec : Int32 × (Nat → Int32) → Option (Int32 × Int32 × (Nat → Int32) × (Nat → Int32) × (Nat → Int32) × (Nat → Int32) × (Nat → Int32) × (Nat → Int32))} (C : CX p s m args meth c cX11_kept wsX11_kept RX11 5 D k A (some .int)) (hA : A = va_A w0 sz) (hx : ∀ t : Int32 × (Nat → Int32), kx t = some res → GG p l e rm_X11_kept s m args below meth c (MQ below (cQi D w0 sz res.1 (W_X11_kept k h_t h_t_dues h_t_w h_t_firsts h_t_sizes h_t_worths h_t_worthOf h_t_lies h_t_tape h_t_readWorths h_t_sums h_t_pairs h_t_row h_t_hands h_t_paidOn h_t_lates h_t_fixed h_t_lanes h_t_longs h_t_items h_t_hand h_t_used s_isKept s_taped res.2.1 s_at s_readMany s_readKind s_readCut s_rowSet s_bestSet res.2.2.1 s_w res.2.2.2.1 res.2.2.2.2.1 res.2.2.2.2.2.1 res.2.2.2.2.2.2.1 res.2.2.2.2.2.2.2)) args s 0 0 A) D A 5 0 0 47 [(0, .ref h_t), (1, .int v1)] [] (W_X11_kept k h_t h_t_dues h_t_w h_t_firsts h_t_sizes h_t_worths h_t_worthOf h_t_lies h_t_tape h_t_readWorths h_t_sums h_t_pairs h_t_row h_t_hands h_t_paidOn h_t_lates h_t_fixed h_t_lanes h_t_longs h_t_items h_t_hand h_t_used s_isKept s_taped s_pieces s_at s_readMany s_readKind s_readCut s_rowSet s_bestSet s_dues s_w s_firsts s_sizes s_worths s_worthOf t.2)) (hr : ∀ t : Int32 × (Nat → Int32), rec t = some res → GG p l e rm_X11_kept s m args below meth c (MQ below (cQi D w0 sz res.1 (W_X11_kept k h_t h_t_dues h_t_w h_t_firsts h_t_sizes h_t_worths h_t_worthOf h_t_lies h_t_tape h_t_readWorths h_t_sums h_t_pairs h_t_row h_t_hands h_t_paidOn h_t_lates h_t_fixed h_t_lanes h_t_longs h_t_items h_t_hand h_t_used s_isKept s_taped res.2.1 s_at s_readMany s_readKind s_readCut s_rowSet s_bestSet res.2.2.1 s_w res.2.2.2.1 res.2.2.2.2.1 res.2.2.2.2.2.1 res.2.2.2.2.2.2.1 res.2.2.2.2.2.2.2)) args s 0 0 A) D A 5 0 0 21 [(0, .ref h_t), (1, .int v1), (2, .int t.1)] [] (W_X11_kept k h_t h_t_dues h_t_w h_t_firsts h_t_sizes h_t_worths h_t_worthOf h_t_lies h_t_tape h_t_readWorths h_t_sums h_t_pairs h_t_row h_t_hands h_t_paidOn h_t_lates h_t_fixed h_t_lanes h_t_longs h_t_items h_t_hand h_t_used s_isKept s_taped s_pieces s_at s_readMany s_readKind s_readCut s_rowSet s_bestSet s_dues s_w s_firsts s_sizes s_worths s_worthOf t.2))  (h : B_X11_kept_40 kx rec s_lies v2 x0 x1 = some res) : GG p l e rm_X11_kept s m args below meth c (MQ below (cQi D w0 sz res.1 (W_X11_kept k h_t h_t_dues h_t_w h_t_firsts h_t_sizes h_t_worths h_t_worthOf h_t_lies h_t_tape h_t_readWorths h_t_sums h_t_pairs h_t_row h_t_hands h_t_paidOn h_t_lates h_t_fixed h_t_lanes h_t_longs h_t_items h_t_hand h_t_used s_isKept s_taped res.2.1 s_at s_readMany s_readKind s_readCut s_rowSet s_bestSet res.2.2.1 s_w res.2.2.2.1 res.2.2.2.2.1 res.2.2.2.2.2.1 res.2.2.2.2.2.2.1 res.2.2.2.2.2.2.2)) args s 0 0 A) D A 5 0 0 40 [(0, .ref h_t), (1, .int v1), (2, .int v2)] [.int x0, .int x1, .ref h_t_lies] (W_X11_kept k h_t h_t_dues h_t_w h_t_firsts h_t_sizes h_t_worths h_t_worthOf h_t_lies h_t_tape h_t_readWorths h_t_sums h_t_pairs h_t_row h_t_hands h_t_paidOn h_t_lates h_t_fixed h_t_lanes h_t_longs h_t_items h_t_hand h_t_used s_isKept s_taped s_pieces s_at s_readMany s_readKind s_readCut s_rowSet s_bestSet s_dues s_w s_firsts s_sizes s_worths s_worthOf s_lies) := by
  unfold B_X11_kept_40 at h
  obtain ⟨o7, h⟩ := ob_e h
  refine g_zast 40 C (W_X11_kept k h_t h_t_dues h_t_w h_t_firsts h_t_sizes h_t_worths h_t_worthOf h_t_lies h_t_tape h_t_readWorths h_t_sums h_t_pairs h_t_row h_t_hands h_t_paidOn h_t_lates h_t_fixed h_t_lanes h_t_longs h_t_items h_t_hand h_t_used s_isKept s_taped s_pieces s_at s_readMany s_readKind s_readCut s_rowSet s_bestSet s_dues s_w s_firsts s_sizes s_worths s_worthOf (upd s_lies x1.toNatClampNeg (vp_nar .boolean x0))) 7 rfl o7 rfl dX11_kept_40 ?_
  refine g_iinc 41 C 2 (1 : Int32) [(2, .int (v2 + (1 : Int32))), (0, .ref h_t), (1, .int v1)] dX11_kept_41 rfl (by decide) (by decide) rfl ?_
  refine g_goto 44 21 C dX11_kept_44 (by decide) ?_
  refine GG.sub (lv' := [(0, .ref h_t), (1, .int v1), (2, .int (v2 + (1 : Int32)))]) [1, 2, 0] rfl ?_
  exact hr ((v2 + (1 : Int32)), (upd s_lies x1.toNatClampNeg (vp_nar .boolean x0))) h
set_option maxHeartbeats 4000000 in
set_option maxRecDepth 100000 in
theorem ok_L_X11_kept_21 {h_t : Nat} {h_t_dues : Nat} {h_t_w : Nat} {h_t_firsts : Nat} {h_t_sizes : Nat} {h_t_worths : Nat} {h_t_worthOf : Nat} {h_t_lies : Nat} {h_t_tape : Nat} {h_t_readWorths : Nat} {h_t_sums : Nat} {h_t_pairs : Nat} {h_t_row : Nat} {h_t_hands : Nat} {h_t_paidOn : Nat} {h_t_lates : Nat} {h_t_fixed : Nat} {h_t_lanes : Nat} {h_t_longs : Nat} {h_t_items : Nat} {h_t_hand : Nat} {h_t_used : Nat} {s_isKept : Int32} {s_taped : Int32} {s_pieces : Int32} {s_at : Int32} {s_readMany : Int32} {s_readKind : Int32} {s_readCut : Int32} {s_rowSet : Int32} {s_bestSet : Int32} {s_dues : Nat → Int32} {s_w : Nat → Int32} {s_firsts : Nat → Int32} {s_sizes : Nat → Int32} {s_worths : Nat → Int32} {s_worthOf : Nat → Int32} {v1 : Int32} {res : Int32 × Int32 × (Nat → Int32) × (Nat → Int32) × (Nat → Int32) × (Nat → Int32) × (Nat → Int32) × (Nat → Int32)} (C : CX p s m args meth c cX11_kept wsX11_kept RX11 5 D k A (some .int)) (hA : A = va_A w0 sz) {kx : Int32 × (Nat → Int32) → Option (Int32 × Int32 × (Nat → Int32) × (Nat → Int32) × (Nat → Int32) × (Nat → Int32) × (Nat → Int32) × (Nat → Int32))} (hx : ∀ t : Int32 × (Nat → Int32), kx t = some res → GG p l e rm_X11_kept s m args below meth c (MQ below (cQi D w0 sz res.1 (W_X11_kept k h_t h_t_dues h_t_w h_t_firsts h_t_sizes h_t_worths h_t_worthOf h_t_lies h_t_tape h_t_readWorths h_t_sums h_t_pairs h_t_row h_t_hands h_t_paidOn h_t_lates h_t_fixed h_t_lanes h_t_longs h_t_items h_t_hand h_t_used s_isKept s_taped res.2.1 s_at s_readMany s_readKind s_readCut s_rowSet s_bestSet res.2.2.1 s_w res.2.2.2.1 res.2.2.2.2.1 res.2.2.2.2.2.1 res.2.2.2.2.2.2.1 res.2.2.2.2.2.2.2)) args s 0 0 A) D A 5 0 0 47 [(0, .ref h_t), (1, .int v1)] [] (W_X11_kept k h_t h_t_dues h_t_w h_t_firsts h_t_sizes h_t_worths h_t_worthOf h_t_lies h_t_tape h_t_readWorths h_t_sums h_t_pairs h_t_row h_t_hands h_t_paidOn h_t_lates h_t_fixed h_t_lanes h_t_longs h_t_items h_t_hand h_t_used s_isKept s_taped s_pieces s_at s_readMany s_readKind s_readCut s_rowSet s_bestSet s_dues s_w s_firsts s_sizes s_worths s_worthOf t.2)) : ∀ (n : Nat) (t : Int32 × (Nat → Int32)), L_X11_kept_21 v1 kx n t = some res → GG p l e rm_X11_kept s m args below meth c (MQ below (cQi D w0 sz res.1 (W_X11_kept k h_t h_t_dues h_t_w h_t_firsts h_t_sizes h_t_worths h_t_worthOf h_t_lies h_t_tape h_t_readWorths h_t_sums h_t_pairs h_t_row h_t_hands h_t_paidOn h_t_lates h_t_fixed h_t_lanes h_t_longs h_t_items h_t_hand h_t_used s_isKept s_taped res.2.1 s_at s_readMany s_readKind s_readCut s_rowSet s_bestSet res.2.2.1 s_w res.2.2.2.1 res.2.2.2.2.1 res.2.2.2.2.2.1 res.2.2.2.2.2.2.1 res.2.2.2.2.2.2.2)) args s 0 0 A) D A 5 0 0 21 [(0, .ref h_t), (1, .int v1), (2, .int t.1)] [] (W_X11_kept k h_t h_t_dues h_t_w h_t_firsts h_t_sizes h_t_worths h_t_worthOf h_t_lies h_t_tape h_t_readWorths h_t_sums h_t_pairs h_t_row h_t_hands h_t_paidOn h_t_lates h_t_fixed h_t_lanes h_t_longs h_t_items h_t_hand h_t_used s_isKept s_taped s_pieces s_at s_readMany s_readKind s_readCut s_rowSet s_bestSet s_dues s_w s_firsts s_sizes s_worths s_worthOf t.2) := by
  intro n
  induction n with
  | zero => intro t h; cases h
  | succ n ih =>
    intro t h
    obtain ⟨v2, s_lies⟩ := t
    replace h : LB_X11_kept_21 v1 kx (L_X11_kept_21 v1 kx n) v2 s_lies = some res := h
    have hr := ih
    unfold LB_X11_kept_21 at h
    refine g_iload_n 21 C 2 dX11_kept_21 rfl rfl ?_
    refine g_iload_n 22 C 1 dX11_kept_22 rfl rfl ?_
    refine g_icmp_ge 23 47 C dX11_kept_23 (by decide) (fun c => ?_) (fun c => ?_)
    · replace h := it_e c h
      refine GG.sub (lv' := [(0, .ref h_t), (1, .int v1)]) [0, 1] rfl ?_
      exact hx (v2, s_lies) h
    · replace h := if_e c h
      refine g_aload_n 26 C 0 dX11_kept_26 rfl rfl ?_
      refine g_get 27 C in_X11_kept_X11 0 16 rfl rfl (by decide) fl_X11_kept_38 rfl rfl dX11_kept_27 ?_
      refine g_iload_n 30 C 2 dX11_kept_30 rfl rfl ?_
      refine g_iload_n 31 C 2 dX11_kept_31 rfl rfl ?_
      refine g_if_ne 32 39 C dX11_kept_32 (by decide) (fun c => ?_) (fun c => ?_)
      · replace h := if_e c h
        refine g_iconst 39 C (0 : Int32) dX11_kept_39 (by decide) ?_
        refine GG.sub (lv' := [(0, .ref h_t), (1, .int v1), (2, .int v2)]) [0, 1, 2] rfl ?_
        exact ok_B_X11_kept_40 C hA hx hr h
      · replace h := it_e c h
        refine g_iconst 35 C (1 : Int32) dX11_kept_35 (by decide) ?_
        refine g_goto 36 40 C dX11_kept_36 (by decide) ?_
        refine GG.sub (lv' := [(0, .ref h_t), (1, .int v1), (2, .int v2)]) [0, 1, 2] rfl ?_
        exact ok_B_X11_kept_40 C hA hx hr h
set_option maxHeartbeats 4000000 in
set_option maxRecDepth 100000 in
theorem ok_B_X11_kept_118 {h_t : Nat} {h_t_dues : Nat} {h_t_w : Nat} {h_t_firsts : Nat} {h_t_sizes : Nat} {h_t_worths : Nat} {h_t_worthOf : Nat} {h_t_lies : Nat} {h_t_tape : Nat} {h_t_readWorths : Nat} {h_t_sums : Nat} {h_t_pairs : Nat} {h_t_row : Nat} {h_t_hands : Nat} {h_t_paidOn : Nat} {h_t_lates : Nat} {h_t_fixed : Nat} {h_t_lanes : Nat} {h_t_longs : Nat} {h_t_items : Nat} {h_t_hand : Nat} {h_t_used : Nat} {s_isKept : Int32} {s_taped : Int32} {s_pieces : Int32} {s_at : Int32} {s_readMany : Int32} {s_readKind : Int32} {s_readCut : Int32} {s_rowSet : Int32} {s_bestSet : Int32} {s_dues : Nat → Int32} {s_w : Nat → Int32} {s_firsts : Nat → Int32} {s_sizes : Nat → Int32} {s_worths : Nat → Int32} {s_worthOf : Nat → Int32} {s_lies : Nat → Int32} {v1 : Int32} {v2 : Int32} {v3 : Int32} {v4 : Int32} {x0 : Int32} {x1 : Int32} {res : Int32 × Int32 × (Nat → Int32) × (Nat → Int32) × (Nat → Int32) × (Nat → Int32) × (Nat → Int32) × (Nat → Int32)} {kx rec : Int32 × (Nat → Int32) → Option (Int32 × Int32 × (Nat → Int32) × (Nat → Int32) × (Nat → Int32) × (Nat → Int32) × (Nat → Int32) × (Nat → Int32))} (C : CX p s m args meth c cX11_kept wsX11_kept RX11 5 D k A (some .int)) (hA : A = va_A w0 sz) (hx : ∀ t : Int32 × (Nat → Int32), kx t = some res → GG p l e rm_X11_kept s m args below meth c (MQ below (cQi D w0 sz res.1 (W_X11_kept k h_t h_t_dues h_t_w h_t_firsts h_t_sizes h_t_worths h_t_worthOf h_t_lies h_t_tape h_t_readWorths h_t_sums h_t_pairs h_t_row h_t_hands h_t_paidOn h_t_lates h_t_fixed h_t_lanes h_t_longs h_t_items h_t_hand h_t_used s_isKept s_taped res.2.1 s_at s_readMany s_readKind s_readCut s_rowSet s_bestSet res.2.2.1 s_w res.2.2.2.1 res.2.2.2.2.1 res.2.2.2.2.2.1 res.2.2.2.2.2.2.1 res.2.2.2.2.2.2.2)) args s 0 0 A) D A 5 0 0 125 [(0, .ref h_t), (1, .int v1), (2, .int v2), (3, .int v3)] [] (W_X11_kept k h_t h_t_dues h_t_w h_t_firsts h_t_sizes h_t_worths h_t_worthOf h_t_lies h_t_tape h_t_readWorths h_t_sums h_t_pairs h_t_row h_t_hands h_t_paidOn h_t_lates h_t_fixed h_t_lanes h_t_longs h_t_items h_t_hand h_t_used s_isKept s_taped s_pieces s_at s_readMany s_readKind s_readCut s_rowSet s_bestSet s_dues s_w s_firsts s_sizes s_worths s_worthOf t.2)) (hr : ∀ t : Int32 × (Nat → Int32), rec t = some res → GG p l e rm_X11_kept s m args below meth c (MQ below (cQi D w0 sz res.1 (W_X11_kept k h_t h_t_dues h_t_w h_t_firsts h_t_sizes h_t_worths h_t_worthOf h_t_lies h_t_tape h_t_readWorths h_t_sums h_t_pairs h_t_row h_t_hands h_t_paidOn h_t_lates h_t_fixed h_t_lanes h_t_longs h_t_items h_t_hand h_t_used s_isKept s_taped res.2.1 s_at s_readMany s_readKind s_readCut s_rowSet s_bestSet res.2.2.1 s_w res.2.2.2.1 res.2.2.2.2.1 res.2.2.2.2.2.1 res.2.2.2.2.2.2.1 res.2.2.2.2.2.2.2)) args s 0 0 A) D A 5 0 0 68 [(0, .ref h_t), (1, .int v1), (2, .int v2), (3, .int v3), (4, .int t.1)] [] (W_X11_kept k h_t h_t_dues h_t_w h_t_firsts h_t_sizes h_t_worths h_t_worthOf h_t_lies h_t_tape h_t_readWorths h_t_sums h_t_pairs h_t_row h_t_hands h_t_paidOn h_t_lates h_t_fixed h_t_lanes h_t_longs h_t_items h_t_hand h_t_used s_isKept s_taped s_pieces s_at s_readMany s_readKind s_readCut s_rowSet s_bestSet s_dues s_w s_firsts s_sizes s_worths s_worthOf t.2))  (h : B_X11_kept_118 kx rec s_lies v4 x0 x1 = some res) : GG p l e rm_X11_kept s m args below meth c (MQ below (cQi D w0 sz res.1 (W_X11_kept k h_t h_t_dues h_t_w h_t_firsts h_t_sizes h_t_worths h_t_worthOf h_t_lies h_t_tape h_t_readWorths h_t_sums h_t_pairs h_t_row h_t_hands h_t_paidOn h_t_lates h_t_fixed h_t_lanes h_t_longs h_t_items h_t_hand h_t_used s_isKept s_taped res.2.1 s_at s_readMany s_readKind s_readCut s_rowSet s_bestSet res.2.2.1 s_w res.2.2.2.1 res.2.2.2.2.1 res.2.2.2.2.2.1 res.2.2.2.2.2.2.1 res.2.2.2.2.2.2.2)) args s 0 0 A) D A 5 0 0 118 [(0, .ref h_t), (1, .int v1), (2, .int v2), (3, .int v3), (4, .int v4)] [.int x0, .int x1, .ref h_t_lies] (W_X11_kept k h_t h_t_dues h_t_w h_t_firsts h_t_sizes h_t_worths h_t_worthOf h_t_lies h_t_tape h_t_readWorths h_t_sums h_t_pairs h_t_row h_t_hands h_t_paidOn h_t_lates h_t_fixed h_t_lanes h_t_longs h_t_items h_t_hand h_t_used s_isKept s_taped s_pieces s_at s_readMany s_readKind s_readCut s_rowSet s_bestSet s_dues s_w s_firsts s_sizes s_worths s_worthOf s_lies) := by
  unfold B_X11_kept_118 at h
  obtain ⟨o9, h⟩ := ob_e h
  refine g_zast 118 C (W_X11_kept k h_t h_t_dues h_t_w h_t_firsts h_t_sizes h_t_worths h_t_worthOf h_t_lies h_t_tape h_t_readWorths h_t_sums h_t_pairs h_t_row h_t_hands h_t_paidOn h_t_lates h_t_fixed h_t_lanes h_t_longs h_t_items h_t_hand h_t_used s_isKept s_taped s_pieces s_at s_readMany s_readKind s_readCut s_rowSet s_bestSet s_dues s_w s_firsts s_sizes s_worths s_worthOf (upd s_lies x1.toNatClampNeg (vp_nar .boolean x0))) 7 rfl o9 rfl dX11_kept_118 ?_
  refine g_iinc 119 C 4 (1 : Int32) [(4, .int (v4 + (1 : Int32))), (0, .ref h_t), (1, .int v1), (2, .int v2), (3, .int v3)] dX11_kept_119 rfl (by decide) (by decide) rfl ?_
  refine g_goto 122 68 C dX11_kept_122 (by decide) ?_
  refine GG.sub (lv' := [(0, .ref h_t), (1, .int v1), (2, .int v2), (3, .int v3), (4, .int (v4 + (1 : Int32)))]) [1, 2, 3, 4, 0] rfl ?_
  exact hr ((v4 + (1 : Int32)), (upd s_lies x1.toNatClampNeg (vp_nar .boolean x0))) h
set_option maxHeartbeats 4000000 in
set_option maxRecDepth 100000 in
theorem ok_B_X11_kept_113 {h_t : Nat} {h_t_dues : Nat} {h_t_w : Nat} {h_t_firsts : Nat} {h_t_sizes : Nat} {h_t_worths : Nat} {h_t_worthOf : Nat} {h_t_lies : Nat} {h_t_tape : Nat} {h_t_readWorths : Nat} {h_t_sums : Nat} {h_t_pairs : Nat} {h_t_row : Nat} {h_t_hands : Nat} {h_t_paidOn : Nat} {h_t_lates : Nat} {h_t_fixed : Nat} {h_t_lanes : Nat} {h_t_longs : Nat} {h_t_items : Nat} {h_t_hand : Nat} {h_t_used : Nat} {s_isKept : Int32} {s_taped : Int32} {s_pieces : Int32} {s_at : Int32} {s_readMany : Int32} {s_readKind : Int32} {s_readCut : Int32} {s_rowSet : Int32} {s_bestSet : Int32} {s_dues : Nat → Int32} {s_w : Nat → Int32} {s_firsts : Nat → Int32} {s_sizes : Nat → Int32} {s_worths : Nat → Int32} {s_worthOf : Nat → Int32} {s_lies : Nat → Int32} {v1 : Int32} {v2 : Int32} {v3 : Int32} {v4 : Int32} {x0 : Int32} {res : Int32 × Int32 × (Nat → Int32) × (Nat → Int32) × (Nat → Int32) × (Nat → Int32) × (Nat → Int32) × (Nat → Int32)} {kx rec : Int32 × (Nat → Int32) → Option (Int32 × Int32 × (Nat → Int32) × (Nat → Int32) × (Nat → Int32) × (Nat → Int32) × (Nat → Int32) × (Nat → Int32))} (C : CX p s m args meth c cX11_kept wsX11_kept RX11 5 D k A (some .int)) (hA : A = va_A w0 sz) (hx : ∀ t : Int32 × (Nat → Int32), kx t = some res → GG p l e rm_X11_kept s m args below meth c (MQ below (cQi D w0 sz res.1 (W_X11_kept k h_t h_t_dues h_t_w h_t_firsts h_t_sizes h_t_worths h_t_worthOf h_t_lies h_t_tape h_t_readWorths h_t_sums h_t_pairs h_t_row h_t_hands h_t_paidOn h_t_lates h_t_fixed h_t_lanes h_t_longs h_t_items h_t_hand h_t_used s_isKept s_taped res.2.1 s_at s_readMany s_readKind s_readCut s_rowSet s_bestSet res.2.2.1 s_w res.2.2.2.1 res.2.2.2.2.1 res.2.2.2.2.2.1 res.2.2.2.2.2.2.1 res.2.2.2.2.2.2.2)) args s 0 0 A) D A 5 0 0 125 [(0, .ref h_t), (1, .int v1), (2, .int v2), (3, .int v3)] [] (W_X11_kept k h_t h_t_dues h_t_w h_t_firsts h_t_sizes h_t_worths h_t_worthOf h_t_lies h_t_tape h_t_readWorths h_t_sums h_t_pairs h_t_row h_t_hands h_t_paidOn h_t_lates h_t_fixed h_t_lanes h_t_longs h_t_items h_t_hand h_t_used s_isKept s_taped s_pieces s_at s_readMany s_readKind s_readCut s_rowSet s_bestSet s_dues s_w s_firsts s_sizes s_worths s_worthOf t.2)) (hr : ∀ t : Int32 × (Nat → Int32), rec t = some res → GG p l e rm_X11_kept s m args below meth c (MQ below (cQi D w0 sz res.1 (W_X11_kept k h_t h_t_dues h_t_w h_t_firsts h_t_sizes h_t_worths h_t_worthOf h_t_lies h_t_tape h_t_readWorths h_t_sums h_t_pairs h_t_row h_t_hands h_t_paidOn h_t_lates h_t_fixed h_t_lanes h_t_longs h_t_items h_t_hand h_t_used s_isKept s_taped res.2.1 s_at s_readMany s_readKind s_readCut s_rowSet s_bestSet res.2.2.1 s_w res.2.2.2.1 res.2.2.2.2.1 res.2.2.2.2.2.1 res.2.2.2.2.2.2.1 res.2.2.2.2.2.2.2)) args s 0 0 A) D A 5 0 0 68 [(0, .ref h_t), (1, .int v1), (2, .int v2), (3, .int v3), (4, .int t.1)] [] (W_X11_kept k h_t h_t_dues h_t_w h_t_firsts h_t_sizes h_t_worths h_t_worthOf h_t_lies h_t_tape h_t_readWorths h_t_sums h_t_pairs h_t_row h_t_hands h_t_paidOn h_t_lates h_t_fixed h_t_lanes h_t_longs h_t_items h_t_hand h_t_used s_isKept s_taped s_pieces s_at s_readMany s_readKind s_readCut s_rowSet s_bestSet s_dues s_w s_firsts s_sizes s_worths s_worthOf t.2))  (h : B_X11_kept_113 kx rec s_lies v4 x0 = some res) : GG p l e rm_X11_kept s m args below meth c (MQ below (cQi D w0 sz res.1 (W_X11_kept k h_t h_t_dues h_t_w h_t_firsts h_t_sizes h_t_worths h_t_worthOf h_t_lies h_t_tape h_t_readWorths h_t_sums h_t_pairs h_t_row h_t_hands h_t_paidOn h_t_lates h_t_fixed h_t_lanes h_t_longs h_t_items h_t_hand h_t_used s_isKept s_taped res.2.1 s_at s_readMany s_readKind s_readCut s_rowSet s_bestSet res.2.2.1 s_w res.2.2.2.1 res.2.2.2.2.1 res.2.2.2.2.2.1 res.2.2.2.2.2.2.1 res.2.2.2.2.2.2.2)) args s 0 0 A) D A 5 0 0 113 [(0, .ref h_t), (1, .int v1), (2, .int v2), (3, .int v3), (4, .int v4)] [.int x0, .ref h_t_lies] (W_X11_kept k h_t h_t_dues h_t_w h_t_firsts h_t_sizes h_t_worths h_t_worthOf h_t_lies h_t_tape h_t_readWorths h_t_sums h_t_pairs h_t_row h_t_hands h_t_paidOn h_t_lates h_t_fixed h_t_lanes h_t_longs h_t_items h_t_hand h_t_used s_isKept s_taped s_pieces s_at s_readMany s_readKind s_readCut s_rowSet s_bestSet s_dues s_w s_firsts s_sizes s_worths s_worthOf s_lies) := by
  unfold B_X11_kept_113 at h
  refine g_iconst 113 C (1 : Int32) dX11_kept_113 (by decide) ?_
  refine g_goto 114 118 C dX11_kept_114 (by decide) ?_
  refine GG.sub (lv' := [(0, .ref h_t), (1, .int v1), (2, .int v2), (3, .int v3), (4, .int v4)]) [0, 1, 2, 3, 4] rfl ?_
  exact ok_B_X11_kept_118 C hA hx hr h
set_option maxHeartbeats 4000000 in
set_option maxRecDepth 100000 in
theorem ok_B_X11_kept_117 {h_t : Nat} {h_t_dues : Nat} {h_t_w : Nat} {h_t_firsts : Nat} {h_t_sizes : Nat} {h_t_worths : Nat} {h_t_worthOf : Nat} {h_t_lies : Nat} {h_t_tape : Nat} {h_t_readWorths : Nat} {h_t_sums : Nat} {h_t_pairs : Nat} {h_t_row : Nat} {h_t_hands : Nat} {h_t_paidOn : Nat} {h_t_lates : Nat} {h_t_fixed : Nat} {h_t_lanes : Nat} {h_t_longs : Nat} {h_t_items : Nat} {h_t_hand : Nat} {h_t_used : Nat} {s_isKept : Int32} {s_taped : Int32} {s_pieces : Int32} {s_at : Int32} {s_readMany : Int32} {s_readKind : Int32} {s_readCut : Int32} {s_rowSet : Int32} {s_bestSet : Int32} {s_dues : Nat → Int32} {s_w : Nat → Int32} {s_firsts : Nat → Int32} {s_sizes : Nat → Int32} {s_worths : Nat → Int32} {s_worthOf : Nat → Int32} {s_lies : Nat → Int32} {v1 : Int32} {v2 : Int32} {v3 : Int32} {v4 : Int32} {x0 : Int32} {res : Int32 × Int32 × (Nat → Int32) × (Nat → Int32) × (Nat → Int32) × (Nat → Int32) × (Nat → Int32) × (Nat → Int32)} {kx rec : Int32 × (Nat → Int32) → Option (Int32 × Int32 × (Nat → Int32) × (Nat → Int32) × (Nat → Int32) × (Nat → Int32) × (Nat → Int32) × (Nat → Int32))} (C : CX p s m args meth c cX11_kept wsX11_kept RX11 5 D k A (some .int)) (hA : A = va_A w0 sz) (hx : ∀ t : Int32 × (Nat → Int32), kx t = some res → GG p l e rm_X11_kept s m args below meth c (MQ below (cQi D w0 sz res.1 (W_X11_kept k h_t h_t_dues h_t_w h_t_firsts h_t_sizes h_t_worths h_t_worthOf h_t_lies h_t_tape h_t_readWorths h_t_sums h_t_pairs h_t_row h_t_hands h_t_paidOn h_t_lates h_t_fixed h_t_lanes h_t_longs h_t_items h_t_hand h_t_used s_isKept s_taped res.2.1 s_at s_readMany s_readKind s_readCut s_rowSet s_bestSet res.2.2.1 s_w res.2.2.2.1 res.2.2.2.2.1 res.2.2.2.2.2.1 res.2.2.2.2.2.2.1 res.2.2.2.2.2.2.2)) args s 0 0 A) D A 5 0 0 125 [(0, .ref h_t), (1, .int v1), (2, .int v2), (3, .int v3)] [] (W_X11_kept k h_t h_t_dues h_t_w h_t_firsts h_t_sizes h_t_worths h_t_worthOf h_t_lies h_t_tape h_t_readWorths h_t_sums h_t_pairs h_t_row h_t_hands h_t_paidOn h_t_lates h_t_fixed h_t_lanes h_t_longs h_t_items h_t_hand h_t_used s_isKept s_taped s_pieces s_at s_readMany s_readKind s_readCut s_rowSet s_bestSet s_dues s_w s_firsts s_sizes s_worths s_worthOf t.2)) (hr : ∀ t : Int32 × (Nat → Int32), rec t = some res → GG p l e rm_X11_kept s m args below meth c (MQ below (cQi D w0 sz res.1 (W_X11_kept k h_t h_t_dues h_t_w h_t_firsts h_t_sizes h_t_worths h_t_worthOf h_t_lies h_t_tape h_t_readWorths h_t_sums h_t_pairs h_t_row h_t_hands h_t_paidOn h_t_lates h_t_fixed h_t_lanes h_t_longs h_t_items h_t_hand h_t_used s_isKept s_taped res.2.1 s_at s_readMany s_readKind s_readCut s_rowSet s_bestSet res.2.2.1 s_w res.2.2.2.1 res.2.2.2.2.1 res.2.2.2.2.2.1 res.2.2.2.2.2.2.1 res.2.2.2.2.2.2.2)) args s 0 0 A) D A 5 0 0 68 [(0, .ref h_t), (1, .int v1), (2, .int v2), (3, .int v3), (4, .int t.1)] [] (W_X11_kept k h_t h_t_dues h_t_w h_t_firsts h_t_sizes h_t_worths h_t_worthOf h_t_lies h_t_tape h_t_readWorths h_t_sums h_t_pairs h_t_row h_t_hands h_t_paidOn h_t_lates h_t_fixed h_t_lanes h_t_longs h_t_items h_t_hand h_t_used s_isKept s_taped s_pieces s_at s_readMany s_readKind s_readCut s_rowSet s_bestSet s_dues s_w s_firsts s_sizes s_worths s_worthOf t.2))  (h : B_X11_kept_117 kx rec s_lies v4 x0 = some res) : GG p l e rm_X11_kept s m args below meth c (MQ below (cQi D w0 sz res.1 (W_X11_kept k h_t h_t_dues h_t_w h_t_firsts h_t_sizes h_t_worths h_t_worthOf h_t_lies h_t_tape h_t_readWorths h_t_sums h_t_pairs h_t_row h_t_hands h_t_paidOn h_t_lates h_t_fixed h_t_lanes h_t_longs h_t_items h_t_hand h_t_used s_isKept s_taped res.2.1 s_at s_readMany s_readKind s_readCut s_rowSet s_bestSet res.2.2.1 s_w res.2.2.2.1 res.2.2.2.2.1 res.2.2.2.2.2.1 res.2.2.2.2.2.2.1 res.2.2.2.2.2.2.2)) args s 0 0 A) D A 5 0 0 117 [(0, .ref h_t), (1, .int v1), (2, .int v2), (3, .int v3), (4, .int v4)] [.int x0, .ref h_t_lies] (W_X11_kept k h_t h_t_dues h_t_w h_t_firsts h_t_sizes h_t_worths h_t_worthOf h_t_lies h_t_tape h_t_readWorths h_t_sums h_t_pairs h_t_row h_t_hands h_t_paidOn h_t_lates h_t_fixed h_t_lanes h_t_longs h_t_items h_t_hand h_t_used s_isKept s_taped s_pieces s_at s_readMany s_readKind s_readCut s_rowSet s_bestSet s_dues s_w s_firsts s_sizes s_worths s_worthOf s_lies) := by
  unfold B_X11_kept_117 at h
  refine g_iconst 117 C (0 : Int32) dX11_kept_117 (by decide) ?_
  refine GG.sub (lv' := [(0, .ref h_t), (1, .int v1), (2, .int v2), (3, .int v3), (4, .int v4)]) [0, 1, 2, 3, 4] rfl ?_
  exact ok_B_X11_kept_118 C hA hx hr h
set_option maxHeartbeats 4000000 in
set_option maxRecDepth 100000 in
theorem ok_L_X11_kept_68 {h_t : Nat} {h_t_dues : Nat} {h_t_w : Nat} {h_t_firsts : Nat} {h_t_sizes : Nat} {h_t_worths : Nat} {h_t_worthOf : Nat} {h_t_lies : Nat} {h_t_tape : Nat} {h_t_readWorths : Nat} {h_t_sums : Nat} {h_t_pairs : Nat} {h_t_row : Nat} {h_t_hands : Nat} {h_t_paidOn : Nat} {h_t_lates : Nat} {h_t_fixed : Nat} {h_t_lanes : Nat} {h_t_longs : Nat} {h_t_items : Nat} {h_t_hand : Nat} {h_t_used : Nat} {s_isKept : Int32} {s_taped : Int32} {s_pieces : Int32} {s_at : Int32} {s_readMany : Int32} {s_readKind : Int32} {s_readCut : Int32} {s_rowSet : Int32} {s_bestSet : Int32} {s_dues : Nat → Int32} {s_w : Nat → Int32} {s_firsts : Nat → Int32} {s_sizes : Nat → Int32} {s_worths : Nat → Int32} {s_worthOf : Nat → Int32} {v1 : Int32} {v2 : Int32} {v3 : Int32} {res : Int32 × Int32 × (Nat → Int32) × (Nat → Int32) × (Nat → Int32) × (Nat → Int32) × (Nat → Int32) × (Nat → Int32)} (C : CX p s m args meth c cX11_kept wsX11_kept RX11 5 D k A (some .int)) (hA : A = va_A w0 sz) {kx : Int32 × (Nat → Int32) → Option (Int32 × Int32 × (Nat → Int32) × (Nat → Int32) × (Nat → Int32) × (Nat → Int32) × (Nat → Int32) × (Nat → Int32))} (hx : ∀ t : Int32 × (Nat → Int32), kx t = some res → GG p l e rm_X11_kept s m args below meth c (MQ below (cQi D w0 sz res.1 (W_X11_kept k h_t h_t_dues h_t_w h_t_firsts h_t_sizes h_t_worths h_t_worthOf h_t_lies h_t_tape h_t_readWorths h_t_sums h_t_pairs h_t_row h_t_hands h_t_paidOn h_t_lates h_t_fixed h_t_lanes h_t_longs h_t_items h_t_hand h_t_used s_isKept s_taped res.2.1 s_at s_readMany s_readKind s_readCut s_rowSet s_bestSet res.2.2.1 s_w res.2.2.2.1 res.2.2.2.2.1 res.2.2.2.2.2.1 res.2.2.2.2.2.2.1 res.2.2.2.2.2.2.2)) args s 0 0 A) D A 5 0 0 125 [(0, .ref h_t), (1, .int v1), (2, .int v2), (3, .int v3)] [] (W_X11_kept k h_t h_t_dues h_t_w h_t_firsts h_t_sizes h_t_worths h_t_worthOf h_t_lies h_t_tape h_t_readWorths h_t_sums h_t_pairs h_t_row h_t_hands h_t_paidOn h_t_lates h_t_fixed h_t_lanes h_t_longs h_t_items h_t_hand h_t_used s_isKept s_taped s_pieces s_at s_readMany s_readKind s_readCut s_rowSet s_bestSet s_dues s_w s_firsts s_sizes s_worths s_worthOf t.2)) : ∀ (n : Nat) (t : Int32 × (Nat → Int32)), L_X11_kept_68 v1 v3 kx n t = some res → GG p l e rm_X11_kept s m args below meth c (MQ below (cQi D w0 sz res.1 (W_X11_kept k h_t h_t_dues h_t_w h_t_firsts h_t_sizes h_t_worths h_t_worthOf h_t_lies h_t_tape h_t_readWorths h_t_sums h_t_pairs h_t_row h_t_hands h_t_paidOn h_t_lates h_t_fixed h_t_lanes h_t_longs h_t_items h_t_hand h_t_used s_isKept s_taped res.2.1 s_at s_readMany s_readKind s_readCut s_rowSet s_bestSet res.2.2.1 s_w res.2.2.2.1 res.2.2.2.2.1 res.2.2.2.2.2.1 res.2.2.2.2.2.2.1 res.2.2.2.2.2.2.2)) args s 0 0 A) D A 5 0 0 68 [(0, .ref h_t), (1, .int v1), (2, .int v2), (3, .int v3), (4, .int t.1)] [] (W_X11_kept k h_t h_t_dues h_t_w h_t_firsts h_t_sizes h_t_worths h_t_worthOf h_t_lies h_t_tape h_t_readWorths h_t_sums h_t_pairs h_t_row h_t_hands h_t_paidOn h_t_lates h_t_fixed h_t_lanes h_t_longs h_t_items h_t_hand h_t_used s_isKept s_taped s_pieces s_at s_readMany s_readKind s_readCut s_rowSet s_bestSet s_dues s_w s_firsts s_sizes s_worths s_worthOf t.2) := by
  intro n
  induction n with
  | zero => intro t h; cases h
  | succ n ih =>
    intro t h
    obtain ⟨v4, s_lies⟩ := t
    replace h : LB_X11_kept_68 v1 v3 kx (L_X11_kept_68 v1 v3 kx n) v4 s_lies = some res := h
    have hr := ih
    unfold LB_X11_kept_68 at h
    refine g_iload 68 C 4 dX11_kept_68 rfl ?_
    refine g_iload_n 70 C 1 dX11_kept_70 rfl rfl ?_
    refine g_icmp_ge 71 125 C dX11_kept_71 (by decide) (fun c => ?_) (fun c => ?_)
    · replace h := it_e c h
      refine GG.sub (lv' := [(0, .ref h_t), (1, .int v1), (2, .int v2), (3, .int v3)]) [0, 1, 2, 3] rfl ?_
      exact hx (v4, s_lies) h
    · replace h := if_e c h
      refine g_aload_n 74 C 0 dX11_kept_74 rfl rfl ?_
      refine g_get 75 C in_X11_kept_X11 0 16 rfl rfl (by decide) fl_X11_kept_38 rfl rfl dX11_kept_75 ?_
      refine g_iload 78 C 4 dX11_kept_78 rfl ?_
      refine g_aload_n 80 C 0 dX11_kept_80 rfl rfl ?_
      refine g_get 81 C in_X11_kept_X11 0 16 rfl rfl (by decide) fl_X11_kept_38 rfl rfl dX11_kept_81 ?_
      refine g_iload 84 C 4 dX11_kept_84 rfl ?_
      obtain ⟨o8, h⟩ := ob_e h
      refine g_zald 86 C 7 rfl o8 dX11_kept_86 ?_
      refine g_if_ne 87 113 C dX11_kept_87 (by decide) (fun c => ?_) (fun c => ?_)
      · replace h := if_e c h
        refine GG.sub (lv' := [(0, .ref h_t), (1, .int v1), (2, .int v2), (3, .int v3), (4, .int v4)]) [0, 1, 2, 3, 4] rfl ?_
        exact ok_B_X11_kept_113 C hA hx hr h
      · replace h := it_e c h
        refine g_iload 90 C 4 dX11_kept_90 rfl ?_
        refine g_iload_n 92 C 3 dX11_kept_92 rfl rfl ?_
        obtain ⟨q10, e11, h⟩ := bi_e h
        refine g_callSi 93 C (As := [.int v4, .int v3]) [] [0, 1, 2, 3, 4, 5, 6, 7] [0, 1, 2, 3, 4, 5, 6, 7] (W_X11_kept k h_t h_t_dues h_t_w h_t_firsts h_t_sizes h_t_worths h_t_worthOf h_t_lies h_t_tape h_t_readWorths h_t_sums h_t_pairs h_t_row h_t_hands h_t_paidOn h_t_lates h_t_fixed h_t_lanes h_t_longs h_t_items h_t_hand h_t_used s_isKept s_taped s_pieces s_at s_readMany s_readKind s_readCut s_rowSet s_bestSet s_dues s_w s_firsts s_sizes s_worths s_worthOf s_lies) (fun sz => k_X11_has v4 v3 q10 e11 sz) gX11_kept_X11_has rfl pd_X11_has rfl ⟨rfl, rfl, Nat.le_of_ble_eq_true rfl, Nat.le_of_ble_eq_true rfl⟩ (Nat.le_of_ble_eq_true rfl) ⟨Nat.zero_le _, Nat.zero_le _⟩ ⟨rfl, rfl, rfl, rfl, rfl, by decide, rfl⟩ rfl dX11_kept_93 ?_
        refine g_if_eq 96 117 C dX11_kept_96 (by decide) (fun c => ?_) (fun c => ?_)
        · replace h := it_e c h
          refine GG.sub (lv' := [(0, .ref h_t), (1, .int v1), (2, .int v2), (3, .int v3), (4, .int v4)]) [0, 1, 2, 3, 4] rfl ?_
          exact ok_B_X11_kept_117 C hA hx hr h
        · replace h := if_e c h
          refine g_aload_n 99 C 0 dX11_kept_99 rfl rfl ?_
          refine g_get 100 C in_X11_kept_X11 0 16 rfl rfl (by decide) fl_X11_kept_38 rfl rfl dX11_kept_100 ?_
          refine g_iload 103 C 4 dX11_kept_103 rfl ?_
          refine g_iconst 105 C (1 : Int32) dX11_kept_105 (by decide) ?_
          refine g_iload_n 106 C 3 dX11_kept_106 rfl rfl ?_
          refine g_ishl 107 C dX11_kept_107 ?_
          refine g_isub 108 C dX11_kept_108 ?_
          obtain ⟨o12, h⟩ := ob_e h
          refine g_zald 109 C 7 rfl o12 dX11_kept_109 ?_
          refine g_if_eq 110 117 C dX11_kept_110 (by decide) (fun c => ?_) (fun c => ?_)
          · replace h := it_e c h
            refine GG.sub (lv' := [(0, .ref h_t), (1, .int v1), (2, .int v2), (3, .int v3), (4, .int v4)]) [0, 1, 2, 3, 4] rfl ?_
            exact ok_B_X11_kept_117 C hA hx hr h
          · replace h := if_e c h
            refine GG.sub (lv' := [(0, .ref h_t), (1, .int v1), (2, .int v2), (3, .int v3), (4, .int v4)]) [0, 1, 2, 3, 4] rfl ?_
            exact ok_B_X11_kept_113 C hA hx hr h
set_option maxHeartbeats 4000000 in
set_option maxRecDepth 100000 in
theorem ok_B_X11_kept_125 {h_t : Nat} {h_t_dues : Nat} {h_t_w : Nat} {h_t_firsts : Nat} {h_t_sizes : Nat} {h_t_worths : Nat} {h_t_worthOf : Nat} {h_t_lies : Nat} {h_t_tape : Nat} {h_t_readWorths : Nat} {h_t_sums : Nat} {h_t_pairs : Nat} {h_t_row : Nat} {h_t_hands : Nat} {h_t_paidOn : Nat} {h_t_lates : Nat} {h_t_fixed : Nat} {h_t_lanes : Nat} {h_t_longs : Nat} {h_t_items : Nat} {h_t_hand : Nat} {h_t_used : Nat} {s_isKept : Int32} {s_taped : Int32} {s_pieces : Int32} {s_at : Int32} {s_readMany : Int32} {s_readKind : Int32} {s_readCut : Int32} {s_rowSet : Int32} {s_bestSet : Int32} {s_dues : Nat → Int32} {s_w : Nat → Int32} {s_firsts : Nat → Int32} {s_sizes : Nat → Int32} {s_worths : Nat → Int32} {s_worthOf : Nat → Int32} {s_lies : Nat → Int32} {v1 : Int32} {v2 : Int32} {v3 : Int32} {res : Int32 × Int32 × (Nat → Int32) × (Nat → Int32) × (Nat → Int32) × (Nat → Int32) × (Nat → Int32) × (Nat → Int32)} {kx rec : Int32 × (Nat → Int32) → Option (Int32 × Int32 × (Nat → Int32) × (Nat → Int32) × (Nat → Int32) × (Nat → Int32) × (Nat → Int32) × (Nat → Int32))} (C : CX p s m args meth c cX11_kept wsX11_kept RX11 5 D k A (some .int)) (hA : A = va_A w0 sz) (hx : ∀ t : Int32 × (Nat → Int32), kx t = some res → GG p l e rm_X11_kept s m args below meth c (MQ below (cQi D w0 sz res.1 (W_X11_kept k h_t h_t_dues h_t_w h_t_firsts h_t_sizes h_t_worths h_t_worthOf h_t_lies h_t_tape h_t_readWorths h_t_sums h_t_pairs h_t_row h_t_hands h_t_paidOn h_t_lates h_t_fixed h_t_lanes h_t_longs h_t_items h_t_hand h_t_used s_isKept s_taped res.2.1 s_at s_readMany s_readKind s_readCut s_rowSet s_bestSet res.2.2.1 s_w res.2.2.2.1 res.2.2.2.2.1 res.2.2.2.2.2.1 res.2.2.2.2.2.2.1 res.2.2.2.2.2.2.2)) args s 0 0 A) D A 5 0 0 131 [(0, .ref h_t), (1, .int v1), (2, .int v2)] [] (W_X11_kept k h_t h_t_dues h_t_w h_t_firsts h_t_sizes h_t_worths h_t_worthOf h_t_lies h_t_tape h_t_readWorths h_t_sums h_t_pairs h_t_row h_t_hands h_t_paidOn h_t_lates h_t_fixed h_t_lanes h_t_longs h_t_items h_t_hand h_t_used s_isKept s_taped s_pieces s_at s_readMany s_readKind s_readCut s_rowSet s_bestSet s_dues s_w s_firsts s_sizes s_worths s_worthOf t.2)) (hr : ∀ t : Int32 × (Nat → Int32), rec t = some res → GG p l e rm_X11_kept s m args below meth c (MQ below (cQi D w0 sz res.1 (W_X11_kept k h_t h_t_dues h_t_w h_t_firsts h_t_sizes h_t_worths h_t_worthOf h_t_lies h_t_tape h_t_readWorths h_t_sums h_t_pairs h_t_row h_t_hands h_t_paidOn h_t_lates h_t_fixed h_t_lanes h_t_longs h_t_items h_t_hand h_t_used s_isKept s_taped res.2.1 s_at s_readMany s_readKind s_readCut s_rowSet s_bestSet res.2.2.1 s_w res.2.2.2.1 res.2.2.2.2.1 res.2.2.2.2.2.1 res.2.2.2.2.2.2.1 res.2.2.2.2.2.2.2)) args s 0 0 A) D A 5 0 0 57 [(0, .ref h_t), (1, .int v1), (2, .int v2), (3, .int t.1)] [] (W_X11_kept k h_t h_t_dues h_t_w h_t_firsts h_t_sizes h_t_worths h_t_worthOf h_t_lies h_t_tape h_t_readWorths h_t_sums h_t_pairs h_t_row h_t_hands h_t_paidOn h_t_lates h_t_fixed h_t_lanes h_t_longs h_t_items h_t_hand h_t_used s_isKept s_taped s_pieces s_at s_readMany s_readKind s_readCut s_rowSet s_bestSet s_dues s_w s_firsts s_sizes s_worths s_worthOf t.2))  (h : B_X11_kept_125 kx rec s_lies v3 = some res) : GG p l e rm_X11_kept s m args below meth c (MQ below (cQi D w0 sz res.1 (W_X11_kept k h_t h_t_dues h_t_w h_t_firsts h_t_sizes h_t_worths h_t_worthOf h_t_lies h_t_tape h_t_readWorths h_t_sums h_t_pairs h_t_row h_t_hands h_t_paidOn h_t_lates h_t_fixed h_t_lanes h_t_longs h_t_items h_t_hand h_t_used s_isKept s_taped res.2.1 s_at s_readMany s_readKind s_readCut s_rowSet s_bestSet res.2.2.1 s_w res.2.2.2.1 res.2.2.2.2.1 res.2.2.2.2.2.1 res.2.2.2.2.2.2.1 res.2.2.2.2.2.2.2)) args s 0 0 A) D A 5 0 0 125 [(0, .ref h_t), (1, .int v1), (2, .int v2), (3, .int v3)] [] (W_X11_kept k h_t h_t_dues h_t_w h_t_firsts h_t_sizes h_t_worths h_t_worthOf h_t_lies h_t_tape h_t_readWorths h_t_sums h_t_pairs h_t_row h_t_hands h_t_paidOn h_t_lates h_t_fixed h_t_lanes h_t_longs h_t_items h_t_hand h_t_used s_isKept s_taped s_pieces s_at s_readMany s_readKind s_readCut s_rowSet s_bestSet s_dues s_w s_firsts s_sizes s_worths s_worthOf s_lies) := by
  unfold B_X11_kept_125 at h
  refine g_iinc 125 C 3 (1 : Int32) [(3, .int (v3 + (1 : Int32))), (0, .ref h_t), (1, .int v1), (2, .int v2)] dX11_kept_125 rfl (by decide) (by decide) rfl ?_
  refine g_goto 128 57 C dX11_kept_128 (by decide) ?_
  refine GG.sub (lv' := [(0, .ref h_t), (1, .int v1), (2, .int v2), (3, .int (v3 + (1 : Int32)))]) [1, 2, 3, 0] rfl ?_
  exact hr ((v3 + (1 : Int32)), s_lies) h
set_option maxHeartbeats 4000000 in
set_option maxRecDepth 100000 in
theorem ok_L_X11_kept_57 {h_t : Nat} {h_t_dues : Nat} {h_t_w : Nat} {h_t_firsts : Nat} {h_t_sizes : Nat} {h_t_worths : Nat} {h_t_worthOf : Nat} {h_t_lies : Nat} {h_t_tape : Nat} {h_t_readWorths : Nat} {h_t_sums : Nat} {h_t_pairs : Nat} {h_t_row : Nat} {h_t_hands : Nat} {h_t_paidOn : Nat} {h_t_lates : Nat} {h_t_fixed : Nat} {h_t_lanes : Nat} {h_t_longs : Nat} {h_t_items : Nat} {h_t_hand : Nat} {h_t_used : Nat} {s_isKept : Int32} {s_taped : Int32} {s_pieces : Int32} {s_at : Int32} {s_readMany : Int32} {s_readKind : Int32} {s_readCut : Int32} {s_rowSet : Int32} {s_bestSet : Int32} {s_dues : Nat → Int32} {s_w : Nat → Int32} {s_firsts : Nat → Int32} {s_sizes : Nat → Int32} {s_worths : Nat → Int32} {s_worthOf : Nat → Int32} {v1 : Int32} {v2 : Int32} {res : Int32 × Int32 × (Nat → Int32) × (Nat → Int32) × (Nat → Int32) × (Nat → Int32) × (Nat → Int32) × (Nat → Int32)} (C : CX p s m args meth c cX11_kept wsX11_kept RX11 5 D k A (some .int)) (hA : A = va_A w0 sz) {kx : Int32 × (Nat → Int32) → Option (Int32 × Int32 × (Nat → Int32) × (Nat → Int32) × (Nat → Int32) × (Nat → Int32) × (Nat → Int32) × (Nat → Int32))} (hx : ∀ t : Int32 × (Nat → Int32), kx t = some res → GG p l e rm_X11_kept s m args below meth c (MQ below (cQi D w0 sz res.1 (W_X11_kept k h_t h_t_dues h_t_w h_t_firsts h_t_sizes h_t_worths h_t_worthOf h_t_lies h_t_tape h_t_readWorths h_t_sums h_t_pairs h_t_row h_t_hands h_t_paidOn h_t_lates h_t_fixed h_t_lanes h_t_longs h_t_items h_t_hand h_t_used s_isKept s_taped res.2.1 s_at s_readMany s_readKind s_readCut s_rowSet s_bestSet res.2.2.1 s_w res.2.2.2.1 res.2.2.2.2.1 res.2.2.2.2.2.1 res.2.2.2.2.2.2.1 res.2.2.2.2.2.2.2)) args s 0 0 A) D A 5 0 0 131 [(0, .ref h_t), (1, .int v1), (2, .int v2)] [] (W_X11_kept k h_t h_t_dues h_t_w h_t_firsts h_t_sizes h_t_worths h_t_worthOf h_t_lies h_t_tape h_t_readWorths h_t_sums h_t_pairs h_t_row h_t_hands h_t_paidOn h_t_lates h_t_fixed h_t_lanes h_t_longs h_t_items h_t_hand h_t_used s_isKept s_taped s_pieces s_at s_readMany s_readKind s_readCut s_rowSet s_bestSet s_dues s_w s_firsts s_sizes s_worths s_worthOf t.2)) : ∀ (n : Nat) (t : Int32 × (Nat → Int32)), L_X11_kept_57 s_pieces v1 kx n t = some res → GG p l e rm_X11_kept s m args below meth c (MQ below (cQi D w0 sz res.1 (W_X11_kept k h_t h_t_dues h_t_w h_t_firsts h_t_sizes h_t_worths h_t_worthOf h_t_lies h_t_tape h_t_readWorths h_t_sums h_t_pairs h_t_row h_t_hands h_t_paidOn h_t_lates h_t_fixed h_t_lanes h_t_longs h_t_items h_t_hand h_t_used s_isKept s_taped res.2.1 s_at s_readMany s_readKind s_readCut s_rowSet s_bestSet res.2.2.1 s_w res.2.2.2.1 res.2.2.2.2.1 res.2.2.2.2.2.1 res.2.2.2.2.2.2.1 res.2.2.2.2.2.2.2)) args s 0 0 A) D A 5 0 0 57 [(0, .ref h_t), (1, .int v1), (2, .int v2), (3, .int t.1)] [] (W_X11_kept k h_t h_t_dues h_t_w h_t_firsts h_t_sizes h_t_worths h_t_worthOf h_t_lies h_t_tape h_t_readWorths h_t_sums h_t_pairs h_t_row h_t_hands h_t_paidOn h_t_lates h_t_fixed h_t_lanes h_t_longs h_t_items h_t_hand h_t_used s_isKept s_taped s_pieces s_at s_readMany s_readKind s_readCut s_rowSet s_bestSet s_dues s_w s_firsts s_sizes s_worths s_worthOf t.2) := by
  intro n
  induction n with
  | zero => intro t h; cases h
  | succ n ih =>
    intro t h
    obtain ⟨v3, s_lies⟩ := t
    replace h : LB_X11_kept_57 s_pieces v1 kx (L_X11_kept_57 s_pieces v1 kx n) v3 s_lies = some res := h
    have hr := ih
    unfold LB_X11_kept_57 at h
    refine g_iload_n 57 C 3 dX11_kept_57 rfl rfl ?_
    refine g_aload_n 58 C 0 dX11_kept_58 rfl rfl ?_
    refine g_get 59 C in_X11_kept_X11 0 7 rfl rfl (by decide) fl_X11_kept_85 rfl rfl dX11_kept_59 ?_
    refine g_icmp_ge 62 131 C dX11_kept_62 (by decide) (fun c => ?_) (fun c => ?_)
    · replace h := it_e c h
      refine GG.sub (lv' := [(0, .ref h_t), (1, .int v1), (2, .int v2)]) [0, 1, 2] rfl ?_
      exact hx (v3, s_lies) h
    · replace h := if_e c h
      refine g_iconst 65 C (0 : Int32) dX11_kept_65 (by decide) ?_
      refine g_istore 66 C [(4, .int (0 : Int32)), (0, .ref h_t), (1, .int v1), (2, .int v2), (3, .int v3)] dX11_kept_66 (by decide) rfl ?_
      refine GG.sub (lv' := [(0, .ref h_t), (1, .int v1), (2, .int v2), (3, .int v3), (4, .int (0 : Int32))]) [1, 2, 3, 4, 0] rfl ?_
      exact ok_L_X11_kept_68 C hA (fun t h => by
        refine GG.sub (lv' := [(0, .ref h_t), (1, .int v1), (2, .int v2), (3, .int v3)]) [0, 1, 2, 3] rfl ?_
        exact ok_B_X11_kept_125 C hA hx hr h) FUEL ((0 : Int32), s_lies) h
set_option maxHeartbeats 4000000 in
set_option maxRecDepth 100000 in
theorem ok_B_X11_kept_199 {h_t : Nat} {h_t_dues : Nat} {h_t_w : Nat} {h_t_firsts : Nat} {h_t_sizes : Nat} {h_t_worths : Nat} {h_t_worthOf : Nat} {h_t_lies : Nat} {h_t_tape : Nat} {h_t_readWorths : Nat} {h_t_sums : Nat} {h_t_pairs : Nat} {h_t_row : Nat} {h_t_hands : Nat} {h_t_paidOn : Nat} {h_t_lates : Nat} {h_t_fixed : Nat} {h_t_lanes : Nat} {h_t_longs : Nat} {h_t_items : Nat} {h_t_hand : Nat} {h_t_used : Nat} {s_isKept : Int32} {s_taped : Int32} {s_pieces : Int32} {s_at : Int32} {s_readMany : Int32} {s_readKind : Int32} {s_readCut : Int32} {s_rowSet : Int32} {s_bestSet : Int32} {s_dues : Nat → Int32} {s_w : Nat → Int32} {s_firsts : Nat → Int32} {s_sizes : Nat → Int32} {s_worths : Nat → Int32} {s_worthOf : Nat → Int32} {s_lies : Nat → Int32} {v1 : Int32} {v2 : Int32} {v4 : Int32} {x0 : Int32} {res : Int32 × Int32 × (Nat → Int32) × (Nat → Int32) × (Nat → Int32) × (Nat → Int32) × (Nat → Int32) × (Nat → Int32)} {kx rec : Int32 × Int32 × (Nat → Int32) → Option (Int32 × Int32 × (Nat → Int32) × (Nat → Int32) × (Nat → Int32) × (Nat → Int32) × (Nat → Int32) × (Nat → Int32))} (C : CX p s m args meth c cX11_kept wsX11_kept RX11 5 D k A (some .int)) (hA : A = va_A w0 sz) (hx : ∀ t : Int32 × Int32 × (Nat → Int32), kx t = some res → GG p l e rm_X11_kept s m args below meth c (MQ below (cQi D w0 sz res.1 (W_X11_kept k h_t h_t_dues h_t_w h_t_firsts h_t_sizes h_t_worths h_t_worthOf h_t_lies h_t_tape h_t_readWorths h_t_sums h_t_pairs h_t_row h_t_hands h_t_paidOn h_t_lates h_t_fixed h_t_lanes h_t_longs h_t_items h_t_hand h_t_used s_isKept s_taped res.2.1 s_at s_readMany s_readKind s_readCut s_rowSet s_bestSet res.2.2.1 s_w res.2.2.2.1 res.2.2.2.2.1 res.2.2.2.2.2.1 res.2.2.2.2.2.2.1 res.2.2.2.2.2.2.2)) args s 0 0 A) D A 5 0 0 206 [(0, .ref h_t), (1, .int v1), (2, .int v2), (3, .int t.1)] [] (W_X11_kept k h_t h_t_dues h_t_w h_t_firsts h_t_sizes h_t_worths h_t_worthOf h_t_lies h_t_tape h_t_readWorths h_t_sums h_t_pairs h_t_row h_t_hands h_t_paidOn h_t_lates h_t_fixed h_t_lanes h_t_longs h_t_items h_t_hand h_t_used s_isKept s_taped s_pieces s_at s_readMany s_readKind s_readCut s_rowSet s_bestSet s_dues s_w s_firsts s_sizes s_worths s_worthOf t.2.2)) (hr : ∀ t : Int32 × Int32 × (Nat → Int32), rec t = some res → GG p l e rm_X11_kept s m args below meth c (MQ below (cQi D w0 sz res.1 (W_X11_kept k h_t h_t_dues h_t_w h_t_firsts h_t_sizes h_t_worths h_t_worthOf h_t_lies h_t_tape h_t_readWorths h_t_sums h_t_pairs h_t_row h_t_hands h_t_paidOn h_t_lates h_t_fixed h_t_lanes h_t_longs h_t_items h_t_hand h_t_used s_isKept s_taped res.2.1 s_at s_readMany s_readKind s_readCut s_rowSet s_bestSet res.2.2.1 s_w res.2.2.2.1 res.2.2.2.2.1 res.2.2.2.2.2.1 res.2.2.2.2.2.2.1 res.2.2.2.2.2.2.2)) args s 0 0 A) D A 5 0 0 136 [(0, .ref h_t), (1, .int v1), (2, .int v2), (3, .int t.1), (4, .int t.2.1)] [] (W_X11_kept k h_t h_t_dues h_t_w h_t_firsts h_t_sizes h_t_worths h_t_worthOf h_t_lies h_t_tape h_t_readWorths h_t_sums h_t_pairs h_t_row h_t_hands h_t_paidOn h_t_lates h_t_fixed h_t_lanes h_t_longs h_t_items h_t_hand h_t_used s_isKept s_taped s_pieces s_at s_readMany s_readKind s_readCut s_rowSet s_bestSet s_dues s_w s_firsts s_sizes s_worths s_worthOf t.2.2))  (h : B_X11_kept_199 kx rec s_lies v4 x0 = some res) : GG p l e rm_X11_kept s m args below meth c (MQ below (cQi D w0 sz res.1 (W_X11_kept k h_t h_t_dues h_t_w h_t_firsts h_t_sizes h_t_worths h_t_worthOf h_t_lies h_t_tape h_t_readWorths h_t_sums h_t_pairs h_t_row h_t_hands h_t_paidOn h_t_lates h_t_fixed h_t_lanes h_t_longs h_t_items h_t_hand h_t_used s_isKept s_taped res.2.1 s_at s_readMany s_readKind s_readCut s_rowSet s_bestSet res.2.2.1 s_w res.2.2.2.1 res.2.2.2.2.1 res.2.2.2.2.2.1 res.2.2.2.2.2.2.1 res.2.2.2.2.2.2.2)) args s 0 0 A) D A 5 0 0 199 [(0, .ref h_t), (1, .int v1), (2, .int v2), (4, .int v4)] [.int x0] (W_X11_kept k h_t h_t_dues h_t_w h_t_firsts h_t_sizes h_t_worths h_t_worthOf h_t_lies h_t_tape h_t_readWorths h_t_sums h_t_pairs h_t_row h_t_hands h_t_paidOn h_t_lates h_t_fixed h_t_lanes h_t_longs h_t_items h_t_hand h_t_used s_isKept s_taped s_pieces s_at s_readMany s_readKind s_readCut s_rowSet s_bestSet s_dues s_w s_firsts s_sizes s_worths s_worthOf s_lies) := by
  unfold B_X11_kept_199 at h
  refine g_istore_n 199 C [(3, .int x0), (0, .ref h_t), (1, .int v1), (2, .int v2), (4, .int v4)] dX11_kept_199 rfl (by decide) rfl ?_
  refine g_iinc 200 C 4 (1 : Int32) [(4, .int (v4 + (1 : Int32))), (3, .int x0), (0, .ref h_t), (1, .int v1), (2, .int v2)] dX11_kept_200 rfl (by decide) (by decide) rfl ?_
  refine g_goto 203 136 C dX11_kept_203 (by decide) ?_
  refine GG.sub (lv' := [(0, .ref h_t), (1, .int v1), (2, .int v2), (3, .int x0), (4, .int (v4 + (1 : Int32)))]) [2, 3, 4, 1, 0] rfl ?_
  exact hr (x0, (v4 + (1 : Int32)), s_lies) h
set_option maxHeartbeats 4000000 in
set_option maxRecDepth 100000 in
theorem ok_B_X11_kept_194 {h_t : Nat} {h_t_dues : Nat} {h_t_w : Nat} {h_t_firsts : Nat} {h_t_sizes : Nat} {h_t_worths : Nat} {h_t_worthOf : Nat} {h_t_lies : Nat} {h_t_tape : Nat} {h_t_readWorths : Nat} {h_t_sums : Nat} {h_t_pairs : Nat} {h_t_row : Nat} {h_t_hands : Nat} {h_t_paidOn : Nat} {h_t_lates : Nat} {h_t_fixed : Nat} {h_t_lanes : Nat} {h_t_longs : Nat} {h_t_items : Nat} {h_t_hand : Nat} {h_t_used : Nat} {s_isKept : Int32} {s_taped : Int32} {s_pieces : Int32} {s_at : Int32} {s_readMany : Int32} {s_readKind : Int32} {s_readCut : Int32} {s_rowSet : Int32} {s_bestSet : Int32} {s_dues : Nat → Int32} {s_w : Nat → Int32} {s_firsts : Nat → Int32} {s_sizes : Nat → Int32} {s_worths : Nat → Int32} {s_worthOf : Nat → Int32} {s_lies : Nat → Int32} {v1 : Int32} {v2 : Int32} {v4 : Int32} {res : Int32 × Int32 × (Nat → Int32) × (Nat → Int32) × (Nat → Int32) × (Nat → Int32) × (Nat → Int32) × (Nat → Int32)} {kx rec : Int32 × Int32 × (Nat → Int32) → Option (Int32 × Int32 × (Nat → Int32) × (Nat → Int32) × (Nat → Int32) × (Nat → Int32) × (Nat → Int32) × (Nat → Int32))} (C : CX p s m args meth c cX11_kept wsX11_kept RX11 5 D k A (some .int)) (hA : A = va_A w0 sz) (hx : ∀ t : Int32 × Int32 × (Nat → Int32), kx t = some res → GG p l e rm_X11_kept s m args below meth c (MQ below (cQi D w0 sz res.1 (W_X11_kept k h_t h_t_dues h_t_w h_t_firsts h_t_sizes h_t_worths h_t_worthOf h_t_lies h_t_tape h_t_readWorths h_t_sums h_t_pairs h_t_row h_t_hands h_t_paidOn h_t_lates h_t_fixed h_t_lanes h_t_longs h_t_items h_t_hand h_t_used s_isKept s_taped res.2.1 s_at s_readMany s_readKind s_readCut s_rowSet s_bestSet res.2.2.1 s_w res.2.2.2.1 res.2.2.2.2.1 res.2.2.2.2.2.1 res.2.2.2.2.2.2.1 res.2.2.2.2.2.2.2)) args s 0 0 A) D A 5 0 0 206 [(0, .ref h_t), (1, .int v1), (2, .int v2), (3, .int t.1)] [] (W_X11_kept k h_t h_t_dues h_t_w h_t_firsts h_t_sizes h_t_worths h_t_worthOf h_t_lies h_t_tape h_t_readWorths h_t_sums h_t_pairs h_t_row h_t_hands h_t_paidOn h_t_lates h_t_fixed h_t_lanes h_t_longs h_t_items h_t_hand h_t_used s_isKept s_taped s_pieces s_at s_readMany s_readKind s_readCut s_rowSet s_bestSet s_dues s_w s_firsts s_sizes s_worths s_worthOf t.2.2)) (hr : ∀ t : Int32 × Int32 × (Nat → Int32), rec t = some res → GG p l e rm_X11_kept s m args below meth c (MQ below (cQi D w0 sz res.1 (W_X11_kept k h_t h_t_dues h_t_w h_t_firsts h_t_sizes h_t_worths h_t_worthOf h_t_lies h_t_tape h_t_readWorths h_t_sums h_t_pairs h_t_row h_t_hands h_t_paidOn h_t_lates h_t_fixed h_t_lanes h_t_longs h_t_items h_t_hand h_t_used s_isKept s_taped res.2.1 s_at s_readMany s_readKind s_readCut s_rowSet s_bestSet res.2.2.1 s_w res.2.2.2.1 res.2.2.2.2.1 res.2.2.2.2.2.1 res.2.2.2.2.2.2.1 res.2.2.2.2.2.2.2)) args s 0 0 A) D A 5 0 0 136 [(0, .ref h_t), (1, .int v1), (2, .int v2), (3, .int t.1), (4, .int t.2.1)] [] (W_X11_kept k h_t h_t_dues h_t_w h_t_firsts h_t_sizes h_t_worths h_t_worthOf h_t_lies h_t_tape h_t_readWorths h_t_sums h_t_pairs h_t_row h_t_hands h_t_paidOn h_t_lates h_t_fixed h_t_lanes h_t_longs h_t_items h_t_hand h_t_used s_isKept s_taped s_pieces s_at s_readMany s_readKind s_readCut s_rowSet s_bestSet s_dues s_w s_firsts s_sizes s_worths s_worthOf t.2.2))  (h : B_X11_kept_194 kx rec s_lies v4 = some res) : GG p l e rm_X11_kept s m args below meth c (MQ below (cQi D w0 sz res.1 (W_X11_kept k h_t h_t_dues h_t_w h_t_firsts h_t_sizes h_t_worths h_t_worthOf h_t_lies h_t_tape h_t_readWorths h_t_sums h_t_pairs h_t_row h_t_hands h_t_paidOn h_t_lates h_t_fixed h_t_lanes h_t_longs h_t_items h_t_hand h_t_used s_isKept s_taped res.2.1 s_at s_readMany s_readKind s_readCut s_rowSet s_bestSet res.2.2.1 s_w res.2.2.2.1 res.2.2.2.2.1 res.2.2.2.2.2.1 res.2.2.2.2.2.2.1 res.2.2.2.2.2.2.2)) args s 0 0 A) D A 5 0 0 194 [(0, .ref h_t), (1, .int v1), (2, .int v2), (4, .int v4)] [] (W_X11_kept k h_t h_t_dues h_t_w h_t_firsts h_t_sizes h_t_worths h_t_worthOf h_t_lies h_t_tape h_t_readWorths h_t_sums h_t_pairs h_t_row h_t_hands h_t_paidOn h_t_lates h_t_fixed h_t_lanes h_t_longs h_t_items h_t_hand h_t_used s_isKept s_taped s_pieces s_at s_readMany s_readKind s_readCut s_rowSet s_bestSet s_dues s_w s_firsts s_sizes s_worths s_worthOf s_lies) := by
  unfold B_X11_kept_194 at h
  refine g_iconst 194 C (1 : Int32) dX11_kept_194 (by decide) ?_
  refine g_goto 195 199 C dX11_kept_195 (by decide) ?_
  refine GG.sub (lv' := [(0, .ref h_t), (1, .int v1), (2, .int v2), (4, .int v4)]) [0, 1, 2, 3] rfl ?_
  exact ok_B_X11_kept_199 C hA hx hr h
set_option maxHeartbeats 4000000 in
set_option maxRecDepth 100000 in
theorem ok_B_X11_kept_179 {h_t : Nat} {h_t_dues : Nat} {h_t_w : Nat} {h_t_firsts : Nat} {h_t_sizes : Nat} {h_t_worths : Nat} {h_t_worthOf : Nat} {h_t_lies : Nat} {h_t_tape : Nat} {h_t_readWorths : Nat} {h_t_sums : Nat} {h_t_pairs : Nat} {h_t_row : Nat} {h_t_hands : Nat} {h_t_paidOn : Nat} {h_t_lates : Nat} {h_t_fixed : Nat} {h_t_lanes : Nat} {h_t_longs : Nat} {h_t_items : Nat} {h_t_hand : Nat} {h_t_used : Nat} {s_isKept : Int32} {s_taped : Int32} {s_pieces : Int32} {s_at : Int32} {s_readMany : Int32} {s_readKind : Int32} {s_readCut : Int32} {s_rowSet : Int32} {s_bestSet : Int32} {s_dues : Nat → Int32} {s_w : Nat → Int32} {s_firsts : Nat → Int32} {s_sizes : Nat → Int32} {s_worths : Nat → Int32} {s_worthOf : Nat → Int32} {s_lies : Nat → Int32} {v1 : Int32} {v2 : Int32} {v3 : Int32} {v4 : Int32} {x0 : Int32} {x1 : Int32} {res : Int32 × Int32 × (Nat → Int32) × (Nat → Int32) × (Nat → Int32) × (Nat → Int32) × (Nat → Int32) × (Nat → Int32)} {kx rec : Int32 × Int32 × (Nat → Int32) → Option (Int32 × Int32 × (Nat → Int32) × (Nat → Int32) × (Nat → Int32) × (Nat → Int32) × (Nat → Int32) × (Nat → Int32))} (C : CX p s m args meth c cX11_kept wsX11_kept RX11 5 D k A (some .int)) (hA : A = va_A w0 sz) (hx : ∀ t : Int32 × Int32 × (Nat → Int32), kx t = some res → GG p l e rm_X11_kept s m args below meth c (MQ below (cQi D w0 sz res.1 (W_X11_kept k h_t h_t_dues h_t_w h_t_firsts h_t_sizes h_t_worths h_t_worthOf h_t_lies h_t_tape h_t_readWorths h_t_sums h_t_pairs h_t_row h_t_hands h_t_paidOn h_t_lates h_t_fixed h_t_lanes h_t_longs h_t_items h_t_hand h_t_used s_isKept s_taped res.2.1 s_at s_readMany s_readKind s_readCut s_rowSet s_bestSet res.2.2.1 s_w res.2.2.2.1 res.2.2.2.2.1 res.2.2.2.2.2.1 res.2.2.2.2.2.2.1 res.2.2.2.2.2.2.2)) args s 0 0 A) D A 5 0 0 206 [(0, .ref h_t), (1, .int v1), (2, .int v2), (3, .int t.1)] [] (W_X11_kept k h_t h_t_dues h_t_w h_t_firsts h_t_sizes h_t_worths h_t_worthOf h_t_lies h_t_tape h_t_readWorths h_t_sums h_t_pairs h_t_row h_t_hands h_t_paidOn h_t_lates h_t_fixed h_t_lanes h_t_longs h_t_items h_t_hand h_t_used s_isKept s_taped s_pieces s_at s_readMany s_readKind s_readCut s_rowSet s_bestSet s_dues s_w s_firsts s_sizes s_worths s_worthOf t.2.2)) (hr : ∀ t : Int32 × Int32 × (Nat → Int32), rec t = some res → GG p l e rm_X11_kept s m args below meth c (MQ below (cQi D w0 sz res.1 (W_X11_kept k h_t h_t_dues h_t_w h_t_firsts h_t_sizes h_t_worths h_t_worthOf h_t_lies h_t_tape h_t_readWorths h_t_sums h_t_pairs h_t_row h_t_hands h_t_paidOn h_t_lates h_t_fixed h_t_lanes h_t_longs h_t_items h_t_hand h_t_used s_isKept s_taped res.2.1 s_at s_readMany s_readKind s_readCut s_rowSet s_bestSet res.2.2.1 s_w res.2.2.2.1 res.2.2.2.2.1 res.2.2.2.2.2.1 res.2.2.2.2.2.2.1 res.2.2.2.2.2.2.2)) args s 0 0 A) D A 5 0 0 136 [(0, .ref h_t), (1, .int v1), (2, .int v2), (3, .int t.1), (4, .int t.2.1)] [] (W_X11_kept k h_t h_t_dues h_t_w h_t_firsts h_t_sizes h_t_worths h_t_worthOf h_t_lies h_t_tape h_t_readWorths h_t_sums h_t_pairs h_t_row h_t_hands h_t_paidOn h_t_lates h_t_fixed h_t_lanes h_t_longs h_t_items h_t_hand h_t_used s_isKept s_taped s_pieces s_at s_readMany s_readKind s_readCut s_rowSet s_bestSet s_dues s_w s_firsts s_sizes s_worths s_worthOf t.2.2))  (h : B_X11_kept_179 kx rec s_lies v3 v4 x0 x1 = some res) : GG p l e rm_X11_kept s m args below meth c (MQ below (cQi D w0 sz res.1 (W_X11_kept k h_t h_t_dues h_t_w h_t_firsts h_t_sizes h_t_worths h_t_worthOf h_t_lies h_t_tape h_t_readWorths h_t_sums h_t_pairs h_t_row h_t_hands h_t_paidOn h_t_lates h_t_fixed h_t_lanes h_t_longs h_t_items h_t_hand h_t_used s_isKept s_taped res.2.1 s_at s_readMany s_readKind s_readCut s_rowSet s_bestSet res.2.2.1 s_w res.2.2.2.1 res.2.2.2.2.1 res.2.2.2.2.2.1 res.2.2.2.2.2.2.1 res.2.2.2.2.2.2.2)) args s 0 0 A) D A 5 0 0 179 [(0, .ref h_t), (1, .int v1), (2, .int v2), (3, .int v3), (4, .int v4)] [.int x0, .int x1, .ref h_t_lies] (W_X11_kept k h_t h_t_dues h_t_w h_t_firsts h_t_sizes h_t_worths h_t_worthOf h_t_lies h_t_tape h_t_readWorths h_t_sums h_t_pairs h_t_row h_t_hands h_t_paidOn h_t_lates h_t_fixed h_t_lanes h_t_longs h_t_items h_t_hand h_t_used s_isKept s_taped s_pieces s_at s_readMany s_readKind s_readCut s_rowSet s_bestSet s_dues s_w s_firsts s_sizes s_worths s_worthOf s_lies) := by
  unfold B_X11_kept_179 at h
  obtain ⟨o14, h⟩ := ob_e h
  refine g_zast 179 C (W_X11_kept k h_t h_t_dues h_t_w h_t_firsts h_t_sizes h_t_worths h_t_worthOf h_t_lies h_t_tape h_t_readWorths h_t_sums h_t_pairs h_t_row h_t_hands h_t_paidOn h_t_lates h_t_fixed h_t_lanes h_t_longs h_t_items h_t_hand h_t_used s_isKept s_taped s_pieces s_at s_readMany s_readKind s_readCut s_rowSet s_bestSet s_dues s_w s_firsts s_sizes s_worths s_worthOf (upd s_lies x1.toNatClampNeg (vp_nar .boolean x0))) 7 rfl o14 rfl dX11_kept_179 ?_
  refine g_iload_n 180 C 3 dX11_kept_180 rfl rfl ?_
  refine g_if_ne 181 194 C dX11_kept_181 (by decide) (fun c => ?_) (fun c => ?_)
  · replace h := if_e c h
    refine GG.sub (lv' := [(0, .ref h_t), (1, .int v1), (2, .int v2), (4, .int v4)]) [0, 1, 2, 4] rfl ?_
    exact ok_B_X11_kept_194 C hA hx hr h
  · replace h := it_e c h
    refine g_aload_n 184 C 0 dX11_kept_184 rfl rfl ?_
    refine g_get 185 C in_X11_kept_X11 0 16 rfl rfl (by decide) fl_X11_kept_38 rfl rfl dX11_kept_185 ?_
    refine g_iload 188 C 4 dX11_kept_188 rfl ?_
    obtain ⟨o15, h⟩ := ob_e h
    refine g_zald 190 C 7 rfl o15 dX11_kept_190 ?_
    refine g_if_eq 191 198 C dX11_kept_191 (by decide) (fun c => ?_) (fun c => ?_)
    · replace h := it_e c h
      refine g_iconst 198 C (0 : Int32) dX11_kept_198 (by decide) ?_
      refine GG.sub (lv' := [(0, .ref h_t), (1, .int v1), (2, .int v2), (4, .int v4)]) [0, 1, 2, 4] rfl ?_
      exact ok_B_X11_kept_199 C hA hx hr h
    · replace h := if_e c h
      refine GG.sub (lv' := [(0, .ref h_t), (1, .int v1), (2, .int v2), (4, .int v4)]) [0, 1, 2, 4] rfl ?_
      exact ok_B_X11_kept_194 C hA hx hr h
set_option maxHeartbeats 4000000 in
set_option maxRecDepth 100000 in
theorem ok_B_X11_kept_178 {h_t : Nat} {h_t_dues : Nat} {h_t_w : Nat} {h_t_firsts : Nat} {h_t_sizes : Nat} {h_t_worths : Nat} {h_t_worthOf : Nat} {h_t_lies : Nat} {h_t_tape : Nat} {h_t_readWorths : Nat} {h_t_sums : Nat} {h_t_pairs : Nat} {h_t_row : Nat} {h_t_hands : Nat} {h_t_paidOn : Nat} {h_t_lates : Nat} {h_t_fixed : Nat} {h_t_lanes : Nat} {h_t_longs : Nat} {h_t_items : Nat} {h_t_hand : Nat} {h_t_used : Nat} {s_isKept : Int32} {s_taped : Int32} {s_pieces : Int32} {s_at : Int32} {s_readMany : Int32} {s_readKind : Int32} {s_readCut : Int32} {s_rowSet : Int32} {s_bestSet : Int32} {s_dues : Nat → Int32} {s_w : Nat → Int32} {s_firsts : Nat → Int32} {s_sizes : Nat → Int32} {s_worths : Nat → Int32} {s_worthOf : Nat → Int32} {s_lies : Nat → Int32} {v1 : Int32} {v2 : Int32} {v3 : Int32} {v4 : Int32} {x0 : Int32} {res : Int32 × Int32 × (Nat → Int32) × (Nat → Int32) × (Nat → Int32) × (Nat → Int32) × (Nat → Int32) × (Nat → Int32)} {kx rec : Int32 × Int32 × (Nat → Int32) → Option (Int32 × Int32 × (Nat → Int32) × (Nat → Int32) × (Nat → Int32) × (Nat → Int32) × (Nat → Int32) × (Nat → Int32))} (C : CX p s m args meth c cX11_kept wsX11_kept RX11 5 D k A (some .int)) (hA : A = va_A w0 sz) (hx : ∀ t : Int32 × Int32 × (Nat → Int32), kx t = some res → GG p l e rm_X11_kept s m args below meth c (MQ below (cQi D w0 sz res.1 (W_X11_kept k h_t h_t_dues h_t_w h_t_firsts h_t_sizes h_t_worths h_t_worthOf h_t_lies h_t_tape h_t_readWorths h_t_sums h_t_pairs h_t_row h_t_hands h_t_paidOn h_t_lates h_t_fixed h_t_lanes h_t_longs h_t_items h_t_hand h_t_used s_isKept s_taped res.2.1 s_at s_readMany s_readKind s_readCut s_rowSet s_bestSet res.2.2.1 s_w res.2.2.2.1 res.2.2.2.2.1 res.2.2.2.2.2.1 res.2.2.2.2.2.2.1 res.2.2.2.2.2.2.2)) args s 0 0 A) D A 5 0 0 206 [(0, .ref h_t), (1, .int v1), (2, .int v2), (3, .int t.1)] [] (W_X11_kept k h_t h_t_dues h_t_w h_t_firsts h_t_sizes h_t_worths h_t_worthOf h_t_lies h_t_tape h_t_readWorths h_t_sums h_t_pairs h_t_row h_t_hands h_t_paidOn h_t_lates h_t_fixed h_t_lanes h_t_longs h_t_items h_t_hand h_t_used s_isKept s_taped s_pieces s_at s_readMany s_readKind s_readCut s_rowSet s_bestSet s_dues s_w s_firsts s_sizes s_worths s_worthOf t.2.2)) (hr : ∀ t : Int32 × Int32 × (Nat → Int32), rec t = some res → GG p l e rm_X11_kept s m args below meth c (MQ below (cQi D w0 sz res.1 (W_X11_kept k h_t h_t_dues h_t_w h_t_firsts h_t_sizes h_t_worths h_t_worthOf h_t_lies h_t_tape h_t_readWorths h_t_sums h_t_pairs h_t_row h_t_hands h_t_paidOn h_t_lates h_t_fixed h_t_lanes h_t_longs h_t_items h_t_hand h_t_used s_isKept s_taped res.2.1 s_at s_readMany s_readKind s_readCut s_rowSet s_bestSet res.2.2.1 s_w res.2.2.2.1 res.2.2.2.2.1 res.2.2.2.2.2.1 res.2.2.2.2.2.2.1 res.2.2.2.2.2.2.2)) args s 0 0 A) D A 5 0 0 136 [(0, .ref h_t), (1, .int v1), (2, .int v2), (3, .int t.1), (4, .int t.2.1)] [] (W_X11_kept k h_t h_t_dues h_t_w h_t_firsts h_t_sizes h_t_worths h_t_worthOf h_t_lies h_t_tape h_t_readWorths h_t_sums h_t_pairs h_t_row h_t_hands h_t_paidOn h_t_lates h_t_fixed h_t_lanes h_t_longs h_t_items h_t_hand h_t_used s_isKept s_taped s_pieces s_at s_readMany s_readKind s_readCut s_rowSet s_bestSet s_dues s_w s_firsts s_sizes s_worths s_worthOf t.2.2))  (h : B_X11_kept_178 kx rec s_lies v3 v4 x0 = some res) : GG p l e rm_X11_kept s m args below meth c (MQ below (cQi D w0 sz res.1 (W_X11_kept k h_t h_t_dues h_t_w h_t_firsts h_t_sizes h_t_worths h_t_worthOf h_t_lies h_t_tape h_t_readWorths h_t_sums h_t_pairs h_t_row h_t_hands h_t_paidOn h_t_lates h_t_fixed h_t_lanes h_t_longs h_t_items h_t_hand h_t_used s_isKept s_taped res.2.1 s_at s_readMany s_readKind s_readCut s_rowSet s_bestSet res.2.2.1 s_w res.2.2.2.1 res.2.2.2.2.1 res.2.2.2.2.2.1 res.2.2.2.2.2.2.1 res.2.2.2.2.2.2.2)) args s 0 0 A) D A 5 0 0 178 [(0, .ref h_t), (1, .int v1), (2, .int v2), (3, .int v3), (4, .int v4)] [.int x0, .ref h_t_lies] (W_X11_kept k h_t h_t_dues h_t_w h_t_firsts h_t_sizes h_t_worths h_t_worthOf h_t_lies h_t_tape h_t_readWorths h_t_sums h_t_pairs h_t_row h_t_hands h_t_paidOn h_t_lates h_t_fixed h_t_lanes h_t_longs h_t_items h_t_hand h_t_used s_isKept s_taped s_pieces s_at s_readMany s_readKind s_readCut s_rowSet s_bestSet s_dues s_w s_firsts s_sizes s_worths s_worthOf s_lies) := by
  unfold B_X11_kept_178 at h
  refine g_iconst 178 C (0 : Int32) dX11_kept_178 (by decide) ?_
  refine GG.sub (lv' := [(0, .ref h_t), (1, .int v1), (2, .int v2), (3, .int v3), (4, .int v4)]) [0, 1, 2, 3, 4] rfl ?_
  exact ok_B_X11_kept_179 C hA hx hr h
set_option maxHeartbeats 4000000 in
set_option maxRecDepth 100000 in
theorem ok_L_X11_kept_136 {h_t : Nat} {h_t_dues : Nat} {h_t_w : Nat} {h_t_firsts : Nat} {h_t_sizes : Nat} {h_t_worths : Nat} {h_t_worthOf : Nat} {h_t_lies : Nat} {h_t_tape : Nat} {h_t_readWorths : Nat} {h_t_sums : Nat} {h_t_pairs : Nat} {h_t_row : Nat} {h_t_hands : Nat} {h_t_paidOn : Nat} {h_t_lates : Nat} {h_t_fixed : Nat} {h_t_lanes : Nat} {h_t_longs : Nat} {h_t_items : Nat} {h_t_hand : Nat} {h_t_used : Nat} {s_isKept : Int32} {s_taped : Int32} {s_pieces : Int32} {s_at : Int32} {s_readMany : Int32} {s_readKind : Int32} {s_readCut : Int32} {s_rowSet : Int32} {s_bestSet : Int32} {s_dues : Nat → Int32} {s_w : Nat → Int32} {s_firsts : Nat → Int32} {s_sizes : Nat → Int32} {s_worths : Nat → Int32} {s_worthOf : Nat → Int32} {v1 : Int32} {v2 : Int32} {res : Int32 × Int32 × (Nat → Int32) × (Nat → Int32) × (Nat → Int32) × (Nat → Int32) × (Nat → Int32) × (Nat → Int32)} (C : CX p s m args meth c cX11_kept wsX11_kept RX11 5 D k A (some .int)) (hA : A = va_A w0 sz) {kx : Int32 × Int32 × (Nat → Int32) → Option (Int32 × Int32 × (Nat → Int32) × (Nat → Int32) × (Nat → Int32) × (Nat → Int32) × (Nat → Int32) × (Nat → Int32))} (hx : ∀ t : Int32 × Int32 × (Nat → Int32), kx t = some res → GG p l e rm_X11_kept s m args below meth c (MQ below (cQi D w0 sz res.1 (W_X11_kept k h_t h_t_dues h_t_w h_t_firsts h_t_sizes h_t_worths h_t_worthOf h_t_lies h_t_tape h_t_readWorths h_t_sums h_t_pairs h_t_row h_t_hands h_t_paidOn h_t_lates h_t_fixed h_t_lanes h_t_longs h_t_items h_t_hand h_t_used s_isKept s_taped res.2.1 s_at s_readMany s_readKind s_readCut s_rowSet s_bestSet res.2.2.1 s_w res.2.2.2.1 res.2.2.2.2.1 res.2.2.2.2.2.1 res.2.2.2.2.2.2.1 res.2.2.2.2.2.2.2)) args s 0 0 A) D A 5 0 0 206 [(0, .ref h_t), (1, .int v1), (2, .int v2), (3, .int t.1)] [] (W_X11_kept k h_t h_t_dues h_t_w h_t_firsts h_t_sizes h_t_worths h_t_worthOf h_t_lies h_t_tape h_t_readWorths h_t_sums h_t_pairs h_t_row h_t_hands h_t_paidOn h_t_lates h_t_fixed h_t_lanes h_t_longs h_t_items h_t_hand h_t_used s_isKept s_taped s_pieces s_at s_readMany s_readKind s_readCut s_rowSet s_bestSet s_dues s_w s_firsts s_sizes s_worths s_worthOf t.2.2)) : ∀ (n : Nat) (t : Int32 × Int32 × (Nat → Int32)), L_X11_kept_136 s_dues s_worthOf v1 v2 kx n t = some res → GG p l e rm_X11_kept s m args below meth c (MQ below (cQi D w0 sz res.1 (W_X11_kept k h_t h_t_dues h_t_w h_t_firsts h_t_sizes h_t_worths h_t_worthOf h_t_lies h_t_tape h_t_readWorths h_t_sums h_t_pairs h_t_row h_t_hands h_t_paidOn h_t_lates h_t_fixed h_t_lanes h_t_longs h_t_items h_t_hand h_t_used s_isKept s_taped res.2.1 s_at s_readMany s_readKind s_readCut s_rowSet s_bestSet res.2.2.1 s_w res.2.2.2.1 res.2.2.2.2.1 res.2.2.2.2.2.1 res.2.2.2.2.2.2.1 res.2.2.2.2.2.2.2)) args s 0 0 A) D A 5 0 0 136 [(0, .ref h_t), (1, .int v1), (2, .int v2), (3, .int t.1), (4, .int t.2.1)] [] (W_X11_kept k h_t h_t_dues h_t_w h_t_firsts h_t_sizes h_t_worths h_t_worthOf h_t_lies h_t_tape h_t_readWorths h_t_sums h_t_pairs h_t_row h_t_hands h_t_paidOn h_t_lates h_t_fixed h_t_lanes h_t_longs h_t_items h_t_hand h_t_used s_isKept s_taped s_pieces s_at s_readMany s_readKind s_readCut s_rowSet s_bestSet s_dues s_w s_firsts s_sizes s_worths s_worthOf t.2.2) := by
  intro n
  induction n with
  | zero => intro t h; cases h
  | succ n ih =>
    intro t h
    obtain ⟨v3, v4, s_lies⟩ := t
    replace h : LB_X11_kept_136 s_dues s_worthOf v1 v2 kx (L_X11_kept_136 s_dues s_worthOf v1 v2 kx n) v3 v4 s_lies = some res := h
    have hr := ih
    unfold LB_X11_kept_136 at h
    refine g_iload 136 C 4 dX11_kept_136 rfl ?_
    refine g_iload_n 138 C 1 dX11_kept_138 rfl rfl ?_
    refine g_icmp_ge 139 206 C dX11_kept_139 (by decide) (fun c => ?_) (fun c => ?_)
    · replace h := it_e c h
      refine GG.sub (lv' := [(0, .ref h_t), (1, .int v1), (2, .int v2), (3, .int v3)]) [0, 1, 2, 3] rfl ?_
      exact hx (v3, v4, s_lies) h
    · replace h := if_e c h
      refine g_aload_n 142 C 0 dX11_kept_142 rfl rfl ?_
      refine g_get 143 C in_X11_kept_X11 0 16 rfl rfl (by decide) fl_X11_kept_38 rfl rfl dX11_kept_143 ?_
      refine g_iload 146 C 4 dX11_kept_146 rfl ?_
      refine g_aload_n 148 C 0 dX11_kept_148 rfl rfl ?_
      refine g_get 149 C in_X11_kept_X11 0 16 rfl rfl (by decide) fl_X11_kept_38 rfl rfl dX11_kept_149 ?_
      refine g_iload 152 C 4 dX11_kept_152 rfl ?_
      obtain ⟨o13, h⟩ := ob_e h
      refine g_zald 154 C 7 rfl o13 dX11_kept_154 ?_
      refine g_if_eq 155 178 C dX11_kept_155 (by decide) (fun c => ?_) (fun c => ?_)
      · replace h := it_e c h
        refine GG.sub (lv' := [(0, .ref h_t), (1, .int v1), (2, .int v2), (3, .int v3), (4, .int v4)]) [0, 1, 2, 3, 4] rfl ?_
        exact ok_B_X11_kept_178 C hA hx hr h
      · replace h := if_e c h
        refine g_aload_n 158 C 0 dX11_kept_158 rfl rfl ?_
        refine g_get 159 C in_X11_kept_X11 0 15 rfl rfl (by decide) fl_X11_kept_35 rfl rfl dX11_kept_159 ?_
        refine g_iload 162 C 4 dX11_kept_162 rfl ?_
        obtain ⟨o16, h⟩ := ob_e h
        refine g_iald 164 C 6 rfl o16 dX11_kept_164 ?_
        refine g_aload_n 165 C 0 dX11_kept_165 rfl rfl ?_
        refine g_get 166 C in_X11_kept_X11 0 13 rfl rfl (by decide) fl_X11_kept_28 rfl rfl dX11_kept_166 ?_
        refine g_iload_n 169 C 2 dX11_kept_169 rfl rfl ?_
        obtain ⟨o17, h⟩ := ob_e h
        refine g_iald 170 C 1 rfl o17 dX11_kept_170 ?_
        refine g_icmp_ne 171 178 C dX11_kept_171 (by decide) (fun c => ?_) (fun c => ?_)
        · replace h := if_e c h
          refine GG.sub (lv' := [(0, .ref h_t), (1, .int v1), (2, .int v2), (3, .int v3), (4, .int v4)]) [0, 1, 2, 3, 4] rfl ?_
          exact ok_B_X11_kept_178 C hA hx hr h
        · replace h := it_e c h
          refine g_iconst 174 C (1 : Int32) dX11_kept_174 (by decide) ?_
          refine g_goto 175 179 C dX11_kept_175 (by decide) ?_
          refine GG.sub (lv' := [(0, .ref h_t), (1, .int v1), (2, .int v2), (3, .int v3), (4, .int v4)]) [0, 1, 2, 3, 4] rfl ?_
          exact ok_B_X11_kept_179 C hA hx hr h
set_option maxHeartbeats 4000000 in
set_option maxRecDepth 100000 in
theorem ok_B_X11_kept_206 {h_t : Nat} {h_t_dues : Nat} {h_t_w : Nat} {h_t_firsts : Nat} {h_t_sizes : Nat} {h_t_worths : Nat} {h_t_worthOf : Nat} {h_t_lies : Nat} {h_t_tape : Nat} {h_t_readWorths : Nat} {h_t_sums : Nat} {h_t_pairs : Nat} {h_t_row : Nat} {h_t_hands : Nat} {h_t_paidOn : Nat} {h_t_lates : Nat} {h_t_fixed : Nat} {h_t_lanes : Nat} {h_t_longs : Nat} {h_t_items : Nat} {h_t_hand : Nat} {h_t_used : Nat} {s_isKept : Int32} {s_taped : Int32} {s_pieces : Int32} {s_at : Int32} {s_readMany : Int32} {s_readKind : Int32} {s_readCut : Int32} {s_rowSet : Int32} {s_bestSet : Int32} {s_dues : Nat → Int32} {s_w : Nat → Int32} {s_firsts : Nat → Int32} {s_sizes : Nat → Int32} {s_worths : Nat → Int32} {s_worthOf : Nat → Int32} {s_lies : Nat → Int32} {v1 : Int32} {v2 : Int32} {v3 : Int32} {res : Int32 × Int32 × (Nat → Int32) × (Nat → Int32) × (Nat → Int32) × (Nat → Int32) × (Nat → Int32) × (Nat → Int32)} {kx rec : Int32 × (Nat → Int32) → Option (Int32 × Int32 × (Nat → Int32) × (Nat → Int32) × (Nat → Int32) × (Nat → Int32) × (Nat → Int32) × (Nat → Int32))} (C : CX p s m args meth c cX11_kept wsX11_kept RX11 5 D k A (some .int)) (hA : A = va_A w0 sz) (hx : ∀ t : Int32 × (Nat → Int32), kx t = some res → GG p l e rm_X11_kept s m args below meth c (MQ below (cQi D w0 sz res.1 (W_X11_kept k h_t h_t_dues h_t_w h_t_firsts h_t_sizes h_t_worths h_t_worthOf h_t_lies h_t_tape h_t_readWorths h_t_sums h_t_pairs h_t_row h_t_hands h_t_paidOn h_t_lates h_t_fixed h_t_lanes h_t_longs h_t_items h_t_hand h_t_used s_isKept s_taped res.2.1 s_at s_readMany s_readKind s_readCut s_rowSet s_bestSet res.2.2.1 s_w res.2.2.2.1 res.2.2.2.2.1 res.2.2.2.2.2.1 res.2.2.2.2.2.2.1 res.2.2.2.2.2.2.2)) args s 0 0 A) D A 5 0 0 220 [] [] (W_X11_kept k h_t h_t_dues h_t_w h_t_firsts h_t_sizes h_t_worths h_t_worthOf h_t_lies h_t_tape h_t_readWorths h_t_sums h_t_pairs h_t_row h_t_hands h_t_paidOn h_t_lates h_t_fixed h_t_lanes h_t_longs h_t_items h_t_hand h_t_used s_isKept s_taped s_pieces s_at s_readMany s_readKind s_readCut s_rowSet s_bestSet s_dues s_w s_firsts s_sizes s_worths s_worthOf t.2)) (hr : ∀ t : Int32 × (Nat → Int32), rec t = some res → GG p l e rm_X11_kept s m args below meth c (MQ below (cQi D w0 sz res.1 (W_X11_kept k h_t h_t_dues h_t_w h_t_firsts h_t_sizes h_t_worths h_t_worthOf h_t_lies h_t_tape h_t_readWorths h_t_sums h_t_pairs h_t_row h_t_hands h_t_paidOn h_t_lates h_t_fixed h_t_lanes h_t_longs h_t_items h_t_hand h_t_used s_isKept s_taped res.2.1 s_at s_readMany s_readKind s_readCut s_rowSet s_bestSet res.2.2.1 s_w res.2.2.2.1 res.2.2.2.2.1 res.2.2.2.2.2.1 res.2.2.2.2.2.2.1 res.2.2.2.2.2.2.2)) args s 0 0 A) D A 5 0 0 49 [(0, .ref h_t), (1, .int v1), (2, .int t.1)] [] (W_X11_kept k h_t h_t_dues h_t_w h_t_firsts h_t_sizes h_t_worths h_t_worthOf h_t_lies h_t_tape h_t_readWorths h_t_sums h_t_pairs h_t_row h_t_hands h_t_paidOn h_t_lates h_t_fixed h_t_lanes h_t_longs h_t_items h_t_hand h_t_used s_isKept s_taped s_pieces s_at s_readMany s_readKind s_readCut s_rowSet s_bestSet s_dues s_w s_firsts s_sizes s_worths s_worthOf t.2))  (h : B_X11_kept_206 kx rec s_pieces s_dues s_firsts s_sizes s_worths s_worthOf s_lies v2 v3 = some res) : GG p l e rm_X11_kept s m args below meth c (MQ below (cQi D w0 sz res.1 (W_X11_kept k h_t h_t_dues h_t_w h_t_firsts h_t_sizes h_t_worths h_t_worthOf h_t_lies h_t_tape h_t_readWorths h_t_sums h_t_pairs h_t_row h_t_hands h_t_paidOn h_t_lates h_t_fixed h_t_lanes h_t_longs h_t_items h_t_hand h_t_used s_isKept s_taped res.2.1 s_at s_readMany s_readKind s_readCut s_rowSet s_bestSet res.2.2.1 s_w res.2.2.2.1 res.2.2.2.2.1 res.2.2.2.2.2.1 res.2.2.2.2.2.2.1 res.2.2.2.2.2.2.2)) args s 0 0 A) D A 5 0 0 206 [(0, .ref h_t), (1, .int v1), (2, .int v2), (3, .int v3)] [] (W_X11_kept k h_t h_t_dues h_t_w h_t_firsts h_t_sizes h_t_worths h_t_worthOf h_t_lies h_t_tape h_t_readWorths h_t_sums h_t_pairs h_t_row h_t_hands h_t_paidOn h_t_lates h_t_fixed h_t_lanes h_t_longs h_t_items h_t_hand h_t_used s_isKept s_taped s_pieces s_at s_readMany s_readKind s_readCut s_rowSet s_bestSet s_dues s_w s_firsts s_sizes s_worths s_worthOf s_lies) := by
  unfold B_X11_kept_206 at h
  refine g_iload_n 206 C 3 dX11_kept_206 rfl rfl ?_
  refine g_if_ne 207 214 C dX11_kept_207 (by decide) (fun c => ?_) (fun c => ?_)
  · replace h := if_e c h
    refine g_iinc 214 C 2 (1 : Int32) [(2, .int (v2 + (1 : Int32))), (0, .ref h_t), (1, .int v1), (3, .int v3)] dX11_kept_214 rfl (by decide) (by decide) rfl ?_
    refine g_goto 217 49 C dX11_kept_217 (by decide) ?_
    refine GG.sub (lv' := [(0, .ref h_t), (1, .int v1), (2, .int (v2 + (1 : Int32)))]) [1, 2, 0] rfl ?_
    exact hr ((v2 + (1 : Int32)), s_lies) h
  · replace h := it_e c h
    refine g_iload_n 210 C 2 dX11_kept_210 rfl rfl ?_
    refine g_iconst 211 C (1 : Int32) dX11_kept_211 (by decide) ?_
    refine g_isub 212 C dX11_kept_212 ?_
    obtain rfl := Option.some.inj h
    exact g_iret 213 C hA rfl dX11_kept_213 rfl
set_option maxHeartbeats 4000000 in
set_option maxRecDepth 100000 in
theorem ok_B_X11_kept_131 {h_t : Nat} {h_t_dues : Nat} {h_t_w : Nat} {h_t_firsts : Nat} {h_t_sizes : Nat} {h_t_worths : Nat} {h_t_worthOf : Nat} {h_t_lies : Nat} {h_t_tape : Nat} {h_t_readWorths : Nat} {h_t_sums : Nat} {h_t_pairs : Nat} {h_t_row : Nat} {h_t_hands : Nat} {h_t_paidOn : Nat} {h_t_lates : Nat} {h_t_fixed : Nat} {h_t_lanes : Nat} {h_t_longs : Nat} {h_t_items : Nat} {h_t_hand : Nat} {h_t_used : Nat} {s_isKept : Int32} {s_taped : Int32} {s_pieces : Int32} {s_at : Int32} {s_readMany : Int32} {s_readKind : Int32} {s_readCut : Int32} {s_rowSet : Int32} {s_bestSet : Int32} {s_dues : Nat → Int32} {s_w : Nat → Int32} {s_firsts : Nat → Int32} {s_sizes : Nat → Int32} {s_worths : Nat → Int32} {s_worthOf : Nat → Int32} {s_lies : Nat → Int32} {v1 : Int32} {v2 : Int32} {res : Int32 × Int32 × (Nat → Int32) × (Nat → Int32) × (Nat → Int32) × (Nat → Int32) × (Nat → Int32) × (Nat → Int32)} {kx rec : Int32 × (Nat → Int32) → Option (Int32 × Int32 × (Nat → Int32) × (Nat → Int32) × (Nat → Int32) × (Nat → Int32) × (Nat → Int32) × (Nat → Int32))} (C : CX p s m args meth c cX11_kept wsX11_kept RX11 5 D k A (some .int)) (hA : A = va_A w0 sz) (hx : ∀ t : Int32 × (Nat → Int32), kx t = some res → GG p l e rm_X11_kept s m args below meth c (MQ below (cQi D w0 sz res.1 (W_X11_kept k h_t h_t_dues h_t_w h_t_firsts h_t_sizes h_t_worths h_t_worthOf h_t_lies h_t_tape h_t_readWorths h_t_sums h_t_pairs h_t_row h_t_hands h_t_paidOn h_t_lates h_t_fixed h_t_lanes h_t_longs h_t_items h_t_hand h_t_used s_isKept s_taped res.2.1 s_at s_readMany s_readKind s_readCut s_rowSet s_bestSet res.2.2.1 s_w res.2.2.2.1 res.2.2.2.2.1 res.2.2.2.2.2.1 res.2.2.2.2.2.2.1 res.2.2.2.2.2.2.2)) args s 0 0 A) D A 5 0 0 220 [] [] (W_X11_kept k h_t h_t_dues h_t_w h_t_firsts h_t_sizes h_t_worths h_t_worthOf h_t_lies h_t_tape h_t_readWorths h_t_sums h_t_pairs h_t_row h_t_hands h_t_paidOn h_t_lates h_t_fixed h_t_lanes h_t_longs h_t_items h_t_hand h_t_used s_isKept s_taped s_pieces s_at s_readMany s_readKind s_readCut s_rowSet s_bestSet s_dues s_w s_firsts s_sizes s_worths s_worthOf t.2)) (hr : ∀ t : Int32 × (Nat → Int32), rec t = some res → GG p l e rm_X11_kept s m args below meth c (MQ below (cQi D w0 sz res.1 (W_X11_kept k h_t h_t_dues h_t_w h_t_firsts h_t_sizes h_t_worths h_t_worthOf h_t_lies h_t_tape h_t_readWorths h_t_sums h_t_pairs h_t_row h_t_hands h_t_paidOn h_t_lates h_t_fixed h_t_lanes h_t_longs h_t_items h_t_hand h_t_used s_isKept s_taped res.2.1 s_at s_readMany s_readKind s_readCut s_rowSet s_bestSet res.2.2.1 s_w res.2.2.2.1 res.2.2.2.2.1 res.2.2.2.2.2.1 res.2.2.2.2.2.2.1 res.2.2.2.2.2.2.2)) args s 0 0 A) D A 5 0 0 49 [(0, .ref h_t), (1, .int v1), (2, .int t.1)] [] (W_X11_kept k h_t h_t_dues h_t_w h_t_firsts h_t_sizes h_t_worths h_t_worthOf h_t_lies h_t_tape h_t_readWorths h_t_sums h_t_pairs h_t_row h_t_hands h_t_paidOn h_t_lates h_t_fixed h_t_lanes h_t_longs h_t_items h_t_hand h_t_used s_isKept s_taped s_pieces s_at s_readMany s_readKind s_readCut s_rowSet s_bestSet s_dues s_w s_firsts s_sizes s_worths s_worthOf t.2))  (h : B_X11_kept_131 kx rec s_pieces s_dues s_firsts s_sizes s_worths s_worthOf s_lies v1 v2 = some res) : GG p l e rm_X11_kept s m args below meth c (MQ below (cQi D w0 sz res.1 (W_X11_kept k h_t h_t_dues h_t_w h_t_firsts h_t_sizes h_t_worths h_t_worthOf h_t_lies h_t_tape h_t_readWorths h_t_sums h_t_pairs h_t_row h_t_hands h_t_paidOn h_t_lates h_t_fixed h_t_lanes h_t_longs h_t_items h_t_hand h_t_used s_isKept s_taped res.2.1 s_at s_readMany s_readKind s_readCut s_rowSet s_bestSet res.2.2.1 s_w res.2.2.2.1 res.2.2.2.2.1 res.2.2.2.2.2.1 res.2.2.2.2.2.2.1 res.2.2.2.2.2.2.2)) args s 0 0 A) D A 5 0 0 131 [(0, .ref h_t), (1, .int v1), (2, .int v2)] [] (W_X11_kept k h_t h_t_dues h_t_w h_t_firsts h_t_sizes h_t_worths h_t_worthOf h_t_lies h_t_tape h_t_readWorths h_t_sums h_t_pairs h_t_row h_t_hands h_t_paidOn h_t_lates h_t_fixed h_t_lanes h_t_longs h_t_items h_t_hand h_t_used s_isKept s_taped s_pieces s_at s_readMany s_readKind s_readCut s_rowSet s_bestSet s_dues s_w s_firsts s_sizes s_worths s_worthOf s_lies) := by
  unfold B_X11_kept_131 at h
  refine g_iconst 131 C (0 : Int32) dX11_kept_131 (by decide) ?_
  refine g_istore_n 132 C [(3, .int (0 : Int32)), (0, .ref h_t), (1, .int v1), (2, .int v2)] dX11_kept_132 rfl (by decide) rfl ?_
  refine g_iconst 133 C (0 : Int32) dX11_kept_133 (by decide) ?_
  refine g_istore 134 C [(4, .int (0 : Int32)), (3, .int (0 : Int32)), (0, .ref h_t), (1, .int v1), (2, .int v2)] dX11_kept_134 (by decide) rfl ?_
  refine GG.sub (lv' := [(0, .ref h_t), (1, .int v1), (2, .int v2), (3, .int (0 : Int32)), (4, .int (0 : Int32))]) [2, 3, 4, 1, 0] rfl ?_
  exact ok_L_X11_kept_136 C hA (fun t h => by
    refine GG.sub (lv' := [(0, .ref h_t), (1, .int v1), (2, .int v2), (3, .int t.1)]) [0, 1, 2, 3] rfl ?_
    exact ok_B_X11_kept_206 C hA hx hr h) FUEL ((0 : Int32), (0 : Int32), s_lies) h
set_option maxHeartbeats 4000000 in
set_option maxRecDepth 100000 in
theorem ok_L_X11_kept_49 {h_t : Nat} {h_t_dues : Nat} {h_t_w : Nat} {h_t_firsts : Nat} {h_t_sizes : Nat} {h_t_worths : Nat} {h_t_worthOf : Nat} {h_t_lies : Nat} {h_t_tape : Nat} {h_t_readWorths : Nat} {h_t_sums : Nat} {h_t_pairs : Nat} {h_t_row : Nat} {h_t_hands : Nat} {h_t_paidOn : Nat} {h_t_lates : Nat} {h_t_fixed : Nat} {h_t_lanes : Nat} {h_t_longs : Nat} {h_t_items : Nat} {h_t_hand : Nat} {h_t_used : Nat} {s_isKept : Int32} {s_taped : Int32} {s_pieces : Int32} {s_at : Int32} {s_readMany : Int32} {s_readKind : Int32} {s_readCut : Int32} {s_rowSet : Int32} {s_bestSet : Int32} {s_dues : Nat → Int32} {s_w : Nat → Int32} {s_firsts : Nat → Int32} {s_sizes : Nat → Int32} {s_worths : Nat → Int32} {s_worthOf : Nat → Int32} {v1 : Int32} {res : Int32 × Int32 × (Nat → Int32) × (Nat → Int32) × (Nat → Int32) × (Nat → Int32) × (Nat → Int32) × (Nat → Int32)} (C : CX p s m args meth c cX11_kept wsX11_kept RX11 5 D k A (some .int)) (hA : A = va_A w0 sz) {kx : Int32 × (Nat → Int32) → Option (Int32 × Int32 × (Nat → Int32) × (Nat → Int32) × (Nat → Int32) × (Nat → Int32) × (Nat → Int32) × (Nat → Int32))} (hx : ∀ t : Int32 × (Nat → Int32), kx t = some res → GG p l e rm_X11_kept s m args below meth c (MQ below (cQi D w0 sz res.1 (W_X11_kept k h_t h_t_dues h_t_w h_t_firsts h_t_sizes h_t_worths h_t_worthOf h_t_lies h_t_tape h_t_readWorths h_t_sums h_t_pairs h_t_row h_t_hands h_t_paidOn h_t_lates h_t_fixed h_t_lanes h_t_longs h_t_items h_t_hand h_t_used s_isKept s_taped res.2.1 s_at s_readMany s_readKind s_readCut s_rowSet s_bestSet res.2.2.1 s_w res.2.2.2.1 res.2.2.2.2.1 res.2.2.2.2.2.1 res.2.2.2.2.2.2.1 res.2.2.2.2.2.2.2)) args s 0 0 A) D A 5 0 0 220 [] [] (W_X11_kept k h_t h_t_dues h_t_w h_t_firsts h_t_sizes h_t_worths h_t_worthOf h_t_lies h_t_tape h_t_readWorths h_t_sums h_t_pairs h_t_row h_t_hands h_t_paidOn h_t_lates h_t_fixed h_t_lanes h_t_longs h_t_items h_t_hand h_t_used s_isKept s_taped s_pieces s_at s_readMany s_readKind s_readCut s_rowSet s_bestSet s_dues s_w s_firsts s_sizes s_worths s_worthOf t.2)) : ∀ (n : Nat) (t : Int32 × (Nat → Int32)), L_X11_kept_49 s_pieces s_dues s_firsts s_sizes s_worths s_worthOf v1 kx n t = some res → GG p l e rm_X11_kept s m args below meth c (MQ below (cQi D w0 sz res.1 (W_X11_kept k h_t h_t_dues h_t_w h_t_firsts h_t_sizes h_t_worths h_t_worthOf h_t_lies h_t_tape h_t_readWorths h_t_sums h_t_pairs h_t_row h_t_hands h_t_paidOn h_t_lates h_t_fixed h_t_lanes h_t_longs h_t_items h_t_hand h_t_used s_isKept s_taped res.2.1 s_at s_readMany s_readKind s_readCut s_rowSet s_bestSet res.2.2.1 s_w res.2.2.2.1 res.2.2.2.2.1 res.2.2.2.2.2.1 res.2.2.2.2.2.2.1 res.2.2.2.2.2.2.2)) args s 0 0 A) D A 5 0 0 49 [(0, .ref h_t), (1, .int v1), (2, .int t.1)] [] (W_X11_kept k h_t h_t_dues h_t_w h_t_firsts h_t_sizes h_t_worths h_t_worthOf h_t_lies h_t_tape h_t_readWorths h_t_sums h_t_pairs h_t_row h_t_hands h_t_paidOn h_t_lates h_t_fixed h_t_lanes h_t_longs h_t_items h_t_hand h_t_used s_isKept s_taped s_pieces s_at s_readMany s_readKind s_readCut s_rowSet s_bestSet s_dues s_w s_firsts s_sizes s_worths s_worthOf t.2) := by
  intro n
  induction n with
  | zero => intro t h; cases h
  | succ n ih =>
    intro t h
    obtain ⟨v2, s_lies⟩ := t
    replace h : LB_X11_kept_49 s_pieces s_dues s_firsts s_sizes s_worths s_worthOf v1 kx (L_X11_kept_49 s_pieces s_dues s_firsts s_sizes s_worths s_worthOf v1 kx n) v2 s_lies = some res := h
    have hr := ih
    unfold LB_X11_kept_49 at h
    refine g_iload_n 49 C 2 dX11_kept_49 rfl rfl ?_
    refine g_bipush 50 C (60 : Int32) dX11_kept_50 (by decide) ?_
    refine g_icmp_gt 52 220 C dX11_kept_52 (by decide) (fun c => ?_) (fun c => ?_)
    · replace h := it_e c h
      refine GG.sub (lv' := []) [] rfl ?_
      exact hx (v2, s_lies) h
    · replace h := if_e c h
      refine g_iconst 55 C (0 : Int32) dX11_kept_55 (by decide) ?_
      refine g_istore_n 56 C [(3, .int (0 : Int32)), (0, .ref h_t), (1, .int v1), (2, .int v2)] dX11_kept_56 rfl (by decide) rfl ?_
      refine GG.sub (lv' := [(0, .ref h_t), (1, .int v1), (2, .int v2), (3, .int (0 : Int32))]) [1, 2, 3, 0] rfl ?_
      exact ok_L_X11_kept_57 C hA (fun t h => by
        refine GG.sub (lv' := [(0, .ref h_t), (1, .int v1), (2, .int v2)]) [0, 1, 2] rfl ?_
        exact ok_B_X11_kept_131 C hA hx hr h) FUEL ((0 : Int32), s_lies) h
set_option maxHeartbeats 4000000 in
set_option maxRecDepth 100000 in
theorem ok_B_X11_kept_220 {h_t : Nat} {h_t_dues : Nat} {h_t_w : Nat} {h_t_firsts : Nat} {h_t_sizes : Nat} {h_t_worths : Nat} {h_t_worthOf : Nat} {h_t_lies : Nat} {h_t_tape : Nat} {h_t_readWorths : Nat} {h_t_sums : Nat} {h_t_pairs : Nat} {h_t_row : Nat} {h_t_hands : Nat} {h_t_paidOn : Nat} {h_t_lates : Nat} {h_t_fixed : Nat} {h_t_lanes : Nat} {h_t_longs : Nat} {h_t_items : Nat} {h_t_hand : Nat} {h_t_used : Nat} {s_isKept : Int32} {s_taped : Int32} {s_pieces : Int32} {s_at : Int32} {s_readMany : Int32} {s_readKind : Int32} {s_readCut : Int32} {s_rowSet : Int32} {s_bestSet : Int32} {s_dues : Nat → Int32} {s_w : Nat → Int32} {s_firsts : Nat → Int32} {s_sizes : Nat → Int32} {s_worths : Nat → Int32} {s_worthOf : Nat → Int32} {s_lies : Nat → Int32} {res : Int32 × Int32 × (Nat → Int32) × (Nat → Int32) × (Nat → Int32) × (Nat → Int32) × (Nat → Int32) × (Nat → Int32)} (C : CX p s m args meth c cX11_kept wsX11_kept RX11 5 D k A (some .int)) (hA : A = va_A w0 sz)  (h : B_X11_kept_220 s_pieces s_dues s_firsts s_sizes s_worths s_worthOf s_lies = some res) : GG p l e rm_X11_kept s m args below meth c (MQ below (cQi D w0 sz res.1 (W_X11_kept k h_t h_t_dues h_t_w h_t_firsts h_t_sizes h_t_worths h_t_worthOf h_t_lies h_t_tape h_t_readWorths h_t_sums h_t_pairs h_t_row h_t_hands h_t_paidOn h_t_lates h_t_fixed h_t_lanes h_t_longs h_t_items h_t_hand h_t_used s_isKept s_taped res.2.1 s_at s_readMany s_readKind s_readCut s_rowSet s_bestSet res.2.2.1 s_w res.2.2.2.1 res.2.2.2.2.1 res.2.2.2.2.2.1 res.2.2.2.2.2.2.1 res.2.2.2.2.2.2.2)) args s 0 0 A) D A 5 0 0 220 [] [] (W_X11_kept k h_t h_t_dues h_t_w h_t_firsts h_t_sizes h_t_worths h_t_worthOf h_t_lies h_t_tape h_t_readWorths h_t_sums h_t_pairs h_t_row h_t_hands h_t_paidOn h_t_lates h_t_fixed h_t_lanes h_t_longs h_t_items h_t_hand h_t_used s_isKept s_taped s_pieces s_at s_readMany s_readKind s_readCut s_rowSet s_bestSet s_dues s_w s_firsts s_sizes s_worths s_worthOf s_lies) := by
  unfold B_X11_kept_220 at h
  refine g_bipush 220 C (60 : Int32) dX11_kept_220 (by decide) ?_
  obtain rfl := Option.some.inj h
  exact g_iret 222 C hA rfl dX11_kept_222 rfl
set_option maxHeartbeats 4000000 in
set_option maxRecDepth 100000 in
theorem ok_B_X11_kept_47 {h_t : Nat} {h_t_dues : Nat} {h_t_w : Nat} {h_t_firsts : Nat} {h_t_sizes : Nat} {h_t_worths : Nat} {h_t_worthOf : Nat} {h_t_lies : Nat} {h_t_tape : Nat} {h_t_readWorths : Nat} {h_t_sums : Nat} {h_t_pairs : Nat} {h_t_row : Nat} {h_t_hands : Nat} {h_t_paidOn : Nat} {h_t_lates : Nat} {h_t_fixed : Nat} {h_t_lanes : Nat} {h_t_longs : Nat} {h_t_items : Nat} {h_t_hand : Nat} {h_t_used : Nat} {s_isKept : Int32} {s_taped : Int32} {s_pieces : Int32} {s_at : Int32} {s_readMany : Int32} {s_readKind : Int32} {s_readCut : Int32} {s_rowSet : Int32} {s_bestSet : Int32} {s_dues : Nat → Int32} {s_w : Nat → Int32} {s_firsts : Nat → Int32} {s_sizes : Nat → Int32} {s_worths : Nat → Int32} {s_worthOf : Nat → Int32} {s_lies : Nat → Int32} {v1 : Int32} {res : Int32 × Int32 × (Nat → Int32) × (Nat → Int32) × (Nat → Int32) × (Nat → Int32) × (Nat → Int32) × (Nat → Int32)} (C : CX p s m args meth c cX11_kept wsX11_kept RX11 5 D k A (some .int)) (hA : A = va_A w0 sz)  (h : B_X11_kept_47 s_pieces s_dues s_firsts s_sizes s_worths s_worthOf s_lies v1 = some res) : GG p l e rm_X11_kept s m args below meth c (MQ below (cQi D w0 sz res.1 (W_X11_kept k h_t h_t_dues h_t_w h_t_firsts h_t_sizes h_t_worths h_t_worthOf h_t_lies h_t_tape h_t_readWorths h_t_sums h_t_pairs h_t_row h_t_hands h_t_paidOn h_t_lates h_t_fixed h_t_lanes h_t_longs h_t_items h_t_hand h_t_used s_isKept s_taped res.2.1 s_at s_readMany s_readKind s_readCut s_rowSet s_bestSet res.2.2.1 s_w res.2.2.2.1 res.2.2.2.2.1 res.2.2.2.2.2.1 res.2.2.2.2.2.2.1 res.2.2.2.2.2.2.2)) args s 0 0 A) D A 5 0 0 47 [(0, .ref h_t), (1, .int v1)] [] (W_X11_kept k h_t h_t_dues h_t_w h_t_firsts h_t_sizes h_t_worths h_t_worthOf h_t_lies h_t_tape h_t_readWorths h_t_sums h_t_pairs h_t_row h_t_hands h_t_paidOn h_t_lates h_t_fixed h_t_lanes h_t_longs h_t_items h_t_hand h_t_used s_isKept s_taped s_pieces s_at s_readMany s_readKind s_readCut s_rowSet s_bestSet s_dues s_w s_firsts s_sizes s_worths s_worthOf s_lies) := by
  unfold B_X11_kept_47 at h
  refine g_iconst 47 C (1 : Int32) dX11_kept_47 (by decide) ?_
  refine g_istore_n 48 C [(2, .int (1 : Int32)), (0, .ref h_t), (1, .int v1)] dX11_kept_48 rfl (by decide) rfl ?_
  refine GG.sub (lv' := [(0, .ref h_t), (1, .int v1), (2, .int (1 : Int32))]) [1, 2, 0] rfl ?_
  exact ok_L_X11_kept_49 C hA (fun t h => by
    refine GG.sub (lv' := []) [] rfl ?_
    exact ok_B_X11_kept_220 C hA h) FUEL ((1 : Int32), s_lies) h
set_option maxHeartbeats 4000000 in
set_option maxRecDepth 100000 in
theorem k_X11_kept {l : Launch} {D : va_G} {k : Nat → ClassId} (h_t : Nat) (h_t_dues : Nat) (h_t_w : Nat) (h_t_firsts : Nat) (h_t_sizes : Nat) (h_t_worths : Nat) (h_t_worthOf : Nat) (h_t_lies : Nat) (h_t_tape : Nat) (h_t_readWorths : Nat) (h_t_sums : Nat) (h_t_pairs : Nat) (h_t_row : Nat) (h_t_hands : Nat) (h_t_paidOn : Nat) (h_t_lates : Nat) (h_t_fixed : Nat) (h_t_lanes : Nat) (h_t_longs : Nat) (h_t_items : Nat) (h_t_hand : Nat) (h_t_used : Nat) (s_isKept : Int32) (s_taped : Int32) (s_pieces : Int32) (s_at : Int32) (s_readMany : Int32) (s_readKind : Int32) (s_readCut : Int32) (s_rowSet : Int32) (s_bestSet : Int32) (s_dues : Nat → Int32) (s_w : Nat → Int32) (s_firsts : Nat → Int32) (s_sizes : Nat → Int32) (s_worths : Nat → Int32) (s_worthOf : Nat → Int32) (s_lies : Nat → Int32) (res : Int32 × Int32 × (Nat → Int32) × (Nat → Int32) × (Nat → Int32) × (Nat → Int32) × (Nat → Int32) × (Nat → Int32)) (h : f_X11_kept s_dues s_w s_firsts s_sizes s_worths s_worthOf s_lies = some res) (sz : Nat) : Met l yX11_kept wsX11_kept rm_X11_kept (cPre D k [.ref h_t] (W_X11_kept k h_t h_t_dues h_t_w h_t_firsts h_t_sizes h_t_worths h_t_worthOf h_t_lies h_t_tape h_t_readWorths h_t_sums h_t_pairs h_t_row h_t_hands h_t_paidOn h_t_lates h_t_fixed h_t_lanes h_t_longs h_t_items h_t_hand h_t_used s_isKept s_taped s_pieces s_at s_readMany s_readKind s_readCut s_rowSet s_bestSet s_dues s_w s_firsts s_sizes s_worths s_worthOf s_lies) sz) (cQi D (W_X11_kept k h_t h_t_dues h_t_w h_t_firsts h_t_sizes h_t_worths h_t_worthOf h_t_lies h_t_tape h_t_readWorths h_t_sums h_t_pairs h_t_row h_t_hands h_t_paidOn h_t_lates h_t_fixed h_t_lanes h_t_longs h_t_items h_t_hand h_t_used s_isKept s_taped s_pieces s_at s_readMany s_readKind s_readCut s_rowSet s_bestSet s_dues s_w s_firsts s_sizes s_worths s_worthOf s_lies) sz res.1 (W_X11_kept k h_t h_t_dues h_t_w h_t_firsts h_t_sizes h_t_worths h_t_worthOf h_t_lies h_t_tape h_t_readWorths h_t_sums h_t_pairs h_t_row h_t_hands h_t_paidOn h_t_lates h_t_fixed h_t_lanes h_t_longs h_t_items h_t_hand h_t_used s_isKept s_taped res.2.1 s_at s_readMany s_readKind s_readCut s_rowSet s_bestSet res.2.2.1 s_w res.2.2.2.1 res.2.2.2.2.1 res.2.2.2.2.2.1 res.2.2.2.2.2.2.1 res.2.2.2.2.2.2.2)) 0 0 (va_A (W_X11_kept k h_t h_t_dues h_t_w h_t_firsts h_t_sizes h_t_worths h_t_worthOf h_t_lies h_t_tape h_t_readWorths h_t_sums h_t_pairs h_t_row h_t_hands h_t_paidOn h_t_lates h_t_fixed h_t_lanes h_t_longs h_t_items h_t_hand h_t_used s_isKept s_taped s_pieces s_at s_readMany s_readKind s_readCut s_rowSet s_bestSet s_dues s_w s_firsts s_sizes s_worths s_worthOf s_lies) sz) := by
  refine met_of [(0, .ref h_t)] (by decide) rfl rfl (Nat.le_of_ble_eq_true rfl) rfl ?_
  intro p e s m args below meth c A hA hsz C
  unfold f_X11_kept at h
  refine g_aload_n 0 C 0 dX11_kept_0 rfl rfl ?_
  obtain ⟨q1, e2, h⟩ := bi_e h
  refine g_callVv 1 C (As := []) [0, 1, 2] [3, 4, 5, 6, 7] [5, 6, 7, 0, 1, 2, 3, 4] (W_X11_kept k h_t h_t_dues h_t_w h_t_firsts h_t_sizes h_t_worths h_t_worthOf h_t_lies h_t_tape h_t_readWorths h_t_sums h_t_pairs h_t_row h_t_hands h_t_paidOn h_t_lates h_t_fixed h_t_lanes h_t_longs h_t_items h_t_hand h_t_used s_isKept s_taped s_pieces s_at s_readMany s_readKind s_readCut s_rowSet s_bestSet q1 s_w s_firsts s_sizes s_worths s_worthOf s_lies) 0 (fun sz => k_X11_layDues h_t h_t_dues h_t_w h_t_tape h_t_firsts h_t_sizes h_t_worths h_t_readWorths h_t_sums h_t_worthOf h_t_lies h_t_pairs h_t_row h_t_hands h_t_paidOn h_t_lates h_t_fixed h_t_lanes h_t_longs h_t_items h_t_hand h_t_used s_isKept s_taped s_pieces s_at s_readMany s_readKind s_readCut s_rowSet s_bestSet s_dues s_w q1 e2 sz) gX11_kept_X11_layDues rfl pd_X11_layDues rfl rfl rfl ⟨rfl, rfl, Nat.le_of_ble_eq_true rfl, Nat.le_of_ble_eq_true rfl⟩ (Nat.le_of_ble_eq_true rfl) ⟨Nat.zero_le _, Nat.zero_le _⟩ ⟨rfl, rfl, rfl, rfl, rfl, by decide, rfl⟩ rfl dX11_kept_1 ?_
  refine g_aload_n 4 C 0 dX11_kept_4 rfl rfl ?_
  obtain ⟨q3, e4, h⟩ := bi_e h
  refine g_callVv 5 C (As := []) [0, 2, 3, 4, 5] [1, 6, 7] [3, 0, 4, 5, 6, 7, 1, 2] (W_X11_kept k h_t h_t_dues h_t_w h_t_firsts h_t_sizes h_t_worths h_t_worthOf h_t_lies h_t_tape h_t_readWorths h_t_sums h_t_pairs h_t_row h_t_hands h_t_paidOn h_t_lates h_t_fixed h_t_lanes h_t_longs h_t_items h_t_hand h_t_used s_isKept s_taped q3.1 s_at s_readMany s_readKind s_readCut s_rowSet s_bestSet q1 s_w q3.2.1 q3.2.2.1 q3.2.2.2 s_worthOf s_lies) 0 (fun sz => k_X11_layNow h_t h_t_w h_t_firsts h_t_sizes h_t_worths h_t_tape h_t_readWorths h_t_dues h_t_sums h_t_worthOf h_t_lies h_t_pairs h_t_row h_t_hands h_t_paidOn h_t_lates h_t_fixed h_t_lanes h_t_longs h_t_items h_t_hand h_t_used s_isKept s_taped s_pieces s_at s_readMany s_readKind s_readCut s_rowSet s_bestSet s_w s_firsts s_sizes s_worths q3 e4 sz) gX11_kept_X11_layNow rfl pd_X11_layNow rfl rfl rfl ⟨rfl, rfl, Nat.le_of_ble_eq_true rfl, Nat.le_of_ble_eq_true rfl⟩ (Nat.le_of_ble_eq_true rfl) ⟨Nat.zero_le _, Nat.zero_le _⟩ ⟨rfl, rfl, rfl, rfl, rfl, by decide, rfl⟩ rfl dX11_kept_5 ?_
  refine g_aload_n 8 C 0 dX11_kept_8 rfl rfl ?_
  obtain ⟨q5, e6, h⟩ := bi_e h
  refine g_callVv 9 C (As := []) [0, 6, 5] [1, 2, 3, 4, 7] [5, 0, 1, 2, 3, 7, 6, 4] (W_X11_kept k h_t h_t_dues h_t_w h_t_firsts h_t_sizes h_t_worths h_t_worthOf h_t_lies h_t_tape h_t_readWorths h_t_sums h_t_pairs h_t_row h_t_hands h_t_paidOn h_t_lates h_t_fixed h_t_lanes h_t_longs h_t_items h_t_hand h_t_used s_isKept s_taped q3.1 s_at s_readMany s_readKind s_readCut s_rowSet s_bestSet q1 s_w q3.2.1 q3.2.2.1 q3.2.2.2 q5 s_lies) 0 (fun sz => k_X11_laySets h_t h_t_worthOf h_t_worths h_t_w h_t_tape h_t_firsts h_t_sizes h_t_readWorths h_t_dues h_t_sums h_t_lies h_t_pairs h_t_row h_t_hands h_t_paidOn h_t_lates h_t_fixed h_t_lanes h_t_longs h_t_items h_t_hand h_t_used s_isKept s_taped q3.1 s_at s_readMany s_readKind s_readCut s_rowSet s_bestSet s_worthOf q3.2.2.2 q5 e6 sz) gX11_kept_X11_laySets rfl pd_X11_laySets rfl rfl rfl ⟨rfl, rfl, Nat.le_of_ble_eq_true rfl, Nat.le_of_ble_eq_true rfl⟩ (Nat.le_of_ble_eq_true rfl) ⟨Nat.zero_le _, Nat.zero_le _⟩ ⟨rfl, rfl, rfl, rfl, rfl, by decide, rfl⟩ rfl dX11_kept_9 ?_
  refine g_iconst 12 C (1 : Int32) dX11_kept_12 (by decide) ?_
  refine g_aload_n 13 C 0 dX11_kept_13 rfl rfl ?_
  refine g_get 14 C in_X11_kept_X11 0 7 rfl rfl (by decide) fl_X11_kept_85 rfl rfl dX11_kept_14 ?_
  refine g_ishl 17 C dX11_kept_17 ?_
  refine g_istore_n 18 C [(1, .int ((1 : Int32) <<< (q3.1 &&& 31))), (0, .ref h_t)] dX11_kept_18 rfl (by decide) rfl ?_
  refine g_iconst 19 C (0 : Int32) dX11_kept_19 (by decide) ?_
  refine g_istore_n 20 C [(2, .int (0 : Int32)), (1, .int ((1 : Int32) <<< (q3.1 &&& 31))), (0, .ref h_t)] dX11_kept_20 rfl (by decide) rfl ?_
  refine GG.sub (lv' := [(0, .ref h_t), (1, .int ((1 : Int32) <<< (q3.1 &&& 31))), (2, .int (0 : Int32))]) [2, 1, 0] rfl ?_
  exact ok_L_X11_kept_21 C hA (fun t h => by
    refine GG.sub (lv' := [(0, .ref h_t), (1, .int ((1 : Int32) <<< (q3.1 &&& 31)))]) [0, 1] rfl ?_
    exact ok_B_X11_kept_47 C hA h) FUEL ((0 : Int32), s_lies) h
end

/-! X11_two -/
abbrev W_X11_two (k : Nat → ClassId) (h_t : Nat) (h_t_dues : Nat) (h_t_w : Nat) (h_t_firsts : Nat) (h_t_sizes : Nat) (h_t_worths : Nat) (h_t_pairs : Nat) (h_t_tape : Nat) (h_t_readWorths : Nat) (h_t_sums : Nat) (h_t_worthOf : Nat) (h_t_lies : Nat) (h_t_row : Nat) (h_t_hands : Nat) (h_t_paidOn : Nat) (h_t_lates : Nat) (h_t_fixed : Nat) (h_t_lanes : Nat) (h_t_longs : Nat) (h_t_items : Nat) (h_t_hand : Nat) (h_t_used : Nat) (s_isKept : Int32) (s_taped : Int32) (s_pieces : Int32) (s_at : Int32) (s_readMany : Int32) (s_readKind : Int32) (s_readCut : Int32) (s_rowSet : Int32) (s_bestSet : Int32) (s_dues : Nat → Int32) (s_w : Nat → Int32) (s_firsts : Nat → Int32) (s_sizes : Nat → Int32) (s_worths : Nat → Int32) (s_pairs : Nat → Int32) : va_W := [(h_t, .inr (11, [.ref h_t_w, .int s_isKept, .ref h_t_tape, .int s_taped, .ref h_t_firsts, .ref h_t_sizes, .ref h_t_worths, .int s_pieces, .int s_at, .ref h_t_readWorths, .int s_readMany, .int s_readKind, .int s_readCut, .ref h_t_dues, .ref h_t_sums, .ref h_t_worthOf, .ref h_t_lies, .ref h_t_pairs, .ref h_t_row, .int s_rowSet, .int s_bestSet, .ref h_t_hands, .ref h_t_paidOn, .ref h_t_lates, .ref h_t_fixed, .ref h_t_lanes, .ref h_t_longs, .ref h_t_items, .ref h_t_hand, .ref h_t_used])), (h_t_dues, .inl (k 0, 61, .inl s_dues)), (h_t_w, .inl (k 0, 60, .inl s_w)), (h_t_firsts, .inl (k 0, 24, .inl s_firsts)), (h_t_sizes, .inl (k 0, 24, .inl s_sizes)), (h_t_worths, .inl (k 0, 24, .inl s_worths)), (h_t_pairs, .inl (k 3, 47089, .inl s_pairs))]
def rm_X11_two : Room := { frames := 3, cells := 0, slots := 0, locals := 66 }
theorem in_X11_two_X11 : ∀ w ∈ u_ws RX11 TX11 30, w ∈ wsX11_two := by decide +kernel
theorem ct_X11_two_102 : Cond.constantLong RX11 102 (9 : Int64) ∈ wsX11_two := by decide +kernel
theorem ct_X11_two_42 : Cond.constant RX11 42 (47089 : Int32) ∈ wsX11_two := by decide +kernel
theorem fl_X11_two_22 : Cond.fieldLink RX11 22 "LinkDaysModel" "worths" "[I" ∈ wsX11_two := by decide +kernel
theorem fl_X11_two_28 : Cond.fieldLink RX11 28 "LinkDaysModel" "dues" "[I" ∈ wsX11_two := by decide +kernel
theorem fl_X11_two_43 : Cond.fieldLink RX11 43 "LinkDaysModel" "pairs" "[Z" ∈ wsX11_two := by decide +kernel
theorem fl_X11_two_85 : Cond.fieldLink RX11 85 "LinkDaysModel" "pieces" "I" ∈ wsX11_two := by decide +kernel
theorem pd_X11_two : yX11_two.cls = RX11 ∧ yX11_two.cls ≠ "java/lang/invoke/MethodHandle" ∧ yX11_two.cls ≠ "java/lang/invoke/VarHandle" ∧ (parseMethodDescriptor yX11_two.desc).map (fun d => d.parameters.length) = some 1 := by decide +kernel
section
variable {p : Program} {l : Launch} {e : Env} {s : State} {m : MethodId} {args : Array Value} {below : List Frame} {meth : Method} {c : Code} {D : va_G} {k : Nat → ClassId} {A : Nat → Prop} {w0 : va_W} {sz : Nat}
set_option maxHeartbeats 4000000 in
set_option maxRecDepth 100000 in
theorem ok_B_X11_two_44 {h_t : Nat} {h_t_dues : Nat} {h_t_w : Nat} {h_t_firsts : Nat} {h_t_sizes : Nat} {h_t_worths : Nat} {h_t_pairs : Nat} {h_t_tape : Nat} {h_t_readWorths : Nat} {h_t_sums : Nat} {h_t_worthOf : Nat} {h_t_lies : Nat} {h_t_row : Nat} {h_t_hands : Nat} {h_t_paidOn : Nat} {h_t_lates : Nat} {h_t_fixed : Nat} {h_t_lanes : Nat} {h_t_longs : Nat} {h_t_items : Nat} {h_t_hand : Nat} {h_t_used : Nat} {s_isKept : Int32} {s_taped : Int32} {s_pieces : Int32} {s_at : Int32} {s_readMany : Int32} {s_readKind : Int32} {s_readCut : Int32} {s_rowSet : Int32} {s_bestSet : Int32} {s_dues : Nat → Int32} {s_w : Nat → Int32} {s_firsts : Nat → Int32} {s_sizes : Nat → Int32} {s_worths : Nat → Int32} {s_pairs : Nat → Int32} {v1 : Int32} {v2 : Int32} {x0 : Int32} {x1 : Int32} {res : Int32 × Int32 × (Nat → Int32) × (Nat → Int32) × (Nat → Int32) × (Nat → Int32) × (Nat → Int32)} {kx rec : Int32 × (Nat → Int32) → Option (Int32 × Int32 × (Nat → Int32) × (Nat → Int32) × (Nat → Int32) × (Nat → Int32) × (Nat → Int32))} (C : CX p s m args meth c cX11_two wsX11_two RX11 6 D k A (some .int)) (hA : A = va_A w0 sz) (hx : ∀ t : Int32 × (Nat → Int32), kx t = some res → GG p l e rm_X11_two s m args below meth c (MQ below (cQi D w0 sz res.1 (W_X11_two k h_t h_t_dues h_t_w h_t_firsts h_t_sizes h_t_worths h_t_pairs h_t_tape h_t_readWorths h_t_sums h_t_worthOf h_t_lies h_t_row h_t_hands h_t_paidOn h_t_lates h_t_fixed h_t_lanes h_t_longs h_t_items h_t_hand h_t_used s_isKept s_taped res.2.1 s_at s_readMany s_readKind s_readCut s_rowSet s_bestSet res.2.2.1 s_w res.2.2.2.1 res.2.2.2.2.1 res.2.2.2.2.2.1 res.2.2.2.2.2.2)) args s 0 0 A) D A 6 0 0 51 [(0, .ref h_t), (1, .int v1)] [] (W_X11_two k h_t h_t_dues h_t_w h_t_firsts h_t_sizes h_t_worths h_t_pairs h_t_tape h_t_readWorths h_t_sums h_t_worthOf h_t_lies h_t_row h_t_hands h_t_paidOn h_t_lates h_t_fixed h_t_lanes h_t_longs h_t_items h_t_hand h_t_used s_isKept s_taped s_pieces s_at s_readMany s_readKind s_readCut s_rowSet s_bestSet s_dues s_w s_firsts s_sizes s_worths t.2)) (hr : ∀ t : Int32 × (Nat → Int32), rec t = some res → GG p l e rm_X11_two s m args below meth c (MQ below (cQi D w0 sz res.1 (W_X11_two k h_t h_t_dues h_t_w h_t_firsts h_t_sizes h_t_worths h_t_pairs h_t_tape h_t_readWorths h_t_sums h_t_worthOf h_t_lies h_t_row h_t_hands h_t_paidOn h_t_lates h_t_fixed h_t_lanes h_t_longs h_t_items h_t_hand h_t_used s_isKept s_taped res.2.1 s_at s_readMany s_readKind s_readCut s_rowSet s_bestSet res.2.2.1 s_w res.2.2.2.1 res.2.2.2.2.1 res.2.2.2.2.2.1 res.2.2.2.2.2.2)) args s 0 0 A) D A 6 0 0 24 [(0, .ref h_t), (1, .int v1), (2, .int t.1)] [] (W_X11_two k h_t h_t_dues h_t_w h_t_firsts h_t_sizes h_t_worths h_t_pairs h_t_tape h_t_readWorths h_t_sums h_t_worthOf h_t_lies h_t_row h_t_hands h_t_paidOn h_t_lates h_t_fixed h_t_lanes h_t_longs h_t_items h_t_hand h_t_used s_isKept s_taped s_pieces s_at s_readMany s_readKind s_readCut s_rowSet s_bestSet s_dues s_w s_firsts s_sizes s_worths t.2))  (h : B_X11_two_44 kx rec s_pairs v2 x0 x1 = some res) : GG p l e rm_X11_two s m args below meth c (MQ below (cQi D w0 sz res.1 (W_X11_two k h_t h_t_dues h_t_w h_t_firsts h_t_sizes h_t_worths h_t_pairs h_t_tape h_t_readWorths h_t_sums h_t_worthOf h_t_lies h_t_row h_t_hands h_t_paidOn h_t_lates h_t_fixed h_t_lanes h_t_longs h_t_items h_t_hand h_t_used s_isKept s_taped res.2.1 s_at s_readMany s_readKind s_readCut s_rowSet s_bestSet res.2.2.1 s_w res.2.2.2.1 res.2.2.2.2.1 res.2.2.2.2.2.1 res.2.2.2.2.2.2)) args s 0 0 A) D A 6 0 0 44 [(0, .ref h_t), (1, .int v1), (2, .int v2)] [.int x0, .int x1, .ref h_t_pairs] (W_X11_two k h_t h_t_dues h_t_w h_t_firsts h_t_sizes h_t_worths h_t_pairs h_t_tape h_t_readWorths h_t_sums h_t_worthOf h_t_lies h_t_row h_t_hands h_t_paidOn h_t_lates h_t_fixed h_t_lanes h_t_longs h_t_items h_t_hand h_t_used s_isKept s_taped s_pieces s_at s_readMany s_readKind s_readCut s_rowSet s_bestSet s_dues s_w s_firsts s_sizes s_worths s_pairs) := by
  unfold B_X11_two_44 at h
  obtain ⟨o7, h⟩ := ob_e h
  refine g_zast 44 C (W_X11_two k h_t h_t_dues h_t_w h_t_firsts h_t_sizes h_t_worths h_t_pairs h_t_tape h_t_readWorths h_t_sums h_t_worthOf h_t_lies h_t_row h_t_hands h_t_paidOn h_t_lates h_t_fixed h_t_lanes h_t_longs h_t_items h_t_hand h_t_used s_isKept s_taped s_pieces s_at s_readMany s_readKind s_readCut s_rowSet s_bestSet s_dues s_w s_firsts s_sizes s_worths (upd s_pairs x1.toNatClampNeg (vp_nar .boolean x0))) 6 rfl o7 rfl dX11_two_44 ?_
  refine g_iinc 45 C 2 (1 : Int32) [(2, .int (v2 + (1 : Int32))), (0, .ref h_t), (1, .int v1)] dX11_two_45 rfl (by decide) (by decide) rfl ?_
  refine g_goto 48 24 C dX11_two_48 (by decide) ?_
  refine GG.sub (lv' := [(0, .ref h_t), (1, .int v1), (2, .int (v2 + (1 : Int32)))]) [1, 2, 0] rfl ?_
  exact hr ((v2 + (1 : Int32)), (upd s_pairs x1.toNatClampNeg (vp_nar .boolean x0))) h
set_option maxHeartbeats 4000000 in
set_option maxRecDepth 100000 in
theorem ok_L_X11_two_24 {h_t : Nat} {h_t_dues : Nat} {h_t_w : Nat} {h_t_firsts : Nat} {h_t_sizes : Nat} {h_t_worths : Nat} {h_t_pairs : Nat} {h_t_tape : Nat} {h_t_readWorths : Nat} {h_t_sums : Nat} {h_t_worthOf : Nat} {h_t_lies : Nat} {h_t_row : Nat} {h_t_hands : Nat} {h_t_paidOn : Nat} {h_t_lates : Nat} {h_t_fixed : Nat} {h_t_lanes : Nat} {h_t_longs : Nat} {h_t_items : Nat} {h_t_hand : Nat} {h_t_used : Nat} {s_isKept : Int32} {s_taped : Int32} {s_pieces : Int32} {s_at : Int32} {s_readMany : Int32} {s_readKind : Int32} {s_readCut : Int32} {s_rowSet : Int32} {s_bestSet : Int32} {s_dues : Nat → Int32} {s_w : Nat → Int32} {s_firsts : Nat → Int32} {s_sizes : Nat → Int32} {s_worths : Nat → Int32} {v1 : Int32} {res : Int32 × Int32 × (Nat → Int32) × (Nat → Int32) × (Nat → Int32) × (Nat → Int32) × (Nat → Int32)} (C : CX p s m args meth c cX11_two wsX11_two RX11 6 D k A (some .int)) (hA : A = va_A w0 sz) {kx : Int32 × (Nat → Int32) → Option (Int32 × Int32 × (Nat → Int32) × (Nat → Int32) × (Nat → Int32) × (Nat → Int32) × (Nat → Int32))} (hx : ∀ t : Int32 × (Nat → Int32), kx t = some res → GG p l e rm_X11_two s m args below meth c (MQ below (cQi D w0 sz res.1 (W_X11_two k h_t h_t_dues h_t_w h_t_firsts h_t_sizes h_t_worths h_t_pairs h_t_tape h_t_readWorths h_t_sums h_t_worthOf h_t_lies h_t_row h_t_hands h_t_paidOn h_t_lates h_t_fixed h_t_lanes h_t_longs h_t_items h_t_hand h_t_used s_isKept s_taped res.2.1 s_at s_readMany s_readKind s_readCut s_rowSet s_bestSet res.2.2.1 s_w res.2.2.2.1 res.2.2.2.2.1 res.2.2.2.2.2.1 res.2.2.2.2.2.2)) args s 0 0 A) D A 6 0 0 51 [(0, .ref h_t), (1, .int v1)] [] (W_X11_two k h_t h_t_dues h_t_w h_t_firsts h_t_sizes h_t_worths h_t_pairs h_t_tape h_t_readWorths h_t_sums h_t_worthOf h_t_lies h_t_row h_t_hands h_t_paidOn h_t_lates h_t_fixed h_t_lanes h_t_longs h_t_items h_t_hand h_t_used s_isKept s_taped s_pieces s_at s_readMany s_readKind s_readCut s_rowSet s_bestSet s_dues s_w s_firsts s_sizes s_worths t.2)) : ∀ (n : Nat) (t : Int32 × (Nat → Int32)), L_X11_two_24 kx n t = some res → GG p l e rm_X11_two s m args below meth c (MQ below (cQi D w0 sz res.1 (W_X11_two k h_t h_t_dues h_t_w h_t_firsts h_t_sizes h_t_worths h_t_pairs h_t_tape h_t_readWorths h_t_sums h_t_worthOf h_t_lies h_t_row h_t_hands h_t_paidOn h_t_lates h_t_fixed h_t_lanes h_t_longs h_t_items h_t_hand h_t_used s_isKept s_taped res.2.1 s_at s_readMany s_readKind s_readCut s_rowSet s_bestSet res.2.2.1 s_w res.2.2.2.1 res.2.2.2.2.1 res.2.2.2.2.2.1 res.2.2.2.2.2.2)) args s 0 0 A) D A 6 0 0 24 [(0, .ref h_t), (1, .int v1), (2, .int t.1)] [] (W_X11_two k h_t h_t_dues h_t_w h_t_firsts h_t_sizes h_t_worths h_t_pairs h_t_tape h_t_readWorths h_t_sums h_t_worthOf h_t_lies h_t_row h_t_hands h_t_paidOn h_t_lates h_t_fixed h_t_lanes h_t_longs h_t_items h_t_hand h_t_used s_isKept s_taped s_pieces s_at s_readMany s_readKind s_readCut s_rowSet s_bestSet s_dues s_w s_firsts s_sizes s_worths t.2) := by
  intro n
  induction n with
  | zero => intro t h; cases h
  | succ n ih =>
    intro t h
    obtain ⟨v2, s_pairs⟩ := t
    replace h : LB_X11_two_24 kx (L_X11_two_24 kx n) v2 s_pairs = some res := h
    have hr := ih
    unfold LB_X11_two_24 at h
    refine g_iload_n 24 C 2 dX11_two_24 rfl rfl ?_
    refine g_ldc 25 C (47089 : Int32) dX11_two_25 ct_X11_two_42 ?_
    refine g_icmp_ge 27 51 C dX11_two_27 (by decide) (fun c => ?_) (fun c => ?_)
    · replace h := it_e c h
      refine GG.sub (lv' := [(0, .ref h_t), (1, .int v1)]) [0, 1] rfl ?_
      exact hx (v2, s_pairs) h
    · replace h := if_e c h
      refine g_aload_n 30 C 0 dX11_two_30 rfl rfl ?_
      refine g_get 31 C in_X11_two_X11 0 17 rfl rfl (by decide) fl_X11_two_43 rfl rfl dX11_two_31 ?_
      refine g_iload_n 34 C 2 dX11_two_34 rfl rfl ?_
      refine g_iload_n 35 C 2 dX11_two_35 rfl rfl ?_
      refine g_if_ne 36 43 C dX11_two_36 (by decide) (fun c => ?_) (fun c => ?_)
      · replace h := if_e c h
        refine g_iconst 43 C (0 : Int32) dX11_two_43 (by decide) ?_
        refine GG.sub (lv' := [(0, .ref h_t), (1, .int v1), (2, .int v2)]) [0, 1, 2] rfl ?_
        exact ok_B_X11_two_44 C hA hx hr h
      · replace h := it_e c h
        refine g_iconst 39 C (1 : Int32) dX11_two_39 (by decide) ?_
        refine g_goto 40 44 C dX11_two_40 (by decide) ?_
        refine GG.sub (lv' := [(0, .ref h_t), (1, .int v1), (2, .int v2)]) [0, 1, 2] rfl ?_
        exact ok_B_X11_two_44 C hA hx hr h
set_option maxHeartbeats 4000000 in
set_option maxRecDepth 100000 in
theorem ok_B_X11_two_183 {h_t : Nat} {h_t_dues : Nat} {h_t_w : Nat} {h_t_firsts : Nat} {h_t_sizes : Nat} {h_t_worths : Nat} {h_t_pairs : Nat} {h_t_tape : Nat} {h_t_readWorths : Nat} {h_t_sums : Nat} {h_t_worthOf : Nat} {h_t_lies : Nat} {h_t_row : Nat} {h_t_hands : Nat} {h_t_paidOn : Nat} {h_t_lates : Nat} {h_t_fixed : Nat} {h_t_lanes : Nat} {h_t_longs : Nat} {h_t_items : Nat} {h_t_hand : Nat} {h_t_used : Nat} {s_isKept : Int32} {s_taped : Int32} {s_pieces : Int32} {s_at : Int32} {s_readMany : Int32} {s_readKind : Int32} {s_readCut : Int32} {s_rowSet : Int32} {s_bestSet : Int32} {s_dues : Nat → Int32} {s_w : Nat → Int32} {s_firsts : Nat → Int32} {s_sizes : Nat → Int32} {s_worths : Nat → Int32} {s_pairs : Nat → Int32} {v1 : Int32} {v2 : Int32} {v3 : Int32} {v4 : Int32} {x0 : Int32} {res : Int32 × Int32 × (Nat → Int32) × (Nat → Int32) × (Nat → Int32) × (Nat → Int32) × (Nat → Int32)} {kx rec : Int32 × (Nat → Int32) → Option (Int32 × Int32 × (Nat → Int32) × (Nat → Int32) × (Nat → Int32) × (Nat → Int32) × (Nat → Int32))} (C : CX p s m args meth c cX11_two wsX11_two RX11 6 D k A (some .int)) (hA : A = va_A w0 sz) (hx : ∀ t : Int32 × (Nat → Int32), kx t = some res → GG p l e rm_X11_two s m args below meth c (MQ below (cQi D w0 sz res.1 (W_X11_two k h_t h_t_dues h_t_w h_t_firsts h_t_sizes h_t_worths h_t_pairs h_t_tape h_t_readWorths h_t_sums h_t_worthOf h_t_lies h_t_row h_t_hands h_t_paidOn h_t_lates h_t_fixed h_t_lanes h_t_longs h_t_items h_t_hand h_t_used s_isKept s_taped res.2.1 s_at s_readMany s_readKind s_readCut s_rowSet s_bestSet res.2.2.1 s_w res.2.2.2.1 res.2.2.2.2.1 res.2.2.2.2.2.1 res.2.2.2.2.2.2)) args s 0 0 A) D A 6 0 0 206 [(0, .ref h_t), (1, .int v1), (2, .int v2), (3, .int v3)] [] (W_X11_two k h_t h_t_dues h_t_w h_t_firsts h_t_sizes h_t_worths h_t_pairs h_t_tape h_t_readWorths h_t_sums h_t_worthOf h_t_lies h_t_row h_t_hands h_t_paidOn h_t_lates h_t_fixed h_t_lanes h_t_longs h_t_items h_t_hand h_t_used s_isKept s_taped s_pieces s_at s_readMany s_readKind s_readCut s_rowSet s_bestSet s_dues s_w s_firsts s_sizes s_worths t.2)) (hr : ∀ t : Int32 × (Nat → Int32), rec t = some res → GG p l e rm_X11_two s m args below meth c (MQ below (cQi D w0 sz res.1 (W_X11_two k h_t h_t_dues h_t_w h_t_firsts h_t_sizes h_t_worths h_t_pairs h_t_tape h_t_readWorths h_t_sums h_t_worthOf h_t_lies h_t_row h_t_hands h_t_paidOn h_t_lates h_t_fixed h_t_lanes h_t_longs h_t_items h_t_hand h_t_used s_isKept s_taped res.2.1 s_at s_readMany s_readKind s_readCut s_rowSet s_bestSet res.2.2.1 s_w res.2.2.2.1 res.2.2.2.2.1 res.2.2.2.2.2.1 res.2.2.2.2.2.2)) args s 0 0 A) D A 6 0 0 74 [(0, .ref h_t), (1, .int v1), (2, .int v2), (3, .int v3), (4, .int t.1)] [] (W_X11_two k h_t h_t_dues h_t_w h_t_firsts h_t_sizes h_t_worths h_t_pairs h_t_tape h_t_readWorths h_t_sums h_t_worthOf h_t_lies h_t_row h_t_hands h_t_paidOn h_t_lates h_t_fixed h_t_lanes h_t_longs h_t_items h_t_hand h_t_used s_isKept s_taped s_pieces s_at s_readMany s_readKind s_readCut s_rowSet s_bestSet s_dues s_w s_firsts s_sizes s_worths t.2))  (h : B_X11_two_183 kx rec s_pairs v3 v4 x0 = some res) : GG p l e rm_X11_two s m args below meth c (MQ below (cQi D w0 sz res.1 (W_X11_two k h_t h_t_dues h_t_w h_t_firsts h_t_sizes h_t_worths h_t_pairs h_t_tape h_t_readWorths h_t_sums h_t_worthOf h_t_lies h_t_row h_t_hands h_t_paidOn h_t_lates h_t_fixed h_t_lanes h_t_longs h_t_items h_t_hand h_t_used s_isKept s_taped res.2.1 s_at s_readMany s_readKind s_readCut s_rowSet s_bestSet res.2.2.1 s_w res.2.2.2.1 res.2.2.2.2.1 res.2.2.2.2.2.1 res.2.2.2.2.2.2)) args s 0 0 A) D A 6 0 0 183 [(0, .ref h_t), (1, .int v1), (2, .int v2), (3, .int v3), (4, .int v4)] [.int x0] (W_X11_two k h_t h_t_dues h_t_w h_t_firsts h_t_sizes h_t_worths h_t_pairs h_t_tape h_t_readWorths h_t_sums h_t_worthOf h_t_lies h_t_row h_t_hands h_t_paidOn h_t_lates h_t_fixed h_t_lanes h_t_longs h_t_items h_t_hand h_t_used s_isKept s_taped s_pieces s_at s_readMany s_readKind s_readCut s_rowSet s_bestSet s_dues s_w s_firsts s_sizes s_worths s_pairs) := by
  unfold B_X11_two_183 at h
  refine g_istore 183 C [(5, .int x0), (0, .ref h_t), (1, .int v1), (2, .int v2), (3, .int v3), (4, .int v4)] dX11_two_183 (by decide) rfl ?_
  refine g_aload_n 185 C 1 dX11_two_185 rfl rfl ?_
  refine g_get 186 C in_X11_two_X11 0 17 rfl rfl (by decide) fl_X11_two_43 rfl rfl dX11_two_186 ?_
  refine g_sipush 189 C (217 : Int32) dX11_two_189 (by decide) ?_
  refine g_iload_n 192 C 4 dX11_two_192 rfl rfl ?_
  refine g_imul 193 C dX11_two_193 ?_
  refine g_iload 194 C 5 dX11_two_194 rfl ?_
  refine g_iadd 196 C dX11_two_196 ?_
  refine g_iload 197 C 0 dX11_two_197 rfl ?_
  obtain ⟨o9, h⟩ := ob_e h
  refine g_zast 199 C (W_X11_two k h_t h_t_dues h_t_w h_t_firsts h_t_sizes h_t_worths h_t_pairs h_t_tape h_t_readWorths h_t_sums h_t_worthOf h_t_lies h_t_row h_t_hands h_t_paidOn h_t_lates h_t_fixed h_t_lanes h_t_longs h_t_items h_t_hand h_t_used s_isKept s_taped s_pieces s_at s_readMany s_readKind s_readCut s_rowSet s_bestSet s_dues s_w s_firsts s_sizes s_worths (upd s_pairs (((217 : Int32) * v3) + v4).toNatClampNeg (vp_nar .boolean x0))) 6 rfl o9 rfl dX11_two_199 ?_
  refine g_iinc 200 C 5 (-1 : Int32) [(4, .int (v4 + (-1 : Int32))), (5, .int x0), (0, .ref h_t), (1, .int v1), (2, .int v2), (3, .int v3)] dX11_two_200 rfl (by decide) (by decide) rfl ?_
  refine g_goto 203 74 C dX11_two_203 (by decide) ?_
  refine GG.sub (lv' := [(0, .ref h_t), (1, .int v1), (2, .int v2), (3, .int v3), (4, .int (v4 + (-1 : Int32)))]) [2, 3, 4, 5, 0] rfl ?_
  exact hr ((v4 + (-1 : Int32)), (upd s_pairs (((217 : Int32) * v3) + v4).toNatClampNeg (vp_nar .boolean x0))) h
set_option maxHeartbeats 4000000 in
set_option maxRecDepth 100000 in
theorem ok_B_X11_two_178 {h_t : Nat} {h_t_dues : Nat} {h_t_w : Nat} {h_t_firsts : Nat} {h_t_sizes : Nat} {h_t_worths : Nat} {h_t_pairs : Nat} {h_t_tape : Nat} {h_t_readWorths : Nat} {h_t_sums : Nat} {h_t_worthOf : Nat} {h_t_lies : Nat} {h_t_row : Nat} {h_t_hands : Nat} {h_t_paidOn : Nat} {h_t_lates : Nat} {h_t_fixed : Nat} {h_t_lanes : Nat} {h_t_longs : Nat} {h_t_items : Nat} {h_t_hand : Nat} {h_t_used : Nat} {s_isKept : Int32} {s_taped : Int32} {s_pieces : Int32} {s_at : Int32} {s_readMany : Int32} {s_readKind : Int32} {s_readCut : Int32} {s_rowSet : Int32} {s_bestSet : Int32} {s_dues : Nat → Int32} {s_w : Nat → Int32} {s_firsts : Nat → Int32} {s_sizes : Nat → Int32} {s_worths : Nat → Int32} {s_pairs : Nat → Int32} {v1 : Int32} {v2 : Int32} {v3 : Int32} {v4 : Int32} {res : Int32 × Int32 × (Nat → Int32) × (Nat → Int32) × (Nat → Int32) × (Nat → Int32) × (Nat → Int32)} {kx rec : Int32 × (Nat → Int32) → Option (Int32 × Int32 × (Nat → Int32) × (Nat → Int32) × (Nat → Int32) × (Nat → Int32) × (Nat → Int32))} (C : CX p s m args meth c cX11_two wsX11_two RX11 6 D k A (some .int)) (hA : A = va_A w0 sz) (hx : ∀ t : Int32 × (Nat → Int32), kx t = some res → GG p l e rm_X11_two s m args below meth c (MQ below (cQi D w0 sz res.1 (W_X11_two k h_t h_t_dues h_t_w h_t_firsts h_t_sizes h_t_worths h_t_pairs h_t_tape h_t_readWorths h_t_sums h_t_worthOf h_t_lies h_t_row h_t_hands h_t_paidOn h_t_lates h_t_fixed h_t_lanes h_t_longs h_t_items h_t_hand h_t_used s_isKept s_taped res.2.1 s_at s_readMany s_readKind s_readCut s_rowSet s_bestSet res.2.2.1 s_w res.2.2.2.1 res.2.2.2.2.1 res.2.2.2.2.2.1 res.2.2.2.2.2.2)) args s 0 0 A) D A 6 0 0 206 [(0, .ref h_t), (1, .int v1), (2, .int v2), (3, .int v3)] [] (W_X11_two k h_t h_t_dues h_t_w h_t_firsts h_t_sizes h_t_worths h_t_pairs h_t_tape h_t_readWorths h_t_sums h_t_worthOf h_t_lies h_t_row h_t_hands h_t_paidOn h_t_lates h_t_fixed h_t_lanes h_t_longs h_t_items h_t_hand h_t_used s_isKept s_taped s_pieces s_at s_readMany s_readKind s_readCut s_rowSet s_bestSet s_dues s_w s_firsts s_sizes s_worths t.2)) (hr : ∀ t : Int32 × (Nat → Int32), rec t = some res → GG p l e rm_X11_two s m args below meth c (MQ below (cQi D w0 sz res.1 (W_X11_two k h_t h_t_dues h_t_w h_t_firsts h_t_sizes h_t_worths h_t_pairs h_t_tape h_t_readWorths h_t_sums h_t_worthOf h_t_lies h_t_row h_t_hands h_t_paidOn h_t_lates h_t_fixed h_t_lanes h_t_longs h_t_items h_t_hand h_t_used s_isKept s_taped res.2.1 s_at s_readMany s_readKind s_readCut s_rowSet s_bestSet res.2.2.1 s_w res.2.2.2.1 res.2.2.2.2.1 res.2.2.2.2.2.1 res.2.2.2.2.2.2)) args s 0 0 A) D A 6 0 0 74 [(0, .ref h_t), (1, .int v1), (2, .int v2), (3, .int v3), (4, .int t.1)] [] (W_X11_two k h_t h_t_dues h_t_w h_t_firsts h_t_sizes h_t_worths h_t_pairs h_t_tape h_t_readWorths h_t_sums h_t_worthOf h_t_lies h_t_row h_t_hands h_t_paidOn h_t_lates h_t_fixed h_t_lanes h_t_longs h_t_items h_t_hand h_t_used s_isKept s_taped s_pieces s_at s_readMany s_readKind s_readCut s_rowSet s_bestSet s_dues s_w s_firsts s_sizes s_worths t.2))  (h : B_X11_two_178 kx rec s_pairs v3 v4 = some res) : GG p l e rm_X11_two s m args below meth c (MQ below (cQi D w0 sz res.1 (W_X11_two k h_t h_t_dues h_t_w h_t_firsts h_t_sizes h_t_worths h_t_pairs h_t_tape h_t_readWorths h_t_sums h_t_worthOf h_t_lies h_t_row h_t_hands h_t_paidOn h_t_lates h_t_fixed h_t_lanes h_t_longs h_t_items h_t_hand h_t_used s_isKept s_taped res.2.1 s_at s_readMany s_readKind s_readCut s_rowSet s_bestSet res.2.2.1 s_w res.2.2.2.1 res.2.2.2.2.1 res.2.2.2.2.2.1 res.2.2.2.2.2.2)) args s 0 0 A) D A 6 0 0 178 [(0, .ref h_t), (1, .int v1), (2, .int v2), (3, .int v3), (4, .int v4)] [] (W_X11_two k h_t h_t_dues h_t_w h_t_firsts h_t_sizes h_t_worths h_t_pairs h_t_tape h_t_readWorths h_t_sums h_t_worthOf h_t_lies h_t_row h_t_hands h_t_paidOn h_t_lates h_t_fixed h_t_lanes h_t_longs h_t_items h_t_hand h_t_used s_isKept s_taped s_pieces s_at s_readMany s_readKind s_readCut s_rowSet s_bestSet s_dues s_w s_firsts s_sizes s_worths s_pairs) := by
  unfold B_X11_two_178 at h
  refine g_iconst 178 C (1 : Int32) dX11_two_178 (by decide) ?_
  refine g_goto 179 183 C dX11_two_179 (by decide) ?_
  refine GG.sub (lv' := [(0, .ref h_t), (1, .int v1), (2, .int v2), (3, .int v3), (4, .int v4)]) [0, 1, 2, 3, 4] rfl ?_
  exact ok_B_X11_two_183 C hA hx hr h
set_option maxHeartbeats 4000000 in
set_option maxRecDepth 100000 in
theorem ok_B_X11_two_182 {h_t : Nat} {h_t_dues : Nat} {h_t_w : Nat} {h_t_firsts : Nat} {h_t_sizes : Nat} {h_t_worths : Nat} {h_t_pairs : Nat} {h_t_tape : Nat} {h_t_readWorths : Nat} {h_t_sums : Nat} {h_t_worthOf : Nat} {h_t_lies : Nat} {h_t_row : Nat} {h_t_hands : Nat} {h_t_paidOn : Nat} {h_t_lates : Nat} {h_t_fixed : Nat} {h_t_lanes : Nat} {h_t_longs : Nat} {h_t_items : Nat} {h_t_hand : Nat} {h_t_used : Nat} {s_isKept : Int32} {s_taped : Int32} {s_pieces : Int32} {s_at : Int32} {s_readMany : Int32} {s_readKind : Int32} {s_readCut : Int32} {s_rowSet : Int32} {s_bestSet : Int32} {s_dues : Nat → Int32} {s_w : Nat → Int32} {s_firsts : Nat → Int32} {s_sizes : Nat → Int32} {s_worths : Nat → Int32} {s_pairs : Nat → Int32} {v1 : Int32} {v2 : Int32} {v3 : Int32} {v4 : Int32} {res : Int32 × Int32 × (Nat → Int32) × (Nat → Int32) × (Nat → Int32) × (Nat → Int32) × (Nat → Int32)} {kx rec : Int32 × (Nat → Int32) → Option (Int32 × Int32 × (Nat → Int32) × (Nat → Int32) × (Nat → Int32) × (Nat → Int32) × (Nat → Int32))} (C : CX p s m args meth c cX11_two wsX11_two RX11 6 D k A (some .int)) (hA : A = va_A w0 sz) (hx : ∀ t : Int32 × (Nat → Int32), kx t = some res → GG p l e rm_X11_two s m args below meth c (MQ below (cQi D w0 sz res.1 (W_X11_two k h_t h_t_dues h_t_w h_t_firsts h_t_sizes h_t_worths h_t_pairs h_t_tape h_t_readWorths h_t_sums h_t_worthOf h_t_lies h_t_row h_t_hands h_t_paidOn h_t_lates h_t_fixed h_t_lanes h_t_longs h_t_items h_t_hand h_t_used s_isKept s_taped res.2.1 s_at s_readMany s_readKind s_readCut s_rowSet s_bestSet res.2.2.1 s_w res.2.2.2.1 res.2.2.2.2.1 res.2.2.2.2.2.1 res.2.2.2.2.2.2)) args s 0 0 A) D A 6 0 0 206 [(0, .ref h_t), (1, .int v1), (2, .int v2), (3, .int v3)] [] (W_X11_two k h_t h_t_dues h_t_w h_t_firsts h_t_sizes h_t_worths h_t_pairs h_t_tape h_t_readWorths h_t_sums h_t_worthOf h_t_lies h_t_row h_t_hands h_t_paidOn h_t_lates h_t_fixed h_t_lanes h_t_longs h_t_items h_t_hand h_t_used s_isKept s_taped s_pieces s_at s_readMany s_readKind s_readCut s_rowSet s_bestSet s_dues s_w s_firsts s_sizes s_worths t.2)) (hr : ∀ t : Int32 × (Nat → Int32), rec t = some res → GG p l e rm_X11_two s m args below meth c (MQ below (cQi D w0 sz res.1 (W_X11_two k h_t h_t_dues h_t_w h_t_firsts h_t_sizes h_t_worths h_t_pairs h_t_tape h_t_readWorths h_t_sums h_t_worthOf h_t_lies h_t_row h_t_hands h_t_paidOn h_t_lates h_t_fixed h_t_lanes h_t_longs h_t_items h_t_hand h_t_used s_isKept s_taped res.2.1 s_at s_readMany s_readKind s_readCut s_rowSet s_bestSet res.2.2.1 s_w res.2.2.2.1 res.2.2.2.2.1 res.2.2.2.2.2.1 res.2.2.2.2.2.2)) args s 0 0 A) D A 6 0 0 74 [(0, .ref h_t), (1, .int v1), (2, .int v2), (3, .int v3), (4, .int t.1)] [] (W_X11_two k h_t h_t_dues h_t_w h_t_firsts h_t_sizes h_t_worths h_t_pairs h_t_tape h_t_readWorths h_t_sums h_t_worthOf h_t_lies h_t_row h_t_hands h_t_paidOn h_t_lates h_t_fixed h_t_lanes h_t_longs h_t_items h_t_hand h_t_used s_isKept s_taped s_pieces s_at s_readMany s_readKind s_readCut s_rowSet s_bestSet s_dues s_w s_firsts s_sizes s_worths t.2))  (h : B_X11_two_182 kx rec s_pairs v3 v4 = some res) : GG p l e rm_X11_two s m args below meth c (MQ below (cQi D w0 sz res.1 (W_X11_two k h_t h_t_dues h_t_w h_t_firsts h_t_sizes h_t_worths h_t_pairs h_t_tape h_t_readWorths h_t_sums h_t_worthOf h_t_lies h_t_row h_t_hands h_t_paidOn h_t_lates h_t_fixed h_t_lanes h_t_longs h_t_items h_t_hand h_t_used s_isKept s_taped res.2.1 s_at s_readMany s_readKind s_readCut s_rowSet s_bestSet res.2.2.1 s_w res.2.2.2.1 res.2.2.2.2.1 res.2.2.2.2.2.1 res.2.2.2.2.2.2)) args s 0 0 A) D A 6 0 0 182 [(0, .ref h_t), (1, .int v1), (2, .int v2), (3, .int v3), (4, .int v4)] [] (W_X11_two k h_t h_t_dues h_t_w h_t_firsts h_t_sizes h_t_worths h_t_pairs h_t_tape h_t_readWorths h_t_sums h_t_worthOf h_t_lies h_t_row h_t_hands h_t_paidOn h_t_lates h_t_fixed h_t_lanes h_t_longs h_t_items h_t_hand h_t_used s_isKept s_taped s_pieces s_at s_readMany s_readKind s_readCut s_rowSet s_bestSet s_dues s_w s_firsts s_sizes s_worths s_pairs) := by
  unfold B_X11_two_182 at h
  refine g_iconst 182 C (0 : Int32) dX11_two_182 (by decide) ?_
  refine GG.sub (lv' := [(0, .ref h_t), (1, .int v1), (2, .int v2), (3, .int v3), (4, .int v4)]) [0, 1, 2, 3, 4] rfl ?_
  exact ok_B_X11_two_183 C hA hx hr h
set_option maxHeartbeats 4000000 in
set_option maxRecDepth 100000 in
theorem ok_B_X11_two_137 {h_t : Nat} {h_t_dues : Nat} {h_t_w : Nat} {h_t_firsts : Nat} {h_t_sizes : Nat} {h_t_worths : Nat} {h_t_pairs : Nat} {h_t_tape : Nat} {h_t_readWorths : Nat} {h_t_sums : Nat} {h_t_worthOf : Nat} {h_t_lies : Nat} {h_t_row : Nat} {h_t_hands : Nat} {h_t_paidOn : Nat} {h_t_lates : Nat} {h_t_fixed : Nat} {h_t_lanes : Nat} {h_t_longs : Nat} {h_t_items : Nat} {h_t_hand : Nat} {h_t_used : Nat} {s_isKept : Int32} {s_taped : Int32} {s_pieces : Int32} {s_at : Int32} {s_readMany : Int32} {s_readKind : Int32} {s_readCut : Int32} {s_rowSet : Int32} {s_bestSet : Int32} {s_dues : Nat → Int32} {s_w : Nat → Int32} {s_firsts : Nat → Int32} {s_sizes : Nat → Int32} {s_worths : Nat → Int32} {s_pairs : Nat → Int32} {v1 : Int32} {v2 : Int32} {v3 : Int32} {v4 : Int32} {x0 : Int32} {res : Int32 × Int32 × (Nat → Int32) × (Nat → Int32) × (Nat → Int32) × (Nat → Int32) × (Nat → Int32)} {kx rec : Int32 × (Nat → Int32) → Option (Int32 × Int32 × (Nat → Int32) × (Nat → Int32) × (Nat → Int32) × (Nat → Int32) × (Nat → Int32))} (C : CX p s m args meth c cX11_two wsX11_two RX11 6 D k A (some .int)) (hA : A = va_A w0 sz) (hx : ∀ t : Int32 × (Nat → Int32), kx t = some res → GG p l e rm_X11_two s m args below meth c (MQ below (cQi D w0 sz res.1 (W_X11_two k h_t h_t_dues h_t_w h_t_firsts h_t_sizes h_t_worths h_t_pairs h_t_tape h_t_readWorths h_t_sums h_t_worthOf h_t_lies h_t_row h_t_hands h_t_paidOn h_t_lates h_t_fixed h_t_lanes h_t_longs h_t_items h_t_hand h_t_used s_isKept s_taped res.2.1 s_at s_readMany s_readKind s_readCut s_rowSet s_bestSet res.2.2.1 s_w res.2.2.2.1 res.2.2.2.2.1 res.2.2.2.2.2.1 res.2.2.2.2.2.2)) args s 0 0 A) D A 6 0 0 206 [(0, .ref h_t), (1, .int v1), (2, .int v2), (3, .int v3)] [] (W_X11_two k h_t h_t_dues h_t_w h_t_firsts h_t_sizes h_t_worths h_t_pairs h_t_tape h_t_readWorths h_t_sums h_t_worthOf h_t_lies h_t_row h_t_hands h_t_paidOn h_t_lates h_t_fixed h_t_lanes h_t_longs h_t_items h_t_hand h_t_used s_isKept s_taped s_pieces s_at s_readMany s_readKind s_readCut s_rowSet s_bestSet s_dues s_w s_firsts s_sizes s_worths t.2)) (hr : ∀ t : Int32 × (Nat → Int32), rec t = some res → GG p l e rm_X11_two s m args below meth c (MQ below (cQi D w0 sz res.1 (W_X11_two k h_t h_t_dues h_t_w h_t_firsts h_t_sizes h_t_worths h_t_pairs h_t_tape h_t_readWorths h_t_sums h_t_worthOf h_t_lies h_t_row h_t_hands h_t_paidOn h_t_lates h_t_fixed h_t_lanes h_t_longs h_t_items h_t_hand h_t_used s_isKept s_taped res.2.1 s_at s_readMany s_readKind s_readCut s_rowSet s_bestSet res.2.2.1 s_w res.2.2.2.1 res.2.2.2.2.1 res.2.2.2.2.2.1 res.2.2.2.2.2.2)) args s 0 0 A) D A 6 0 0 74 [(0, .ref h_t), (1, .int v1), (2, .int v2), (3, .int v3), (4, .int t.1)] [] (W_X11_two k h_t h_t_dues h_t_w h_t_firsts h_t_sizes h_t_worths h_t_pairs h_t_tape h_t_readWorths h_t_sums h_t_worthOf h_t_lies h_t_row h_t_hands h_t_paidOn h_t_lates h_t_fixed h_t_lanes h_t_longs h_t_items h_t_hand h_t_used s_isKept s_taped s_pieces s_at s_readMany s_readKind s_readCut s_rowSet s_bestSet s_dues s_w s_firsts s_sizes s_worths t.2))  (h : B_X11_two_137 kx rec s_worths s_pairs v2 v3 v4 x0 = some res) : GG p l e rm_X11_two s m args below meth c (MQ below (cQi D w0 sz res.1 (W_X11_two k h_t h_t_dues h_t_w h_t_firsts h_t_sizes h_t_worths h_t_pairs h_t_tape h_t_readWorths h_t_sums h_t_worthOf h_t_lies h_t_row h_t_hands h_t_paidOn h_t_lates h_t_fixed h_t_lanes h_t_longs h_t_items h_t_hand h_t_used s_isKept s_taped res.2.1 s_at s_readMany s_readKind s_readCut s_rowSet s_bestSet res.2.2.1 s_w res.2.2.2.1 res.2.2.2.2.1 res.2.2.2.2.2.1 res.2.2.2.2.2.2)) args s 0 0 A) D A 6 0 0 137 [(0, .ref h_t), (1, .int v1), (2, .int v2), (3, .int v3), (4, .int v4)] [.int x0] (W_X11_two k h_t h_t_dues h_t_w h_t_firsts h_t_sizes h_t_worths h_t_pairs h_t_tape h_t_readWorths h_t_sums h_t_worthOf h_t_lies h_t_row h_t_hands h_t_paidOn h_t_lates h_t_fixed h_t_lanes h_t_longs h_t_items h_t_hand h_t_used s_isKept s_taped s_pieces s_at s_readMany s_readKind s_readCut s_rowSet s_bestSet s_dues s_w s_firsts s_sizes s_worths s_pairs) := by
  unfold B_X11_two_137 at h
  refine g_istore 137 C [(5, .int x0), (0, .ref h_t), (1, .int v1), (2, .int v2), (3, .int v3), (4, .int v4)] dX11_two_137 (by decide) rfl ?_
  refine g_iload 139 C 0 dX11_two_139 rfl ?_
  refine g_if_ne 141 178 C dX11_two_141 (by decide) (fun c => ?_) (fun c => ?_)
  · replace h := if_e c h
    refine GG.sub (lv' := [(0, .ref h_t), (1, .int v1), (2, .int v2), (3, .int v3), (4, .int v4)]) [1, 2, 3, 4, 5] rfl ?_
    exact ok_B_X11_two_178 C hA hx hr h
  · replace h := it_e c h
    refine g_iload 144 C 5 dX11_two_144 rfl ?_
    refine g_aload_n 146 C 1 dX11_two_146 rfl rfl ?_
    refine g_get 147 C in_X11_two_X11 0 6 rfl rfl (by decide) fl_X11_two_22 rfl rfl dX11_two_147 ?_
    refine g_iload_n 150 C 3 dX11_two_150 rfl rfl ?_
    obtain ⟨o10, h⟩ := ob_e h
    refine g_iald 151 C 5 rfl o10 dX11_two_151 ?_
    refine g_icmp_lt 152 182 C dX11_two_152 (by decide) (fun c => ?_) (fun c => ?_)
    · replace h := it_e c h
      refine GG.sub (lv' := [(0, .ref h_t), (1, .int v1), (2, .int v2), (3, .int v3), (4, .int v4)]) [1, 2, 3, 4, 5] rfl ?_
      exact ok_B_X11_two_182 C hA hx hr h
    · replace h := if_e c h
      refine g_aload_n 155 C 1 dX11_two_155 rfl rfl ?_
      refine g_get 156 C in_X11_two_X11 0 17 rfl rfl (by decide) fl_X11_two_43 rfl rfl dX11_two_156 ?_
      refine g_sipush 159 C (217 : Int32) dX11_two_159 (by decide) ?_
      refine g_iload_n 162 C 4 dX11_two_162 rfl rfl ?_
      refine g_imul 163 C dX11_two_163 ?_
      refine g_iload 164 C 5 dX11_two_164 rfl ?_
      refine g_iadd 166 C dX11_two_166 ?_
      refine g_aload_n 167 C 1 dX11_two_167 rfl rfl ?_
      refine g_get 168 C in_X11_two_X11 0 6 rfl rfl (by decide) fl_X11_two_22 rfl rfl dX11_two_168 ?_
      refine g_iload_n 171 C 3 dX11_two_171 rfl rfl ?_
      obtain ⟨o11, h⟩ := ob_e h
      refine g_iald 172 C 5 rfl o11 dX11_two_172 ?_
      refine g_isub 173 C dX11_two_173 ?_
      obtain ⟨o12, h⟩ := ob_e h
      refine g_zald 174 C 6 rfl o12 dX11_two_174 ?_
      refine g_if_eq 175 182 C dX11_two_175 (by decide) (fun c => ?_) (fun c => ?_)
      · replace h := it_e c h
        refine GG.sub (lv' := [(0, .ref h_t), (1, .int v1), (2, .int v2), (3, .int v3), (4, .int v4)]) [1, 2, 3, 4, 5] rfl ?_
        exact ok_B_X11_two_182 C hA hx hr h
      · replace h := if_e c h
        refine GG.sub (lv' := [(0, .ref h_t), (1, .int v1), (2, .int v2), (3, .int v3), (4, .int v4)]) [1, 2, 3, 4, 5] rfl ?_
        exact ok_B_X11_two_178 C hA hx hr h
set_option maxHeartbeats 4000000 in
set_option maxRecDepth 100000 in
theorem ok_B_X11_two_132 {h_t : Nat} {h_t_dues : Nat} {h_t_w : Nat} {h_t_firsts : Nat} {h_t_sizes : Nat} {h_t_worths : Nat} {h_t_pairs : Nat} {h_t_tape : Nat} {h_t_readWorths : Nat} {h_t_sums : Nat} {h_t_worthOf : Nat} {h_t_lies : Nat} {h_t_row : Nat} {h_t_hands : Nat} {h_t_paidOn : Nat} {h_t_lates : Nat} {h_t_fixed : Nat} {h_t_lanes : Nat} {h_t_longs : Nat} {h_t_items : Nat} {h_t_hand : Nat} {h_t_used : Nat} {s_isKept : Int32} {s_taped : Int32} {s_pieces : Int32} {s_at : Int32} {s_readMany : Int32} {s_readKind : Int32} {s_readCut : Int32} {s_rowSet : Int32} {s_bestSet : Int32} {s_dues : Nat → Int32} {s_w : Nat → Int32} {s_firsts : Nat → Int32} {s_sizes : Nat → Int32} {s_worths : Nat → Int32} {s_pairs : Nat → Int32} {v1 : Int32} {v2 : Int32} {v3 : Int32} {v4 : Int32} {res : Int32 × Int32 × (Nat → Int32) × (Nat → Int32) × (Nat → Int32) × (Nat → Int32) × (Nat → Int32)} {kx rec : Int32 × (Nat → Int32) → Option (Int32 × Int32 × (Nat → Int32) × (Nat → Int32) × (Nat → Int32) × (Nat → Int32) × (Nat → Int32))} (C : CX p s m args meth c cX11_two wsX11_two RX11 6 D k A (some .int)) (hA : A = va_A w0 sz) (hx : ∀ t : Int32 × (Nat → Int32), kx t = some res → GG p l e rm_X11_two s m args below meth c (MQ below (cQi D w0 sz res.1 (W_X11_two k h_t h_t_dues h_t_w h_t_firsts h_t_sizes h_t_worths h_t_pairs h_t_tape h_t_readWorths h_t_sums h_t_worthOf h_t_lies h_t_row h_t_hands h_t_paidOn h_t_lates h_t_fixed h_t_lanes h_t_longs h_t_items h_t_hand h_t_used s_isKept s_taped res.2.1 s_at s_readMany s_readKind s_readCut s_rowSet s_bestSet res.2.2.1 s_w res.2.2.2.1 res.2.2.2.2.1 res.2.2.2.2.2.1 res.2.2.2.2.2.2)) args s 0 0 A) D A 6 0 0 206 [(0, .ref h_t), (1, .int v1), (2, .int v2), (3, .int v3)] [] (W_X11_two k h_t h_t_dues h_t_w h_t_firsts h_t_sizes h_t_worths h_t_pairs h_t_tape h_t_readWorths h_t_sums h_t_worthOf h_t_lies h_t_row h_t_hands h_t_paidOn h_t_lates h_t_fixed h_t_lanes h_t_longs h_t_items h_t_hand h_t_used s_isKept s_taped s_pieces s_at s_readMany s_readKind s_readCut s_rowSet s_bestSet s_dues s_w s_firsts s_sizes s_worths t.2)) (hr : ∀ t : Int32 × (Nat → Int32), rec t = some res → GG p l e rm_X11_two s m args below meth c (MQ below (cQi D w0 sz res.1 (W_X11_two k h_t h_t_dues h_t_w h_t_firsts h_t_sizes h_t_worths h_t_pairs h_t_tape h_t_readWorths h_t_sums h_t_worthOf h_t_lies h_t_row h_t_hands h_t_paidOn h_t_lates h_t_fixed h_t_lanes h_t_longs h_t_items h_t_hand h_t_used s_isKept s_taped res.2.1 s_at s_readMany s_readKind s_readCut s_rowSet s_bestSet res.2.2.1 s_w res.2.2.2.1 res.2.2.2.2.1 res.2.2.2.2.2.1 res.2.2.2.2.2.2)) args s 0 0 A) D A 6 0 0 74 [(0, .ref h_t), (1, .int v1), (2, .int v2), (3, .int v3), (4, .int t.1)] [] (W_X11_two k h_t h_t_dues h_t_w h_t_firsts h_t_sizes h_t_worths h_t_pairs h_t_tape h_t_readWorths h_t_sums h_t_worthOf h_t_lies h_t_row h_t_hands h_t_paidOn h_t_lates h_t_fixed h_t_lanes h_t_longs h_t_items h_t_hand h_t_used s_isKept s_taped s_pieces s_at s_readMany s_readKind s_readCut s_rowSet s_bestSet s_dues s_w s_firsts s_sizes s_worths t.2))  (h : B_X11_two_132 kx rec s_worths s_pairs v2 v3 v4 = some res) : GG p l e rm_X11_two s m args below meth c (MQ below (cQi D w0 sz res.1 (W_X11_two k h_t h_t_dues h_t_w h_t_firsts h_t_sizes h_t_worths h_t_pairs h_t_tape h_t_readWorths h_t_sums h_t_worthOf h_t_lies h_t_row h_t_hands h_t_paidOn h_t_lates h_t_fixed h_t_lanes h_t_longs h_t_items h_t_hand h_t_used s_isKept s_taped res.2.1 s_at s_readMany s_readKind s_readCut s_rowSet s_bestSet res.2.2.1 s_w res.2.2.2.1 res.2.2.2.2.1 res.2.2.2.2.2.1 res.2.2.2.2.2.2)) args s 0 0 A) D A 6 0 0 132 [(0, .ref h_t), (1, .int v1), (2, .int v2), (3, .int v3), (4, .int v4)] [] (W_X11_two k h_t h_t_dues h_t_w h_t_firsts h_t_sizes h_t_worths h_t_pairs h_t_tape h_t_readWorths h_t_sums h_t_worthOf h_t_lies h_t_row h_t_hands h_t_paidOn h_t_lates h_t_fixed h_t_lanes h_t_longs h_t_items h_t_hand h_t_used s_isKept s_taped s_pieces s_at s_readMany s_readKind s_readCut s_rowSet s_bestSet s_dues s_w s_firsts s_sizes s_worths s_pairs) := by
  unfold B_X11_two_132 at h
  refine g_iconst 132 C (1 : Int32) dX11_two_132 (by decide) ?_
  refine g_goto 133 137 C dX11_two_133 (by decide) ?_
  refine GG.sub (lv' := [(0, .ref h_t), (1, .int v1), (2, .int v2), (3, .int v3), (4, .int v4)]) [0, 1, 2, 3, 4] rfl ?_
  exact ok_B_X11_two_137 C hA hx hr h
set_option maxHeartbeats 4000000 in
set_option maxRecDepth 100000 in
theorem ok_B_X11_two_136 {h_t : Nat} {h_t_dues : Nat} {h_t_w : Nat} {h_t_firsts : Nat} {h_t_sizes : Nat} {h_t_worths : Nat} {h_t_pairs : Nat} {h_t_tape : Nat} {h_t_readWorths : Nat} {h_t_sums : Nat} {h_t_worthOf : Nat} {h_t_lies : Nat} {h_t_row : Nat} {h_t_hands : Nat} {h_t_paidOn : Nat} {h_t_lates : Nat} {h_t_fixed : Nat} {h_t_lanes : Nat} {h_t_longs : Nat} {h_t_items : Nat} {h_t_hand : Nat} {h_t_used : Nat} {s_isKept : Int32} {s_taped : Int32} {s_pieces : Int32} {s_at : Int32} {s_readMany : Int32} {s_readKind : Int32} {s_readCut : Int32} {s_rowSet : Int32} {s_bestSet : Int32} {s_dues : Nat → Int32} {s_w : Nat → Int32} {s_firsts : Nat → Int32} {s_sizes : Nat → Int32} {s_worths : Nat → Int32} {s_pairs : Nat → Int32} {v1 : Int32} {v2 : Int32} {v3 : Int32} {v4 : Int32} {res : Int32 × Int32 × (Nat → Int32) × (Nat → Int32) × (Nat → Int32) × (Nat → Int32) × (Nat → Int32)} {kx rec : Int32 × (Nat → Int32) → Option (Int32 × Int32 × (Nat → Int32) × (Nat → Int32) × (Nat → Int32) × (Nat → Int32) × (Nat → Int32))} (C : CX p s m args meth c cX11_two wsX11_two RX11 6 D k A (some .int)) (hA : A = va_A w0 sz) (hx : ∀ t : Int32 × (Nat → Int32), kx t = some res → GG p l e rm_X11_two s m args below meth c (MQ below (cQi D w0 sz res.1 (W_X11_two k h_t h_t_dues h_t_w h_t_firsts h_t_sizes h_t_worths h_t_pairs h_t_tape h_t_readWorths h_t_sums h_t_worthOf h_t_lies h_t_row h_t_hands h_t_paidOn h_t_lates h_t_fixed h_t_lanes h_t_longs h_t_items h_t_hand h_t_used s_isKept s_taped res.2.1 s_at s_readMany s_readKind s_readCut s_rowSet s_bestSet res.2.2.1 s_w res.2.2.2.1 res.2.2.2.2.1 res.2.2.2.2.2.1 res.2.2.2.2.2.2)) args s 0 0 A) D A 6 0 0 206 [(0, .ref h_t), (1, .int v1), (2, .int v2), (3, .int v3)] [] (W_X11_two k h_t h_t_dues h_t_w h_t_firsts h_t_sizes h_t_worths h_t_pairs h_t_tape h_t_readWorths h_t_sums h_t_worthOf h_t_lies h_t_row h_t_hands h_t_paidOn h_t_lates h_t_fixed h_t_lanes h_t_longs h_t_items h_t_hand h_t_used s_isKept s_taped s_pieces s_at s_readMany s_readKind s_readCut s_rowSet s_bestSet s_dues s_w s_firsts s_sizes s_worths t.2)) (hr : ∀ t : Int32 × (Nat → Int32), rec t = some res → GG p l e rm_X11_two s m args below meth c (MQ below (cQi D w0 sz res.1 (W_X11_two k h_t h_t_dues h_t_w h_t_firsts h_t_sizes h_t_worths h_t_pairs h_t_tape h_t_readWorths h_t_sums h_t_worthOf h_t_lies h_t_row h_t_hands h_t_paidOn h_t_lates h_t_fixed h_t_lanes h_t_longs h_t_items h_t_hand h_t_used s_isKept s_taped res.2.1 s_at s_readMany s_readKind s_readCut s_rowSet s_bestSet res.2.2.1 s_w res.2.2.2.1 res.2.2.2.2.1 res.2.2.2.2.2.1 res.2.2.2.2.2.2)) args s 0 0 A) D A 6 0 0 74 [(0, .ref h_t), (1, .int v1), (2, .int v2), (3, .int v3), (4, .int t.1)] [] (W_X11_two k h_t h_t_dues h_t_w h_t_firsts h_t_sizes h_t_worths h_t_pairs h_t_tape h_t_readWorths h_t_sums h_t_worthOf h_t_lies h_t_row h_t_hands h_t_paidOn h_t_lates h_t_fixed h_t_lanes h_t_longs h_t_items h_t_hand h_t_used s_isKept s_taped s_pieces s_at s_readMany s_readKind s_readCut s_rowSet s_bestSet s_dues s_w s_firsts s_sizes s_worths t.2))  (h : B_X11_two_136 kx rec s_worths s_pairs v2 v3 v4 = some res) : GG p l e rm_X11_two s m args below meth c (MQ below (cQi D w0 sz res.1 (W_X11_two k h_t h_t_dues h_t_w h_t_firsts h_t_sizes h_t_worths h_t_pairs h_t_tape h_t_readWorths h_t_sums h_t_worthOf h_t_lies h_t_row h_t_hands h_t_paidOn h_t_lates h_t_fixed h_t_lanes h_t_longs h_t_items h_t_hand h_t_used s_isKept s_taped res.2.1 s_at s_readMany s_readKind s_readCut s_rowSet s_bestSet res.2.2.1 s_w res.2.2.2.1 res.2.2.2.2.1 res.2.2.2.2.2.1 res.2.2.2.2.2.2)) args s 0 0 A) D A 6 0 0 136 [(0, .ref h_t), (1, .int v1), (2, .int v2), (3, .int v3), (4, .int v4)] [] (W_X11_two k h_t h_t_dues h_t_w h_t_firsts h_t_sizes h_t_worths h_t_pairs h_t_tape h_t_readWorths h_t_sums h_t_worthOf h_t_lies h_t_row h_t_hands h_t_paidOn h_t_lates h_t_fixed h_t_lanes h_t_longs h_t_items h_t_hand h_t_used s_isKept s_taped s_pieces s_at s_readMany s_readKind s_readCut s_rowSet s_bestSet s_dues s_w s_firsts s_sizes s_worths s_pairs) := by
  unfold B_X11_two_136 at h
  refine g_iconst 136 C (0 : Int32) dX11_two_136 (by decide) ?_
  refine GG.sub (lv' := [(0, .ref h_t), (1, .int v1), (2, .int v2), (3, .int v3), (4, .int v4)]) [0, 1, 2, 3, 4] rfl ?_
  exact ok_B_X11_two_137 C hA hx hr h
set_option maxHeartbeats 4000000 in
set_option maxRecDepth 100000 in
theorem ok_L_X11_two_74 {h_t : Nat} {h_t_dues : Nat} {h_t_w : Nat} {h_t_firsts : Nat} {h_t_sizes : Nat} {h_t_worths : Nat} {h_t_pairs : Nat} {h_t_tape : Nat} {h_t_readWorths : Nat} {h_t_sums : Nat} {h_t_worthOf : Nat} {h_t_lies : Nat} {h_t_row : Nat} {h_t_hands : Nat} {h_t_paidOn : Nat} {h_t_lates : Nat} {h_t_fixed : Nat} {h_t_lanes : Nat} {h_t_longs : Nat} {h_t_items : Nat} {h_t_hand : Nat} {h_t_used : Nat} {s_isKept : Int32} {s_taped : Int32} {s_pieces : Int32} {s_at : Int32} {s_readMany : Int32} {s_readKind : Int32} {s_readCut : Int32} {s_rowSet : Int32} {s_bestSet : Int32} {s_dues : Nat → Int32} {s_w : Nat → Int32} {s_firsts : Nat → Int32} {s_sizes : Nat → Int32} {s_worths : Nat → Int32} {v1 : Int32} {v2 : Int32} {v3 : Int32} {res : Int32 × Int32 × (Nat → Int32) × (Nat → Int32) × (Nat → Int32) × (Nat → Int32) × (Nat → Int32)} (C : CX p s m args meth c cX11_two wsX11_two RX11 6 D k A (some .int)) (hA : A = va_A w0 sz) {kx : Int32 × (Nat → Int32) → Option (Int32 × Int32 × (Nat → Int32) × (Nat → Int32) × (Nat → Int32) × (Nat → Int32) × (Nat → Int32))} (hx : ∀ t : Int32 × (Nat → Int32), kx t = some res → GG p l e rm_X11_two s m args below meth c (MQ below (cQi D w0 sz res.1 (W_X11_two k h_t h_t_dues h_t_w h_t_firsts h_t_sizes h_t_worths h_t_pairs h_t_tape h_t_readWorths h_t_sums h_t_worthOf h_t_lies h_t_row h_t_hands h_t_paidOn h_t_lates h_t_fixed h_t_lanes h_t_longs h_t_items h_t_hand h_t_used s_isKept s_taped res.2.1 s_at s_readMany s_readKind s_readCut s_rowSet s_bestSet res.2.2.1 s_w res.2.2.2.1 res.2.2.2.2.1 res.2.2.2.2.2.1 res.2.2.2.2.2.2)) args s 0 0 A) D A 6 0 0 206 [(0, .ref h_t), (1, .int v1), (2, .int v2), (3, .int v3)] [] (W_X11_two k h_t h_t_dues h_t_w h_t_firsts h_t_sizes h_t_worths h_t_pairs h_t_tape h_t_readWorths h_t_sums h_t_worthOf h_t_lies h_t_row h_t_hands h_t_paidOn h_t_lates h_t_fixed h_t_lanes h_t_longs h_t_items h_t_hand h_t_used s_isKept s_taped s_pieces s_at s_readMany s_readKind s_readCut s_rowSet s_bestSet s_dues s_w s_firsts s_sizes s_worths t.2)) : ∀ (n : Nat) (t : Int32 × (Nat → Int32)), L_X11_two_74 s_worths v2 v3 kx n t = some res → GG p l e rm_X11_two s m args below meth c (MQ below (cQi D w0 sz res.1 (W_X11_two k h_t h_t_dues h_t_w h_t_firsts h_t_sizes h_t_worths h_t_pairs h_t_tape h_t_readWorths h_t_sums h_t_worthOf h_t_lies h_t_row h_t_hands h_t_paidOn h_t_lates h_t_fixed h_t_lanes h_t_longs h_t_items h_t_hand h_t_used s_isKept s_taped res.2.1 s_at s_readMany s_readKind s_readCut s_rowSet s_bestSet res.2.2.1 s_w res.2.2.2.1 res.2.2.2.2.1 res.2.2.2.2.2.1 res.2.2.2.2.2.2)) args s 0 0 A) D A 6 0 0 74 [(0, .ref h_t), (1, .int v1), (2, .int v2), (3, .int v3), (4, .int t.1)] [] (W_X11_two k h_t h_t_dues h_t_w h_t_firsts h_t_sizes h_t_worths h_t_pairs h_t_tape h_t_readWorths h_t_sums h_t_worthOf h_t_lies h_t_row h_t_hands h_t_paidOn h_t_lates h_t_fixed h_t_lanes h_t_longs h_t_items h_t_hand h_t_used s_isKept s_taped s_pieces s_at s_readMany s_readKind s_readCut s_rowSet s_bestSet s_dues s_w s_firsts s_sizes s_worths t.2) := by
  intro n
  induction n with
  | zero => intro t h; cases h
  | succ n ih =>
    intro t h
    obtain ⟨v4, s_pairs⟩ := t
    replace h : LB_X11_two_74 s_worths v2 v3 kx (L_X11_two_74 s_worths v2 v3 kx n) v4 s_pairs = some res := h
    have hr := ih
    unfold LB_X11_two_74 at h
    refine g_iload 74 C 4 dX11_two_74 rfl ?_
    refine g_if_lt 76 206 C dX11_two_76 (by decide) (fun c => ?_) (fun c => ?_)
    · replace h := it_e c h
      refine GG.sub (lv' := [(0, .ref h_t), (1, .int v1), (2, .int v2), (3, .int v3)]) [0, 1, 2, 3] rfl ?_
      exact hx (v4, s_pairs) h
    · replace h := if_e c h
      refine g_aload_n 79 C 0 dX11_two_79 rfl rfl ?_
      refine g_get 80 C in_X11_two_X11 0 17 rfl rfl (by decide) fl_X11_two_43 rfl rfl dX11_two_80 ?_
      refine g_sipush 83 C (217 : Int32) dX11_two_83 (by decide) ?_
      refine g_iload_n 86 C 3 dX11_two_86 rfl rfl ?_
      refine g_imul 87 C dX11_two_87 ?_
      refine g_iload 88 C 4 dX11_two_88 rfl ?_
      refine g_iadd 90 C dX11_two_90 ?_
      obtain ⟨o8, h⟩ := ob_e h
      refine g_zald 91 C 6 rfl o8 dX11_two_91 ?_
      refine g_istore 92 C [(5, .int (s_pairs (((217 : Int32) * v3) + v4).toNatClampNeg)), (0, .ref h_t), (1, .int v1), (2, .int v2), (3, .int v3), (4, .int v4)] dX11_two_92 (by decide) rfl ?_
      refine g_iload 94 C 0 dX11_two_94 rfl ?_
      refine g_if_ne 96 132 C dX11_two_96 (by decide) (fun c => ?_) (fun c => ?_)
      · replace h := if_e c h
        refine GG.sub (lv' := [(0, .ref h_t), (1, .int v1), (2, .int v2), (3, .int v3), (4, .int v4)]) [1, 2, 3, 4, 5] rfl ?_
        exact ok_B_X11_two_132 C hA hx hr h
      · replace h := it_e c h
        refine g_iload_n 99 C 4 dX11_two_99 rfl rfl ?_
        refine g_aload_n 100 C 1 dX11_two_100 rfl rfl ?_
        refine g_get 101 C in_X11_two_X11 0 6 rfl rfl (by decide) fl_X11_two_22 rfl rfl dX11_two_101 ?_
        refine g_iload_n 104 C 3 dX11_two_104 rfl rfl ?_
        obtain ⟨o13, h⟩ := ob_e h
        refine g_iald 105 C 5 rfl o13 dX11_two_105 ?_
        refine g_icmp_lt 106 136 C dX11_two_106 (by decide) (fun c => ?_) (fun c => ?_)
        · replace h := it_e c h
          refine GG.sub (lv' := [(0, .ref h_t), (1, .int v1), (2, .int v2), (3, .int v3), (4, .int v4)]) [1, 2, 3, 4, 5] rfl ?_
          exact ok_B_X11_two_136 C hA hx hr h
        · replace h := if_e c h
          refine g_aload_n 109 C 1 dX11_two_109 rfl rfl ?_
          refine g_get 110 C in_X11_two_X11 0 17 rfl rfl (by decide) fl_X11_two_43 rfl rfl dX11_two_110 ?_
          refine g_sipush 113 C (217 : Int32) dX11_two_113 (by decide) ?_
          refine g_iload_n 116 C 4 dX11_two_116 rfl rfl ?_
          refine g_aload_n 117 C 1 dX11_two_117 rfl rfl ?_
          refine g_get 118 C in_X11_two_X11 0 6 rfl rfl (by decide) fl_X11_two_22 rfl rfl dX11_two_118 ?_
          refine g_iload_n 121 C 3 dX11_two_121 rfl rfl ?_
          obtain ⟨o14, h⟩ := ob_e h
          refine g_iald 122 C 5 rfl o14 dX11_two_122 ?_
          refine g_isub 123 C dX11_two_123 ?_
          refine g_imul 124 C dX11_two_124 ?_
          refine g_iload 125 C 5 dX11_two_125 rfl ?_
          refine g_iadd 127 C dX11_two_127 ?_
          obtain ⟨o15, h⟩ := ob_e h
          refine g_zald 128 C 6 rfl o15 dX11_two_128 ?_
          refine g_if_eq 129 136 C dX11_two_129 (by decide) (fun c => ?_) (fun c => ?_)
          · replace h := it_e c h
            refine GG.sub (lv' := [(0, .ref h_t), (1, .int v1), (2, .int v2), (3, .int v3), (4, .int v4)]) [1, 2, 3, 4, 5] rfl ?_
            exact ok_B_X11_two_136 C hA hx hr h
          · replace h := if_e c h
            refine GG.sub (lv' := [(0, .ref h_t), (1, .int v1), (2, .int v2), (3, .int v3), (4, .int v4)]) [1, 2, 3, 4, 5] rfl ?_
            exact ok_B_X11_two_132 C hA hx hr h
set_option maxHeartbeats 4000000 in
set_option maxRecDepth 100000 in
theorem ok_B_X11_two_206 {h_t : Nat} {h_t_dues : Nat} {h_t_w : Nat} {h_t_firsts : Nat} {h_t_sizes : Nat} {h_t_worths : Nat} {h_t_pairs : Nat} {h_t_tape : Nat} {h_t_readWorths : Nat} {h_t_sums : Nat} {h_t_worthOf : Nat} {h_t_lies : Nat} {h_t_row : Nat} {h_t_hands : Nat} {h_t_paidOn : Nat} {h_t_lates : Nat} {h_t_fixed : Nat} {h_t_lanes : Nat} {h_t_longs : Nat} {h_t_items : Nat} {h_t_hand : Nat} {h_t_used : Nat} {s_isKept : Int32} {s_taped : Int32} {s_pieces : Int32} {s_at : Int32} {s_readMany : Int32} {s_readKind : Int32} {s_readCut : Int32} {s_rowSet : Int32} {s_bestSet : Int32} {s_dues : Nat → Int32} {s_w : Nat → Int32} {s_firsts : Nat → Int32} {s_sizes : Nat → Int32} {s_worths : Nat → Int32} {s_pairs : Nat → Int32} {v1 : Int32} {v2 : Int32} {v3 : Int32} {res : Int32 × Int32 × (Nat → Int32) × (Nat → Int32) × (Nat → Int32) × (Nat → Int32) × (Nat → Int32)} {kx rec : Int32 × (Nat → Int32) → Option (Int32 × Int32 × (Nat → Int32) × (Nat → Int32) × (Nat → Int32) × (Nat → Int32) × (Nat → Int32))} (C : CX p s m args meth c cX11_two wsX11_two RX11 6 D k A (some .int)) (hA : A = va_A w0 sz) (hx : ∀ t : Int32 × (Nat → Int32), kx t = some res → GG p l e rm_X11_two s m args below meth c (MQ below (cQi D w0 sz res.1 (W_X11_two k h_t h_t_dues h_t_w h_t_firsts h_t_sizes h_t_worths h_t_pairs h_t_tape h_t_readWorths h_t_sums h_t_worthOf h_t_lies h_t_row h_t_hands h_t_paidOn h_t_lates h_t_fixed h_t_lanes h_t_longs h_t_items h_t_hand h_t_used s_isKept s_taped res.2.1 s_at s_readMany s_readKind s_readCut s_rowSet s_bestSet res.2.2.1 s_w res.2.2.2.1 res.2.2.2.2.1 res.2.2.2.2.2.1 res.2.2.2.2.2.2)) args s 0 0 A) D A 6 0 0 212 [(0, .ref h_t), (1, .int v1), (2, .int v2)] [] (W_X11_two k h_t h_t_dues h_t_w h_t_firsts h_t_sizes h_t_worths h_t_pairs h_t_tape h_t_readWorths h_t_sums h_t_worthOf h_t_lies h_t_row h_t_hands h_t_paidOn h_t_lates h_t_fixed h_t_lanes h_t_longs h_t_items h_t_hand h_t_used s_isKept s_taped s_pieces s_at s_readMany s_readKind s_readCut s_rowSet s_bestSet s_dues s_w s_firsts s_sizes s_worths t.2)) (hr : ∀ t : Int32 × (Nat → Int32), rec t = some res → GG p l e rm_X11_two s m args below meth c (MQ below (cQi D w0 sz res.1 (W_X11_two k h_t h_t_dues h_t_w h_t_firsts h_t_sizes h_t_worths h_t_pairs h_t_tape h_t_readWorths h_t_sums h_t_worthOf h_t_lies h_t_row h_t_hands h_t_paidOn h_t_lates h_t_fixed h_t_lanes h_t_longs h_t_items h_t_hand h_t_used s_isKept s_taped res.2.1 s_at s_readMany s_readKind s_readCut s_rowSet s_bestSet res.2.2.1 s_w res.2.2.2.1 res.2.2.2.2.1 res.2.2.2.2.2.1 res.2.2.2.2.2.2)) args s 0 0 A) D A 6 0 0 65 [(0, .ref h_t), (1, .int v1), (2, .int v2), (3, .int t.1)] [] (W_X11_two k h_t h_t_dues h_t_w h_t_firsts h_t_sizes h_t_worths h_t_pairs h_t_tape h_t_readWorths h_t_sums h_t_worthOf h_t_lies h_t_row h_t_hands h_t_paidOn h_t_lates h_t_fixed h_t_lanes h_t_longs h_t_items h_t_hand h_t_used s_isKept s_taped s_pieces s_at s_readMany s_readKind s_readCut s_rowSet s_bestSet s_dues s_w s_firsts s_sizes s_worths t.2))  (h : B_X11_two_206 kx rec s_pairs v3 = some res) : GG p l e rm_X11_two s m args below meth c (MQ below (cQi D w0 sz res.1 (W_X11_two k h_t h_t_dues h_t_w h_t_firsts h_t_sizes h_t_worths h_t_pairs h_t_tape h_t_readWorths h_t_sums h_t_worthOf h_t_lies h_t_row h_t_hands h_t_paidOn h_t_lates h_t_fixed h_t_lanes h_t_longs h_t_items h_t_hand h_t_used s_isKept s_taped res.2.1 s_at s_readMany s_readKind s_readCut s_rowSet s_bestSet res.2.2.1 s_w res.2.2.2.1 res.2.2.2.2.1 res.2.2.2.2.2.1 res.2.2.2.2.2.2)) args s 0 0 A) D A 6 0 0 206 [(0, .ref h_t), (1, .int v1), (2, .int v2), (3, .int v3)] [] (W_X11_two k h_t h_t_dues h_t_w h_t_firsts h_t_sizes h_t_worths h_t_pairs h_t_tape h_t_readWorths h_t_sums h_t_worthOf h_t_lies h_t_row h_t_hands h_t_paidOn h_t_lates h_t_fixed h_t_lanes h_t_longs h_t_items h_t_hand h_t_used s_isKept s_taped s_pieces s_at s_readMany s_readKind s_readCut s_rowSet s_bestSet s_dues s_w s_firsts s_sizes s_worths s_pairs) := by
  unfold B_X11_two_206 at h
  refine g_iinc 206 C 3 (-1 : Int32) [(3, .int (v3 + (-1 : Int32))), (0, .ref h_t), (1, .int v1), (2, .int v2)] dX11_two_206 rfl (by decide) (by decide) rfl ?_
  refine g_goto 209 65 C dX11_two_209 (by decide) ?_
  refine GG.sub (lv' := [(0, .ref h_t), (1, .int v1), (2, .int v2), (3, .int (v3 + (-1 : Int32)))]) [1, 2, 3, 0] rfl ?_
  exact hr ((v3 + (-1 : Int32)), s_pairs) h
set_option maxHeartbeats 4000000 in
set_option maxRecDepth 100000 in
theorem ok_L_X11_two_65 {h_t : Nat} {h_t_dues : Nat} {h_t_w : Nat} {h_t_firsts : Nat} {h_t_sizes : Nat} {h_t_worths : Nat} {h_t_pairs : Nat} {h_t_tape : Nat} {h_t_readWorths : Nat} {h_t_sums : Nat} {h_t_worthOf : Nat} {h_t_lies : Nat} {h_t_row : Nat} {h_t_hands : Nat} {h_t_paidOn : Nat} {h_t_lates : Nat} {h_t_fixed : Nat} {h_t_lanes : Nat} {h_t_longs : Nat} {h_t_items : Nat} {h_t_hand : Nat} {h_t_used : Nat} {s_isKept : Int32} {s_taped : Int32} {s_pieces : Int32} {s_at : Int32} {s_readMany : Int32} {s_readKind : Int32} {s_readCut : Int32} {s_rowSet : Int32} {s_bestSet : Int32} {s_dues : Nat → Int32} {s_w : Nat → Int32} {s_firsts : Nat → Int32} {s_sizes : Nat → Int32} {s_worths : Nat → Int32} {v1 : Int32} {v2 : Int32} {res : Int32 × Int32 × (Nat → Int32) × (Nat → Int32) × (Nat → Int32) × (Nat → Int32) × (Nat → Int32)} (C : CX p s m args meth c cX11_two wsX11_two RX11 6 D k A (some .int)) (hA : A = va_A w0 sz) {kx : Int32 × (Nat → Int32) → Option (Int32 × Int32 × (Nat → Int32) × (Nat → Int32) × (Nat → Int32) × (Nat → Int32) × (Nat → Int32))} (hx : ∀ t : Int32 × (Nat → Int32), kx t = some res → GG p l e rm_X11_two s m args below meth c (MQ below (cQi D w0 sz res.1 (W_X11_two k h_t h_t_dues h_t_w h_t_firsts h_t_sizes h_t_worths h_t_pairs h_t_tape h_t_readWorths h_t_sums h_t_worthOf h_t_lies h_t_row h_t_hands h_t_paidOn h_t_lates h_t_fixed h_t_lanes h_t_longs h_t_items h_t_hand h_t_used s_isKept s_taped res.2.1 s_at s_readMany s_readKind s_readCut s_rowSet s_bestSet res.2.2.1 s_w res.2.2.2.1 res.2.2.2.2.1 res.2.2.2.2.2.1 res.2.2.2.2.2.2)) args s 0 0 A) D A 6 0 0 212 [(0, .ref h_t), (1, .int v1), (2, .int v2)] [] (W_X11_two k h_t h_t_dues h_t_w h_t_firsts h_t_sizes h_t_worths h_t_pairs h_t_tape h_t_readWorths h_t_sums h_t_worthOf h_t_lies h_t_row h_t_hands h_t_paidOn h_t_lates h_t_fixed h_t_lanes h_t_longs h_t_items h_t_hand h_t_used s_isKept s_taped s_pieces s_at s_readMany s_readKind s_readCut s_rowSet s_bestSet s_dues s_w s_firsts s_sizes s_worths t.2)) : ∀ (n : Nat) (t : Int32 × (Nat → Int32)), L_X11_two_65 s_worths v2 kx n t = some res → GG p l e rm_X11_two s m args below meth c (MQ below (cQi D w0 sz res.1 (W_X11_two k h_t h_t_dues h_t_w h_t_firsts h_t_sizes h_t_worths h_t_pairs h_t_tape h_t_readWorths h_t_sums h_t_worthOf h_t_lies h_t_row h_t_hands h_t_paidOn h_t_lates h_t_fixed h_t_lanes h_t_longs h_t_items h_t_hand h_t_used s_isKept s_taped res.2.1 s_at s_readMany s_readKind s_readCut s_rowSet s_bestSet res.2.2.1 s_w res.2.2.2.1 res.2.2.2.2.1 res.2.2.2.2.2.1 res.2.2.2.2.2.2)) args s 0 0 A) D A 6 0 0 65 [(0, .ref h_t), (1, .int v1), (2, .int v2), (3, .int t.1)] [] (W_X11_two k h_t h_t_dues h_t_w h_t_firsts h_t_sizes h_t_worths h_t_pairs h_t_tape h_t_readWorths h_t_sums h_t_worthOf h_t_lies h_t_row h_t_hands h_t_paidOn h_t_lates h_t_fixed h_t_lanes h_t_longs h_t_items h_t_hand h_t_used s_isKept s_taped s_pieces s_at s_readMany s_readKind s_readCut s_rowSet s_bestSet s_dues s_w s_firsts s_sizes s_worths t.2) := by
  intro n
  induction n with
  | zero => intro t h; cases h
  | succ n ih =>
    intro t h
    obtain ⟨v3, s_pairs⟩ := t
    replace h : LB_X11_two_65 s_worths v2 kx (L_X11_two_65 s_worths v2 kx n) v3 s_pairs = some res := h
    have hr := ih
    unfold LB_X11_two_65 at h
    refine g_iload_n 65 C 3 dX11_two_65 rfl rfl ?_
    refine g_if_lt 66 212 C dX11_two_66 (by decide) (fun c => ?_) (fun c => ?_)
    · replace h := it_e c h
      refine GG.sub (lv' := [(0, .ref h_t), (1, .int v1), (2, .int v2)]) [0, 1, 2] rfl ?_
      exact hx (v3, s_pairs) h
    · replace h := if_e c h
      refine g_sipush 69 C (216 : Int32) dX11_two_69 (by decide) ?_
      refine g_istore 72 C [(4, .int (216 : Int32)), (0, .ref h_t), (1, .int v1), (2, .int v2), (3, .int v3)] dX11_two_72 (by decide) rfl ?_
      refine GG.sub (lv' := [(0, .ref h_t), (1, .int v1), (2, .int v2), (3, .int v3), (4, .int (216 : Int32))]) [1, 2, 3, 4, 0] rfl ?_
      exact ok_L_X11_two_74 C hA (fun t h => by
        refine GG.sub (lv' := [(0, .ref h_t), (1, .int v1), (2, .int v2), (3, .int v3)]) [0, 1, 2, 3] rfl ?_
        exact ok_B_X11_two_206 C hA hx hr h) FUEL ((216 : Int32), s_pairs) h
set_option maxHeartbeats 4000000 in
set_option maxRecDepth 100000 in
theorem ok_B_X11_two_212 {h_t : Nat} {h_t_dues : Nat} {h_t_w : Nat} {h_t_firsts : Nat} {h_t_sizes : Nat} {h_t_worths : Nat} {h_t_pairs : Nat} {h_t_tape : Nat} {h_t_readWorths : Nat} {h_t_sums : Nat} {h_t_worthOf : Nat} {h_t_lies : Nat} {h_t_row : Nat} {h_t_hands : Nat} {h_t_paidOn : Nat} {h_t_lates : Nat} {h_t_fixed : Nat} {h_t_lanes : Nat} {h_t_longs : Nat} {h_t_items : Nat} {h_t_hand : Nat} {h_t_used : Nat} {s_isKept : Int32} {s_taped : Int32} {s_pieces : Int32} {s_at : Int32} {s_readMany : Int32} {s_readKind : Int32} {s_readCut : Int32} {s_rowSet : Int32} {s_bestSet : Int32} {s_dues : Nat → Int32} {s_w : Nat → Int32} {s_firsts : Nat → Int32} {s_sizes : Nat → Int32} {s_worths : Nat → Int32} {s_pairs : Nat → Int32} {v1 : Int32} {v2 : Int32} {res : Int32 × Int32 × (Nat → Int32) × (Nat → Int32) × (Nat → Int32) × (Nat → Int32) × (Nat → Int32)} {kx rec : Int32 × (Nat → Int32) → Option (Int32 × Int32 × (Nat → Int32) × (Nat → Int32) × (Nat → Int32) × (Nat → Int32) × (Nat → Int32))} (C : CX p s m args meth c cX11_two wsX11_two RX11 6 D k A (some .int)) (hA : A = va_A w0 sz) (hx : ∀ t : Int32 × (Nat → Int32), kx t = some res → GG p l e rm_X11_two s m args below meth c (MQ below (cQi D w0 sz res.1 (W_X11_two k h_t h_t_dues h_t_w h_t_firsts h_t_sizes h_t_worths h_t_pairs h_t_tape h_t_readWorths h_t_sums h_t_worthOf h_t_lies h_t_row h_t_hands h_t_paidOn h_t_lates h_t_fixed h_t_lanes h_t_longs h_t_items h_t_hand h_t_used s_isKept s_taped res.2.1 s_at s_readMany s_readKind s_readCut s_rowSet s_bestSet res.2.2.1 s_w res.2.2.2.1 res.2.2.2.2.1 res.2.2.2.2.2.1 res.2.2.2.2.2.2)) args s 0 0 A) D A 6 0 0 218 [(0, .ref h_t), (1, .int v1)] [] (W_X11_two k h_t h_t_dues h_t_w h_t_firsts h_t_sizes h_t_worths h_t_pairs h_t_tape h_t_readWorths h_t_sums h_t_worthOf h_t_lies h_t_row h_t_hands h_t_paidOn h_t_lates h_t_fixed h_t_lanes h_t_longs h_t_items h_t_hand h_t_used s_isKept s_taped s_pieces s_at s_readMany s_readKind s_readCut s_rowSet s_bestSet s_dues s_w s_firsts s_sizes s_worths t.2)) (hr : ∀ t : Int32 × (Nat → Int32), rec t = some res → GG p l e rm_X11_two s m args below meth c (MQ below (cQi D w0 sz res.1 (W_X11_two k h_t h_t_dues h_t_w h_t_firsts h_t_sizes h_t_worths h_t_pairs h_t_tape h_t_readWorths h_t_sums h_t_worthOf h_t_lies h_t_row h_t_hands h_t_paidOn h_t_lates h_t_fixed h_t_lanes h_t_longs h_t_items h_t_hand h_t_used s_isKept s_taped res.2.1 s_at s_readMany s_readKind s_readCut s_rowSet s_bestSet res.2.2.1 s_w res.2.2.2.1 res.2.2.2.2.1 res.2.2.2.2.2.1 res.2.2.2.2.2.2)) args s 0 0 A) D A 6 0 0 53 [(0, .ref h_t), (1, .int v1), (2, .int t.1)] [] (W_X11_two k h_t h_t_dues h_t_w h_t_firsts h_t_sizes h_t_worths h_t_pairs h_t_tape h_t_readWorths h_t_sums h_t_worthOf h_t_lies h_t_row h_t_hands h_t_paidOn h_t_lates h_t_fixed h_t_lanes h_t_longs h_t_items h_t_hand h_t_used s_isKept s_taped s_pieces s_at s_readMany s_readKind s_readCut s_rowSet s_bestSet s_dues s_w s_firsts s_sizes s_worths t.2))  (h : B_X11_two_212 kx rec s_pairs v2 = some res) : GG p l e rm_X11_two s m args below meth c (MQ below (cQi D w0 sz res.1 (W_X11_two k h_t h_t_dues h_t_w h_t_firsts h_t_sizes h_t_worths h_t_pairs h_t_tape h_t_readWorths h_t_sums h_t_worthOf h_t_lies h_t_row h_t_hands h_t_paidOn h_t_lates h_t_fixed h_t_lanes h_t_longs h_t_items h_t_hand h_t_used s_isKept s_taped res.2.1 s_at s_readMany s_readKind s_readCut s_rowSet s_bestSet res.2.2.1 s_w res.2.2.2.1 res.2.2.2.2.1 res.2.2.2.2.2.1 res.2.2.2.2.2.2)) args s 0 0 A) D A 6 0 0 212 [(0, .ref h_t), (1, .int v1), (2, .int v2)] [] (W_X11_two k h_t h_t_dues h_t_w h_t_firsts h_t_sizes h_t_worths h_t_pairs h_t_tape h_t_readWorths h_t_sums h_t_worthOf h_t_lies h_t_row h_t_hands h_t_paidOn h_t_lates h_t_fixed h_t_lanes h_t_longs h_t_items h_t_hand h_t_used s_isKept s_taped s_pieces s_at s_readMany s_readKind s_readCut s_rowSet s_bestSet s_dues s_w s_firsts s_sizes s_worths s_pairs) := by
  unfold B_X11_two_212 at h
  refine g_iinc 212 C 2 (1 : Int32) [(2, .int (v2 + (1 : Int32))), (0, .ref h_t), (1, .int v1)] dX11_two_212 rfl (by decide) (by decide) rfl ?_
  refine g_goto 215 53 C dX11_two_215 (by decide) ?_
  refine GG.sub (lv' := [(0, .ref h_t), (1, .int v1), (2, .int (v2 + (1 : Int32)))]) [1, 2, 0] rfl ?_
  exact hr ((v2 + (1 : Int32)), s_pairs) h
set_option maxHeartbeats 4000000 in
set_option maxRecDepth 100000 in
theorem ok_L_X11_two_53 {h_t : Nat} {h_t_dues : Nat} {h_t_w : Nat} {h_t_firsts : Nat} {h_t_sizes : Nat} {h_t_worths : Nat} {h_t_pairs : Nat} {h_t_tape : Nat} {h_t_readWorths : Nat} {h_t_sums : Nat} {h_t_worthOf : Nat} {h_t_lies : Nat} {h_t_row : Nat} {h_t_hands : Nat} {h_t_paidOn : Nat} {h_t_lates : Nat} {h_t_fixed : Nat} {h_t_lanes : Nat} {h_t_longs : Nat} {h_t_items : Nat} {h_t_hand : Nat} {h_t_used : Nat} {s_isKept : Int32} {s_taped : Int32} {s_pieces : Int32} {s_at : Int32} {s_readMany : Int32} {s_readKind : Int32} {s_readCut : Int32} {s_rowSet : Int32} {s_bestSet : Int32} {s_dues : Nat → Int32} {s_w : Nat → Int32} {s_firsts : Nat → Int32} {s_sizes : Nat → Int32} {s_worths : Nat → Int32} {v1 : Int32} {res : Int32 × Int32 × (Nat → Int32) × (Nat → Int32) × (Nat → Int32) × (Nat → Int32) × (Nat → Int32)} (C : CX p s m args meth c cX11_two wsX11_two RX11 6 D k A (some .int)) (hA : A = va_A w0 sz) {kx : Int32 × (Nat → Int32) → Option (Int32 × Int32 × (Nat → Int32) × (Nat → Int32) × (Nat → Int32) × (Nat → Int32) × (Nat → Int32))} (hx : ∀ t : Int32 × (Nat → Int32), kx t = some res → GG p l e rm_X11_two s m args below meth c (MQ below (cQi D w0 sz res.1 (W_X11_two k h_t h_t_dues h_t_w h_t_firsts h_t_sizes h_t_worths h_t_pairs h_t_tape h_t_readWorths h_t_sums h_t_worthOf h_t_lies h_t_row h_t_hands h_t_paidOn h_t_lates h_t_fixed h_t_lanes h_t_longs h_t_items h_t_hand h_t_used s_isKept s_taped res.2.1 s_at s_readMany s_readKind s_readCut s_rowSet s_bestSet res.2.2.1 s_w res.2.2.2.1 res.2.2.2.2.1 res.2.2.2.2.2.1 res.2.2.2.2.2.2)) args s 0 0 A) D A 6 0 0 218 [(0, .ref h_t), (1, .int v1)] [] (W_X11_two k h_t h_t_dues h_t_w h_t_firsts h_t_sizes h_t_worths h_t_pairs h_t_tape h_t_readWorths h_t_sums h_t_worthOf h_t_lies h_t_row h_t_hands h_t_paidOn h_t_lates h_t_fixed h_t_lanes h_t_longs h_t_items h_t_hand h_t_used s_isKept s_taped s_pieces s_at s_readMany s_readKind s_readCut s_rowSet s_bestSet s_dues s_w s_firsts s_sizes s_worths t.2)) : ∀ (n : Nat) (t : Int32 × (Nat → Int32)), L_X11_two_53 s_pieces s_worths kx n t = some res → GG p l e rm_X11_two s m args below meth c (MQ below (cQi D w0 sz res.1 (W_X11_two k h_t h_t_dues h_t_w h_t_firsts h_t_sizes h_t_worths h_t_pairs h_t_tape h_t_readWorths h_t_sums h_t_worthOf h_t_lies h_t_row h_t_hands h_t_paidOn h_t_lates h_t_fixed h_t_lanes h_t_longs h_t_items h_t_hand h_t_used s_isKept s_taped res.2.1 s_at s_readMany s_readKind s_readCut s_rowSet s_bestSet res.2.2.1 s_w res.2.2.2.1 res.2.2.2.2.1 res.2.2.2.2.2.1 res.2.2.2.2.2.2)) args s 0 0 A) D A 6 0 0 53 [(0, .ref h_t), (1, .int v1), (2, .int t.1)] [] (W_X11_two k h_t h_t_dues h_t_w h_t_firsts h_t_sizes h_t_worths h_t_pairs h_t_tape h_t_readWorths h_t_sums h_t_worthOf h_t_lies h_t_row h_t_hands h_t_paidOn h_t_lates h_t_fixed h_t_lanes h_t_longs h_t_items h_t_hand h_t_used s_isKept s_taped s_pieces s_at s_readMany s_readKind s_readCut s_rowSet s_bestSet s_dues s_w s_firsts s_sizes s_worths t.2) := by
  intro n
  induction n with
  | zero => intro t h; cases h
  | succ n ih =>
    intro t h
    obtain ⟨v2, s_pairs⟩ := t
    replace h : LB_X11_two_53 s_pieces s_worths kx (L_X11_two_53 s_pieces s_worths kx n) v2 s_pairs = some res := h
    have hr := ih
    unfold LB_X11_two_53 at h
    refine g_iload_n 53 C 2 dX11_two_53 rfl rfl ?_
    refine g_aload_n 54 C 0 dX11_two_54 rfl rfl ?_
    refine g_get 55 C in_X11_two_X11 0 7 rfl rfl (by decide) fl_X11_two_85 rfl rfl dX11_two_55 ?_
    refine g_icmp_ge 58 218 C dX11_two_58 (by decide) (fun c => ?_) (fun c => ?_)
    · replace h := it_e c h
      refine GG.sub (lv' := [(0, .ref h_t), (1, .int v1)]) [0, 1] rfl ?_
      exact hx (v2, s_pairs) h
    · replace h := if_e c h
      refine g_sipush 61 C (216 : Int32) dX11_two_61 (by decide) ?_
      refine g_istore_n 64 C [(3, .int (216 : Int32)), (0, .ref h_t), (1, .int v1), (2, .int v2)] dX11_two_64 rfl (by decide) rfl ?_
      refine GG.sub (lv' := [(0, .ref h_t), (1, .int v1), (2, .int v2), (3, .int (216 : Int32))]) [1, 2, 3, 0] rfl ?_
      exact ok_L_X11_two_65 C hA (fun t h => by
        refine GG.sub (lv' := [(0, .ref h_t), (1, .int v1), (2, .int v2)]) [0, 1, 2] rfl ?_
        exact ok_B_X11_two_212 C hA hx hr h) FUEL ((216 : Int32), s_pairs) h
set_option maxHeartbeats 4000000 in
set_option maxRecDepth 100000 in
theorem ok_L_X11_two_220 {h_t : Nat} {h_t_dues : Nat} {h_t_w : Nat} {h_t_firsts : Nat} {h_t_sizes : Nat} {h_t_worths : Nat} {h_t_pairs : Nat} {h_t_tape : Nat} {h_t_readWorths : Nat} {h_t_sums : Nat} {h_t_worthOf : Nat} {h_t_lies : Nat} {h_t_row : Nat} {h_t_hands : Nat} {h_t_paidOn : Nat} {h_t_lates : Nat} {h_t_fixed : Nat} {h_t_lanes : Nat} {h_t_longs : Nat} {h_t_items : Nat} {h_t_hand : Nat} {h_t_used : Nat} {s_isKept : Int32} {s_taped : Int32} {s_pieces : Int32} {s_at : Int32} {s_readMany : Int32} {s_readKind : Int32} {s_readCut : Int32} {s_rowSet : Int32} {s_bestSet : Int32} {s_dues : Nat → Int32} {s_w : Nat → Int32} {s_firsts : Nat → Int32} {s_sizes : Nat → Int32} {s_worths : Nat → Int32} {s_pairs : Nat → Int32} {v1 : Int32} {res : Int32 × Int32 × (Nat → Int32) × (Nat → Int32) × (Nat → Int32) × (Nat → Int32) × (Nat → Int32)} (C : CX p s m args meth c cX11_two wsX11_two RX11 6 D k A (some .int)) (hA : A = va_A w0 sz) {kx : Int32 → Option (Int32 × Int32 × (Nat → Int32) × (Nat → Int32) × (Nat → Int32) × (Nat → Int32) × (Nat → Int32))} (hx : ∀ t : Int32, kx t = some res → GG p l e rm_X11_two s m args below meth c (MQ below (cQi D w0 sz res.1 (W_X11_two k h_t h_t_dues h_t_w h_t_firsts h_t_sizes h_t_worths h_t_pairs h_t_tape h_t_readWorths h_t_sums h_t_worthOf h_t_lies h_t_row h_t_hands h_t_paidOn h_t_lates h_t_fixed h_t_lanes h_t_longs h_t_items h_t_hand h_t_used s_isKept s_taped res.2.1 s_at s_readMany s_readKind s_readCut s_rowSet s_bestSet res.2.2.1 s_w res.2.2.2.1 res.2.2.2.2.1 res.2.2.2.2.2.1 res.2.2.2.2.2.2)) args s 0 0 A) D A 6 0 0 283 [(2, .int t)] [] (W_X11_two k h_t h_t_dues h_t_w h_t_firsts h_t_sizes h_t_worths h_t_pairs h_t_tape h_t_readWorths h_t_sums h_t_worthOf h_t_lies h_t_row h_t_hands h_t_paidOn h_t_lates h_t_fixed h_t_lanes h_t_longs h_t_items h_t_hand h_t_used s_isKept s_taped s_pieces s_at s_readMany s_readKind s_readCut s_rowSet s_bestSet s_dues s_w s_firsts s_sizes s_worths s_pairs)) : ∀ (n : Nat) (t : Int32), L_X11_two_220 s_dues s_pairs v1 kx n t = some res → GG p l e rm_X11_two s m args below meth c (MQ below (cQi D w0 sz res.1 (W_X11_two k h_t h_t_dues h_t_w h_t_firsts h_t_sizes h_t_worths h_t_pairs h_t_tape h_t_readWorths h_t_sums h_t_worthOf h_t_lies h_t_row h_t_hands h_t_paidOn h_t_lates h_t_fixed h_t_lanes h_t_longs h_t_items h_t_hand h_t_used s_isKept s_taped res.2.1 s_at s_readMany s_readKind s_readCut s_rowSet s_bestSet res.2.2.1 s_w res.2.2.2.1 res.2.2.2.2.1 res.2.2.2.2.2.1 res.2.2.2.2.2.2)) args s 0 0 A) D A 6 0 0 220 [(0, .ref h_t), (1, .int v1), (2, .int t)] [] (W_X11_two k h_t h_t_dues h_t_w h_t_firsts h_t_sizes h_t_worths h_t_pairs h_t_tape h_t_readWorths h_t_sums h_t_worthOf h_t_lies h_t_row h_t_hands h_t_paidOn h_t_lates h_t_fixed h_t_lanes h_t_longs h_t_items h_t_hand h_t_used s_isKept s_taped s_pieces s_at s_readMany s_readKind s_readCut s_rowSet s_bestSet s_dues s_w s_firsts s_sizes s_worths s_pairs) := by
  intro n
  induction n with
  | zero => intro t h; cases h
  | succ n ih =>
    intro t h
    obtain ⟨v2, rfl⟩ : ∃ z, z = t := ⟨_, rfl⟩
    replace h : LB_X11_two_220 s_dues s_pairs v1 kx (L_X11_two_220 s_dues s_pairs v1 kx n) v2 = some res := h
    have hr := ih
    unfold LB_X11_two_220 at h
    refine g_iload_n 220 C 2 dX11_two_220 rfl rfl ?_
    refine g_bipush 221 C (60 : Int32) dX11_two_221 (by decide) ?_
    refine g_icmp_ge 223 283 C dX11_two_223 (by decide) (fun c => ?_) (fun c => ?_)
    · replace h := it_e c h
      refine GG.sub (lv' := [(2, .int v2)]) [2] rfl ?_
      exact hx v2 h
    · replace h := if_e c h
      refine g_aload_n 226 C 0 dX11_two_226 rfl rfl ?_
      refine g_get 227 C in_X11_two_X11 0 13 rfl rfl (by decide) fl_X11_two_28 rfl rfl dX11_two_227 ?_
      refine g_iload_n 230 C 2 dX11_two_230 rfl rfl ?_
      refine g_iconst 231 C (1 : Int32) dX11_two_231 (by decide) ?_
      refine g_iadd 232 C dX11_two_232 ?_
      obtain ⟨o16, h⟩ := ob_e h
      refine g_iald 233 C 1 rfl o16 dX11_two_233 ?_
      refine g_sipush 234 C (217 : Int32) dX11_two_234 (by decide) ?_
      refine g_icmp_ge 237 283 C dX11_two_237 (by decide) (fun c => ?_) (fun c => ?_)
      · replace h := it_e c h
        refine GG.sub (lv' := [(2, .int v2)]) [2] rfl ?_
        exact hx v2 h
      · replace h := if_e c h
        refine g_iload_n 240 C 1 dX11_two_240 rfl rfl ?_
        refine g_iload_n 241 C 2 dX11_two_241 rfl rfl ?_
        refine g_iconst 242 C (1 : Int32) dX11_two_242 (by decide) ?_
        refine g_iadd 243 C dX11_two_243 ?_
        refine g_imul 244 C dX11_two_244 ?_
        refine g_sipush 245 C (217 : Int32) dX11_two_245 (by decide) ?_
        refine g_icmp_ge 248 283 C dX11_two_248 (by decide) (fun c => ?_) (fun c => ?_)
        · replace h := it_e c h
          refine GG.sub (lv' := [(2, .int v2)]) [2] rfl ?_
          exact hx v2 h
        · replace h := if_e c h
          refine g_aload_n 251 C 0 dX11_two_251 rfl rfl ?_
          refine g_get 252 C in_X11_two_X11 0 17 rfl rfl (by decide) fl_X11_two_43 rfl rfl dX11_two_252 ?_
          refine g_sipush 255 C (217 : Int32) dX11_two_255 (by decide) ?_
          refine g_aload_n 258 C 0 dX11_two_258 rfl rfl ?_
          refine g_get 259 C in_X11_two_X11 0 13 rfl rfl (by decide) fl_X11_two_28 rfl rfl dX11_two_259 ?_
          refine g_iload_n 262 C 2 dX11_two_262 rfl rfl ?_
          refine g_iconst 263 C (1 : Int32) dX11_two_263 (by decide) ?_
          refine g_iadd 264 C dX11_two_264 ?_
          obtain ⟨o17, h⟩ := ob_e h
          refine g_iald 265 C 1 rfl o17 dX11_two_265 ?_
          refine g_imul 266 C dX11_two_266 ?_
          refine g_iload_n 267 C 1 dX11_two_267 rfl rfl ?_
          refine g_iload_n 268 C 2 dX11_two_268 rfl rfl ?_
          refine g_iconst 269 C (1 : Int32) dX11_two_269 (by decide) ?_
          refine g_iadd 270 C dX11_two_270 ?_
          refine g_imul 271 C dX11_two_271 ?_
          refine g_iadd 272 C dX11_two_272 ?_
          obtain ⟨o18, h⟩ := ob_e h
          refine g_zald 273 C 6 rfl o18 dX11_two_273 ?_
          refine g_if_eq 274 283 C dX11_two_274 (by decide) (fun c => ?_) (fun c => ?_)
          · replace h := it_e c h
            refine GG.sub (lv' := [(2, .int v2)]) [2] rfl ?_
            exact hx v2 h
          · replace h := if_e c h
            refine g_iinc 277 C 2 (1 : Int32) [(2, .int (v2 + (1 : Int32))), (0, .ref h_t), (1, .int v1)] dX11_two_277 rfl (by decide) (by decide) rfl ?_
            refine g_goto 280 220 C dX11_two_280 (by decide) ?_
            refine GG.sub (lv' := [(0, .ref h_t), (1, .int v1), (2, .int (v2 + (1 : Int32)))]) [1, 2, 0] rfl ?_
            exact hr (v2 + (1 : Int32)) h
set_option maxHeartbeats 4000000 in
set_option maxRecDepth 100000 in
theorem ok_B_X11_two_283 {h_t : Nat} {h_t_dues : Nat} {h_t_w : Nat} {h_t_firsts : Nat} {h_t_sizes : Nat} {h_t_worths : Nat} {h_t_pairs : Nat} {h_t_tape : Nat} {h_t_readWorths : Nat} {h_t_sums : Nat} {h_t_worthOf : Nat} {h_t_lies : Nat} {h_t_row : Nat} {h_t_hands : Nat} {h_t_paidOn : Nat} {h_t_lates : Nat} {h_t_fixed : Nat} {h_t_lanes : Nat} {h_t_longs : Nat} {h_t_items : Nat} {h_t_hand : Nat} {h_t_used : Nat} {s_isKept : Int32} {s_taped : Int32} {s_pieces : Int32} {s_at : Int32} {s_readMany : Int32} {s_readKind : Int32} {s_readCut : Int32} {s_rowSet : Int32} {s_bestSet : Int32} {s_dues : Nat → Int32} {s_w : Nat → Int32} {s_firsts : Nat → Int32} {s_sizes : Nat → Int32} {s_worths : Nat → Int32} {s_pairs : Nat → Int32} {v2 : Int32} {res : Int32 × Int32 × (Nat → Int32) × (Nat → Int32) × (Nat → Int32) × (Nat → Int32) × (Nat → Int32)} (C : CX p s m args meth c cX11_two wsX11_two RX11 6 D k A (some .int)) (hA : A = va_A w0 sz)  (h : B_X11_two_283 s_pieces s_dues s_firsts s_sizes s_worths s_pairs v2 = some res) : GG p l e rm_X11_two s m args below meth c (MQ below (cQi D w0 sz res.1 (W_X11_two k h_t h_t_dues h_t_w h_t_firsts h_t_sizes h_t_worths h_t_pairs h_t_tape h_t_readWorths h_t_sums h_t_worthOf h_t_lies h_t_row h_t_hands h_t_paidOn h_t_lates h_t_fixed h_t_lanes h_t_longs h_t_items h_t_hand h_t_used s_isKept s_taped res.2.1 s_at s_readMany s_readKind s_readCut s_rowSet s_bestSet res.2.2.1 s_w res.2.2.2.1 res.2.2.2.2.1 res.2.2.2.2.2.1 res.2.2.2.2.2.2)) args s 0 0 A) D A 6 0 0 283 [(2, .int v2)] [] (W_X11_two k h_t h_t_dues h_t_w h_t_firsts h_t_sizes h_t_worths h_t_pairs h_t_tape h_t_readWorths h_t_sums h_t_worthOf h_t_lies h_t_row h_t_hands h_t_paidOn h_t_lates h_t_fixed h_t_lanes h_t_longs h_t_items h_t_hand h_t_used s_isKept s_taped s_pieces s_at s_readMany s_readKind s_readCut s_rowSet s_bestSet s_dues s_w s_firsts s_sizes s_worths s_pairs) := by
  unfold B_X11_two_283 at h
  refine g_iload_n 283 C 0 dX11_two_283 rfl rfl ?_
  obtain rfl := Option.some.inj h
  exact g_iret 284 C hA rfl dX11_two_284 rfl
set_option maxHeartbeats 4000000 in
set_option maxRecDepth 100000 in
theorem ok_B_X11_two_218 {h_t : Nat} {h_t_dues : Nat} {h_t_w : Nat} {h_t_firsts : Nat} {h_t_sizes : Nat} {h_t_worths : Nat} {h_t_pairs : Nat} {h_t_tape : Nat} {h_t_readWorths : Nat} {h_t_sums : Nat} {h_t_worthOf : Nat} {h_t_lies : Nat} {h_t_row : Nat} {h_t_hands : Nat} {h_t_paidOn : Nat} {h_t_lates : Nat} {h_t_fixed : Nat} {h_t_lanes : Nat} {h_t_longs : Nat} {h_t_items : Nat} {h_t_hand : Nat} {h_t_used : Nat} {s_isKept : Int32} {s_taped : Int32} {s_pieces : Int32} {s_at : Int32} {s_readMany : Int32} {s_readKind : Int32} {s_readCut : Int32} {s_rowSet : Int32} {s_bestSet : Int32} {s_dues : Nat → Int32} {s_w : Nat → Int32} {s_firsts : Nat → Int32} {s_sizes : Nat → Int32} {s_worths : Nat → Int32} {s_pairs : Nat → Int32} {v1 : Int32} {res : Int32 × Int32 × (Nat → Int32) × (Nat → Int32) × (Nat → Int32) × (Nat → Int32) × (Nat → Int32)} (C : CX p s m args meth c cX11_two wsX11_two RX11 6 D k A (some .int)) (hA : A = va_A w0 sz)  (h : B_X11_two_218 s_pieces s_dues s_firsts s_sizes s_worths s_pairs v1 = some res) : GG p l e rm_X11_two s m args below meth c (MQ below (cQi D w0 sz res.1 (W_X11_two k h_t h_t_dues h_t_w h_t_firsts h_t_sizes h_t_worths h_t_pairs h_t_tape h_t_readWorths h_t_sums h_t_worthOf h_t_lies h_t_row h_t_hands h_t_paidOn h_t_lates h_t_fixed h_t_lanes h_t_longs h_t_items h_t_hand h_t_used s_isKept s_taped res.2.1 s_at s_readMany s_readKind s_readCut s_rowSet s_bestSet res.2.2.1 s_w res.2.2.2.1 res.2.2.2.2.1 res.2.2.2.2.2.1 res.2.2.2.2.2.2)) args s 0 0 A) D A 6 0 0 218 [(0, .ref h_t), (1, .int v1)] [] (W_X11_two k h_t h_t_dues h_t_w h_t_firsts h_t_sizes h_t_worths h_t_pairs h_t_tape h_t_readWorths h_t_sums h_t_worthOf h_t_lies h_t_row h_t_hands h_t_paidOn h_t_lates h_t_fixed h_t_lanes h_t_longs h_t_items h_t_hand h_t_used s_isKept s_taped s_pieces s_at s_readMany s_readKind s_readCut s_rowSet s_bestSet s_dues s_w s_firsts s_sizes s_worths s_pairs) := by
  unfold B_X11_two_218 at h
  refine g_iconst 218 C (0 : Int32) dX11_two_218 (by decide) ?_
  refine g_istore_n 219 C [(2, .int (0 : Int32)), (0, .ref h_t), (1, .int v1)] dX11_two_219 rfl (by decide) rfl ?_
  refine GG.sub (lv' := [(0, .ref h_t), (1, .int v1), (2, .int (0 : Int32))]) [1, 2, 0] rfl ?_
  exact ok_L_X11_two_220 C hA (fun t h => by
    refine GG.sub (lv' := [(2, .int t)]) [0] rfl ?_
    exact ok_B_X11_two_283 C hA h) FUEL (0 : Int32) h
set_option maxHeartbeats 4000000 in
set_option maxRecDepth 100000 in
theorem ok_B_X11_two_51 {h_t : Nat} {h_t_dues : Nat} {h_t_w : Nat} {h_t_firsts : Nat} {h_t_sizes : Nat} {h_t_worths : Nat} {h_t_pairs : Nat} {h_t_tape : Nat} {h_t_readWorths : Nat} {h_t_sums : Nat} {h_t_worthOf : Nat} {h_t_lies : Nat} {h_t_row : Nat} {h_t_hands : Nat} {h_t_paidOn : Nat} {h_t_lates : Nat} {h_t_fixed : Nat} {h_t_lanes : Nat} {h_t_longs : Nat} {h_t_items : Nat} {h_t_hand : Nat} {h_t_used : Nat} {s_isKept : Int32} {s_taped : Int32} {s_pieces : Int32} {s_at : Int32} {s_readMany : Int32} {s_readKind : Int32} {s_readCut : Int32} {s_rowSet : Int32} {s_bestSet : Int32} {s_dues : Nat → Int32} {s_w : Nat → Int32} {s_firsts : Nat → Int32} {s_sizes : Nat → Int32} {s_worths : Nat → Int32} {s_pairs : Nat → Int32} {v1 : Int32} {res : Int32 × Int32 × (Nat → Int32) × (Nat → Int32) × (Nat → Int32) × (Nat → Int32) × (Nat → Int32)} (C : CX p s m args meth c cX11_two wsX11_two RX11 6 D k A (some .int)) (hA : A = va_A w0 sz)  (h : B_X11_two_51 s_pieces s_dues s_firsts s_sizes s_worths s_pairs v1 = some res) : GG p l e rm_X11_two s m args below meth c (MQ below (cQi D w0 sz res.1 (W_X11_two k h_t h_t_dues h_t_w h_t_firsts h_t_sizes h_t_worths h_t_pairs h_t_tape h_t_readWorths h_t_sums h_t_worthOf h_t_lies h_t_row h_t_hands h_t_paidOn h_t_lates h_t_fixed h_t_lanes h_t_longs h_t_items h_t_hand h_t_used s_isKept s_taped res.2.1 s_at s_readMany s_readKind s_readCut s_rowSet s_bestSet res.2.2.1 s_w res.2.2.2.1 res.2.2.2.2.1 res.2.2.2.2.2.1 res.2.2.2.2.2.2)) args s 0 0 A) D A 6 0 0 51 [(0, .ref h_t), (1, .int v1)] [] (W_X11_two k h_t h_t_dues h_t_w h_t_firsts h_t_sizes h_t_worths h_t_pairs h_t_tape h_t_readWorths h_t_sums h_t_worthOf h_t_lies h_t_row h_t_hands h_t_paidOn h_t_lates h_t_fixed h_t_lanes h_t_longs h_t_items h_t_hand h_t_used s_isKept s_taped s_pieces s_at s_readMany s_readKind s_readCut s_rowSet s_bestSet s_dues s_w s_firsts s_sizes s_worths s_pairs) := by
  unfold B_X11_two_51 at h
  refine g_iconst 51 C (0 : Int32) dX11_two_51 (by decide) ?_
  refine g_istore_n 52 C [(2, .int (0 : Int32)), (0, .ref h_t), (1, .int v1)] dX11_two_52 rfl (by decide) rfl ?_
  refine GG.sub (lv' := [(0, .ref h_t), (1, .int v1), (2, .int (0 : Int32))]) [1, 2, 0] rfl ?_
  exact ok_L_X11_two_53 C hA (fun t h => by
    refine GG.sub (lv' := [(0, .ref h_t), (1, .int v1)]) [0, 1] rfl ?_
    exact ok_B_X11_two_218 C hA h) FUEL ((0 : Int32), s_pairs) h
set_option maxHeartbeats 4000000 in
set_option maxRecDepth 100000 in
theorem k_X11_two {l : Launch} {D : va_G} {k : Nat → ClassId} (h_t : Nat) (h_t_dues : Nat) (h_t_w : Nat) (h_t_firsts : Nat) (h_t_sizes : Nat) (h_t_worths : Nat) (h_t_pairs : Nat) (h_t_tape : Nat) (h_t_readWorths : Nat) (h_t_sums : Nat) (h_t_worthOf : Nat) (h_t_lies : Nat) (h_t_row : Nat) (h_t_hands : Nat) (h_t_paidOn : Nat) (h_t_lates : Nat) (h_t_fixed : Nat) (h_t_lanes : Nat) (h_t_longs : Nat) (h_t_items : Nat) (h_t_hand : Nat) (h_t_used : Nat) (s_isKept : Int32) (s_taped : Int32) (s_pieces : Int32) (s_at : Int32) (s_readMany : Int32) (s_readKind : Int32) (s_readCut : Int32) (s_rowSet : Int32) (s_bestSet : Int32) (s_dues : Nat → Int32) (s_w : Nat → Int32) (s_firsts : Nat → Int32) (s_sizes : Nat → Int32) (s_worths : Nat → Int32) (s_pairs : Nat → Int32) (v1 : Int32) (res : Int32 × Int32 × (Nat → Int32) × (Nat → Int32) × (Nat → Int32) × (Nat → Int32) × (Nat → Int32)) (h : f_X11_two s_pieces s_dues s_w s_firsts s_sizes s_worths s_pairs v1 = some res) (sz : Nat) : Met l yX11_two wsX11_two rm_X11_two (cPre D k [.ref h_t, .int v1] (W_X11_two k h_t h_t_dues h_t_w h_t_firsts h_t_sizes h_t_worths h_t_pairs h_t_tape h_t_readWorths h_t_sums h_t_worthOf h_t_lies h_t_row h_t_hands h_t_paidOn h_t_lates h_t_fixed h_t_lanes h_t_longs h_t_items h_t_hand h_t_used s_isKept s_taped s_pieces s_at s_readMany s_readKind s_readCut s_rowSet s_bestSet s_dues s_w s_firsts s_sizes s_worths s_pairs) sz) (cQi D (W_X11_two k h_t h_t_dues h_t_w h_t_firsts h_t_sizes h_t_worths h_t_pairs h_t_tape h_t_readWorths h_t_sums h_t_worthOf h_t_lies h_t_row h_t_hands h_t_paidOn h_t_lates h_t_fixed h_t_lanes h_t_longs h_t_items h_t_hand h_t_used s_isKept s_taped s_pieces s_at s_readMany s_readKind s_readCut s_rowSet s_bestSet s_dues s_w s_firsts s_sizes s_worths s_pairs) sz res.1 (W_X11_two k h_t h_t_dues h_t_w h_t_firsts h_t_sizes h_t_worths h_t_pairs h_t_tape h_t_readWorths h_t_sums h_t_worthOf h_t_lies h_t_row h_t_hands h_t_paidOn h_t_lates h_t_fixed h_t_lanes h_t_longs h_t_items h_t_hand h_t_used s_isKept s_taped res.2.1 s_at s_readMany s_readKind s_readCut s_rowSet s_bestSet res.2.2.1 s_w res.2.2.2.1 res.2.2.2.2.1 res.2.2.2.2.2.1 res.2.2.2.2.2.2)) 0 0 (va_A (W_X11_two k h_t h_t_dues h_t_w h_t_firsts h_t_sizes h_t_worths h_t_pairs h_t_tape h_t_readWorths h_t_sums h_t_worthOf h_t_lies h_t_row h_t_hands h_t_paidOn h_t_lates h_t_fixed h_t_lanes h_t_longs h_t_items h_t_hand h_t_used s_isKept s_taped s_pieces s_at s_readMany s_readKind s_readCut s_rowSet s_bestSet s_dues s_w s_firsts s_sizes s_worths s_pairs) sz) := by
  refine met_of [(0, .ref h_t), (1, .int v1)] (by decide) rfl rfl (Nat.le_of_ble_eq_true rfl) rfl ?_
  intro p e s m args below meth c A hA hsz C
  unfold f_X11_two at h
  refine g_iload_n 0 C 1 dX11_two_0 rfl rfl ?_
  refine g_i2l 1 C dX11_two_1 ?_
  refine g_lconst 2 C (1 : Int64) dX11_two_2 (by decide) ?_
  refine g_ldc2 3 C (9 : Int64) dX11_two_3 ct_X11_two_102 ?_
  obtain ⟨q1, e2, h⟩ := bi_e h
  refine g_callSi 6 C (As := [.long v1.toInt64, .long (1 : Int64), .long (9 : Int64)]) [] [0, 1, 2, 3, 4, 5, 6] [0, 1, 2, 3, 4, 5, 6] (W_X11_two k h_t h_t_dues h_t_w h_t_firsts h_t_sizes h_t_worths h_t_pairs h_t_tape h_t_readWorths h_t_sums h_t_worthOf h_t_lies h_t_row h_t_hands h_t_paidOn h_t_lates h_t_fixed h_t_lanes h_t_longs h_t_items h_t_hand h_t_used s_isKept s_taped s_pieces s_at s_readMany s_readKind s_readCut s_rowSet s_bestSet s_dues s_w s_firsts s_sizes s_worths s_pairs) (fun sz => k_X11_in v1.toInt64 (1 : Int64) (9 : Int64) q1 e2 sz) gX11_two_X11_in rfl pd_X11_in rfl ⟨rfl, rfl, Nat.le_of_ble_eq_true rfl, Nat.le_of_ble_eq_true rfl⟩ (Nat.le_of_ble_eq_true rfl) ⟨Nat.zero_le _, Nat.zero_le _⟩ ⟨rfl, rfl, rfl, rfl, rfl, by decide, rfl⟩ rfl dX11_two_6 ?_
  refine g_if_ne 9 14 C dX11_two_9 (by decide) (fun c => ?_) (fun c => ?_)
  · replace h := if_e c h
    refine g_aload_n 14 C 0 dX11_two_14 rfl rfl ?_
    obtain ⟨q3, e4, h⟩ := bi_e h
    refine g_callVv 15 C (As := []) [0, 1, 2] [3, 4, 5, 6] [4, 5, 6, 0, 1, 2, 3] (W_X11_two k h_t h_t_dues h_t_w h_t_firsts h_t_sizes h_t_worths h_t_pairs h_t_tape h_t_readWorths h_t_sums h_t_worthOf h_t_lies h_t_row h_t_hands h_t_paidOn h_t_lates h_t_fixed h_t_lanes h_t_longs h_t_items h_t_hand h_t_used s_isKept s_taped s_pieces s_at s_readMany s_readKind s_readCut s_rowSet s_bestSet q3 s_w s_firsts s_sizes s_worths s_pairs) 0 (fun sz => k_X11_layDues h_t h_t_dues h_t_w h_t_tape h_t_firsts h_t_sizes h_t_worths h_t_readWorths h_t_sums h_t_worthOf h_t_lies h_t_pairs h_t_row h_t_hands h_t_paidOn h_t_lates h_t_fixed h_t_lanes h_t_longs h_t_items h_t_hand h_t_used s_isKept s_taped s_pieces s_at s_readMany s_readKind s_readCut s_rowSet s_bestSet s_dues s_w q3 e4 sz) gX11_two_X11_layDues rfl pd_X11_layDues rfl rfl rfl ⟨rfl, rfl, Nat.le_of_ble_eq_true rfl, Nat.le_of_ble_eq_true rfl⟩ (Nat.le_of_ble_eq_true rfl) ⟨Nat.zero_le _, Nat.zero_le _⟩ ⟨rfl, rfl, rfl, rfl, rfl, by decide, rfl⟩ rfl dX11_two_15 ?_
    refine g_aload_n 18 C 0 dX11_two_18 rfl rfl ?_
    obtain ⟨q5, e6, h⟩ := bi_e h
    refine g_callVv 19 C (As := []) [0, 2, 3, 4, 5] [1, 6] [2, 0, 3, 4, 5, 6, 1] (W_X11_two k h_t h_t_dues h_t_w h_t_firsts h_t_sizes h_t_worths h_t_pairs h_t_tape h_t_readWorths h_t_sums h_t_worthOf h_t_lies h_t_row h_t_hands h_t_paidOn h_t_lates h_t_fixed h_t_lanes h_t_longs h_t_items h_t_hand h_t_used s_isKept s_taped q5.1 s_at s_readMany s_readKind s_readCut s_rowSet s_bestSet q3 s_w q5.2.1 q5.2.2.1 q5.2.2.2 s_pairs) 0 (fun sz => k_X11_layNow h_t h_t_w h_t_firsts h_t_sizes h_t_worths h_t_tape h_t_readWorths h_t_dues h_t_sums h_t_worthOf h_t_lies h_t_pairs h_t_row h_t_hands h_t_paidOn h_t_lates h_t_fixed h_t_lanes h_t_longs h_t_items h_t_hand h_t_used s_isKept s_taped s_pieces s_at s_readMany s_readKind s_readCut s_rowSet s_bestSet s_w s_firsts s_sizes s_worths q5 e6 sz) gX11_two_X11_layNow rfl pd_X11_layNow rfl rfl rfl ⟨rfl, rfl, Nat.le_of_ble_eq_true rfl, Nat.le_of_ble_eq_true rfl⟩ (Nat.le_of_ble_eq_true rfl) ⟨Nat.zero_le _, Nat.zero_le _⟩ ⟨rfl, rfl, rfl, rfl, rfl, by decide, rfl⟩ rfl dX11_two_19 ?_
    refine g_iconst 22 C (0 : Int32) dX11_two_22 (by decide) ?_
    refine g_istore_n 23 C [(2, .int (0 : Int32)), (0, .ref h_t), (1, .int v1)] dX11_two_23 rfl (by decide) rfl ?_
    refine GG.sub (lv' := [(0, .ref h_t), (1, .int v1), (2, .int (0 : Int32))]) [1, 2, 0] rfl ?_
    exact ok_L_X11_two_24 C hA (fun t h => by
      refine GG.sub (lv' := [(0, .ref h_t), (1, .int v1)]) [0, 1] rfl ?_
      exact ok_B_X11_two_51 C hA h) FUEL ((0 : Int32), s_pairs) h
  · replace h := it_e c h
    refine g_iconst 12 C (-1 : Int32) dX11_two_12 (by decide) ?_
    obtain rfl := Option.some.inj h
    exact g_iret 13 C hA rfl dX11_two_13 rfl
end
