/-! X11_late -/
abbrev W_X11_late (k : Nat → ClassId) (h_t : Nat) (h_t_dues : Nat) (h_t_w : Nat) (h_t_firsts : Nat) (h_t_sizes : Nat) (h_t_worths : Nat) (h_t_sums : Nat) (h_t_paidOn : Nat) (h_t_fixed : Nat) (h_t_lates : Nat) (h_t_tape : Nat) (h_t_readWorths : Nat) (h_t_worthOf : Nat) (h_t_lies : Nat) (h_t_pairs : Nat) (h_t_row : Nat) (h_t_hands : Nat) (h_t_lanes : Nat) (h_t_longs : Nat) (h_t_items : Nat) (h_t_hand : Nat) (h_t_used : Nat) (s_isKept : Int32) (s_taped : Int32) (s_pieces : Int32) (s_at : Int32) (s_readMany : Int32) (s_readKind : Int32) (s_readCut : Int32) (s_rowSet : Int32) (s_bestSet : Int32) (s_dues : Nat → Int32) (s_w : Nat → Int32) (s_firsts : Nat → Int32) (s_sizes : Nat → Int32) (s_worths : Nat → Int32) (s_sums : Nat → Int64) (s_paidOn : Nat → Int64) (s_fixed : Nat → Int32) (s_lates : Nat → Int32) : va_W := [(h_t, .inr (11, [.ref h_t_w, .int s_isKept, .ref h_t_tape, .int s_taped, .ref h_t_firsts, .ref h_t_sizes, .ref h_t_worths, .int s_pieces, .int s_at, .ref h_t_readWorths, .int s_readMany, .int s_readKind, .int s_readCut, .ref h_t_dues, .ref h_t_sums, .ref h_t_worthOf, .ref h_t_lies, .ref h_t_pairs, .ref h_t_row, .int s_rowSet, .int s_bestSet, .ref h_t_hands, .ref h_t_paidOn, .ref h_t_lates, .ref h_t_fixed, .ref h_t_lanes, .ref h_t_longs, .ref h_t_items, .ref h_t_hand, .ref h_t_used])), (h_t_dues, .inl (k 0, 61, .inl s_dues)), (h_t_w, .inl (k 0, 60, .inl s_w)), (h_t_firsts, .inl (k 0, 24, .inl s_firsts)), (h_t_sizes, .inl (k 0, 24, .inl s_sizes)), (h_t_worths, .inl (k 0, 24, .inl s_worths)), (h_t_sums, .inl (k 1, 4, .inr (.inl s_sums))), (h_t_paidOn, .inl (k 1, 32, .inr (.inl s_paidOn))), (h_t_fixed, .inl (k 0, 5, .inl s_fixed)), (h_t_lates, .inl (k 0, 1984, .inl s_lates))]
def rm_X11_late : Room := { frames := 3, cells := 0, slots := 0, locals := 68 }
theorem in_X11_late_X11 : ∀ w ∈ u_ws RX11 TX11 30, w ∈ wsX11_late := by decide +kernel
theorem ct_X11_late_164 : Cond.constantLong RX11 164 (60 : Int64) ∈ wsX11_late := by decide +kernel
theorem ct_X11_late_195 : Cond.constantLong RX11 195 (4 : Int64) ∈ wsX11_late := by decide +kernel
theorem ct_X11_late_197 : Cond.constantLong RX11 197 (-1 : Int64) ∈ wsX11_late := by decide +kernel
theorem fl_X11_late_28 : Cond.fieldLink RX11 28 "LinkDaysModel" "dues" "[I" ∈ wsX11_late := by decide +kernel
theorem fl_X11_late_53 : Cond.fieldLink RX11 53 "LinkDaysModel" "paidOn" "[J" ∈ wsX11_late := by decide +kernel
theorem fl_X11_late_59 : Cond.fieldLink RX11 59 "LinkDaysModel" "fixed" "[I" ∈ wsX11_late := by decide +kernel
theorem fl_X11_late_7 : Cond.fieldLink RX11 7 "LinkDaysModel" "w" "[I" ∈ wsX11_late := by decide +kernel
theorem pd_X11_late : yX11_late.cls = RX11 ∧ yX11_late.cls ≠ "java/lang/invoke/MethodHandle" ∧ yX11_late.cls ≠ "java/lang/invoke/VarHandle" ∧ (parseMethodDescriptor yX11_late.desc).map (fun d => d.parameters.length) = some 2 := by decide +kernel
section
variable {p : Program} {l : Launch} {e : Env} {s : State} {m : MethodId} {args : Array Value} {below : List Frame} {meth : Method} {c : Code} {D : va_G} {k : Nat → ClassId} {A : Nat → Prop} {w0 : va_W} {sz : Nat}
set_option maxHeartbeats 4000000 in
set_option maxRecDepth 100000 in
theorem ok_B_X11_late_26 {h_t : Nat} {h_t_dues : Nat} {h_t_w : Nat} {h_t_firsts : Nat} {h_t_sizes : Nat} {h_t_worths : Nat} {h_t_sums : Nat} {h_t_paidOn : Nat} {h_t_fixed : Nat} {h_t_lates : Nat} {h_t_tape : Nat} {h_t_readWorths : Nat} {h_t_worthOf : Nat} {h_t_lies : Nat} {h_t_pairs : Nat} {h_t_row : Nat} {h_t_hands : Nat} {h_t_lanes : Nat} {h_t_longs : Nat} {h_t_items : Nat} {h_t_hand : Nat} {h_t_used : Nat} {s_isKept : Int32} {s_taped : Int32} {s_pieces : Int32} {s_at : Int32} {s_readMany : Int32} {s_readKind : Int32} {s_readCut : Int32} {s_rowSet : Int32} {s_bestSet : Int32} {s_dues : Nat → Int32} {s_w : Nat → Int32} {s_firsts : Nat → Int32} {s_sizes : Nat → Int32} {s_worths : Nat → Int32} {s_sums : Nat → Int64} {s_paidOn : Nat → Int64} {s_fixed : Nat → Int32} {s_lates : Nat → Int32} {res : Int32 × Int32 × (Nat → Int32) × (Nat → Int32) × (Nat → Int32) × (Nat → Int32) × (Nat → Int64) × (Nat → Int64) × (Nat → Int32) × (Nat → Int32)} (C : CX p s m args meth c cX11_late wsX11_late RX11 7 D k A (some .int)) (hA : A = va_A w0 sz)  (h : B_X11_late_26 s_pieces s_dues s_firsts s_sizes s_worths s_sums s_paidOn s_fixed s_lates = some res) : GG p l e rm_X11_late s m args below meth c (MQ below (cQi D w0 sz res.1 (W_X11_late k h_t h_t_dues h_t_w h_t_firsts h_t_sizes h_t_worths h_t_sums h_t_paidOn h_t_fixed h_t_lates h_t_tape h_t_readWorths h_t_worthOf h_t_lies h_t_pairs h_t_row h_t_hands h_t_lanes h_t_longs h_t_items h_t_hand h_t_used s_isKept s_taped res.2.1 s_at s_readMany s_readKind s_readCut s_rowSet s_bestSet res.2.2.1 s_w res.2.2.2.1 res.2.2.2.2.1 res.2.2.2.2.2.1 res.2.2.2.2.2.2.1 res.2.2.2.2.2.2.2.1 res.2.2.2.2.2.2.2.2.1 res.2.2.2.2.2.2.2.2.2)) args s 0 0 A) D A 7 0 0 26 [] [] (W_X11_late k h_t h_t_dues h_t_w h_t_firsts h_t_sizes h_t_worths h_t_sums h_t_paidOn h_t_fixed h_t_lates h_t_tape h_t_readWorths h_t_worthOf h_t_lies h_t_pairs h_t_row h_t_hands h_t_lanes h_t_longs h_t_items h_t_hand h_t_used s_isKept s_taped s_pieces s_at s_readMany s_readKind s_readCut s_rowSet s_bestSet s_dues s_w s_firsts s_sizes s_worths s_sums s_paidOn s_fixed s_lates) := by
  unfold B_X11_late_26 at h
  refine g_iconst 26 C (-1 : Int32) dX11_late_26 (by decide) ?_
  obtain rfl := Option.some.inj h
  exact g_iret 27 C hA rfl dX11_late_27 rfl
set_option maxHeartbeats 4000000 in
set_option maxRecDepth 100000 in
theorem ok_B_X11_late_114 {h_t : Nat} {h_t_dues : Nat} {h_t_w : Nat} {h_t_firsts : Nat} {h_t_sizes : Nat} {h_t_worths : Nat} {h_t_sums : Nat} {h_t_paidOn : Nat} {h_t_fixed : Nat} {h_t_lates : Nat} {h_t_tape : Nat} {h_t_readWorths : Nat} {h_t_worthOf : Nat} {h_t_lies : Nat} {h_t_pairs : Nat} {h_t_row : Nat} {h_t_hands : Nat} {h_t_lanes : Nat} {h_t_longs : Nat} {h_t_items : Nat} {h_t_hand : Nat} {h_t_used : Nat} {s_isKept : Int32} {s_taped : Int32} {s_pieces : Int32} {s_at : Int32} {s_readMany : Int32} {s_readKind : Int32} {s_readCut : Int32} {s_rowSet : Int32} {s_bestSet : Int32} {s_dues : Nat → Int32} {s_w : Nat → Int32} {s_firsts : Nat → Int32} {s_sizes : Nat → Int32} {s_worths : Nat → Int32} {s_sums : Nat → Int64} {s_paidOn : Nat → Int64} {s_fixed : Nat → Int32} {s_lates : Nat → Int32} {v1 : Int32} {v2 : Int32} {v3 : Int32} {v4 : Int32} {v6 : Int32} {x0 : Int32} {x1 : Int32} {res : Int32 × Int32 × (Nat → Int32) × (Nat → Int32) × (Nat → Int32) × (Nat → Int32) × (Nat → Int64) × (Nat → Int64) × (Nat → Int32) × (Nat → Int32)} {kx rec : Int32 × Int32 → Option (Int32 × Int32 × (Nat → Int32) × (Nat → Int32) × (Nat → Int32) × (Nat → Int32) × (Nat → Int64) × (Nat → Int64) × (Nat → Int32) × (Nat → Int32))} (C : CX p s m args meth c cX11_late wsX11_late RX11 7 D k A (some .int)) (hA : A = va_A w0 sz) (hx : ∀ t : Int32 × Int32, kx t = some res → GG p l e rm_X11_late s m args below meth c (MQ below (cQi D w0 sz res.1 (W_X11_late k h_t h_t_dues h_t_w h_t_firsts h_t_sizes h_t_worths h_t_sums h_t_paidOn h_t_fixed h_t_lates h_t_tape h_t_readWorths h_t_worthOf h_t_lies h_t_pairs h_t_row h_t_hands h_t_lanes h_t_longs h_t_items h_t_hand h_t_used s_isKept s_taped res.2.1 s_at s_readMany s_readKind s_readCut s_rowSet s_bestSet res.2.2.1 s_w res.2.2.2.1 res.2.2.2.2.1 res.2.2.2.2.2.1 res.2.2.2.2.2.2.1 res.2.2.2.2.2.2.2.1 res.2.2.2.2.2.2.2.2.1 res.2.2.2.2.2.2.2.2.2)) args s 0 0 A) D A 7 0 0 123 [(0, .ref h_t), (1, .int v1), (2, .int v2), (3, .int v3), (4, .int v4), (5, .int t.1)] [] (W_X11_late k h_t h_t_dues h_t_w h_t_firsts h_t_sizes h_t_worths h_t_sums h_t_paidOn h_t_fixed h_t_lates h_t_tape h_t_readWorths h_t_worthOf h_t_lies h_t_pairs h_t_row h_t_hands h_t_lanes h_t_longs h_t_items h_t_hand h_t_used s_isKept s_taped s_pieces s_at s_readMany s_readKind s_readCut s_rowSet s_bestSet s_dues s_w s_firsts s_sizes s_worths s_sums s_paidOn s_fixed s_lates)) (hr : ∀ t : Int32 × Int32, rec t = some res → GG p l e rm_X11_late s m args below meth c (MQ below (cQi D w0 sz res.1 (W_X11_late k h_t h_t_dues h_t_w h_t_firsts h_t_sizes h_t_worths h_t_sums h_t_paidOn h_t_fixed h_t_lates h_t_tape h_t_readWorths h_t_worthOf h_t_lies h_t_pairs h_t_row h_t_hands h_t_lanes h_t_longs h_t_items h_t_hand h_t_used s_isKept s_taped res.2.1 s_at s_readMany s_readKind s_readCut s_rowSet s_bestSet res.2.2.1 s_w res.2.2.2.1 res.2.2.2.2.1 res.2.2.2.2.2.1 res.2.2.2.2.2.2.1 res.2.2.2.2.2.2.2.1 res.2.2.2.2.2.2.2.2.1 res.2.2.2.2.2.2.2.2.2)) args s 0 0 A) D A 7 0 0 78 [(0, .ref h_t), (1, .int v1), (2, .int v2), (3, .int v3), (4, .int v4), (5, .int t.1), (6, .int t.2)] [] (W_X11_late k h_t h_t_dues h_t_w h_t_firsts h_t_sizes h_t_worths h_t_sums h_t_paidOn h_t_fixed h_t_lates h_t_tape h_t_readWorths h_t_worthOf h_t_lies h_t_pairs h_t_row h_t_hands h_t_lanes h_t_longs h_t_items h_t_hand h_t_used s_isKept s_taped s_pieces s_at s_readMany s_readKind s_readCut s_rowSet s_bestSet s_dues s_w s_firsts s_sizes s_worths s_sums s_paidOn s_fixed s_lates))  (h : B_X11_late_114 kx rec v6 x0 x1 = some res) : GG p l e rm_X11_late s m args below meth c (MQ below (cQi D w0 sz res.1 (W_X11_late k h_t h_t_dues h_t_w h_t_firsts h_t_sizes h_t_worths h_t_sums h_t_paidOn h_t_fixed h_t_lates h_t_tape h_t_readWorths h_t_worthOf h_t_lies h_t_pairs h_t_row h_t_hands h_t_lanes h_t_longs h_t_items h_t_hand h_t_used s_isKept s_taped res.2.1 s_at s_readMany s_readKind s_readCut s_rowSet s_bestSet res.2.2.1 s_w res.2.2.2.1 res.2.2.2.2.1 res.2.2.2.2.2.1 res.2.2.2.2.2.2.1 res.2.2.2.2.2.2.2.1 res.2.2.2.2.2.2.2.2.1 res.2.2.2.2.2.2.2.2.2)) args s 0 0 A) D A 7 0 0 114 [(0, .ref h_t), (1, .int v1), (2, .int v2), (3, .int v3), (4, .int v4), (6, .int v6)] [.int x0, .int x1] (W_X11_late k h_t h_t_dues h_t_w h_t_firsts h_t_sizes h_t_worths h_t_sums h_t_paidOn h_t_fixed h_t_lates h_t_tape h_t_readWorths h_t_worthOf h_t_lies h_t_pairs h_t_row h_t_hands h_t_lanes h_t_longs h_t_items h_t_hand h_t_used s_isKept s_taped s_pieces s_at s_readMany s_readKind s_readCut s_rowSet s_bestSet s_dues s_w s_firsts s_sizes s_worths s_sums s_paidOn s_fixed s_lates) := by
  unfold B_X11_late_114 at h
  refine g_ior 114 C dX11_late_114 ?_
  refine g_istore 115 C [(5, .int (x1 ||| x0)), (0, .ref h_t), (1, .int v1), (2, .int v2), (3, .int v3), (4, .int v4), (6, .int v6)] dX11_late_115 (by decide) rfl ?_
  refine g_iinc 117 C 6 (1 : Int32) [(6, .int (v6 + (1 : Int32))), (5, .int (x1 ||| x0)), (0, .ref h_t), (1, .int v1), (2, .int v2), (3, .int v3), (4, .int v4)] dX11_late_117 rfl (by decide) (by decide) rfl ?_
  refine g_goto 120 78 C dX11_late_120 (by decide) ?_
  refine GG.sub (lv' := [(0, .ref h_t), (1, .int v1), (2, .int v2), (3, .int v3), (4, .int v4), (5, .int (x1 ||| x0)), (6, .int (v6 + (1 : Int32)))]) [2, 3, 4, 5, 6, 1, 0] rfl ?_
  exact hr ((x1 ||| x0), (v6 + (1 : Int32))) h
set_option maxHeartbeats 4000000 in
set_option maxRecDepth 100000 in
theorem ok_L_X11_late_78 {h_t : Nat} {h_t_dues : Nat} {h_t_w : Nat} {h_t_firsts : Nat} {h_t_sizes : Nat} {h_t_worths : Nat} {h_t_sums : Nat} {h_t_paidOn : Nat} {h_t_fixed : Nat} {h_t_lates : Nat} {h_t_tape : Nat} {h_t_readWorths : Nat} {h_t_worthOf : Nat} {h_t_lies : Nat} {h_t_pairs : Nat} {h_t_row : Nat} {h_t_hands : Nat} {h_t_lanes : Nat} {h_t_longs : Nat} {h_t_items : Nat} {h_t_hand : Nat} {h_t_used : Nat} {s_isKept : Int32} {s_taped : Int32} {s_pieces : Int32} {s_at : Int32} {s_readMany : Int32} {s_readKind : Int32} {s_readCut : Int32} {s_rowSet : Int32} {s_bestSet : Int32} {s_dues : Nat → Int32} {s_w : Nat → Int32} {s_firsts : Nat → Int32} {s_sizes : Nat → Int32} {s_worths : Nat → Int32} {s_sums : Nat → Int64} {s_paidOn : Nat → Int64} {s_fixed : Nat → Int32} {s_lates : Nat → Int32} {v1 : Int32} {v2 : Int32} {v3 : Int32} {v4 : Int32} {res : Int32 × Int32 × (Nat → Int32) × (Nat → Int32) × (Nat → Int32) × (Nat → Int32) × (Nat → Int64) × (Nat → Int64) × (Nat → Int32) × (Nat → Int32)} (C : CX p s m args meth c cX11_late wsX11_late RX11 7 D k A (some .int)) (hA : A = va_A w0 sz) {kx : Int32 × Int32 → Option (Int32 × Int32 × (Nat → Int32) × (Nat → Int32) × (Nat → Int32) × (Nat → Int32) × (Nat → Int64) × (Nat → Int64) × (Nat → Int32) × (Nat → Int32))} (hx : ∀ t : Int32 × Int32, kx t = some res → GG p l e rm_X11_late s m args below meth c (MQ below (cQi D w0 sz res.1 (W_X11_late k h_t h_t_dues h_t_w h_t_firsts h_t_sizes h_t_worths h_t_sums h_t_paidOn h_t_fixed h_t_lates h_t_tape h_t_readWorths h_t_worthOf h_t_lies h_t_pairs h_t_row h_t_hands h_t_lanes h_t_longs h_t_items h_t_hand h_t_used s_isKept s_taped res.2.1 s_at s_readMany s_readKind s_readCut s_rowSet s_bestSet res.2.2.1 s_w res.2.2.2.1 res.2.2.2.2.1 res.2.2.2.2.2.1 res.2.2.2.2.2.2.1 res.2.2.2.2.2.2.2.1 res.2.2.2.2.2.2.2.2.1 res.2.2.2.2.2.2.2.2.2)) args s 0 0 A) D A 7 0 0 123 [(0, .ref h_t), (1, .int v1), (2, .int v2), (3, .int v3), (4, .int v4), (5, .int t.1)] [] (W_X11_late k h_t h_t_dues h_t_w h_t_firsts h_t_sizes h_t_worths h_t_sums h_t_paidOn h_t_fixed h_t_lates h_t_tape h_t_readWorths h_t_worthOf h_t_lies h_t_pairs h_t_row h_t_hands h_t_lanes h_t_longs h_t_items h_t_hand h_t_used s_isKept s_taped s_pieces s_at s_readMany s_readKind s_readCut s_rowSet s_bestSet s_dues s_w s_firsts s_sizes s_worths s_sums s_paidOn s_fixed s_lates)) : ∀ (n : Nat) (t : Int32 × Int32), L_X11_late_78 s_w v3 v4 kx n t = some res → GG p l e rm_X11_late s m args below meth c (MQ below (cQi D w0 sz res.1 (W_X11_late k h_t h_t_dues h_t_w h_t_firsts h_t_sizes h_t_worths h_t_sums h_t_paidOn h_t_fixed h_t_lates h_t_tape h_t_readWorths h_t_worthOf h_t_lies h_t_pairs h_t_row h_t_hands h_t_lanes h_t_longs h_t_items h_t_hand h_t_used s_isKept s_taped res.2.1 s_at s_readMany s_readKind s_readCut s_rowSet s_bestSet res.2.2.1 s_w res.2.2.2.1 res.2.2.2.2.1 res.2.2.2.2.2.1 res.2.2.2.2.2.2.1 res.2.2.2.2.2.2.2.1 res.2.2.2.2.2.2.2.2.1 res.2.2.2.2.2.2.2.2.2)) args s 0 0 A) D A 7 0 0 78 [(0, .ref h_t), (1, .int v1), (2, .int v2), (3, .int v3), (4, .int v4), (5, .int t.1), (6, .int t.2)] [] (W_X11_late k h_t h_t_dues h_t_w h_t_firsts h_t_sizes h_t_worths h_t_sums h_t_paidOn h_t_fixed h_t_lates h_t_tape h_t_readWorths h_t_worthOf h_t_lies h_t_pairs h_t_row h_t_hands h_t_lanes h_t_longs h_t_items h_t_hand h_t_used s_isKept s_taped s_pieces s_at s_readMany s_readKind s_readCut s_rowSet s_bestSet s_dues s_w s_firsts s_sizes s_worths s_sums s_paidOn s_fixed s_lates) := by
  intro n
  induction n with
  | zero => intro t h; cases h
  | succ n ih =>
    intro t h
    obtain ⟨v5, v6⟩ := t
    replace h : LB_X11_late_78 s_w v3 v4 kx (L_X11_late_78 s_w v3 v4 kx n) v5 v6 = some res := h
    have hr := ih
    unfold LB_X11_late_78 at h
    refine g_iload 78 C 6 dX11_late_78 rfl ?_
    refine g_iload_n 80 C 3 dX11_late_80 rfl rfl ?_
    refine g_icmp_ge 81 123 C dX11_late_81 (by decide) (fun c => ?_) (fun c => ?_)
    · replace h := it_e c h
      refine GG.sub (lv' := [(0, .ref h_t), (1, .int v1), (2, .int v2), (3, .int v3), (4, .int v4), (5, .int v5)]) [0, 1, 2, 3, 4, 5] rfl ?_
      exact hx (v5, v6) h
    · replace h := if_e c h
      refine g_iload 84 C 5 dX11_late_84 rfl ?_
      refine g_iload 86 C 4 dX11_late_86 rfl ?_
      refine g_iload 88 C 6 dX11_late_88 rfl ?_
      obtain ⟨q13, e14, h⟩ := bi_e h
      refine g_callSi 90 C (As := [.int v4, .int v6]) [] [0, 1, 2, 3, 4, 5, 6, 7, 8, 9] [0, 1, 2, 3, 4, 5, 6, 7, 8, 9] (W_X11_late k h_t h_t_dues h_t_w h_t_firsts h_t_sizes h_t_worths h_t_sums h_t_paidOn h_t_fixed h_t_lates h_t_tape h_t_readWorths h_t_worthOf h_t_lies h_t_pairs h_t_row h_t_hands h_t_lanes h_t_longs h_t_items h_t_hand h_t_used s_isKept s_taped s_pieces s_at s_readMany s_readKind s_readCut s_rowSet s_bestSet s_dues s_w s_firsts s_sizes s_worths s_sums s_paidOn s_fixed s_lates) (fun sz => k_X11_has v4 v6 q13 e14 sz) gX11_late_X11_has rfl pd_X11_has rfl ⟨rfl, rfl, Nat.le_of_ble_eq_true rfl, Nat.le_of_ble_eq_true rfl⟩ (Nat.le_of_ble_eq_true rfl) ⟨Nat.zero_le _, Nat.zero_le _⟩ ⟨rfl, rfl, rfl, rfl, rfl, by decide, rfl⟩ rfl dX11_late_90 ?_
      refine g_if_eq 93 113 C dX11_late_93 (by decide) (fun c => ?_) (fun c => ?_)
      · replace h := it_e c h
        refine g_iconst 113 C (0 : Int32) dX11_late_113 (by decide) ?_
        refine GG.sub (lv' := [(0, .ref h_t), (1, .int v1), (2, .int v2), (3, .int v3), (4, .int v4), (6, .int v6)]) [0, 1, 2, 3, 4, 6] rfl ?_
        exact ok_B_X11_late_114 C hA hx hr h
      · replace h := if_e c h
        refine g_iconst 96 C (1 : Int32) dX11_late_96 (by decide) ?_
        refine g_aload_n 97 C 0 dX11_late_97 rfl rfl ?_
        refine g_get 98 C in_X11_late_X11 0 0 rfl rfl (by decide) fl_X11_late_7 rfl rfl dX11_late_98 ?_
        refine g_bipush 101 C (26 : Int32) dX11_late_101 (by decide) ?_
        obtain ⟨o15, h⟩ := ob_e h
        refine g_iald 103 C 2 rfl o15 dX11_late_103 ?_
        refine g_iload 104 C 6 dX11_late_104 rfl ?_
        obtain ⟨q16, e17, h⟩ := bi_e h
        refine g_callSi 106 C (As := [.int (s_w (26 : Int32).toNatClampNeg), .int v6]) [] [0, 1, 2, 3, 4, 5, 6, 7, 8, 9] [0, 1, 2, 3, 4, 5, 6, 7, 8, 9] (W_X11_late k h_t h_t_dues h_t_w h_t_firsts h_t_sizes h_t_worths h_t_sums h_t_paidOn h_t_fixed h_t_lates h_t_tape h_t_readWorths h_t_worthOf h_t_lies h_t_pairs h_t_row h_t_hands h_t_lanes h_t_longs h_t_items h_t_hand h_t_used s_isKept s_taped s_pieces s_at s_readMany s_readKind s_readCut s_rowSet s_bestSet s_dues s_w s_firsts s_sizes s_worths s_sums s_paidOn s_fixed s_lates) (fun sz => k_X11_atOf (s_w (26 : Int32).toNatClampNeg) v6 q16 e17 sz) gX11_late_X11_atOf rfl pd_X11_atOf rfl ⟨rfl, rfl, Nat.le_of_ble_eq_true rfl, Nat.le_of_ble_eq_true rfl⟩ (Nat.le_of_ble_eq_true rfl) ⟨Nat.zero_le _, Nat.zero_le _⟩ ⟨rfl, rfl, rfl, rfl, rfl, by decide, rfl⟩ rfl dX11_late_106 ?_
        refine g_ishl 109 C dX11_late_109 ?_
        refine g_goto 110 114 C dX11_late_110 (by decide) ?_
        refine GG.sub (lv' := [(0, .ref h_t), (1, .int v1), (2, .int v2), (3, .int v3), (4, .int v4), (6, .int v6)]) [0, 1, 2, 3, 4, 6] rfl ?_
        exact ok_B_X11_late_114 C hA hx hr h
set_option maxHeartbeats 4000000 in
set_option maxRecDepth 100000 in
theorem ok_B_X11_late_180 {h_t : Nat} {h_t_dues : Nat} {h_t_w : Nat} {h_t_firsts : Nat} {h_t_sizes : Nat} {h_t_worths : Nat} {h_t_sums : Nat} {h_t_paidOn : Nat} {h_t_fixed : Nat} {h_t_lates : Nat} {h_t_tape : Nat} {h_t_readWorths : Nat} {h_t_worthOf : Nat} {h_t_lies : Nat} {h_t_pairs : Nat} {h_t_row : Nat} {h_t_hands : Nat} {h_t_lanes : Nat} {h_t_longs : Nat} {h_t_items : Nat} {h_t_hand : Nat} {h_t_used : Nat} {s_isKept : Int32} {s_taped : Int32} {s_pieces : Int32} {s_at : Int32} {s_readMany : Int32} {s_readKind : Int32} {s_readCut : Int32} {s_rowSet : Int32} {s_bestSet : Int32} {s_dues : Nat → Int32} {s_w : Nat → Int32} {s_firsts : Nat → Int32} {s_sizes : Nat → Int32} {s_worths : Nat → Int32} {s_sums : Nat → Int64} {s_paidOn : Nat → Int64} {s_fixed : Nat → Int32} {s_lates : Nat → Int32} {v1 : Int32} {v2 : Int32} {v3 : Int32} {v4 : Int32} {v6 : Int32} {x0 : Int64} {x1 : Int64} {x2 : Int32} {res : Int32 × Int32 × (Nat → Int32) × (Nat → Int32) × (Nat → Int32) × (Nat → Int32) × (Nat → Int64) × (Nat → Int64) × (Nat → Int32) × (Nat → Int32)} {kx rec : Int32 × (Nat → Int64) → Option (Int32 × Int32 × (Nat → Int32) × (Nat → Int32) × (Nat → Int32) × (Nat → Int32) × (Nat → Int64) × (Nat → Int64) × (Nat → Int32) × (Nat → Int32))} (C : CX p s m args meth c cX11_late wsX11_late RX11 7 D k A (some .int)) (hA : A = va_A w0 sz) (hx : ∀ t : Int32 × (Nat → Int64), kx t = some res → GG p l e rm_X11_late s m args below meth c (MQ below (cQi D w0 sz res.1 (W_X11_late k h_t h_t_dues h_t_w h_t_firsts h_t_sizes h_t_worths h_t_sums h_t_paidOn h_t_fixed h_t_lates h_t_tape h_t_readWorths h_t_worthOf h_t_lies h_t_pairs h_t_row h_t_hands h_t_lanes h_t_longs h_t_items h_t_hand h_t_used s_isKept s_taped res.2.1 s_at s_readMany s_readKind s_readCut s_rowSet s_bestSet res.2.2.1 s_w res.2.2.2.1 res.2.2.2.2.1 res.2.2.2.2.2.1 res.2.2.2.2.2.2.1 res.2.2.2.2.2.2.2.1 res.2.2.2.2.2.2.2.2.1 res.2.2.2.2.2.2.2.2.2)) args s 0 0 A) D A 7 0 0 188 [(0, .ref h_t), (1, .int v1), (2, .int v2), (3, .int v3), (4, .int v4)] [] (W_X11_late k h_t h_t_dues h_t_w h_t_firsts h_t_sizes h_t_worths h_t_sums h_t_paidOn h_t_fixed h_t_lates h_t_tape h_t_readWorths h_t_worthOf h_t_lies h_t_pairs h_t_row h_t_hands h_t_lanes h_t_longs h_t_items h_t_hand h_t_used s_isKept s_taped s_pieces s_at s_readMany s_readKind s_readCut s_rowSet s_bestSet s_dues s_w s_firsts s_sizes s_worths s_sums t.2 s_fixed s_lates)) (hr : ∀ t : Int32 × (Nat → Int64), rec t = some res → GG p l e rm_X11_late s m args below meth c (MQ below (cQi D w0 sz res.1 (W_X11_late k h_t h_t_dues h_t_w h_t_firsts h_t_sizes h_t_worths h_t_sums h_t_paidOn h_t_fixed h_t_lates h_t_tape h_t_readWorths h_t_worthOf h_t_lies h_t_pairs h_t_row h_t_hands h_t_lanes h_t_longs h_t_items h_t_hand h_t_used s_isKept s_taped res.2.1 s_at s_readMany s_readKind s_readCut s_rowSet s_bestSet res.2.2.1 s_w res.2.2.2.1 res.2.2.2.2.1 res.2.2.2.2.2.1 res.2.2.2.2.2.2.1 res.2.2.2.2.2.2.2.1 res.2.2.2.2.2.2.2.2.1 res.2.2.2.2.2.2.2.2.2)) args s 0 0 A) D A 7 0 0 144 [(0, .ref h_t), (1, .int v1), (2, .int v2), (3, .int v3), (4, .int v4), (6, .int t.1)] [] (W_X11_late k h_t h_t_dues h_t_w h_t_firsts h_t_sizes h_t_worths h_t_sums h_t_paidOn h_t_fixed h_t_lates h_t_tape h_t_readWorths h_t_worthOf h_t_lies h_t_pairs h_t_row h_t_hands h_t_lanes h_t_longs h_t_items h_t_hand h_t_used s_isKept s_taped s_pieces s_at s_readMany s_readKind s_readCut s_rowSet s_bestSet s_dues s_w s_firsts s_sizes s_worths s_sums t.2 s_fixed s_lates))  (h : B_X11_late_180 kx rec s_paidOn v6 x0 x1 x2 = some res) : GG p l e rm_X11_late s m args below meth c (MQ below (cQi D w0 sz res.1 (W_X11_late k h_t h_t_dues h_t_w h_t_firsts h_t_sizes h_t_worths h_t_sums h_t_paidOn h_t_fixed h_t_lates h_t_tape h_t_readWorths h_t_worthOf h_t_lies h_t_pairs h_t_row h_t_hands h_t_lanes h_t_longs h_t_items h_t_hand h_t_used s_isKept s_taped res.2.1 s_at s_readMany s_readKind s_readCut s_rowSet s_bestSet res.2.2.1 s_w res.2.2.2.1 res.2.2.2.2.1 res.2.2.2.2.2.1 res.2.2.2.2.2.2.1 res.2.2.2.2.2.2.2.1 res.2.2.2.2.2.2.2.2.1 res.2.2.2.2.2.2.2.2.2)) args s 0 0 A) D A 7 0 0 180 [(0, .ref h_t), (1, .int v1), (2, .int v2), (3, .int v3), (4, .int v4), (6, .int v6)] [.long x0, .long x1, .int x2, .ref h_t_paidOn] (W_X11_late k h_t h_t_dues h_t_w h_t_firsts h_t_sizes h_t_worths h_t_sums h_t_paidOn h_t_fixed h_t_lates h_t_tape h_t_readWorths h_t_worthOf h_t_lies h_t_pairs h_t_row h_t_hands h_t_lanes h_t_longs h_t_items h_t_hand h_t_used s_isKept s_taped s_pieces s_at s_readMany s_readKind s_readCut s_rowSet s_bestSet s_dues s_w s_firsts s_sizes s_worths s_sums s_paidOn s_fixed s_lates) := by
  unfold B_X11_late_180 at h
  refine g_lor 180 C dX11_late_180 ?_
  obtain ⟨o27, h⟩ := ob_e h
  refine g_last 181 C (W_X11_late k h_t h_t_dues h_t_w h_t_firsts h_t_sizes h_t_worths h_t_sums h_t_paidOn h_t_fixed h_t_lates h_t_tape h_t_readWorths h_t_worthOf h_t_lies h_t_pairs h_t_row h_t_hands h_t_lanes h_t_longs h_t_items h_t_hand h_t_used s_isKept s_taped s_pieces s_at s_readMany s_readKind s_readCut s_rowSet s_bestSet s_dues s_w s_firsts s_sizes s_worths s_sums (vp_updL s_paidOn x2.toNatClampNeg (x1 ||| x0)) s_fixed s_lates) 7 rfl o27 rfl dX11_late_181 ?_
  refine g_iinc 182 C 5 (1 : Int32) [(6, .int (v6 + (1 : Int32))), (0, .ref h_t), (1, .int v1), (2, .int v2), (3, .int v3), (4, .int v4)] dX11_late_182 rfl (by decide) (by decide) rfl ?_
  refine g_goto 185 144 C dX11_late_185 (by decide) ?_
  refine GG.sub (lv' := [(0, .ref h_t), (1, .int v1), (2, .int v2), (3, .int v3), (4, .int v4), (6, .int (v6 + (1 : Int32)))]) [1, 2, 3, 4, 5, 0] rfl ?_
  exact hr ((v6 + (1 : Int32)), (vp_updL s_paidOn x2.toNatClampNeg (x1 ||| x0))) h
set_option maxHeartbeats 4000000 in
set_option maxRecDepth 100000 in
theorem ok_L_X11_late_144 {h_t : Nat} {h_t_dues : Nat} {h_t_w : Nat} {h_t_firsts : Nat} {h_t_sizes : Nat} {h_t_worths : Nat} {h_t_sums : Nat} {h_t_paidOn : Nat} {h_t_fixed : Nat} {h_t_lates : Nat} {h_t_tape : Nat} {h_t_readWorths : Nat} {h_t_worthOf : Nat} {h_t_lies : Nat} {h_t_pairs : Nat} {h_t_row : Nat} {h_t_hands : Nat} {h_t_lanes : Nat} {h_t_longs : Nat} {h_t_items : Nat} {h_t_hand : Nat} {h_t_used : Nat} {s_isKept : Int32} {s_taped : Int32} {s_pieces : Int32} {s_at : Int32} {s_readMany : Int32} {s_readKind : Int32} {s_readCut : Int32} {s_rowSet : Int32} {s_bestSet : Int32} {s_dues : Nat → Int32} {s_w : Nat → Int32} {s_firsts : Nat → Int32} {s_sizes : Nat → Int32} {s_worths : Nat → Int32} {s_sums : Nat → Int64} {s_fixed : Nat → Int32} {s_lates : Nat → Int32} {v1 : Int32} {v2 : Int32} {v3 : Int32} {v4 : Int32} {res : Int32 × Int32 × (Nat → Int32) × (Nat → Int32) × (Nat → Int32) × (Nat → Int32) × (Nat → Int64) × (Nat → Int64) × (Nat → Int32) × (Nat → Int32)} (C : CX p s m args meth c cX11_late wsX11_late RX11 7 D k A (some .int)) (hA : A = va_A w0 sz) {kx : Int32 × (Nat → Int64) → Option (Int32 × Int32 × (Nat → Int32) × (Nat → Int32) × (Nat → Int32) × (Nat → Int32) × (Nat → Int64) × (Nat → Int64) × (Nat → Int32) × (Nat → Int32))} (hx : ∀ t : Int32 × (Nat → Int64), kx t = some res → GG p l e rm_X11_late s m args below meth c (MQ below (cQi D w0 sz res.1 (W_X11_late k h_t h_t_dues h_t_w h_t_firsts h_t_sizes h_t_worths h_t_sums h_t_paidOn h_t_fixed h_t_lates h_t_tape h_t_readWorths h_t_worthOf h_t_lies h_t_pairs h_t_row h_t_hands h_t_lanes h_t_longs h_t_items h_t_hand h_t_used s_isKept s_taped res.2.1 s_at s_readMany s_readKind s_readCut s_rowSet s_bestSet res.2.2.1 s_w res.2.2.2.1 res.2.2.2.2.1 res.2.2.2.2.2.1 res.2.2.2.2.2.2.1 res.2.2.2.2.2.2.2.1 res.2.2.2.2.2.2.2.2.1 res.2.2.2.2.2.2.2.2.2)) args s 0 0 A) D A 7 0 0 188 [(0, .ref h_t), (1, .int v1), (2, .int v2), (3, .int v3), (4, .int v4)] [] (W_X11_late k h_t h_t_dues h_t_w h_t_firsts h_t_sizes h_t_worths h_t_sums h_t_paidOn h_t_fixed h_t_lates h_t_tape h_t_readWorths h_t_worthOf h_t_lies h_t_pairs h_t_row h_t_hands h_t_lanes h_t_longs h_t_items h_t_hand h_t_used s_isKept s_taped s_pieces s_at s_readMany s_readKind s_readCut s_rowSet s_bestSet s_dues s_w s_firsts s_sizes s_worths s_sums t.2 s_fixed s_lates)) : ∀ (n : Nat) (t : Int32 × (Nat → Int64)), L_X11_late_144 s_dues s_sums v1 v4 kx n t = some res → GG p l e rm_X11_late s m args below meth c (MQ below (cQi D w0 sz res.1 (W_X11_late k h_t h_t_dues h_t_w h_t_firsts h_t_sizes h_t_worths h_t_sums h_t_paidOn h_t_fixed h_t_lates h_t_tape h_t_readWorths h_t_worthOf h_t_lies h_t_pairs h_t_row h_t_hands h_t_lanes h_t_longs h_t_items h_t_hand h_t_used s_isKept s_taped res.2.1 s_at s_readMany s_readKind s_readCut s_rowSet s_bestSet res.2.2.1 s_w res.2.2.2.1 res.2.2.2.2.1 res.2.2.2.2.2.1 res.2.2.2.2.2.2.1 res.2.2.2.2.2.2.2.1 res.2.2.2.2.2.2.2.2.1 res.2.2.2.2.2.2.2.2.2)) args s 0 0 A) D A 7 0 0 144 [(0, .ref h_t), (1, .int v1), (2, .int v2), (3, .int v3), (4, .int v4), (6, .int t.1)] [] (W_X11_late k h_t h_t_dues h_t_w h_t_firsts h_t_sizes h_t_worths h_t_sums h_t_paidOn h_t_fixed h_t_lates h_t_tape h_t_readWorths h_t_worthOf h_t_lies h_t_pairs h_t_row h_t_hands h_t_lanes h_t_longs h_t_items h_t_hand h_t_used s_isKept s_taped s_pieces s_at s_readMany s_readKind s_readCut s_rowSet s_bestSet s_dues s_w s_firsts s_sizes s_worths s_sums t.2 s_fixed s_lates) := by
  intro n
  induction n with
  | zero => intro t h; cases h
  | succ n ih =>
    intro t h
    obtain ⟨v6, s_paidOn⟩ := t
    replace h : LB_X11_late_144 s_dues s_sums v1 v4 kx (L_X11_late_144 s_dues s_sums v1 v4 kx n) v6 s_paidOn = some res := h
    have hr := ih
    unfold LB_X11_late_144 at h
    refine g_iload 144 C 5 dX11_late_144 rfl ?_
    refine g_iload_n 146 C 1 dX11_late_146 rfl rfl ?_
    refine g_icmp_gt 147 188 C dX11_late_147 (by decide) (fun c => ?_) (fun c => ?_)
    · replace h := it_e c h
      refine GG.sub (lv' := [(0, .ref h_t), (1, .int v1), (2, .int v2), (3, .int v3), (4, .int v4)]) [0, 1, 2, 3, 4] rfl ?_
      exact hx (v6, s_paidOn) h
    · replace h := if_e c h
      refine g_aload_n 150 C 0 dX11_late_150 rfl rfl ?_
      refine g_get 151 C in_X11_late_X11 0 22 rfl rfl (by decide) fl_X11_late_53 rfl rfl dX11_late_151 ?_
      refine g_iload 154 C 4 dX11_late_154 rfl ?_
      refine g_dup2 156 C dX11_late_156 rfl rfl ?_
      obtain ⟨o23, h⟩ := ob_e h
      refine g_lald 157 C 7 rfl o23 dX11_late_157 ?_
      refine g_aload_n 158 C 0 dX11_late_158 rfl rfl ?_
      refine g_aload_n 159 C 0 dX11_late_159 rfl rfl ?_
      refine g_get 160 C in_X11_late_X11 0 13 rfl rfl (by decide) fl_X11_late_28 rfl rfl dX11_late_160 ?_
      refine g_iload 163 C 5 dX11_late_163 rfl ?_
      obtain ⟨o24, h⟩ := ob_e h
      refine g_iald 165 C 1 rfl o24 dX11_late_165 ?_
      obtain ⟨q25, e26, h⟩ := bi_e h
      refine g_callVi 166 C (As := [.int (s_dues v6.toNatClampNeg)]) [0, 6] [1, 2, 3, 4, 5, 7, 8, 9] [8, 0, 1, 2, 3, 4, 9, 5, 6, 7] (W_X11_late k h_t h_t_dues h_t_w h_t_firsts h_t_sizes h_t_worths h_t_sums h_t_paidOn h_t_fixed h_t_lates h_t_tape h_t_readWorths h_t_worthOf h_t_lies h_t_pairs h_t_row h_t_hands h_t_lanes h_t_longs h_t_items h_t_hand h_t_used s_isKept s_taped s_pieces s_at s_readMany s_readKind s_readCut s_rowSet s_bestSet s_dues s_w s_firsts s_sizes s_worths s_sums s_paidOn s_fixed s_lates) 0 (fun sz => k_X11_isPaid h_t h_t_sums h_t_w h_t_tape h_t_firsts h_t_sizes h_t_worths h_t_readWorths h_t_dues h_t_worthOf h_t_lies h_t_pairs h_t_row h_t_hands h_t_paidOn h_t_lates h_t_fixed h_t_lanes h_t_longs h_t_items h_t_hand h_t_used s_isKept s_taped s_pieces s_at s_readMany s_readKind s_readCut s_rowSet s_bestSet s_sums (s_dues v6.toNatClampNeg) q25 e26 sz) gX11_late_X11_isPaid rfl pd_X11_isPaid rfl rfl rfl ⟨rfl, rfl, Nat.le_of_ble_eq_true rfl, Nat.le_of_ble_eq_true rfl⟩ (Nat.le_of_ble_eq_true rfl) ⟨Nat.zero_le _, Nat.zero_le _⟩ ⟨rfl, rfl, rfl, rfl, rfl, by decide, rfl⟩ rfl dX11_late_166 ?_
      refine g_if_eq 169 179 C dX11_late_169 (by decide) (fun c => ?_) (fun c => ?_)
      · replace h := it_e c h
        refine g_lconst 179 C (0 : Int64) dX11_late_179 (by decide) ?_
        refine GG.sub (lv' := [(0, .ref h_t), (1, .int v1), (2, .int v2), (3, .int v3), (4, .int v4), (6, .int v6)]) [0, 1, 2, 3, 4, 5] rfl ?_
        exact ok_B_X11_late_180 C hA hx hr h
      · replace h := if_e c h
        refine g_lconst 172 C (1 : Int64) dX11_late_172 (by decide) ?_
        refine g_iload 173 C 5 dX11_late_173 rfl ?_
        refine g_lshl 175 C dX11_late_175 ?_
        refine g_goto 176 180 C dX11_late_176 (by decide) ?_
        refine GG.sub (lv' := [(0, .ref h_t), (1, .int v1), (2, .int v2), (3, .int v3), (4, .int v4), (6, .int v6)]) [0, 1, 2, 3, 4, 5] rfl ?_
        exact ok_B_X11_late_180 C hA hx hr h
set_option maxHeartbeats 4000000 in
set_option maxRecDepth 100000 in
theorem ok_B_X11_late_188 {h_t : Nat} {h_t_dues : Nat} {h_t_w : Nat} {h_t_firsts : Nat} {h_t_sizes : Nat} {h_t_worths : Nat} {h_t_sums : Nat} {h_t_paidOn : Nat} {h_t_fixed : Nat} {h_t_lates : Nat} {h_t_tape : Nat} {h_t_readWorths : Nat} {h_t_worthOf : Nat} {h_t_lies : Nat} {h_t_pairs : Nat} {h_t_row : Nat} {h_t_hands : Nat} {h_t_lanes : Nat} {h_t_longs : Nat} {h_t_items : Nat} {h_t_hand : Nat} {h_t_used : Nat} {s_isKept : Int32} {s_taped : Int32} {s_pieces : Int32} {s_at : Int32} {s_readMany : Int32} {s_readKind : Int32} {s_readCut : Int32} {s_rowSet : Int32} {s_bestSet : Int32} {s_dues : Nat → Int32} {s_w : Nat → Int32} {s_firsts : Nat → Int32} {s_sizes : Nat → Int32} {s_worths : Nat → Int32} {s_sums : Nat → Int64} {s_paidOn : Nat → Int64} {s_fixed : Nat → Int32} {s_lates : Nat → Int32} {v1 : Int32} {v2 : Int32} {v3 : Int32} {v4 : Int32} {res : Int32 × Int32 × (Nat → Int32) × (Nat → Int32) × (Nat → Int32) × (Nat → Int32) × (Nat → Int64) × (Nat → Int64) × (Nat → Int32) × (Nat → Int32)} {kx rec : Int32 × Int32 × (Nat → Int32) × (Nat → Int32) × (Nat → Int32) × (Nat → Int64) × (Nat → Int64) → Option (Int32 × Int32 × (Nat → Int32) × (Nat → Int32) × (Nat → Int32) × (Nat → Int32) × (Nat → Int64) × (Nat → Int64) × (Nat → Int32) × (Nat → Int32))} (C : CX p s m args meth c cX11_late wsX11_late RX11 7 D k A (some .int)) (hA : A = va_A w0 sz) (hx : ∀ t : Int32 × Int32 × (Nat → Int32) × (Nat → Int32) × (Nat → Int32) × (Nat → Int64) × (Nat → Int64), kx t = some res → GG p l e rm_X11_late s m args below meth c (MQ below (cQi D w0 sz res.1 (W_X11_late k h_t h_t_dues h_t_w h_t_firsts h_t_sizes h_t_worths h_t_sums h_t_paidOn h_t_fixed h_t_lates h_t_tape h_t_readWorths h_t_worthOf h_t_lies h_t_pairs h_t_row h_t_hands h_t_lanes h_t_longs h_t_items h_t_hand h_t_used s_isKept s_taped res.2.1 s_at s_readMany s_readKind s_readCut s_rowSet s_bestSet res.2.2.1 s_w res.2.2.2.1 res.2.2.2.2.1 res.2.2.2.2.2.1 res.2.2.2.2.2.2.1 res.2.2.2.2.2.2.2.1 res.2.2.2.2.2.2.2.2.1 res.2.2.2.2.2.2.2.2.2)) args s 0 0 A) D A 7 0 0 194 [(0, .ref h_t), (1, .int v1), (2, .int v2), (3, .int v3)] [] (W_X11_late k h_t h_t_dues h_t_w h_t_firsts h_t_sizes h_t_worths h_t_sums h_t_paidOn h_t_fixed h_t_lates h_t_tape h_t_readWorths h_t_worthOf h_t_lies h_t_pairs h_t_row h_t_hands h_t_lanes h_t_longs h_t_items h_t_hand h_t_used s_isKept s_taped t.2.1 s_at s_readMany s_readKind s_readCut s_rowSet s_bestSet s_dues s_w t.2.2.1 t.2.2.2.1 t.2.2.2.2.1 t.2.2.2.2.2.1 t.2.2.2.2.2.2 s_fixed s_lates)) (hr : ∀ t : Int32 × Int32 × (Nat → Int32) × (Nat → Int32) × (Nat → Int32) × (Nat → Int64) × (Nat → Int64), rec t = some res → GG p l e rm_X11_late s m args below meth c (MQ below (cQi D w0 sz res.1 (W_X11_late k h_t h_t_dues h_t_w h_t_firsts h_t_sizes h_t_worths h_t_sums h_t_paidOn h_t_fixed h_t_lates h_t_tape h_t_readWorths h_t_worthOf h_t_lies h_t_pairs h_t_row h_t_hands h_t_lanes h_t_longs h_t_items h_t_hand h_t_used s_isKept s_taped res.2.1 s_at s_readMany s_readKind s_readCut s_rowSet s_bestSet res.2.2.1 s_w res.2.2.2.1 res.2.2.2.2.1 res.2.2.2.2.2.1 res.2.2.2.2.2.2.1 res.2.2.2.2.2.2.2.1 res.2.2.2.2.2.2.2.2.1 res.2.2.2.2.2.2.2.2.2)) args s 0 0 A) D A 7 0 0 64 [(0, .ref h_t), (1, .int v1), (2, .int v2), (3, .int v3), (4, .int t.1)] [] (W_X11_late k h_t h_t_dues h_t_w h_t_firsts h_t_sizes h_t_worths h_t_sums h_t_paidOn h_t_fixed h_t_lates h_t_tape h_t_readWorths h_t_worthOf h_t_lies h_t_pairs h_t_row h_t_hands h_t_lanes h_t_longs h_t_items h_t_hand h_t_used s_isKept s_taped t.2.1 s_at s_readMany s_readKind s_readCut s_rowSet s_bestSet s_dues s_w t.2.2.1 t.2.2.2.1 t.2.2.2.2.1 t.2.2.2.2.2.1 t.2.2.2.2.2.2 s_fixed s_lates))  (h : B_X11_late_188 kx rec s_pieces s_firsts s_sizes s_worths s_sums s_paidOn v4 = some res) : GG p l e rm_X11_late s m args below meth c (MQ below (cQi D w0 sz res.1 (W_X11_late k h_t h_t_dues h_t_w h_t_firsts h_t_sizes h_t_worths h_t_sums h_t_paidOn h_t_fixed h_t_lates h_t_tape h_t_readWorths h_t_worthOf h_t_lies h_t_pairs h_t_row h_t_hands h_t_lanes h_t_longs h_t_items h_t_hand h_t_used s_isKept s_taped res.2.1 s_at s_readMany s_readKind s_readCut s_rowSet s_bestSet res.2.2.1 s_w res.2.2.2.1 res.2.2.2.2.1 res.2.2.2.2.2.1 res.2.2.2.2.2.2.1 res.2.2.2.2.2.2.2.1 res.2.2.2.2.2.2.2.2.1 res.2.2.2.2.2.2.2.2.2)) args s 0 0 A) D A 7 0 0 188 [(0, .ref h_t), (1, .int v1), (2, .int v2), (3, .int v3), (4, .int v4)] [] (W_X11_late k h_t h_t_dues h_t_w h_t_firsts h_t_sizes h_t_worths h_t_sums h_t_paidOn h_t_fixed h_t_lates h_t_tape h_t_readWorths h_t_worthOf h_t_lies h_t_pairs h_t_row h_t_hands h_t_lanes h_t_longs h_t_items h_t_hand h_t_used s_isKept s_taped s_pieces s_at s_readMany s_readKind s_readCut s_rowSet s_bestSet s_dues s_w s_firsts s_sizes s_worths s_sums s_paidOn s_fixed s_lates) := by
  unfold B_X11_late_188 at h
  refine g_iinc 188 C 4 (1 : Int32) [(4, .int (v4 + (1 : Int32))), (0, .ref h_t), (1, .int v1), (2, .int v2), (3, .int v3)] dX11_late_188 rfl (by decide) (by decide) rfl ?_
  refine g_goto 191 64 C dX11_late_191 (by decide) ?_
  refine GG.sub (lv' := [(0, .ref h_t), (1, .int v1), (2, .int v2), (3, .int v3), (4, .int (v4 + (1 : Int32)))]) [1, 2, 3, 4, 0] rfl ?_
  exact hr ((v4 + (1 : Int32)), s_pieces, s_firsts, s_sizes, s_worths, s_sums, s_paidOn) h
set_option maxHeartbeats 4000000 in
set_option maxRecDepth 100000 in
theorem ok_B_X11_late_123 {h_t : Nat} {h_t_dues : Nat} {h_t_w : Nat} {h_t_firsts : Nat} {h_t_sizes : Nat} {h_t_worths : Nat} {h_t_sums : Nat} {h_t_paidOn : Nat} {h_t_fixed : Nat} {h_t_lates : Nat} {h_t_tape : Nat} {h_t_readWorths : Nat} {h_t_worthOf : Nat} {h_t_lies : Nat} {h_t_pairs : Nat} {h_t_row : Nat} {h_t_hands : Nat} {h_t_lanes : Nat} {h_t_longs : Nat} {h_t_items : Nat} {h_t_hand : Nat} {h_t_used : Nat} {s_isKept : Int32} {s_taped : Int32} {s_pieces : Int32} {s_at : Int32} {s_readMany : Int32} {s_readKind : Int32} {s_readCut : Int32} {s_rowSet : Int32} {s_bestSet : Int32} {s_dues : Nat → Int32} {s_w : Nat → Int32} {s_firsts : Nat → Int32} {s_sizes : Nat → Int32} {s_worths : Nat → Int32} {s_sums : Nat → Int64} {s_paidOn : Nat → Int64} {s_fixed : Nat → Int32} {s_lates : Nat → Int32} {v1 : Int32} {v2 : Int32} {v3 : Int32} {v4 : Int32} {v5 : Int32} {res : Int32 × Int32 × (Nat → Int32) × (Nat → Int32) × (Nat → Int32) × (Nat → Int32) × (Nat → Int64) × (Nat → Int64) × (Nat → Int32) × (Nat → Int32)} {kx rec : Int32 × Int32 × (Nat → Int32) × (Nat → Int32) × (Nat → Int32) × (Nat → Int64) × (Nat → Int64) → Option (Int32 × Int32 × (Nat → Int32) × (Nat → Int32) × (Nat → Int32) × (Nat → Int32) × (Nat → Int64) × (Nat → Int64) × (Nat → Int32) × (Nat → Int32))} (C : CX p s m args meth c cX11_late wsX11_late RX11 7 D k A (some .int)) (hA : A = va_A w0 sz) (hx : ∀ t : Int32 × Int32 × (Nat → Int32) × (Nat → Int32) × (Nat → Int32) × (Nat → Int64) × (Nat → Int64), kx t = some res → GG p l e rm_X11_late s m args below meth c (MQ below (cQi D w0 sz res.1 (W_X11_late k h_t h_t_dues h_t_w h_t_firsts h_t_sizes h_t_worths h_t_sums h_t_paidOn h_t_fixed h_t_lates h_t_tape h_t_readWorths h_t_worthOf h_t_lies h_t_pairs h_t_row h_t_hands h_t_lanes h_t_longs h_t_items h_t_hand h_t_used s_isKept s_taped res.2.1 s_at s_readMany s_readKind s_readCut s_rowSet s_bestSet res.2.2.1 s_w res.2.2.2.1 res.2.2.2.2.1 res.2.2.2.2.2.1 res.2.2.2.2.2.2.1 res.2.2.2.2.2.2.2.1 res.2.2.2.2.2.2.2.2.1 res.2.2.2.2.2.2.2.2.2)) args s 0 0 A) D A 7 0 0 194 [(0, .ref h_t), (1, .int v1), (2, .int v2), (3, .int v3)] [] (W_X11_late k h_t h_t_dues h_t_w h_t_firsts h_t_sizes h_t_worths h_t_sums h_t_paidOn h_t_fixed h_t_lates h_t_tape h_t_readWorths h_t_worthOf h_t_lies h_t_pairs h_t_row h_t_hands h_t_lanes h_t_longs h_t_items h_t_hand h_t_used s_isKept s_taped t.2.1 s_at s_readMany s_readKind s_readCut s_rowSet s_bestSet s_dues s_w t.2.2.1 t.2.2.2.1 t.2.2.2.2.1 t.2.2.2.2.2.1 t.2.2.2.2.2.2 s_fixed s_lates)) (hr : ∀ t : Int32 × Int32 × (Nat → Int32) × (Nat → Int32) × (Nat → Int32) × (Nat → Int64) × (Nat → Int64), rec t = some res → GG p l e rm_X11_late s m args below meth c (MQ below (cQi D w0 sz res.1 (W_X11_late k h_t h_t_dues h_t_w h_t_firsts h_t_sizes h_t_worths h_t_sums h_t_paidOn h_t_fixed h_t_lates h_t_tape h_t_readWorths h_t_worthOf h_t_lies h_t_pairs h_t_row h_t_hands h_t_lanes h_t_longs h_t_items h_t_hand h_t_used s_isKept s_taped res.2.1 s_at s_readMany s_readKind s_readCut s_rowSet s_bestSet res.2.2.1 s_w res.2.2.2.1 res.2.2.2.2.1 res.2.2.2.2.2.1 res.2.2.2.2.2.2.1 res.2.2.2.2.2.2.2.1 res.2.2.2.2.2.2.2.2.1 res.2.2.2.2.2.2.2.2.2)) args s 0 0 A) D A 7 0 0 64 [(0, .ref h_t), (1, .int v1), (2, .int v2), (3, .int v3), (4, .int t.1)] [] (W_X11_late k h_t h_t_dues h_t_w h_t_firsts h_t_sizes h_t_worths h_t_sums h_t_paidOn h_t_fixed h_t_lates h_t_tape h_t_readWorths h_t_worthOf h_t_lies h_t_pairs h_t_row h_t_hands h_t_lanes h_t_longs h_t_items h_t_hand h_t_used s_isKept s_taped t.2.1 s_at s_readMany s_readKind s_readCut s_rowSet s_bestSet s_dues s_w t.2.2.1 t.2.2.2.1 t.2.2.2.2.1 t.2.2.2.2.2.1 t.2.2.2.2.2.2 s_fixed s_lates))  (h : B_X11_late_123 kx rec s_dues s_w s_firsts s_sizes s_worths s_sums s_paidOn v1 v4 v5 = some res) : GG p l e rm_X11_late s m args below meth c (MQ below (cQi D w0 sz res.1 (W_X11_late k h_t h_t_dues h_t_w h_t_firsts h_t_sizes h_t_worths h_t_sums h_t_paidOn h_t_fixed h_t_lates h_t_tape h_t_readWorths h_t_worthOf h_t_lies h_t_pairs h_t_row h_t_hands h_t_lanes h_t_longs h_t_items h_t_hand h_t_used s_isKept s_taped res.2.1 s_at s_readMany s_readKind s_readCut s_rowSet s_bestSet res.2.2.1 s_w res.2.2.2.1 res.2.2.2.2.1 res.2.2.2.2.2.1 res.2.2.2.2.2.2.1 res.2.2.2.2.2.2.2.1 res.2.2.2.2.2.2.2.2.1 res.2.2.2.2.2.2.2.2.2)) args s 0 0 A) D A 7 0 0 123 [(0, .ref h_t), (1, .int v1), (2, .int v2), (3, .int v3), (4, .int v4), (5, .int v5)] [] (W_X11_late k h_t h_t_dues h_t_w h_t_firsts h_t_sizes h_t_worths h_t_sums h_t_paidOn h_t_fixed h_t_lates h_t_tape h_t_readWorths h_t_worthOf h_t_lies h_t_pairs h_t_row h_t_hands h_t_lanes h_t_longs h_t_items h_t_hand h_t_used s_isKept s_taped s_pieces s_at s_readMany s_readKind s_readCut s_rowSet s_bestSet s_dues s_w s_firsts s_sizes s_worths s_sums s_paidOn s_fixed s_lates) := by
  unfold B_X11_late_123 at h
  refine g_aload_n 123 C 0 dX11_late_123 rfl rfl ?_
  refine g_iload 124 C 5 dX11_late_124 rfl ?_
  obtain ⟨q18, e19, h⟩ := bi_e h
  refine g_callVv 126 C (As := [.int v5]) [0, 2, 3, 4, 5] [1, 6, 7, 8, 9] [5, 0, 6, 7, 8, 9, 1, 2, 3, 4] (W_X11_late k h_t h_t_dues h_t_w h_t_firsts h_t_sizes h_t_worths h_t_sums h_t_paidOn h_t_fixed h_t_lates h_t_tape h_t_readWorths h_t_worthOf h_t_lies h_t_pairs h_t_row h_t_hands h_t_lanes h_t_longs h_t_items h_t_hand h_t_used s_isKept s_taped q18.1 s_at s_readMany s_readKind s_readCut s_rowSet s_bestSet s_dues s_w q18.2.1 q18.2.2.1 q18.2.2.2 s_sums s_paidOn s_fixed s_lates) 0 (fun sz => k_X11_lay h_t h_t_w h_t_firsts h_t_sizes h_t_worths h_t_tape h_t_readWorths h_t_dues h_t_sums h_t_worthOf h_t_lies h_t_pairs h_t_row h_t_hands h_t_paidOn h_t_lates h_t_fixed h_t_lanes h_t_longs h_t_items h_t_hand h_t_used s_isKept s_taped s_pieces s_at s_readMany s_readKind s_readCut s_rowSet s_bestSet s_w s_firsts s_sizes s_worths v5 q18 e19 sz) gX11_late_X11_lay rfl pd_X11_lay rfl rfl rfl ⟨rfl, rfl, Nat.le_of_ble_eq_true rfl, Nat.le_of_ble_eq_true rfl⟩ (Nat.le_of_ble_eq_true rfl) ⟨Nat.zero_le _, Nat.zero_le _⟩ ⟨rfl, rfl, rfl, rfl, rfl, by decide, rfl⟩ rfl dX11_late_126 ?_
  refine g_aload_n 129 C 0 dX11_late_129 rfl rfl ?_
  obtain ⟨q20, e21, h⟩ := bi_e h
  refine g_callVv 130 C (As := []) [0, 6, 5] [1, 2, 3, 4, 7, 8, 9] [7, 0, 1, 2, 3, 9, 8, 4, 5, 6] (W_X11_late k h_t h_t_dues h_t_w h_t_firsts h_t_sizes h_t_worths h_t_sums h_t_paidOn h_t_fixed h_t_lates h_t_tape h_t_readWorths h_t_worthOf h_t_lies h_t_pairs h_t_row h_t_hands h_t_lanes h_t_longs h_t_items h_t_hand h_t_used s_isKept s_taped q18.1 s_at s_readMany s_readKind s_readCut s_rowSet s_bestSet s_dues s_w q18.2.1 q18.2.2.1 q18.2.2.2 q20 s_paidOn s_fixed s_lates) 0 (fun sz => k_X11_laySums h_t h_t_sums h_t_worths h_t_w h_t_tape h_t_firsts h_t_sizes h_t_readWorths h_t_dues h_t_worthOf h_t_lies h_t_pairs h_t_row h_t_hands h_t_paidOn h_t_lates h_t_fixed h_t_lanes h_t_longs h_t_items h_t_hand h_t_used s_isKept s_taped q18.1 s_at s_readMany s_readKind s_readCut s_rowSet s_bestSet s_sums q18.2.2.2 q20 e21 sz) gX11_late_X11_laySums rfl pd_X11_laySums rfl rfl rfl ⟨rfl, rfl, Nat.le_of_ble_eq_true rfl, Nat.le_of_ble_eq_true rfl⟩ (Nat.le_of_ble_eq_true rfl) ⟨Nat.zero_le _, Nat.zero_le _⟩ ⟨rfl, rfl, rfl, rfl, rfl, by decide, rfl⟩ rfl dX11_late_130 ?_
  refine g_aload_n 133 C 0 dX11_late_133 rfl rfl ?_
  refine g_get 134 C in_X11_late_X11 0 22 rfl rfl (by decide) fl_X11_late_53 rfl rfl dX11_late_134 ?_
  refine g_iload 137 C 4 dX11_late_137 rfl ?_
  refine g_lconst 139 C (0 : Int64) dX11_late_139 (by decide) ?_
  obtain ⟨o22, h⟩ := ob_e h
  refine g_last 140 C (W_X11_late k h_t h_t_dues h_t_w h_t_firsts h_t_sizes h_t_worths h_t_sums h_t_paidOn h_t_fixed h_t_lates h_t_tape h_t_readWorths h_t_worthOf h_t_lies h_t_pairs h_t_row h_t_hands h_t_lanes h_t_longs h_t_items h_t_hand h_t_used s_isKept s_taped q18.1 s_at s_readMany s_readKind s_readCut s_rowSet s_bestSet s_dues s_w q18.2.1 q18.2.2.1 q18.2.2.2 q20 (vp_updL s_paidOn v4.toNatClampNeg (0 : Int64)) s_fixed s_lates) 7 rfl o22 rfl dX11_late_140 ?_
  refine g_iconst 141 C (1 : Int32) dX11_late_141 (by decide) ?_
  refine g_istore 142 C [(6, .int (1 : Int32)), (0, .ref h_t), (1, .int v1), (2, .int v2), (3, .int v3), (4, .int v4), (5, .int v5)] dX11_late_142 (by decide) rfl ?_
  refine GG.sub (lv' := [(0, .ref h_t), (1, .int v1), (2, .int v2), (3, .int v3), (4, .int v4), (6, .int (1 : Int32))]) [1, 2, 3, 4, 5, 0] rfl ?_
  exact ok_L_X11_late_144 C hA (fun t h => by
    refine GG.sub (lv' := [(0, .ref h_t), (1, .int v1), (2, .int v2), (3, .int v3), (4, .int v4)]) [0, 1, 2, 3, 4] rfl ?_
    exact ok_B_X11_late_188 C hA hx hr h) FUEL ((1 : Int32), (vp_updL s_paidOn v4.toNatClampNeg (0 : Int64))) h
set_option maxHeartbeats 4000000 in
set_option maxRecDepth 100000 in
theorem ok_L_X11_late_64 {h_t : Nat} {h_t_dues : Nat} {h_t_w : Nat} {h_t_firsts : Nat} {h_t_sizes : Nat} {h_t_worths : Nat} {h_t_sums : Nat} {h_t_paidOn : Nat} {h_t_fixed : Nat} {h_t_lates : Nat} {h_t_tape : Nat} {h_t_readWorths : Nat} {h_t_worthOf : Nat} {h_t_lies : Nat} {h_t_pairs : Nat} {h_t_row : Nat} {h_t_hands : Nat} {h_t_lanes : Nat} {h_t_longs : Nat} {h_t_items : Nat} {h_t_hand : Nat} {h_t_used : Nat} {s_isKept : Int32} {s_taped : Int32} {s_at : Int32} {s_readMany : Int32} {s_readKind : Int32} {s_readCut : Int32} {s_rowSet : Int32} {s_bestSet : Int32} {s_dues : Nat → Int32} {s_w : Nat → Int32} {s_fixed : Nat → Int32} {s_lates : Nat → Int32} {v1 : Int32} {v2 : Int32} {v3 : Int32} {res : Int32 × Int32 × (Nat → Int32) × (Nat → Int32) × (Nat → Int32) × (Nat → Int32) × (Nat → Int64) × (Nat → Int64) × (Nat → Int32) × (Nat → Int32)} (C : CX p s m args meth c cX11_late wsX11_late RX11 7 D k A (some .int)) (hA : A = va_A w0 sz) {kx : Int32 × Int32 × (Nat → Int32) × (Nat → Int32) × (Nat → Int32) × (Nat → Int64) × (Nat → Int64) → Option (Int32 × Int32 × (Nat → Int32) × (Nat → Int32) × (Nat → Int32) × (Nat → Int32) × (Nat → Int64) × (Nat → Int64) × (Nat → Int32) × (Nat → Int32))} (hx : ∀ t : Int32 × Int32 × (Nat → Int32) × (Nat → Int32) × (Nat → Int32) × (Nat → Int64) × (Nat → Int64), kx t = some res → GG p l e rm_X11_late s m args below meth c (MQ below (cQi D w0 sz res.1 (W_X11_late k h_t h_t_dues h_t_w h_t_firsts h_t_sizes h_t_worths h_t_sums h_t_paidOn h_t_fixed h_t_lates h_t_tape h_t_readWorths h_t_worthOf h_t_lies h_t_pairs h_t_row h_t_hands h_t_lanes h_t_longs h_t_items h_t_hand h_t_used s_isKept s_taped res.2.1 s_at s_readMany s_readKind s_readCut s_rowSet s_bestSet res.2.2.1 s_w res.2.2.2.1 res.2.2.2.2.1 res.2.2.2.2.2.1 res.2.2.2.2.2.2.1 res.2.2.2.2.2.2.2.1 res.2.2.2.2.2.2.2.2.1 res.2.2.2.2.2.2.2.2.2)) args s 0 0 A) D A 7 0 0 194 [(0, .ref h_t), (1, .int v1), (2, .int v2), (3, .int v3)] [] (W_X11_late k h_t h_t_dues h_t_w h_t_firsts h_t_sizes h_t_worths h_t_sums h_t_paidOn h_t_fixed h_t_lates h_t_tape h_t_readWorths h_t_worthOf h_t_lies h_t_pairs h_t_row h_t_hands h_t_lanes h_t_longs h_t_items h_t_hand h_t_used s_isKept s_taped t.2.1 s_at s_readMany s_readKind s_readCut s_rowSet s_bestSet s_dues s_w t.2.2.1 t.2.2.2.1 t.2.2.2.2.1 t.2.2.2.2.2.1 t.2.2.2.2.2.2 s_fixed s_lates)) : ∀ (n : Nat) (t : Int32 × Int32 × (Nat → Int32) × (Nat → Int32) × (Nat → Int32) × (Nat → Int64) × (Nat → Int64)), L_X11_late_64 s_dues s_w v1 v3 kx n t = some res → GG p l e rm_X11_late s m args below meth c (MQ below (cQi D w0 sz res.1 (W_X11_late k h_t h_t_dues h_t_w h_t_firsts h_t_sizes h_t_worths h_t_sums h_t_paidOn h_t_fixed h_t_lates h_t_tape h_t_readWorths h_t_worthOf h_t_lies h_t_pairs h_t_row h_t_hands h_t_lanes h_t_longs h_t_items h_t_hand h_t_used s_isKept s_taped res.2.1 s_at s_readMany s_readKind s_readCut s_rowSet s_bestSet res.2.2.1 s_w res.2.2.2.1 res.2.2.2.2.1 res.2.2.2.2.2.1 res.2.2.2.2.2.2.1 res.2.2.2.2.2.2.2.1 res.2.2.2.2.2.2.2.2.1 res.2.2.2.2.2.2.2.2.2)) args s 0 0 A) D A 7 0 0 64 [(0, .ref h_t), (1, .int v1), (2, .int v2), (3, .int v3), (4, .int t.1)] [] (W_X11_late k h_t h_t_dues h_t_w h_t_firsts h_t_sizes h_t_worths h_t_sums h_t_paidOn h_t_fixed h_t_lates h_t_tape h_t_readWorths h_t_worthOf h_t_lies h_t_pairs h_t_row h_t_hands h_t_lanes h_t_longs h_t_items h_t_hand h_t_used s_isKept s_taped t.2.1 s_at s_readMany s_readKind s_readCut s_rowSet s_bestSet s_dues s_w t.2.2.1 t.2.2.2.1 t.2.2.2.2.1 t.2.2.2.2.2.1 t.2.2.2.2.2.2 s_fixed s_lates) := by
  intro n
  induction n with
  | zero => intro t h; cases h
  | succ n ih =>
    intro t h
    obtain ⟨v4, s_pieces, s_firsts, s_sizes, s_worths, s_sums, s_paidOn⟩ := t
    replace h : LB_X11_late_64 s_dues s_w v1 v3 kx (L_X11_late_64 s_dues s_w v1 v3 kx n) v4 s_pieces s_firsts s_sizes s_worths s_sums s_paidOn = some res := h
    have hr := ih
    unfold LB_X11_late_64 at h
    refine g_iload 64 C 4 dX11_late_64 rfl ?_
    refine g_iconst 66 C (1 : Int32) dX11_late_66 (by decide) ?_
    refine g_iload_n 67 C 3 dX11_late_67 rfl rfl ?_
    refine g_ishl 68 C dX11_late_68 ?_
    refine g_icmp_ge 69 194 C dX11_late_69 (by decide) (fun c => ?_) (fun c => ?_)
    · replace h := it_e c h
      refine GG.sub (lv' := [(0, .ref h_t), (1, .int v1), (2, .int v2), (3, .int v3)]) [0, 1, 2, 3] rfl ?_
      exact hx (v4, s_pieces, s_firsts, s_sizes, s_worths, s_sums, s_paidOn) h
    · replace h := if_e c h
      refine g_iconst 72 C (0 : Int32) dX11_late_72 (by decide) ?_
      refine g_istore 73 C [(5, .int (0 : Int32)), (0, .ref h_t), (1, .int v1), (2, .int v2), (3, .int v3), (4, .int v4)] dX11_late_73 (by decide) rfl ?_
      refine g_iconst 75 C (0 : Int32) dX11_late_75 (by decide) ?_
      refine g_istore 76 C [(6, .int (0 : Int32)), (5, .int (0 : Int32)), (0, .ref h_t), (1, .int v1), (2, .int v2), (3, .int v3), (4, .int v4)] dX11_late_76 (by decide) rfl ?_
      refine GG.sub (lv' := [(0, .ref h_t), (1, .int v1), (2, .int v2), (3, .int v3), (4, .int v4), (5, .int (0 : Int32)), (6, .int (0 : Int32))]) [2, 3, 4, 5, 6, 1, 0] rfl ?_
      exact ok_L_X11_late_78 C hA (fun t h => by
        refine GG.sub (lv' := [(0, .ref h_t), (1, .int v1), (2, .int v2), (3, .int v3), (4, .int v4), (5, .int t.1)]) [0, 1, 2, 3, 4, 5] rfl ?_
        exact ok_B_X11_late_123 C hA hx hr h) FUEL ((0 : Int32), (0 : Int32)) h
set_option maxHeartbeats 4000000 in
set_option maxRecDepth 100000 in
theorem ok_L_X11_late_197 {h_t : Nat} {h_t_dues : Nat} {h_t_w : Nat} {h_t_firsts : Nat} {h_t_sizes : Nat} {h_t_worths : Nat} {h_t_sums : Nat} {h_t_paidOn : Nat} {h_t_fixed : Nat} {h_t_lates : Nat} {h_t_tape : Nat} {h_t_readWorths : Nat} {h_t_worthOf : Nat} {h_t_lies : Nat} {h_t_pairs : Nat} {h_t_row : Nat} {h_t_hands : Nat} {h_t_lanes : Nat} {h_t_longs : Nat} {h_t_items : Nat} {h_t_hand : Nat} {h_t_used : Nat} {s_isKept : Int32} {s_taped : Int32} {s_pieces : Int32} {s_at : Int32} {s_readMany : Int32} {s_readKind : Int32} {s_readCut : Int32} {s_rowSet : Int32} {s_bestSet : Int32} {s_dues : Nat → Int32} {s_w : Nat → Int32} {s_firsts : Nat → Int32} {s_sizes : Nat → Int32} {s_worths : Nat → Int32} {s_sums : Nat → Int64} {s_paidOn : Nat → Int64} {s_lates : Nat → Int32} {v1 : Int32} {v2 : Int32} {v3 : Int32} {res : Int32 × Int32 × (Nat → Int32) × (Nat → Int32) × (Nat → Int32) × (Nat → Int32) × (Nat → Int64) × (Nat → Int64) × (Nat → Int32) × (Nat → Int32)} (C : CX p s m args meth c cX11_late wsX11_late RX11 7 D k A (some .int)) (hA : A = va_A w0 sz) {kx : Int32 × (Nat → Int32) → Option (Int32 × Int32 × (Nat → Int32) × (Nat → Int32) × (Nat → Int32) × (Nat → Int32) × (Nat → Int64) × (Nat → Int64) × (Nat → Int32) × (Nat → Int32))} (hx : ∀ t : Int32 × (Nat → Int32), kx t = some res → GG p l e rm_X11_late s m args below meth c (MQ below (cQi D w0 sz res.1 (W_X11_late k h_t h_t_dues h_t_w h_t_firsts h_t_sizes h_t_worths h_t_sums h_t_paidOn h_t_fixed h_t_lates h_t_tape h_t_readWorths h_t_worthOf h_t_lies h_t_pairs h_t_row h_t_hands h_t_lanes h_t_longs h_t_items h_t_hand h_t_used s_isKept s_taped res.2.1 s_at s_readMany s_readKind s_readCut s_rowSet s_bestSet res.2.2.1 s_w res.2.2.2.1 res.2.2.2.2.1 res.2.2.2.2.2.1 res.2.2.2.2.2.2.1 res.2.2.2.2.2.2.2.1 res.2.2.2.2.2.2.2.2.1 res.2.2.2.2.2.2.2.2.2)) args s 0 0 A) D A 7 0 0 217 [(0, .ref h_t), (1, .int v1), (2, .int v2), (3, .int v3)] [] (W_X11_late k h_t h_t_dues h_t_w h_t_firsts h_t_sizes h_t_worths h_t_sums h_t_paidOn h_t_fixed h_t_lates h_t_tape h_t_readWorths h_t_worthOf h_t_lies h_t_pairs h_t_row h_t_hands h_t_lanes h_t_longs h_t_items h_t_hand h_t_used s_isKept s_taped s_pieces s_at s_readMany s_readKind s_readCut s_rowSet s_bestSet s_dues s_w s_firsts s_sizes s_worths s_sums s_paidOn t.2 s_lates)) : ∀ (n : Nat) (t : Int32 × (Nat → Int32)), L_X11_late_197 kx n t = some res → GG p l e rm_X11_late s m args below meth c (MQ below (cQi D w0 sz res.1 (W_X11_late k h_t h_t_dues h_t_w h_t_firsts h_t_sizes h_t_worths h_t_sums h_t_paidOn h_t_fixed h_t_lates h_t_tape h_t_readWorths h_t_worthOf h_t_lies h_t_pairs h_t_row h_t_hands h_t_lanes h_t_longs h_t_items h_t_hand h_t_used s_isKept s_taped res.2.1 s_at s_readMany s_readKind s_readCut s_rowSet s_bestSet res.2.2.1 s_w res.2.2.2.1 res.2.2.2.2.1 res.2.2.2.2.2.1 res.2.2.2.2.2.2.1 res.2.2.2.2.2.2.2.1 res.2.2.2.2.2.2.2.2.1 res.2.2.2.2.2.2.2.2.2)) args s 0 0 A) D A 7 0 0 197 [(0, .ref h_t), (1, .int v1), (2, .int v2), (3, .int v3), (4, .int t.1)] [] (W_X11_late k h_t h_t_dues h_t_w h_t_firsts h_t_sizes h_t_worths h_t_sums h_t_paidOn h_t_fixed h_t_lates h_t_tape h_t_readWorths h_t_worthOf h_t_lies h_t_pairs h_t_row h_t_hands h_t_lanes h_t_longs h_t_items h_t_hand h_t_used s_isKept s_taped s_pieces s_at s_readMany s_readKind s_readCut s_rowSet s_bestSet s_dues s_w s_firsts s_sizes s_worths s_sums s_paidOn t.2 s_lates) := by
  intro n
  induction n with
  | zero => intro t h; cases h
  | succ n ih =>
    intro t h
    obtain ⟨v4, s_fixed⟩ := t
    replace h : LB_X11_late_197 kx (L_X11_late_197 kx n) v4 s_fixed = some res := h
    have hr := ih
    unfold LB_X11_late_197 at h
    refine g_iload 197 C 4 dX11_late_197 rfl ?_
    refine g_iconst 199 C (5 : Int32) dX11_late_199 (by decide) ?_
    refine g_icmp_ge 200 217 C dX11_late_200 (by decide) (fun c => ?_) (fun c => ?_)
    · replace h := it_e c h
      refine GG.sub (lv' := [(0, .ref h_t), (1, .int v1), (2, .int v2), (3, .int v3)]) [0, 1, 2, 3] rfl ?_
      exact hx (v4, s_fixed) h
    · replace h := if_e c h
      refine g_aload_n 203 C 0 dX11_late_203 rfl rfl ?_
      refine g_get 204 C in_X11_late_X11 0 24 rfl rfl (by decide) fl_X11_late_59 rfl rfl dX11_late_204 ?_
      refine g_iload 207 C 4 dX11_late_207 rfl ?_
      refine g_iconst 209 C (0 : Int32) dX11_late_209 (by decide) ?_
      obtain ⟨o28, h⟩ := ob_e h
      refine g_iast 210 C (W_X11_late k h_t h_t_dues h_t_w h_t_firsts h_t_sizes h_t_worths h_t_sums h_t_paidOn h_t_fixed h_t_lates h_t_tape h_t_readWorths h_t_worthOf h_t_lies h_t_pairs h_t_row h_t_hands h_t_lanes h_t_longs h_t_items h_t_hand h_t_used s_isKept s_taped s_pieces s_at s_readMany s_readKind s_readCut s_rowSet s_bestSet s_dues s_w s_firsts s_sizes s_worths s_sums s_paidOn (upd s_fixed v4.toNatClampNeg (0 : Int32)) s_lates) 8 rfl o28 rfl dX11_late_210 ?_
      refine g_iinc 211 C 4 (1 : Int32) [(4, .int (v4 + (1 : Int32))), (0, .ref h_t), (1, .int v1), (2, .int v2), (3, .int v3)] dX11_late_211 rfl (by decide) (by decide) rfl ?_
      refine g_goto 214 197 C dX11_late_214 (by decide) ?_
      refine GG.sub (lv' := [(0, .ref h_t), (1, .int v1), (2, .int v2), (3, .int v3), (4, .int (v4 + (1 : Int32)))]) [1, 2, 3, 4, 0] rfl ?_
      exact hr ((v4 + (1 : Int32)), (upd s_fixed v4.toNatClampNeg (0 : Int32))) h
set_option maxHeartbeats 4000000 in
set_option maxRecDepth 100000 in
theorem ok_B_X11_late_245 {h_t : Nat} {h_t_dues : Nat} {h_t_w : Nat} {h_t_firsts : Nat} {h_t_sizes : Nat} {h_t_worths : Nat} {h_t_sums : Nat} {h_t_paidOn : Nat} {h_t_fixed : Nat} {h_t_lates : Nat} {h_t_tape : Nat} {h_t_readWorths : Nat} {h_t_worthOf : Nat} {h_t_lies : Nat} {h_t_pairs : Nat} {h_t_row : Nat} {h_t_hands : Nat} {h_t_lanes : Nat} {h_t_longs : Nat} {h_t_items : Nat} {h_t_hand : Nat} {h_t_used : Nat} {s_isKept : Int32} {s_taped : Int32} {s_pieces : Int32} {s_at : Int32} {s_readMany : Int32} {s_readKind : Int32} {s_readCut : Int32} {s_rowSet : Int32} {s_bestSet : Int32} {s_dues : Nat → Int32} {s_w : Nat → Int32} {s_firsts : Nat → Int32} {s_sizes : Nat → Int32} {s_worths : Nat → Int32} {s_sums : Nat → Int64} {s_paidOn : Nat → Int64} {s_fixed : Nat → Int32} {s_lates : Nat → Int32} {x0 : Int32} {res : Int32 × Int32 × (Nat → Int32) × (Nat → Int32) × (Nat → Int32) × (Nat → Int32) × (Nat → Int64) × (Nat → Int64) × (Nat → Int32) × (Nat → Int32)} (C : CX p s m args meth c cX11_late wsX11_late RX11 7 D k A (some .int)) (hA : A = va_A w0 sz)  (h : B_X11_late_245 s_pieces s_dues s_firsts s_sizes s_worths s_sums s_paidOn s_fixed s_lates x0 = some res) : GG p l e rm_X11_late s m args below meth c (MQ below (cQi D w0 sz res.1 (W_X11_late k h_t h_t_dues h_t_w h_t_firsts h_t_sizes h_t_worths h_t_sums h_t_paidOn h_t_fixed h_t_lates h_t_tape h_t_readWorths h_t_worthOf h_t_lies h_t_pairs h_t_row h_t_hands h_t_lanes h_t_longs h_t_items h_t_hand h_t_used s_isKept s_taped res.2.1 s_at s_readMany s_readKind s_readCut s_rowSet s_bestSet res.2.2.1 s_w res.2.2.2.1 res.2.2.2.2.1 res.2.2.2.2.2.1 res.2.2.2.2.2.2.1 res.2.2.2.2.2.2.2.1 res.2.2.2.2.2.2.2.2.1 res.2.2.2.2.2.2.2.2.2)) args s 0 0 A) D A 7 0 0 245 [] [.int x0] (W_X11_late k h_t h_t_dues h_t_w h_t_firsts h_t_sizes h_t_worths h_t_sums h_t_paidOn h_t_fixed h_t_lates h_t_tape h_t_readWorths h_t_worthOf h_t_lies h_t_pairs h_t_row h_t_hands h_t_lanes h_t_longs h_t_items h_t_hand h_t_used s_isKept s_taped s_pieces s_at s_readMany s_readKind s_readCut s_rowSet s_bestSet s_dues s_w s_firsts s_sizes s_worths s_sums s_paidOn s_fixed s_lates) := by
  unfold B_X11_late_245 at h
  obtain rfl := Option.some.inj h
  exact g_iret 245 C hA rfl dX11_late_245 rfl
set_option maxHeartbeats 4000000 in
set_option maxRecDepth 100000 in
theorem ok_B_X11_late_234 {h_t : Nat} {h_t_dues : Nat} {h_t_w : Nat} {h_t_firsts : Nat} {h_t_sizes : Nat} {h_t_worths : Nat} {h_t_sums : Nat} {h_t_paidOn : Nat} {h_t_fixed : Nat} {h_t_lates : Nat} {h_t_tape : Nat} {h_t_readWorths : Nat} {h_t_worthOf : Nat} {h_t_lies : Nat} {h_t_pairs : Nat} {h_t_row : Nat} {h_t_hands : Nat} {h_t_lanes : Nat} {h_t_longs : Nat} {h_t_items : Nat} {h_t_hand : Nat} {h_t_used : Nat} {s_isKept : Int32} {s_taped : Int32} {s_pieces : Int32} {s_at : Int32} {s_readMany : Int32} {s_readKind : Int32} {s_readCut : Int32} {s_rowSet : Int32} {s_bestSet : Int32} {s_dues : Nat → Int32} {s_w : Nat → Int32} {s_firsts : Nat → Int32} {s_sizes : Nat → Int32} {s_worths : Nat → Int32} {s_sums : Nat → Int64} {s_paidOn : Nat → Int64} {s_fixed : Nat → Int32} {s_lates : Nat → Int32} {v2 : Int32} {v4 : Int32} {res : Int32 × Int32 × (Nat → Int32) × (Nat → Int32) × (Nat → Int32) × (Nat → Int32) × (Nat → Int64) × (Nat → Int64) × (Nat → Int32) × (Nat → Int32)} (C : CX p s m args meth c cX11_late wsX11_late RX11 7 D k A (some .int)) (hA : A = va_A w0 sz)  (h : B_X11_late_234 s_pieces s_dues s_firsts s_sizes s_worths s_sums s_paidOn s_fixed s_lates v2 v4 = some res) : GG p l e rm_X11_late s m args below meth c (MQ below (cQi D w0 sz res.1 (W_X11_late k h_t h_t_dues h_t_w h_t_firsts h_t_sizes h_t_worths h_t_sums h_t_paidOn h_t_fixed h_t_lates h_t_tape h_t_readWorths h_t_worthOf h_t_lies h_t_pairs h_t_row h_t_hands h_t_lanes h_t_longs h_t_items h_t_hand h_t_used s_isKept s_taped res.2.1 s_at s_readMany s_readKind s_readCut s_rowSet s_bestSet res.2.2.1 s_w res.2.2.2.1 res.2.2.2.2.1 res.2.2.2.2.2.1 res.2.2.2.2.2.2.1 res.2.2.2.2.2.2.2.1 res.2.2.2.2.2.2.2.2.1 res.2.2.2.2.2.2.2.2.2)) args s 0 0 A) D A 7 0 0 234 [(2, .int v2), (4, .int v4)] [] (W_X11_late k h_t h_t_dues h_t_w h_t_firsts h_t_sizes h_t_worths h_t_sums h_t_paidOn h_t_fixed h_t_lates h_t_tape h_t_readWorths h_t_worthOf h_t_lies h_t_pairs h_t_row h_t_hands h_t_lanes h_t_longs h_t_items h_t_hand h_t_used s_isKept s_taped s_pieces s_at s_readMany s_readKind s_readCut s_rowSet s_bestSet s_dues s_w s_firsts s_sizes s_worths s_sums s_paidOn s_fixed s_lates) := by
  unfold B_X11_late_234 at h
  refine g_iload_n 234 C 0 dX11_late_234 rfl rfl ?_
  refine g_if_ge 235 243 C dX11_late_235 (by decide) (fun c => ?_) (fun c => ?_)
  · replace h := it_e c h
    refine g_bipush 243 C (-4 : Int32) dX11_late_243 (by decide) ?_
    refine GG.sub (lv' := []) [] rfl ?_
    exact ok_B_X11_late_245 C hA h
  · replace h := if_e c h
    refine g_iload 238 C 1 dX11_late_238 rfl ?_
    refine g_goto 240 245 C dX11_late_240 (by decide) ?_
    refine GG.sub (lv' := []) [] rfl ?_
    exact ok_B_X11_late_245 C hA h
set_option maxHeartbeats 4000000 in
set_option maxRecDepth 100000 in
theorem ok_L_X11_late_263 {h_t : Nat} {h_t_dues : Nat} {h_t_w : Nat} {h_t_firsts : Nat} {h_t_sizes : Nat} {h_t_worths : Nat} {h_t_sums : Nat} {h_t_paidOn : Nat} {h_t_fixed : Nat} {h_t_lates : Nat} {h_t_tape : Nat} {h_t_readWorths : Nat} {h_t_worthOf : Nat} {h_t_lies : Nat} {h_t_pairs : Nat} {h_t_row : Nat} {h_t_hands : Nat} {h_t_lanes : Nat} {h_t_longs : Nat} {h_t_items : Nat} {h_t_hand : Nat} {h_t_used : Nat} {s_isKept : Int32} {s_taped : Int32} {s_pieces : Int32} {s_at : Int32} {s_readMany : Int32} {s_readKind : Int32} {s_readCut : Int32} {s_rowSet : Int32} {s_bestSet : Int32} {s_dues : Nat → Int32} {s_w : Nat → Int32} {s_firsts : Nat → Int32} {s_sizes : Nat → Int32} {s_worths : Nat → Int32} {s_sums : Nat → Int64} {s_paidOn : Nat → Int64} {v1 : Int32} {v2 : Int32} {v3 : Int32} {v4 : Int32} {v5 : Int32} {res : Int32 × Int32 × (Nat → Int32) × (Nat → Int32) × (Nat → Int32) × (Nat → Int32) × (Nat → Int64) × (Nat → Int64) × (Nat → Int32) × (Nat → Int32)} (C : CX p s m args meth c cX11_late wsX11_late RX11 7 D k A (some .int)) (hA : A = va_A w0 sz) {kx : (Nat → Int32) × (Nat → Int32) → Option (Int32 × Int32 × (Nat → Int32) × (Nat → Int32) × (Nat → Int32) × (Nat → Int32) × (Nat → Int64) × (Nat → Int64) × (Nat → Int32) × (Nat → Int32))} (hx : ∀ t : (Nat → Int32) × (Nat → Int32), kx t = some res → GG p l e rm_X11_late s m args below meth c (MQ below (cQi D w0 sz res.1 (W_X11_late k h_t h_t_dues h_t_w h_t_firsts h_t_sizes h_t_worths h_t_sums h_t_paidOn h_t_fixed h_t_lates h_t_tape h_t_readWorths h_t_worthOf h_t_lies h_t_pairs h_t_row h_t_hands h_t_lanes h_t_longs h_t_items h_t_hand h_t_used s_isKept s_taped res.2.1 s_at s_readMany s_readKind s_readCut s_rowSet s_bestSet res.2.2.1 s_w res.2.2.2.1 res.2.2.2.2.1 res.2.2.2.2.2.1 res.2.2.2.2.2.2.1 res.2.2.2.2.2.2.2.1 res.2.2.2.2.2.2.2.2.1 res.2.2.2.2.2.2.2.2.2)) args s 0 0 A) D A 7 0 0 288 [(0, .ref h_t), (1, .int v1), (2, .int v2), (3, .int v3), (4, .int v4), (5, .int v5)] [] (W_X11_late k h_t h_t_dues h_t_w h_t_firsts h_t_sizes h_t_worths h_t_sums h_t_paidOn h_t_fixed h_t_lates h_t_tape h_t_readWorths h_t_worthOf h_t_lies h_t_pairs h_t_row h_t_hands h_t_lanes h_t_longs h_t_items h_t_hand h_t_used s_isKept s_taped s_pieces s_at s_readMany s_readKind s_readCut s_rowSet s_bestSet s_dues s_w s_firsts s_sizes s_worths s_sums s_paidOn t.1 t.2)) : ∀ (n : Nat) (t : (Nat → Int32) × (Nat → Int32)), L_X11_late_263 s_paidOn v1 v3 v4 v5 kx n t = some res → GG p l e rm_X11_late s m args below meth c (MQ below (cQi D w0 sz res.1 (W_X11_late k h_t h_t_dues h_t_w h_t_firsts h_t_sizes h_t_worths h_t_sums h_t_paidOn h_t_fixed h_t_lates h_t_tape h_t_readWorths h_t_worthOf h_t_lies h_t_pairs h_t_row h_t_hands h_t_lanes h_t_longs h_t_items h_t_hand h_t_used s_isKept s_taped res.2.1 s_at s_readMany s_readKind s_readCut s_rowSet s_bestSet res.2.2.1 s_w res.2.2.2.1 res.2.2.2.2.1 res.2.2.2.2.2.1 res.2.2.2.2.2.2.1 res.2.2.2.2.2.2.2.1 res.2.2.2.2.2.2.2.2.1 res.2.2.2.2.2.2.2.2.2)) args s 0 0 A) D A 7 0 0 263 [(0, .ref h_t), (1, .int v1), (2, .int v2), (3, .int v3), (4, .int v4), (5, .int v5)] [] (W_X11_late k h_t h_t_dues h_t_w h_t_firsts h_t_sizes h_t_worths h_t_sums h_t_paidOn h_t_fixed h_t_lates h_t_tape h_t_readWorths h_t_worthOf h_t_lies h_t_pairs h_t_row h_t_hands h_t_lanes h_t_longs h_t_items h_t_hand h_t_used s_isKept s_taped s_pieces s_at s_readMany s_readKind s_readCut s_rowSet s_bestSet s_dues s_w s_firsts s_sizes s_worths s_sums s_paidOn t.1 t.2) := by
  intro n
  induction n with
  | zero => intro t h; cases h
  | succ n ih =>
    intro t h
    obtain ⟨s_fixed, s_lates⟩ := t
    replace h : LB_X11_late_263 s_paidOn v1 v3 v4 v5 kx (L_X11_late_263 s_paidOn v1 v3 v4 v5 kx n) s_fixed s_lates = some res := h
    have hr := ih
    unfold LB_X11_late_263 at h
    refine g_aload_n 263 C 0 dX11_late_263 rfl rfl ?_
    refine g_iload_n 264 C 1 dX11_late_264 rfl rfl ?_
    refine g_iload_n 265 C 3 dX11_late_265 rfl rfl ?_
    obtain ⟨q32, e33, h⟩ := bi_e h
    refine g_callVi 266 C (As := [.int v1, .int v3]) [0, 9, 7, 8] [1, 2, 3, 4, 5, 6] [6, 0, 1, 2, 3, 4, 5, 8, 9, 7] (W_X11_late k h_t h_t_dues h_t_w h_t_firsts h_t_sizes h_t_worths h_t_sums h_t_paidOn h_t_fixed h_t_lates h_t_tape h_t_readWorths h_t_worthOf h_t_lies h_t_pairs h_t_row h_t_hands h_t_lanes h_t_longs h_t_items h_t_hand h_t_used s_isKept s_taped s_pieces s_at s_readMany s_readKind s_readCut s_rowSet s_bestSet s_dues s_w s_firsts s_sizes s_worths s_sums s_paidOn s_fixed q32.2) 0 (fun sz => k_X11_findLate h_t h_t_lates h_t_paidOn h_t_fixed h_t_w h_t_tape h_t_firsts h_t_sizes h_t_worths h_t_readWorths h_t_dues h_t_sums h_t_worthOf h_t_lies h_t_pairs h_t_row h_t_hands h_t_lanes h_t_longs h_t_items h_t_hand h_t_used s_isKept s_taped s_pieces s_at s_readMany s_readKind s_readCut s_rowSet s_bestSet s_lates s_paidOn s_fixed v1 v3 q32 e33 sz) gX11_late_X11_findLate rfl pd_X11_findLate rfl rfl rfl ⟨rfl, rfl, Nat.le_of_ble_eq_true rfl, Nat.le_of_ble_eq_true rfl⟩ (Nat.le_of_ble_eq_true rfl) ⟨Nat.zero_le _, Nat.zero_le _⟩ ⟨rfl, rfl, rfl, rfl, rfl, by decide, rfl⟩ rfl dX11_late_266 ?_
    refine g_iload 269 C 4 dX11_late_269 rfl ?_
    refine g_icmp_eq 271 288 C dX11_late_271 (by decide) (fun c => ?_) (fun c => ?_)
    · replace h := it_e c h
      refine GG.sub (lv' := [(0, .ref h_t), (1, .int v1), (2, .int v2), (3, .int v3), (4, .int v4), (5, .int v5)]) [0, 1, 2, 3, 4, 5] rfl ?_
      exact hx (s_fixed, q32.2) h
    · replace h := if_e c h
      refine g_aload_n 274 C 0 dX11_late_274 rfl rfl ?_
      refine g_get 275 C in_X11_late_X11 0 24 rfl rfl (by decide) fl_X11_late_59 rfl rfl dX11_late_275 ?_
      refine g_iload 278 C 5 dX11_late_278 rfl ?_
      refine g_dup2 280 C dX11_late_280 rfl rfl ?_
      obtain ⟨o34, h⟩ := ob_e h
      refine g_iald 281 C 8 rfl o34 dX11_late_281 ?_
      refine g_iconst 282 C (1 : Int32) dX11_late_282 (by decide) ?_
      refine g_iadd 283 C dX11_late_283 ?_
      obtain ⟨o35, h⟩ := ob_e h
      refine g_iast 284 C (W_X11_late k h_t h_t_dues h_t_w h_t_firsts h_t_sizes h_t_worths h_t_sums h_t_paidOn h_t_fixed h_t_lates h_t_tape h_t_readWorths h_t_worthOf h_t_lies h_t_pairs h_t_row h_t_hands h_t_lanes h_t_longs h_t_items h_t_hand h_t_used s_isKept s_taped s_pieces s_at s_readMany s_readKind s_readCut s_rowSet s_bestSet s_dues s_w s_firsts s_sizes s_worths s_sums s_paidOn (upd s_fixed v5.toNatClampNeg ((s_fixed v5.toNatClampNeg) + (1 : Int32))) q32.2) 8 rfl o35 rfl dX11_late_284 ?_
      refine g_goto 285 263 C dX11_late_285 (by decide) ?_
      refine GG.sub (lv' := [(0, .ref h_t), (1, .int v1), (2, .int v2), (3, .int v3), (4, .int v4), (5, .int v5)]) [0, 1, 2, 3, 4, 5] rfl ?_
      exact hr ((upd s_fixed v5.toNatClampNeg ((s_fixed v5.toNatClampNeg) + (1 : Int32))), q32.2) h
set_option maxHeartbeats 4000000 in
set_option maxRecDepth 100000 in
theorem ok_B_X11_late_288 {h_t : Nat} {h_t_dues : Nat} {h_t_w : Nat} {h_t_firsts : Nat} {h_t_sizes : Nat} {h_t_worths : Nat} {h_t_sums : Nat} {h_t_paidOn : Nat} {h_t_fixed : Nat} {h_t_lates : Nat} {h_t_tape : Nat} {h_t_readWorths : Nat} {h_t_worthOf : Nat} {h_t_lies : Nat} {h_t_pairs : Nat} {h_t_row : Nat} {h_t_hands : Nat} {h_t_lanes : Nat} {h_t_longs : Nat} {h_t_items : Nat} {h_t_hand : Nat} {h_t_used : Nat} {s_isKept : Int32} {s_taped : Int32} {s_pieces : Int32} {s_at : Int32} {s_readMany : Int32} {s_readKind : Int32} {s_readCut : Int32} {s_rowSet : Int32} {s_bestSet : Int32} {s_dues : Nat → Int32} {s_w : Nat → Int32} {s_firsts : Nat → Int32} {s_sizes : Nat → Int32} {s_worths : Nat → Int32} {s_sums : Nat → Int64} {s_paidOn : Nat → Int64} {s_fixed : Nat → Int32} {s_lates : Nat → Int32} {v1 : Int32} {v2 : Int32} {v3 : Int32} {v4 : Int32} {v5 : Int32} {res : Int32 × Int32 × (Nat → Int32) × (Nat → Int32) × (Nat → Int32) × (Nat → Int32) × (Nat → Int64) × (Nat → Int64) × (Nat → Int32) × (Nat → Int32)} {kx rec : Int32 × (Nat → Int32) × (Nat → Int32) → Option (Int32 × Int32 × (Nat → Int32) × (Nat → Int32) × (Nat → Int32) × (Nat → Int32) × (Nat → Int64) × (Nat → Int64) × (Nat → Int32) × (Nat → Int32))} (C : CX p s m args meth c cX11_late wsX11_late RX11 7 D k A (some .int)) (hA : A = va_A w0 sz) (hx : ∀ t : Int32 × (Nat → Int32) × (Nat → Int32), kx t = some res → GG p l e rm_X11_late s m args below meth c (MQ below (cQi D w0 sz res.1 (W_X11_late k h_t h_t_dues h_t_w h_t_firsts h_t_sizes h_t_worths h_t_sums h_t_paidOn h_t_fixed h_t_lates h_t_tape h_t_readWorths h_t_worthOf h_t_lies h_t_pairs h_t_row h_t_hands h_t_lanes h_t_longs h_t_items h_t_hand h_t_used s_isKept s_taped res.2.1 s_at s_readMany s_readKind s_readCut s_rowSet s_bestSet res.2.2.1 s_w res.2.2.2.1 res.2.2.2.2.1 res.2.2.2.2.2.1 res.2.2.2.2.2.2.1 res.2.2.2.2.2.2.2.1 res.2.2.2.2.2.2.2.2.1 res.2.2.2.2.2.2.2.2.2)) args s 0 0 A) D A 7 0 0 294 [(0, .ref h_t), (2, .int v2)] [] (W_X11_late k h_t h_t_dues h_t_w h_t_firsts h_t_sizes h_t_worths h_t_sums h_t_paidOn h_t_fixed h_t_lates h_t_tape h_t_readWorths h_t_worthOf h_t_lies h_t_pairs h_t_row h_t_hands h_t_lanes h_t_longs h_t_items h_t_hand h_t_used s_isKept s_taped s_pieces s_at s_readMany s_readKind s_readCut s_rowSet s_bestSet s_dues s_w s_firsts s_sizes s_worths s_sums s_paidOn t.2.1 t.2.2)) (hr : ∀ t : Int32 × (Nat → Int32) × (Nat → Int32), rec t = some res → GG p l e rm_X11_late s m args below meth c (MQ below (cQi D w0 sz res.1 (W_X11_late k h_t h_t_dues h_t_w h_t_firsts h_t_sizes h_t_worths h_t_sums h_t_paidOn h_t_fixed h_t_lates h_t_tape h_t_readWorths h_t_worthOf h_t_lies h_t_pairs h_t_row h_t_hands h_t_lanes h_t_longs h_t_items h_t_hand h_t_used s_isKept s_taped res.2.1 s_at s_readMany s_readKind s_readCut s_rowSet s_bestSet res.2.2.1 s_w res.2.2.2.1 res.2.2.2.2.1 res.2.2.2.2.2.1 res.2.2.2.2.2.2.1 res.2.2.2.2.2.2.2.1 res.2.2.2.2.2.2.2.2.1 res.2.2.2.2.2.2.2.2.2)) args s 0 0 A) D A 7 0 0 249 [(0, .ref h_t), (1, .int v1), (2, .int v2), (3, .int v3), (4, .int v4), (5, .int t.1)] [] (W_X11_late k h_t h_t_dues h_t_w h_t_firsts h_t_sizes h_t_worths h_t_sums h_t_paidOn h_t_fixed h_t_lates h_t_tape h_t_readWorths h_t_worthOf h_t_lies h_t_pairs h_t_row h_t_hands h_t_lanes h_t_longs h_t_items h_t_hand h_t_used s_isKept s_taped s_pieces s_at s_readMany s_readKind s_readCut s_rowSet s_bestSet s_dues s_w s_firsts s_sizes s_worths s_sums s_paidOn t.2.1 t.2.2))  (h : B_X11_late_288 kx rec s_fixed s_lates v5 = some res) : GG p l e rm_X11_late s m args below meth c (MQ below (cQi D w0 sz res.1 (W_X11_late k h_t h_t_dues h_t_w h_t_firsts h_t_sizes h_t_worths h_t_sums h_t_paidOn h_t_fixed h_t_lates h_t_tape h_t_readWorths h_t_worthOf h_t_lies h_t_pairs h_t_row h_t_hands h_t_lanes h_t_longs h_t_items h_t_hand h_t_used s_isKept s_taped res.2.1 s_at s_readMany s_readKind s_readCut s_rowSet s_bestSet res.2.2.1 s_w res.2.2.2.1 res.2.2.2.2.1 res.2.2.2.2.2.1 res.2.2.2.2.2.2.1 res.2.2.2.2.2.2.2.1 res.2.2.2.2.2.2.2.2.1 res.2.2.2.2.2.2.2.2.2)) args s 0 0 A) D A 7 0 0 288 [(0, .ref h_t), (1, .int v1), (2, .int v2), (3, .int v3), (4, .int v4), (5, .int v5)] [] (W_X11_late k h_t h_t_dues h_t_w h_t_firsts h_t_sizes h_t_worths h_t_sums h_t_paidOn h_t_fixed h_t_lates h_t_tape h_t_readWorths h_t_worthOf h_t_lies h_t_pairs h_t_row h_t_hands h_t_lanes h_t_longs h_t_items h_t_hand h_t_used s_isKept s_taped s_pieces s_at s_readMany s_readKind s_readCut s_rowSet s_bestSet s_dues s_w s_firsts s_sizes s_worths s_sums s_paidOn s_fixed s_lates) := by
  unfold B_X11_late_288 at h
  refine g_iinc 288 C 5 (1 : Int32) [(5, .int (v5 + (1 : Int32))), (0, .ref h_t), (1, .int v1), (2, .int v2), (3, .int v3), (4, .int v4)] dX11_late_288 rfl (by decide) (by decide) rfl ?_
  refine g_goto 291 249 C dX11_late_291 (by decide) ?_
  refine GG.sub (lv' := [(0, .ref h_t), (1, .int v1), (2, .int v2), (3, .int v3), (4, .int v4), (5, .int (v5 + (1 : Int32)))]) [1, 2, 3, 4, 5, 0] rfl ?_
  exact hr ((v5 + (1 : Int32)), s_fixed, s_lates) h
set_option maxHeartbeats 4000000 in
set_option maxRecDepth 100000 in
theorem ok_L_X11_late_249 {h_t : Nat} {h_t_dues : Nat} {h_t_w : Nat} {h_t_firsts : Nat} {h_t_sizes : Nat} {h_t_worths : Nat} {h_t_sums : Nat} {h_t_paidOn : Nat} {h_t_fixed : Nat} {h_t_lates : Nat} {h_t_tape : Nat} {h_t_readWorths : Nat} {h_t_worthOf : Nat} {h_t_lies : Nat} {h_t_pairs : Nat} {h_t_row : Nat} {h_t_hands : Nat} {h_t_lanes : Nat} {h_t_longs : Nat} {h_t_items : Nat} {h_t_hand : Nat} {h_t_used : Nat} {s_isKept : Int32} {s_taped : Int32} {s_pieces : Int32} {s_at : Int32} {s_readMany : Int32} {s_readKind : Int32} {s_readCut : Int32} {s_rowSet : Int32} {s_bestSet : Int32} {s_dues : Nat → Int32} {s_w : Nat → Int32} {s_firsts : Nat → Int32} {s_sizes : Nat → Int32} {s_worths : Nat → Int32} {s_sums : Nat → Int64} {s_paidOn : Nat → Int64} {v1 : Int32} {v2 : Int32} {v3 : Int32} {v4 : Int32} {res : Int32 × Int32 × (Nat → Int32) × (Nat → Int32) × (Nat → Int32) × (Nat → Int32) × (Nat → Int64) × (Nat → Int64) × (Nat → Int32) × (Nat → Int32)} (C : CX p s m args meth c cX11_late wsX11_late RX11 7 D k A (some .int)) (hA : A = va_A w0 sz) {kx : Int32 × (Nat → Int32) × (Nat → Int32) → Option (Int32 × Int32 × (Nat → Int32) × (Nat → Int32) × (Nat → Int32) × (Nat → Int32) × (Nat → Int64) × (Nat → Int64) × (Nat → Int32) × (Nat → Int32))} (hx : ∀ t : Int32 × (Nat → Int32) × (Nat → Int32), kx t = some res → GG p l e rm_X11_late s m args below meth c (MQ below (cQi D w0 sz res.1 (W_X11_late k h_t h_t_dues h_t_w h_t_firsts h_t_sizes h_t_worths h_t_sums h_t_paidOn h_t_fixed h_t_lates h_t_tape h_t_readWorths h_t_worthOf h_t_lies h_t_pairs h_t_row h_t_hands h_t_lanes h_t_longs h_t_items h_t_hand h_t_used s_isKept s_taped res.2.1 s_at s_readMany s_readKind s_readCut s_rowSet s_bestSet res.2.2.1 s_w res.2.2.2.1 res.2.2.2.2.1 res.2.2.2.2.2.1 res.2.2.2.2.2.2.1 res.2.2.2.2.2.2.2.1 res.2.2.2.2.2.2.2.2.1 res.2.2.2.2.2.2.2.2.2)) args s 0 0 A) D A 7 0 0 294 [(0, .ref h_t), (2, .int v2)] [] (W_X11_late k h_t h_t_dues h_t_w h_t_firsts h_t_sizes h_t_worths h_t_sums h_t_paidOn h_t_fixed h_t_lates h_t_tape h_t_readWorths h_t_worthOf h_t_lies h_t_pairs h_t_row h_t_hands h_t_lanes h_t_longs h_t_items h_t_hand h_t_used s_isKept s_taped s_pieces s_at s_readMany s_readKind s_readCut s_rowSet s_bestSet s_dues s_w s_firsts s_sizes s_worths s_sums s_paidOn t.2.1 t.2.2)) : ∀ (n : Nat) (t : Int32 × (Nat → Int32) × (Nat → Int32)), L_X11_late_249 s_paidOn v1 v2 v3 v4 kx n t = some res → GG p l e rm_X11_late s m args below meth c (MQ below (cQi D w0 sz res.1 (W_X11_late k h_t h_t_dues h_t_w h_t_firsts h_t_sizes h_t_worths h_t_sums h_t_paidOn h_t_fixed h_t_lates h_t_tape h_t_readWorths h_t_worthOf h_t_lies h_t_pairs h_t_row h_t_hands h_t_lanes h_t_longs h_t_items h_t_hand h_t_used s_isKept s_taped res.2.1 s_at s_readMany s_readKind s_readCut s_rowSet s_bestSet res.2.2.1 s_w res.2.2.2.1 res.2.2.2.2.1 res.2.2.2.2.2.1 res.2.2.2.2.2.2.1 res.2.2.2.2.2.2.2.1 res.2.2.2.2.2.2.2.2.1 res.2.2.2.2.2.2.2.2.2)) args s 0 0 A) D A 7 0 0 249 [(0, .ref h_t), (1, .int v1), (2, .int v2), (3, .int v3), (4, .int v4), (5, .int t.1)] [] (W_X11_late k h_t h_t_dues h_t_w h_t_firsts h_t_sizes h_t_worths h_t_sums h_t_paidOn h_t_fixed h_t_lates h_t_tape h_t_readWorths h_t_worthOf h_t_lies h_t_pairs h_t_row h_t_hands h_t_lanes h_t_longs h_t_items h_t_hand h_t_used s_isKept s_taped s_pieces s_at s_readMany s_readKind s_readCut s_rowSet s_bestSet s_dues s_w s_firsts s_sizes s_worths s_sums s_paidOn t.2.1 t.2.2) := by
  intro n
  induction n with
  | zero => intro t h; cases h
  | succ n ih =>
    intro t h
    obtain ⟨v5, s_fixed, s_lates⟩ := t
    replace h : LB_X11_late_249 s_paidOn v1 v2 v3 v4 kx (L_X11_late_249 s_paidOn v1 v2 v3 v4 kx n) v5 s_fixed s_lates = some res := h
    have hr := ih
    unfold LB_X11_late_249 at h
    refine g_iload 249 C 5 dX11_late_249 rfl ?_
    refine g_iload_n 251 C 2 dX11_late_251 rfl rfl ?_
    refine g_icmp_gt 252 294 C dX11_late_252 (by decide) (fun c => ?_) (fun c => ?_)
    · replace h := it_e c h
      refine GG.sub (lv' := [(0, .ref h_t), (2, .int v2)]) [0, 2] rfl ?_
      exact hx (v5, s_fixed, s_lates) h
    · replace h := if_e c h
      refine g_aload_n 255 C 0 dX11_late_255 rfl rfl ?_
      refine g_get 256 C in_X11_late_X11 0 24 rfl rfl (by decide) fl_X11_late_59 rfl rfl dX11_late_256 ?_
      refine g_iload 259 C 5 dX11_late_259 rfl ?_
      refine g_iconst 261 C (1 : Int32) dX11_late_261 (by decide) ?_
      obtain ⟨o31, h⟩ := ob_e h
      refine g_iast 262 C (W_X11_late k h_t h_t_dues h_t_w h_t_firsts h_t_sizes h_t_worths h_t_sums h_t_paidOn h_t_fixed h_t_lates h_t_tape h_t_readWorths h_t_worthOf h_t_lies h_t_pairs h_t_row h_t_hands h_t_lanes h_t_longs h_t_items h_t_hand h_t_used s_isKept s_taped s_pieces s_at s_readMany s_readKind s_readCut s_rowSet s_bestSet s_dues s_w s_firsts s_sizes s_worths s_sums s_paidOn (upd s_fixed v5.toNatClampNeg (1 : Int32)) s_lates) 8 rfl o31 rfl dX11_late_262 ?_
      refine GG.sub (lv' := [(0, .ref h_t), (1, .int v1), (2, .int v2), (3, .int v3), (4, .int v4), (5, .int v5)]) [0, 1, 2, 3, 4, 5] rfl ?_
      exact ok_L_X11_late_263 C hA (fun t h => by
        refine GG.sub (lv' := [(0, .ref h_t), (1, .int v1), (2, .int v2), (3, .int v3), (4, .int v4), (5, .int v5)]) [0, 1, 2, 3, 4, 5] rfl ?_
        exact ok_B_X11_late_288 C hA hx hr h) FUEL ((upd s_fixed v5.toNatClampNeg (1 : Int32)), s_lates) h
set_option maxHeartbeats 4000000 in
set_option maxRecDepth 100000 in
theorem ok_B_X11_late_294 {h_t : Nat} {h_t_dues : Nat} {h_t_w : Nat} {h_t_firsts : Nat} {h_t_sizes : Nat} {h_t_worths : Nat} {h_t_sums : Nat} {h_t_paidOn : Nat} {h_t_fixed : Nat} {h_t_lates : Nat} {h_t_tape : Nat} {h_t_readWorths : Nat} {h_t_worthOf : Nat} {h_t_lies : Nat} {h_t_pairs : Nat} {h_t_row : Nat} {h_t_hands : Nat} {h_t_lanes : Nat} {h_t_longs : Nat} {h_t_items : Nat} {h_t_hand : Nat} {h_t_used : Nat} {s_isKept : Int32} {s_taped : Int32} {s_pieces : Int32} {s_at : Int32} {s_readMany : Int32} {s_readKind : Int32} {s_readCut : Int32} {s_rowSet : Int32} {s_bestSet : Int32} {s_dues : Nat → Int32} {s_w : Nat → Int32} {s_firsts : Nat → Int32} {s_sizes : Nat → Int32} {s_worths : Nat → Int32} {s_sums : Nat → Int64} {s_paidOn : Nat → Int64} {s_fixed : Nat → Int32} {s_lates : Nat → Int32} {v2 : Int32} {res : Int32 × Int32 × (Nat → Int32) × (Nat → Int32) × (Nat → Int32) × (Nat → Int32) × (Nat → Int64) × (Nat → Int64) × (Nat → Int32) × (Nat → Int32)} (C : CX p s m args meth c cX11_late wsX11_late RX11 7 D k A (some .int)) (hA : A = va_A w0 sz)  (h : B_X11_late_294 s_pieces s_dues s_firsts s_sizes s_worths s_sums s_paidOn s_fixed s_lates v2 = some res) : GG p l e rm_X11_late s m args below meth c (MQ below (cQi D w0 sz res.1 (W_X11_late k h_t h_t_dues h_t_w h_t_firsts h_t_sizes h_t_worths h_t_sums h_t_paidOn h_t_fixed h_t_lates h_t_tape h_t_readWorths h_t_worthOf h_t_lies h_t_pairs h_t_row h_t_hands h_t_lanes h_t_longs h_t_items h_t_hand h_t_used s_isKept s_taped res.2.1 s_at s_readMany s_readKind s_readCut s_rowSet s_bestSet res.2.2.1 s_w res.2.2.2.1 res.2.2.2.2.1 res.2.2.2.2.2.1 res.2.2.2.2.2.2.1 res.2.2.2.2.2.2.2.1 res.2.2.2.2.2.2.2.2.1 res.2.2.2.2.2.2.2.2.2)) args s 0 0 A) D A 7 0 0 294 [(0, .ref h_t), (2, .int v2)] [] (W_X11_late k h_t h_t_dues h_t_w h_t_firsts h_t_sizes h_t_worths h_t_sums h_t_paidOn h_t_fixed h_t_lates h_t_tape h_t_readWorths h_t_worthOf h_t_lies h_t_pairs h_t_row h_t_hands h_t_lanes h_t_longs h_t_items h_t_hand h_t_used s_isKept s_taped s_pieces s_at s_readMany s_readKind s_readCut s_rowSet s_bestSet s_dues s_w s_firsts s_sizes s_worths s_sums s_paidOn s_fixed s_lates) := by
  unfold B_X11_late_294 at h
  refine g_aload_n 294 C 0 dX11_late_294 rfl rfl ?_
  refine g_get 295 C in_X11_late_X11 0 24 rfl rfl (by decide) fl_X11_late_59 rfl rfl dX11_late_295 ?_
  refine g_iload_n 298 C 1 dX11_late_298 rfl rfl ?_
  obtain ⟨o36, h⟩ := ob_e h
  refine g_iald 299 C 8 rfl o36 dX11_late_299 ?_
  obtain rfl := Option.some.inj h
  exact g_iret 300 C hA rfl dX11_late_300 rfl
set_option maxHeartbeats 4000000 in
set_option maxRecDepth 100000 in
theorem ok_B_X11_late_217 {h_t : Nat} {h_t_dues : Nat} {h_t_w : Nat} {h_t_firsts : Nat} {h_t_sizes : Nat} {h_t_worths : Nat} {h_t_sums : Nat} {h_t_paidOn : Nat} {h_t_fixed : Nat} {h_t_lates : Nat} {h_t_tape : Nat} {h_t_readWorths : Nat} {h_t_worthOf : Nat} {h_t_lies : Nat} {h_t_pairs : Nat} {h_t_row : Nat} {h_t_hands : Nat} {h_t_lanes : Nat} {h_t_longs : Nat} {h_t_items : Nat} {h_t_hand : Nat} {h_t_used : Nat} {s_isKept : Int32} {s_taped : Int32} {s_pieces : Int32} {s_at : Int32} {s_readMany : Int32} {s_readKind : Int32} {s_readCut : Int32} {s_rowSet : Int32} {s_bestSet : Int32} {s_dues : Nat → Int32} {s_w : Nat → Int32} {s_firsts : Nat → Int32} {s_sizes : Nat → Int32} {s_worths : Nat → Int32} {s_sums : Nat → Int64} {s_paidOn : Nat → Int64} {s_fixed : Nat → Int32} {s_lates : Nat → Int32} {v1 : Int32} {v2 : Int32} {v3 : Int32} {res : Int32 × Int32 × (Nat → Int32) × (Nat → Int32) × (Nat → Int32) × (Nat → Int32) × (Nat → Int64) × (Nat → Int64) × (Nat → Int32) × (Nat → Int32)} (C : CX p s m args meth c cX11_late wsX11_late RX11 7 D k A (some .int)) (hA : A = va_A w0 sz)  (h : B_X11_late_217 s_pieces s_dues s_firsts s_sizes s_worths s_sums s_paidOn s_fixed s_lates v1 v2 v3 = some res) : GG p l e rm_X11_late s m args below meth c (MQ below (cQi D w0 sz res.1 (W_X11_late k h_t h_t_dues h_t_w h_t_firsts h_t_sizes h_t_worths h_t_sums h_t_paidOn h_t_fixed h_t_lates h_t_tape h_t_readWorths h_t_worthOf h_t_lies h_t_pairs h_t_row h_t_hands h_t_lanes h_t_longs h_t_items h_t_hand h_t_used s_isKept s_taped res.2.1 s_at s_readMany s_readKind s_readCut s_rowSet s_bestSet res.2.2.1 s_w res.2.2.2.1 res.2.2.2.2.1 res.2.2.2.2.2.1 res.2.2.2.2.2.2.1 res.2.2.2.2.2.2.2.1 res.2.2.2.2.2.2.2.2.1 res.2.2.2.2.2.2.2.2.2)) args s 0 0 A) D A 7 0 0 217 [(0, .ref h_t), (1, .int v1), (2, .int v2), (3, .int v3)] [] (W_X11_late k h_t h_t_dues h_t_w h_t_firsts h_t_sizes h_t_worths h_t_sums h_t_paidOn h_t_fixed h_t_lates h_t_tape h_t_readWorths h_t_worthOf h_t_lies h_t_pairs h_t_row h_t_hands h_t_lanes h_t_longs h_t_items h_t_hand h_t_used s_isKept s_taped s_pieces s_at s_readMany s_readKind s_readCut s_rowSet s_bestSet s_dues s_w s_firsts s_sizes s_worths s_sums s_paidOn s_fixed s_lates) := by
  unfold B_X11_late_217 at h
  refine g_aload_n 217 C 0 dX11_late_217 rfl rfl ?_
  refine g_iload_n 218 C 1 dX11_late_218 rfl rfl ?_
  refine g_iload_n 219 C 3 dX11_late_219 rfl rfl ?_
  obtain ⟨q29, e30, h⟩ := bi_e h
  refine g_callVi 220 C (As := [.int v1, .int v3]) [0, 9, 7, 8] [1, 2, 3, 4, 5, 6] [6, 0, 1, 2, 3, 4, 5, 8, 9, 7] (W_X11_late k h_t h_t_dues h_t_w h_t_firsts h_t_sizes h_t_worths h_t_sums h_t_paidOn h_t_fixed h_t_lates h_t_tape h_t_readWorths h_t_worthOf h_t_lies h_t_pairs h_t_row h_t_hands h_t_lanes h_t_longs h_t_items h_t_hand h_t_used s_isKept s_taped s_pieces s_at s_readMany s_readKind s_readCut s_rowSet s_bestSet s_dues s_w s_firsts s_sizes s_worths s_sums s_paidOn s_fixed q29.2) 0 (fun sz => k_X11_findLate h_t h_t_lates h_t_paidOn h_t_fixed h_t_w h_t_tape h_t_firsts h_t_sizes h_t_worths h_t_readWorths h_t_dues h_t_sums h_t_worthOf h_t_lies h_t_pairs h_t_row h_t_hands h_t_lanes h_t_longs h_t_items h_t_hand h_t_used s_isKept s_taped s_pieces s_at s_readMany s_readKind s_readCut s_rowSet s_bestSet s_lates s_paidOn s_fixed v1 v3 q29 e30 sz) gX11_late_X11_findLate rfl pd_X11_findLate rfl rfl rfl ⟨rfl, rfl, Nat.le_of_ble_eq_true rfl, Nat.le_of_ble_eq_true rfl⟩ (Nat.le_of_ble_eq_true rfl) ⟨Nat.zero_le _, Nat.zero_le _⟩ ⟨rfl, rfl, rfl, rfl, rfl, by decide, rfl⟩ rfl dX11_late_220 ?_
  refine g_istore 223 C [(4, .int q29.1), (0, .ref h_t), (1, .int v1), (2, .int v2), (3, .int v3)] dX11_late_223 (by decide) rfl ?_
  refine g_iload_n 225 C 3 dX11_late_225 rfl rfl ?_
  refine g_if_lt 226 234 C dX11_late_226 (by decide) (fun c => ?_) (fun c => ?_)
  · replace h := it_e c h
    refine GG.sub (lv' := [(2, .int v2), (4, .int q29.1)]) [3, 0] rfl ?_
    exact ok_B_X11_late_234 C hA h
  · replace h := if_e c h
    refine g_iload_n 229 C 3 dX11_late_229 rfl rfl ?_
    refine g_iload_n 230 C 4 dX11_late_230 rfl rfl ?_
    refine g_icmp_lt 231 246 C dX11_late_231 (by decide) (fun c => ?_) (fun c => ?_)
    · replace h := it_e c h
      refine g_iconst 246 C (0 : Int32) dX11_late_246 (by decide) ?_
      refine g_istore 247 C [(5, .int (0 : Int32)), (4, .int q29.1), (0, .ref h_t), (1, .int v1), (2, .int v2), (3, .int v3)] dX11_late_247 (by decide) rfl ?_
      refine GG.sub (lv' := [(0, .ref h_t), (1, .int v1), (2, .int v2), (3, .int v3), (4, .int q29.1), (5, .int (0 : Int32))]) [2, 3, 4, 5, 1, 0] rfl ?_
      exact ok_L_X11_late_249 C hA (fun t h => by
        refine GG.sub (lv' := [(0, .ref h_t), (2, .int v2)]) [0, 1] rfl ?_
        exact ok_B_X11_late_294 C hA h) FUEL ((0 : Int32), s_fixed, q29.2) h
    · replace h := if_e c h
      refine GG.sub (lv' := [(2, .int v2), (4, .int q29.1)]) [3, 0] rfl ?_
      exact ok_B_X11_late_234 C hA h
set_option maxHeartbeats 4000000 in
set_option maxRecDepth 100000 in
theorem ok_B_X11_late_194 {h_t : Nat} {h_t_dues : Nat} {h_t_w : Nat} {h_t_firsts : Nat} {h_t_sizes : Nat} {h_t_worths : Nat} {h_t_sums : Nat} {h_t_paidOn : Nat} {h_t_fixed : Nat} {h_t_lates : Nat} {h_t_tape : Nat} {h_t_readWorths : Nat} {h_t_worthOf : Nat} {h_t_lies : Nat} {h_t_pairs : Nat} {h_t_row : Nat} {h_t_hands : Nat} {h_t_lanes : Nat} {h_t_longs : Nat} {h_t_items : Nat} {h_t_hand : Nat} {h_t_used : Nat} {s_isKept : Int32} {s_taped : Int32} {s_pieces : Int32} {s_at : Int32} {s_readMany : Int32} {s_readKind : Int32} {s_readCut : Int32} {s_rowSet : Int32} {s_bestSet : Int32} {s_dues : Nat → Int32} {s_w : Nat → Int32} {s_firsts : Nat → Int32} {s_sizes : Nat → Int32} {s_worths : Nat → Int32} {s_sums : Nat → Int64} {s_paidOn : Nat → Int64} {s_fixed : Nat → Int32} {s_lates : Nat → Int32} {v1 : Int32} {v2 : Int32} {v3 : Int32} {res : Int32 × Int32 × (Nat → Int32) × (Nat → Int32) × (Nat → Int32) × (Nat → Int32) × (Nat → Int64) × (Nat → Int64) × (Nat → Int32) × (Nat → Int32)} (C : CX p s m args meth c cX11_late wsX11_late RX11 7 D k A (some .int)) (hA : A = va_A w0 sz)  (h : B_X11_late_194 s_pieces s_dues s_firsts s_sizes s_worths s_sums s_paidOn s_fixed s_lates v1 v2 v3 = some res) : GG p l e rm_X11_late s m args below meth c (MQ below (cQi D w0 sz res.1 (W_X11_late k h_t h_t_dues h_t_w h_t_firsts h_t_sizes h_t_worths h_t_sums h_t_paidOn h_t_fixed h_t_lates h_t_tape h_t_readWorths h_t_worthOf h_t_lies h_t_pairs h_t_row h_t_hands h_t_lanes h_t_longs h_t_items h_t_hand h_t_used s_isKept s_taped res.2.1 s_at s_readMany s_readKind s_readCut s_rowSet s_bestSet res.2.2.1 s_w res.2.2.2.1 res.2.2.2.2.1 res.2.2.2.2.2.1 res.2.2.2.2.2.2.1 res.2.2.2.2.2.2.2.1 res.2.2.2.2.2.2.2.2.1 res.2.2.2.2.2.2.2.2.2)) args s 0 0 A) D A 7 0 0 194 [(0, .ref h_t), (1, .int v1), (2, .int v2), (3, .int v3)] [] (W_X11_late k h_t h_t_dues h_t_w h_t_firsts h_t_sizes h_t_worths h_t_sums h_t_paidOn h_t_fixed h_t_lates h_t_tape h_t_readWorths h_t_worthOf h_t_lies h_t_pairs h_t_row h_t_hands h_t_lanes h_t_longs h_t_items h_t_hand h_t_used s_isKept s_taped s_pieces s_at s_readMany s_readKind s_readCut s_rowSet s_bestSet s_dues s_w s_firsts s_sizes s_worths s_sums s_paidOn s_fixed s_lates) := by
  unfold B_X11_late_194 at h
  refine g_iconst 194 C (0 : Int32) dX11_late_194 (by decide) ?_
  refine g_istore 195 C [(4, .int (0 : Int32)), (0, .ref h_t), (1, .int v1), (2, .int v2), (3, .int v3)] dX11_late_195 (by decide) rfl ?_
  refine GG.sub (lv' := [(0, .ref h_t), (1, .int v1), (2, .int v2), (3, .int v3), (4, .int (0 : Int32))]) [1, 2, 3, 4, 0] rfl ?_
  exact ok_L_X11_late_197 C hA (fun t h => by
    refine GG.sub (lv' := [(0, .ref h_t), (1, .int v1), (2, .int v2), (3, .int v3)]) [0, 1, 2, 3] rfl ?_
    exact ok_B_X11_late_217 C hA h) FUEL ((0 : Int32), s_fixed) h
set_option maxHeartbeats 4000000 in
set_option maxRecDepth 100000 in
theorem k_X11_late {l : Launch} {D : va_G} {k : Nat → ClassId} (h_t : Nat) (h_t_dues : Nat) (h_t_w : Nat) (h_t_firsts : Nat) (h_t_sizes : Nat) (h_t_worths : Nat) (h_t_sums : Nat) (h_t_paidOn : Nat) (h_t_fixed : Nat) (h_t_lates : Nat) (h_t_tape : Nat) (h_t_readWorths : Nat) (h_t_worthOf : Nat) (h_t_lies : Nat) (h_t_pairs : Nat) (h_t_row : Nat) (h_t_hands : Nat) (h_t_lanes : Nat) (h_t_longs : Nat) (h_t_items : Nat) (h_t_hand : Nat) (h_t_used : Nat) (s_isKept : Int32) (s_taped : Int32) (s_pieces : Int32) (s_at : Int32) (s_readMany : Int32) (s_readKind : Int32) (s_readCut : Int32) (s_rowSet : Int32) (s_bestSet : Int32) (s_dues : Nat → Int32) (s_w : Nat → Int32) (s_firsts : Nat → Int32) (s_sizes : Nat → Int32) (s_worths : Nat → Int32) (s_sums : Nat → Int64) (s_paidOn : Nat → Int64) (s_fixed : Nat → Int32) (s_lates : Nat → Int32) (v1 : Int32) (v2 : Int32) (res : Int32 × Int32 × (Nat → Int32) × (Nat → Int32) × (Nat → Int32) × (Nat → Int32) × (Nat → Int64) × (Nat → Int64) × (Nat → Int32) × (Nat → Int32)) (h : f_X11_late s_pieces s_dues s_w s_firsts s_sizes s_worths s_sums s_paidOn s_fixed s_lates v1 v2 = some res) (sz : Nat) : Met l yX11_late wsX11_late rm_X11_late (cPre D k [.ref h_t, .int v1, .int v2] (W_X11_late k h_t h_t_dues h_t_w h_t_firsts h_t_sizes h_t_worths h_t_sums h_t_paidOn h_t_fixed h_t_lates h_t_tape h_t_readWorths h_t_worthOf h_t_lies h_t_pairs h_t_row h_t_hands h_t_lanes h_t_longs h_t_items h_t_hand h_t_used s_isKept s_taped s_pieces s_at s_readMany s_readKind s_readCut s_rowSet s_bestSet s_dues s_w s_firsts s_sizes s_worths s_sums s_paidOn s_fixed s_lates) sz) (cQi D (W_X11_late k h_t h_t_dues h_t_w h_t_firsts h_t_sizes h_t_worths h_t_sums h_t_paidOn h_t_fixed h_t_lates h_t_tape h_t_readWorths h_t_worthOf h_t_lies h_t_pairs h_t_row h_t_hands h_t_lanes h_t_longs h_t_items h_t_hand h_t_used s_isKept s_taped s_pieces s_at s_readMany s_readKind s_readCut s_rowSet s_bestSet s_dues s_w s_firsts s_sizes s_worths s_sums s_paidOn s_fixed s_lates) sz res.1 (W_X11_late k h_t h_t_dues h_t_w h_t_firsts h_t_sizes h_t_worths h_t_sums h_t_paidOn h_t_fixed h_t_lates h_t_tape h_t_readWorths h_t_worthOf h_t_lies h_t_pairs h_t_row h_t_hands h_t_lanes h_t_longs h_t_items h_t_hand h_t_used s_isKept s_taped res.2.1 s_at s_readMany s_readKind s_readCut s_rowSet s_bestSet res.2.2.1 s_w res.2.2.2.1 res.2.2.2.2.1 res.2.2.2.2.2.1 res.2.2.2.2.2.2.1 res.2.2.2.2.2.2.2.1 res.2.2.2.2.2.2.2.2.1 res.2.2.2.2.2.2.2.2.2)) 0 0 (va_A (W_X11_late k h_t h_t_dues h_t_w h_t_firsts h_t_sizes h_t_worths h_t_sums h_t_paidOn h_t_fixed h_t_lates h_t_tape h_t_readWorths h_t_worthOf h_t_lies h_t_pairs h_t_row h_t_hands h_t_lanes h_t_longs h_t_items h_t_hand h_t_used s_isKept s_taped s_pieces s_at s_readMany s_readKind s_readCut s_rowSet s_bestSet s_dues s_w s_firsts s_sizes s_worths s_sums s_paidOn s_fixed s_lates) sz) := by
  refine met_of [(0, .ref h_t), (1, .int v1), (2, .int v2)] (by decide) rfl rfl (Nat.le_of_ble_eq_true rfl) rfl ?_
  intro p e s m args below meth c A hA hsz C
  unfold f_X11_late at h
  refine g_iload_n 0 C 1 dX11_late_0 rfl rfl ?_
  refine g_i2l 1 C dX11_late_1 ?_
  refine g_lconst 2 C (1 : Int64) dX11_late_2 (by decide) ?_
  refine g_ldc2 3 C (60 : Int64) dX11_late_3 ct_X11_late_164 ?_
  obtain ⟨q1, e2, h⟩ := bi_e h
  refine g_callSi 6 C (As := [.long v1.toInt64, .long (1 : Int64), .long (60 : Int64)]) [] [0, 1, 2, 3, 4, 5, 6, 7, 8, 9] [0, 1, 2, 3, 4, 5, 6, 7, 8, 9] (W_X11_late k h_t h_t_dues h_t_w h_t_firsts h_t_sizes h_t_worths h_t_sums h_t_paidOn h_t_fixed h_t_lates h_t_tape h_t_readWorths h_t_worthOf h_t_lies h_t_pairs h_t_row h_t_hands h_t_lanes h_t_longs h_t_items h_t_hand h_t_used s_isKept s_taped s_pieces s_at s_readMany s_readKind s_readCut s_rowSet s_bestSet s_dues s_w s_firsts s_sizes s_worths s_sums s_paidOn s_fixed s_lates) (fun sz => k_X11_in v1.toInt64 (1 : Int64) (60 : Int64) q1 e2 sz) gX11_late_X11_in rfl pd_X11_in rfl ⟨rfl, rfl, Nat.le_of_ble_eq_true rfl, Nat.le_of_ble_eq_true rfl⟩ (Nat.le_of_ble_eq_true rfl) ⟨Nat.zero_le _, Nat.zero_le _⟩ ⟨rfl, rfl, rfl, rfl, rfl, by decide, rfl⟩ rfl dX11_late_6 ?_
  refine g_if_eq 9 26 C dX11_late_9 (by decide) (fun c => ?_) (fun c => ?_)
  · replace h := it_e c h
    refine GG.sub (lv' := []) [] rfl ?_
    exact ok_B_X11_late_26 C hA h
  · replace h := if_e c h
    refine g_iload_n 12 C 2 dX11_late_12 rfl rfl ?_
    refine g_i2l 13 C dX11_late_13 ?_
    refine g_ldc2 14 C (-1 : Int64) dX11_late_14 ct_X11_late_197 ?_
    refine g_ldc2 17 C (4 : Int64) dX11_late_17 ct_X11_late_195 ?_
    obtain ⟨q3, e4, h⟩ := bi_e h
    refine g_callSi 20 C (As := [.long v2.toInt64, .long (-1 : Int64), .long (4 : Int64)]) [] [0, 1, 2, 3, 4, 5, 6, 7, 8, 9] [0, 1, 2, 3, 4, 5, 6, 7, 8, 9] (W_X11_late k h_t h_t_dues h_t_w h_t_firsts h_t_sizes h_t_worths h_t_sums h_t_paidOn h_t_fixed h_t_lates h_t_tape h_t_readWorths h_t_worthOf h_t_lies h_t_pairs h_t_row h_t_hands h_t_lanes h_t_longs h_t_items h_t_hand h_t_used s_isKept s_taped s_pieces s_at s_readMany s_readKind s_readCut s_rowSet s_bestSet s_dues s_w s_firsts s_sizes s_worths s_sums s_paidOn s_fixed s_lates) (fun sz => k_X11_in v2.toInt64 (-1 : Int64) (4 : Int64) q3 e4 sz) gX11_late_X11_in rfl pd_X11_in rfl ⟨rfl, rfl, Nat.le_of_ble_eq_true rfl, Nat.le_of_ble_eq_true rfl⟩ (Nat.le_of_ble_eq_true rfl) ⟨Nat.zero_le _, Nat.zero_le _⟩ ⟨rfl, rfl, rfl, rfl, rfl, by decide, rfl⟩ rfl dX11_late_20 ?_
    refine g_if_ne 23 28 C dX11_late_23 (by decide) (fun c => ?_) (fun c => ?_)
    · replace h := if_e c h
      refine g_aload_n 28 C 0 dX11_late_28 rfl rfl ?_
      obtain ⟨q5, e6, h⟩ := bi_e h
      refine g_callVv 29 C (As := []) [0, 1, 2] [3, 4, 5, 6, 7, 8, 9] [7, 8, 9, 0, 1, 2, 3, 4, 5, 6] (W_X11_late k h_t h_t_dues h_t_w h_t_firsts h_t_sizes h_t_worths h_t_sums h_t_paidOn h_t_fixed h_t_lates h_t_tape h_t_readWorths h_t_worthOf h_t_lies h_t_pairs h_t_row h_t_hands h_t_lanes h_t_longs h_t_items h_t_hand h_t_used s_isKept s_taped s_pieces s_at s_readMany s_readKind s_readCut s_rowSet s_bestSet q5 s_w s_firsts s_sizes s_worths s_sums s_paidOn s_fixed s_lates) 0 (fun sz => k_X11_layDues h_t h_t_dues h_t_w h_t_tape h_t_firsts h_t_sizes h_t_worths h_t_readWorths h_t_sums h_t_worthOf h_t_lies h_t_pairs h_t_row h_t_hands h_t_paidOn h_t_lates h_t_fixed h_t_lanes h_t_longs h_t_items h_t_hand h_t_used s_isKept s_taped s_pieces s_at s_readMany s_readKind s_readCut s_rowSet s_bestSet s_dues s_w q5 e6 sz) gX11_late_X11_layDues rfl pd_X11_layDues rfl rfl rfl ⟨rfl, rfl, Nat.le_of_ble_eq_true rfl, Nat.le_of_ble_eq_true rfl⟩ (Nat.le_of_ble_eq_true rfl) ⟨Nat.zero_le _, Nat.zero_le _⟩ ⟨rfl, rfl, rfl, rfl, rfl, by decide, rfl⟩ rfl dX11_late_29 ?_
      refine g_aload_n 32 C 0 dX11_late_32 rfl rfl ?_
      refine g_aload_n 33 C 0 dX11_late_33 rfl rfl ?_
      refine g_get 34 C in_X11_late_X11 0 0 rfl rfl (by decide) fl_X11_late_7 rfl rfl dX11_late_34 ?_
      refine g_bipush 37 C (26 : Int32) dX11_late_37 (by decide) ?_
      obtain ⟨o7, h⟩ := ob_e h
      refine g_iald 39 C 2 rfl o7 dX11_late_39 ?_
      obtain ⟨q8, e9, h⟩ := bi_e h
      refine g_callVi 40 C (As := [.int (s_w (26 : Int32).toNatClampNeg)]) [0, 2, 3, 4, 5, 6, 1] [7, 8, 9] [3, 9, 4, 5, 6, 7, 8, 0, 1, 2] (W_X11_late k h_t h_t_dues h_t_w h_t_firsts h_t_sizes h_t_worths h_t_sums h_t_paidOn h_t_fixed h_t_lates h_t_tape h_t_readWorths h_t_worthOf h_t_lies h_t_pairs h_t_row h_t_hands h_t_lanes h_t_longs h_t_items h_t_hand h_t_used s_isKept s_taped q8.2.1 s_at s_readMany s_readKind s_readCut s_rowSet s_bestSet q5 s_w q8.2.2.1 q8.2.2.2.1 q8.2.2.2.2.1 q8.2.2.2.2.2 s_paidOn s_fixed s_lates) 0 (fun sz => k_X11_farBy h_t h_t_w h_t_firsts h_t_sizes h_t_worths h_t_sums h_t_dues h_t_tape h_t_readWorths h_t_worthOf h_t_lies h_t_pairs h_t_row h_t_hands h_t_paidOn h_t_lates h_t_fixed h_t_lanes h_t_longs h_t_items h_t_hand h_t_used s_isKept s_taped s_pieces s_at s_readMany s_readKind s_readCut s_rowSet s_bestSet s_w s_firsts s_sizes s_worths s_sums q5 (s_w (26 : Int32).toNatClampNeg) q8 e9 sz) gX11_late_X11_farBy rfl pd_X11_farBy rfl rfl rfl ⟨rfl, rfl, Nat.le_of_ble_eq_true rfl, Nat.le_of_ble_eq_true rfl⟩ (Nat.le_of_ble_eq_true rfl) ⟨Nat.zero_le _, Nat.zero_le _⟩ ⟨rfl, rfl, rfl, rfl, rfl, by decide, rfl⟩ rfl dX11_late_40 ?_
      refine g_iload_n 43 C 1 dX11_late_43 rfl rfl ?_
      refine g_icmp_ge 44 50 C dX11_late_44 (by decide) (fun c => ?_) (fun c => ?_)
      · replace h := it_e c h
        refine g_aload_n 50 C 0 dX11_late_50 rfl rfl ?_
        refine g_get 51 C in_X11_late_X11 0 0 rfl rfl (by decide) fl_X11_late_7 rfl rfl dX11_late_51 ?_
        refine g_bipush 54 C (26 : Int32) dX11_late_54 (by decide) ?_
        obtain ⟨o10, h⟩ := ob_e h
        refine g_iald 56 C 2 rfl o10 dX11_late_56 ?_
        obtain ⟨q11, e12, h⟩ := bi_e h
        refine g_callSi 57 C (As := [.int (s_w (26 : Int32).toNatClampNeg)]) [] [0, 1, 2, 3, 4, 5, 6, 7, 8, 9] [0, 1, 2, 3, 4, 5, 6, 7, 8, 9] (W_X11_late k h_t h_t_dues h_t_w h_t_firsts h_t_sizes h_t_worths h_t_sums h_t_paidOn h_t_fixed h_t_lates h_t_tape h_t_readWorths h_t_worthOf h_t_lies h_t_pairs h_t_row h_t_hands h_t_lanes h_t_longs h_t_items h_t_hand h_t_used s_isKept s_taped q8.2.1 s_at s_readMany s_readKind s_readCut s_rowSet s_bestSet q5 s_w q8.2.2.1 q8.2.2.2.1 q8.2.2.2.2.1 q8.2.2.2.2.2 s_paidOn s_fixed s_lates) (fun sz => k_X11_ones (s_w (26 : Int32).toNatClampNeg) q11 e12 sz) gX11_late_X11_ones rfl pd_X11_ones rfl ⟨rfl, rfl, Nat.le_of_ble_eq_true rfl, Nat.le_of_ble_eq_true rfl⟩ (Nat.le_of_ble_eq_true rfl) ⟨Nat.zero_le _, Nat.zero_le _⟩ ⟨rfl, rfl, rfl, rfl, rfl, by decide, rfl⟩ rfl dX11_late_57 ?_
        refine g_istore_n 60 C [(3, .int q11), (0, .ref h_t), (1, .int v1), (2, .int v2)] dX11_late_60 rfl (by decide) rfl ?_
        refine g_iconst 61 C (0 : Int32) dX11_late_61 (by decide) ?_
        refine g_istore 62 C [(4, .int (0 : Int32)), (3, .int q11), (0, .ref h_t), (1, .int v1), (2, .int v2)] dX11_late_62 (by decide) rfl ?_
        refine GG.sub (lv' := [(0, .ref h_t), (1, .int v1), (2, .int v2), (3, .int q11), (4, .int (0 : Int32))]) [2, 3, 4, 1, 0] rfl ?_
        exact ok_L_X11_late_64 C hA (fun t h => by
          refine GG.sub (lv' := [(0, .ref h_t), (1, .int v1), (2, .int v2), (3, .int q11)]) [0, 1, 2, 3] rfl ?_
          exact ok_B_X11_late_194 C hA h) FUEL ((0 : Int32), q8.2.1, q8.2.2.1, q8.2.2.2.1, q8.2.2.2.2.1, q8.2.2.2.2.2, s_paidOn) h
      · replace h := if_e c h
        refine g_bipush 47 C (-2 : Int32) dX11_late_47 (by decide) ?_
        obtain rfl := Option.some.inj h
        exact g_iret 49 C hA rfl dX11_late_49 rfl
    · replace h := it_e c h
      refine GG.sub (lv' := []) [] rfl ?_
      exact ok_B_X11_late_26 C hA h
end

/-! X11_image -/
abbrev W_X11_image (k : Nat → ClassId) (h_t : Nat) (h_t_w : Nat) (h_t_tape : Nat) (h_t_firsts : Nat) (h_t_sizes : Nat) (h_t_worths : Nat) (h_t_readWorths : Nat) (h_t_dues : Nat) (h_t_sums : Nat) (h_t_worthOf : Nat) (h_t_lies : Nat) (h_t_pairs : Nat) (h_t_row : Nat) (h_t_hands : Nat) (h_t_paidOn : Nat) (h_t_lates : Nat) (h_t_fixed : Nat) (h_t_lanes : Nat) (h_t_longs : Nat) (h_t_items : Nat) (h_t_hand : Nat) (h_t_used : Nat) (s_isKept : Int32) (s_taped : Int32) (s_pieces : Int32) (s_at : Int32) (s_readMany : Int32) (s_readKind : Int32) (s_readCut : Int32) (s_rowSet : Int32) (s_bestSet : Int32) (s_w : Nat → Int32) : va_W := [(h_t, .inr (11, [.ref h_t_w, .int s_isKept, .ref h_t_tape, .int s_taped, .ref h_t_firsts, .ref h_t_sizes, .ref h_t_worths, .int s_pieces, .int s_at, .ref h_t_readWorths, .int s_readMany, .int s_readKind, .int s_readCut, .ref h_t_dues, .ref h_t_sums, .ref h_t_worthOf, .ref h_t_lies, .ref h_t_pairs, .ref h_t_row, .int s_rowSet, .int s_bestSet, .ref h_t_hands, .ref h_t_paidOn, .ref h_t_lates, .ref h_t_fixed, .ref h_t_lanes, .ref h_t_longs, .ref h_t_items, .ref h_t_hand, .ref h_t_used])), (h_t_w, .inl (k 0, 60, .inl s_w))]
def rm_X11_image : Room := { frames := 0, cells := 0, slots := 0, locals := 0 }
theorem in_X11_image_X11 : ∀ w ∈ u_ws RX11 TX11 30, w ∈ wsX11_image := by decide +kernel
theorem fl_X11_image_207 : Cond.fieldLink RX11 207 "LinkDaysModel" "isKept" "Z" ∈ wsX11_image := by decide +kernel
theorem fl_X11_image_7 : Cond.fieldLink RX11 7 "LinkDaysModel" "w" "[I" ∈ wsX11_image := by decide +kernel
theorem pd_X11_image : yX11_image.cls = RX11 ∧ yX11_image.cls ≠ "java/lang/invoke/MethodHandle" ∧ yX11_image.cls ≠ "java/lang/invoke/VarHandle" ∧ (parseMethodDescriptor yX11_image.desc).map (fun d => d.parameters.length) = some 0 := by decide +kernel
section
variable {p : Program} {l : Launch} {e : Env} {s : State} {m : MethodId} {args : Array Value} {below : List Frame} {meth : Method} {c : Code} {D : va_G} {k : Nat → ClassId} {A : Nat → Prop} {w0 : va_W} {sz : Nat}
set_option maxHeartbeats 4000000 in
set_option maxRecDepth 100000 in
theorem ok_L_X11_image_2 {h_t : Nat} {h_t_w : Nat} {h_t_tape : Nat} {h_t_firsts : Nat} {h_t_sizes : Nat} {h_t_worths : Nat} {h_t_readWorths : Nat} {h_t_dues : Nat} {h_t_sums : Nat} {h_t_worthOf : Nat} {h_t_lies : Nat} {h_t_pairs : Nat} {h_t_row : Nat} {h_t_hands : Nat} {h_t_paidOn : Nat} {h_t_lates : Nat} {h_t_fixed : Nat} {h_t_lanes : Nat} {h_t_longs : Nat} {h_t_items : Nat} {h_t_hand : Nat} {h_t_used : Nat} {s_isKept : Int32} {s_taped : Int32} {s_pieces : Int32} {s_at : Int32} {s_readMany : Int32} {s_readKind : Int32} {s_readCut : Int32} {s_rowSet : Int32} {s_bestSet : Int32} {res : Int32 × Int32 × (Nat → Int32)} (C : CX p s m args meth c cX11_image wsX11_image RX11 2 D k A (some .int)) (hA : A = va_A w0 sz) {kx : Int32 × (Nat → Int32) → Option (Int32 × Int32 × (Nat → Int32))} (hx : ∀ t : Int32 × (Nat → Int32), kx t = some res → GG p l e rm_X11_image s m args below meth c (MQ below (cQi D w0 sz res.1 (W_X11_image k h_t h_t_w h_t_tape h_t_firsts h_t_sizes h_t_worths h_t_readWorths h_t_dues h_t_sums h_t_worthOf h_t_lies h_t_pairs h_t_row h_t_hands h_t_paidOn h_t_lates h_t_fixed h_t_lanes h_t_longs h_t_items h_t_hand h_t_used res.2.1 s_taped s_pieces s_at s_readMany s_readKind s_readCut s_rowSet s_bestSet res.2.2)) args s 0 0 A) D A 2 0 0 29 [(0, .ref h_t)] [] (W_X11_image k h_t h_t_w h_t_tape h_t_firsts h_t_sizes h_t_worths h_t_readWorths h_t_dues h_t_sums h_t_worthOf h_t_lies h_t_pairs h_t_row h_t_hands h_t_paidOn h_t_lates h_t_fixed h_t_lanes h_t_longs h_t_items h_t_hand h_t_used s_isKept s_taped s_pieces s_at s_readMany s_readKind s_readCut s_rowSet s_bestSet t.2)) : ∀ (n : Nat) (t : Int32 × (Nat → Int32)), L_X11_image_2 kx n t = some res → GG p l e rm_X11_image s m args below meth c (MQ below (cQi D w0 sz res.1 (W_X11_image k h_t h_t_w h_t_tape h_t_firsts h_t_sizes h_t_worths h_t_readWorths h_t_dues h_t_sums h_t_worthOf h_t_lies h_t_pairs h_t_row h_t_hands h_t_paidOn h_t_lates h_t_fixed h_t_lanes h_t_longs h_t_items h_t_hand h_t_used res.2.1 s_taped s_pieces s_at s_readMany s_readKind s_readCut s_rowSet s_bestSet res.2.2)) args s 0 0 A) D A 2 0 0 2 [(0, .ref h_t), (1, .int t.1)] [] (W_X11_image k h_t h_t_w h_t_tape h_t_firsts h_t_sizes h_t_worths h_t_readWorths h_t_dues h_t_sums h_t_worthOf h_t_lies h_t_pairs h_t_row h_t_hands h_t_paidOn h_t_lates h_t_fixed h_t_lanes h_t_longs h_t_items h_t_hand h_t_used s_isKept s_taped s_pieces s_at s_readMany s_readKind s_readCut s_rowSet s_bestSet t.2) := by
  intro n
  induction n with
  | zero => intro t h; cases h
  | succ n ih =>
    intro t h
    obtain ⟨v1, s_w⟩ := t
    replace h : LB_X11_image_2 kx (L_X11_image_2 kx n) v1 s_w = some res := h
    have hr := ih
    unfold LB_X11_image_2 at h
    refine g_iload_n 2 C 1 dX11_image_2 rfl rfl ?_
    refine g_bipush 3 C (30 : Int32) dX11_image_3 (by decide) ?_
    refine g_icmp_ge 5 29 C dX11_image_5 (by decide) (fun c => ?_) (fun c => ?_)
    · replace h := it_e c h
      refine GG.sub (lv' := [(0, .ref h_t)]) [0] rfl ?_
      exact hx (v1, s_w) h
    · replace h := if_e c h
      refine g_aload_n 8 C 0 dX11_image_8 rfl rfl ?_
      refine g_get 9 C in_X11_image_X11 0 0 rfl rfl (by decide) fl_X11_image_7 rfl rfl dX11_image_9 ?_
      refine g_bipush 12 C (30 : Int32) dX11_image_12 (by decide) ?_
      refine g_iload_n 14 C 1 dX11_image_14 rfl rfl ?_
      refine g_iadd 15 C dX11_image_15 ?_
      refine g_aload_n 16 C 0 dX11_image_16 rfl rfl ?_
      refine g_get 17 C in_X11_image_X11 0 0 rfl rfl (by decide) fl_X11_image_7 rfl rfl dX11_image_17 ?_
      refine g_iload_n 20 C 1 dX11_image_20 rfl rfl ?_
      obtain ⟨o1, h⟩ := ob_e h
      refine g_iald 21 C 1 rfl o1 dX11_image_21 ?_
      obtain ⟨o2, h⟩ := ob_e h
      refine g_iast 22 C (W_X11_image k h_t h_t_w h_t_tape h_t_firsts h_t_sizes h_t_worths h_t_readWorths h_t_dues h_t_sums h_t_worthOf h_t_lies h_t_pairs h_t_row h_t_hands h_t_paidOn h_t_lates h_t_fixed h_t_lanes h_t_longs h_t_items h_t_hand h_t_used s_isKept s_taped s_pieces s_at s_readMany s_readKind s_readCut s_rowSet s_bestSet (upd s_w ((30 : Int32) + v1).toNatClampNeg (s_w v1.toNatClampNeg))) 1 rfl o2 rfl dX11_image_22 ?_
      refine g_iinc 23 C 1 (1 : Int32) [(1, .int (v1 + (1 : Int32))), (0, .ref h_t)] dX11_image_23 rfl (by decide) (by decide) rfl ?_
      refine g_goto 26 2 C dX11_image_26 (by decide) ?_
      refine GG.sub (lv' := [(0, .ref h_t), (1, .int (v1 + (1 : Int32)))]) [1, 0] rfl ?_
      exact hr ((v1 + (1 : Int32)), (upd s_w ((30 : Int32) + v1).toNatClampNeg (s_w v1.toNatClampNeg))) h
set_option maxHeartbeats 4000000 in
set_option maxRecDepth 100000 in
theorem ok_B_X11_image_29 {h_t : Nat} {h_t_w : Nat} {h_t_tape : Nat} {h_t_firsts : Nat} {h_t_sizes : Nat} {h_t_worths : Nat} {h_t_readWorths : Nat} {h_t_dues : Nat} {h_t_sums : Nat} {h_t_worthOf : Nat} {h_t_lies : Nat} {h_t_pairs : Nat} {h_t_row : Nat} {h_t_hands : Nat} {h_t_paidOn : Nat} {h_t_lates : Nat} {h_t_fixed : Nat} {h_t_lanes : Nat} {h_t_longs : Nat} {h_t_items : Nat} {h_t_hand : Nat} {h_t_used : Nat} {s_isKept : Int32} {s_taped : Int32} {s_pieces : Int32} {s_at : Int32} {s_readMany : Int32} {s_readKind : Int32} {s_readCut : Int32} {s_rowSet : Int32} {s_bestSet : Int32} {s_w : Nat → Int32} {res : Int32 × Int32 × (Nat → Int32)} (C : CX p s m args meth c cX11_image wsX11_image RX11 2 D k A (some .int)) (hA : A = va_A w0 sz)  (h : B_X11_image_29 s_w = some res) : GG p l e rm_X11_image s m args below meth c (MQ below (cQi D w0 sz res.1 (W_X11_image k h_t h_t_w h_t_tape h_t_firsts h_t_sizes h_t_worths h_t_readWorths h_t_dues h_t_sums h_t_worthOf h_t_lies h_t_pairs h_t_row h_t_hands h_t_paidOn h_t_lates h_t_fixed h_t_lanes h_t_longs h_t_items h_t_hand h_t_used res.2.1 s_taped s_pieces s_at s_readMany s_readKind s_readCut s_rowSet s_bestSet res.2.2)) args s 0 0 A) D A 2 0 0 29 [(0, .ref h_t)] [] (W_X11_image k h_t h_t_w h_t_tape h_t_firsts h_t_sizes h_t_worths h_t_readWorths h_t_dues h_t_sums h_t_worthOf h_t_lies h_t_pairs h_t_row h_t_hands h_t_paidOn h_t_lates h_t_fixed h_t_lanes h_t_longs h_t_items h_t_hand h_t_used s_isKept s_taped s_pieces s_at s_readMany s_readKind s_readCut s_rowSet s_bestSet s_w) := by
  unfold B_X11_image_29 at h
  refine g_aload_n 29 C 0 dX11_image_29 rfl rfl ?_
  refine g_iconst 30 C (1 : Int32) dX11_image_30 (by decide) ?_
  refine g_put 31 C (W_X11_image k h_t h_t_w h_t_tape h_t_firsts h_t_sizes h_t_worths h_t_readWorths h_t_dues h_t_sums h_t_worthOf h_t_lies h_t_pairs h_t_row h_t_hands h_t_paidOn h_t_lates h_t_fixed h_t_lanes h_t_longs h_t_items h_t_hand h_t_used (1 : Int32) s_taped s_pieces s_at s_readMany s_readKind s_readCut s_rowSet s_bestSet s_w) in_X11_image_X11 tyX11 tyX11_ok nmX11 0 1 rfl rfl (by decide) fl_X11_image_207 rfl rfl (tyX11_ok 1 (by decide)) rfl rfl (Nat.le_of_ble_eq_true rfl) rfl dX11_image_31 ?_
  refine g_iconst 34 C (1 : Int32) dX11_image_34 (by decide) ?_
  obtain rfl := Option.some.inj h
  exact g_iret 35 C hA rfl dX11_image_35 rfl
set_option maxHeartbeats 4000000 in
set_option maxRecDepth 100000 in
theorem k_X11_image {l : Launch} {D : va_G} {k : Nat → ClassId} (h_t : Nat) (h_t_w : Nat) (h_t_tape : Nat) (h_t_firsts : Nat) (h_t_sizes : Nat) (h_t_worths : Nat) (h_t_readWorths : Nat) (h_t_dues : Nat) (h_t_sums : Nat) (h_t_worthOf : Nat) (h_t_lies : Nat) (h_t_pairs : Nat) (h_t_row : Nat) (h_t_hands : Nat) (h_t_paidOn : Nat) (h_t_lates : Nat) (h_t_fixed : Nat) (h_t_lanes : Nat) (h_t_longs : Nat) (h_t_items : Nat) (h_t_hand : Nat) (h_t_used : Nat) (s_isKept : Int32) (s_taped : Int32) (s_pieces : Int32) (s_at : Int32) (s_readMany : Int32) (s_readKind : Int32) (s_readCut : Int32) (s_rowSet : Int32) (s_bestSet : Int32) (s_w : Nat → Int32) (res : Int32 × Int32 × (Nat → Int32)) (h : f_X11_image s_w = some res) (sz : Nat) : Met l yX11_image wsX11_image rm_X11_image (cPre D k [.ref h_t] (W_X11_image k h_t h_t_w h_t_tape h_t_firsts h_t_sizes h_t_worths h_t_readWorths h_t_dues h_t_sums h_t_worthOf h_t_lies h_t_pairs h_t_row h_t_hands h_t_paidOn h_t_lates h_t_fixed h_t_lanes h_t_longs h_t_items h_t_hand h_t_used s_isKept s_taped s_pieces s_at s_readMany s_readKind s_readCut s_rowSet s_bestSet s_w) sz) (cQi D (W_X11_image k h_t h_t_w h_t_tape h_t_firsts h_t_sizes h_t_worths h_t_readWorths h_t_dues h_t_sums h_t_worthOf h_t_lies h_t_pairs h_t_row h_t_hands h_t_paidOn h_t_lates h_t_fixed h_t_lanes h_t_longs h_t_items h_t_hand h_t_used s_isKept s_taped s_pieces s_at s_readMany s_readKind s_readCut s_rowSet s_bestSet s_w) sz res.1 (W_X11_image k h_t h_t_w h_t_tape h_t_firsts h_t_sizes h_t_worths h_t_readWorths h_t_dues h_t_sums h_t_worthOf h_t_lies h_t_pairs h_t_row h_t_hands h_t_paidOn h_t_lates h_t_fixed h_t_lanes h_t_longs h_t_items h_t_hand h_t_used res.2.1 s_taped s_pieces s_at s_readMany s_readKind s_readCut s_rowSet s_bestSet res.2.2)) 0 0 (va_A (W_X11_image k h_t h_t_w h_t_tape h_t_firsts h_t_sizes h_t_worths h_t_readWorths h_t_dues h_t_sums h_t_worthOf h_t_lies h_t_pairs h_t_row h_t_hands h_t_paidOn h_t_lates h_t_fixed h_t_lanes h_t_longs h_t_items h_t_hand h_t_used s_isKept s_taped s_pieces s_at s_readMany s_readKind s_readCut s_rowSet s_bestSet s_w) sz) := by
  refine met_of [(0, .ref h_t)] (by decide) rfl rfl (Nat.le_of_ble_eq_true rfl) rfl ?_
  intro p e s m args below meth c A hA hsz C
  unfold f_X11_image at h
  refine g_iconst 0 C (0 : Int32) dX11_image_0 (by decide) ?_
  refine g_istore_n 1 C [(1, .int (0 : Int32)), (0, .ref h_t)] dX11_image_1 rfl (by decide) rfl ?_
  refine GG.sub (lv' := [(0, .ref h_t), (1, .int (0 : Int32))]) [1, 0] rfl ?_
  exact ok_L_X11_image_2 C hA (fun t h => by
    refine GG.sub (lv' := [(0, .ref h_t)]) [0] rfl ?_
    exact ok_B_X11_image_29 C hA h) FUEL ((0 : Int32), s_w) h
end

/-! X11_restore -/
abbrev W_X11_restore (k : Nat → ClassId) (h_t : Nat) (h_t_w : Nat) (h_t_tape : Nat) (h_t_firsts : Nat) (h_t_sizes : Nat) (h_t_worths : Nat) (h_t_readWorths : Nat) (h_t_dues : Nat) (h_t_sums : Nat) (h_t_worthOf : Nat) (h_t_lies : Nat) (h_t_pairs : Nat) (h_t_row : Nat) (h_t_hands : Nat) (h_t_paidOn : Nat) (h_t_lates : Nat) (h_t_fixed : Nat) (h_t_lanes : Nat) (h_t_longs : Nat) (h_t_items : Nat) (h_t_hand : Nat) (h_t_used : Nat) (s_isKept : Int32) (s_taped : Int32) (s_pieces : Int32) (s_at : Int32) (s_readMany : Int32) (s_readKind : Int32) (s_readCut : Int32) (s_rowSet : Int32) (s_bestSet : Int32) (s_w : Nat → Int32) : va_W := [(h_t, .inr (11, [.ref h_t_w, .int s_isKept, .ref h_t_tape, .int s_taped, .ref h_t_firsts, .ref h_t_sizes, .ref h_t_worths, .int s_pieces, .int s_at, .ref h_t_readWorths, .int s_readMany, .int s_readKind, .int s_readCut, .ref h_t_dues, .ref h_t_sums, .ref h_t_worthOf, .ref h_t_lies, .ref h_t_pairs, .ref h_t_row, .int s_rowSet, .int s_bestSet, .ref h_t_hands, .ref h_t_paidOn, .ref h_t_lates, .ref h_t_fixed, .ref h_t_lanes, .ref h_t_longs, .ref h_t_items, .ref h_t_hand, .ref h_t_used])), (h_t_w, .inl (k 0, 60, .inl s_w))]
def rm_X11_restore : Room := { frames := 0, cells := 0, slots := 0, locals := 0 }
theorem in_X11_restore_X11 : ∀ w ∈ u_ws RX11 TX11 30, w ∈ wsX11_restore := by decide +kernel
theorem fl_X11_restore_207 : Cond.fieldLink RX11 207 "LinkDaysModel" "isKept" "Z" ∈ wsX11_restore := by decide +kernel
theorem fl_X11_restore_7 : Cond.fieldLink RX11 7 "LinkDaysModel" "w" "[I" ∈ wsX11_restore := by decide +kernel
theorem pd_X11_restore : yX11_restore.cls = RX11 ∧ yX11_restore.cls ≠ "java/lang/invoke/MethodHandle" ∧ yX11_restore.cls ≠ "java/lang/invoke/VarHandle" ∧ (parseMethodDescriptor yX11_restore.desc).map (fun d => d.parameters.length) = some 0 := by decide +kernel
section
variable {p : Program} {l : Launch} {e : Env} {s : State} {m : MethodId} {args : Array Value} {below : List Frame} {meth : Method} {c : Code} {D : va_G} {k : Nat → ClassId} {A : Nat → Prop} {w0 : va_W} {sz : Nat}
set_option maxHeartbeats 4000000 in
set_option maxRecDepth 100000 in
theorem ok_L_X11_restore_12 {h_t : Nat} {h_t_w : Nat} {h_t_tape : Nat} {h_t_firsts : Nat} {h_t_sizes : Nat} {h_t_worths : Nat} {h_t_readWorths : Nat} {h_t_dues : Nat} {h_t_sums : Nat} {h_t_worthOf : Nat} {h_t_lies : Nat} {h_t_pairs : Nat} {h_t_row : Nat} {h_t_hands : Nat} {h_t_paidOn : Nat} {h_t_lates : Nat} {h_t_fixed : Nat} {h_t_lanes : Nat} {h_t_longs : Nat} {h_t_items : Nat} {h_t_hand : Nat} {h_t_used : Nat} {s_isKept : Int32} {s_taped : Int32} {s_pieces : Int32} {s_at : Int32} {s_readMany : Int32} {s_readKind : Int32} {s_readCut : Int32} {s_rowSet : Int32} {s_bestSet : Int32} {res : Int32 × (Nat → Int32)} (C : CX p s m args meth c cX11_restore wsX11_restore RX11 2 D k A (some .int)) (hA : A = va_A w0 sz) {kx : Int32 × (Nat → Int32) → Option (Int32 × (Nat → Int32))} (hx : ∀ t : Int32 × (Nat → Int32), kx t = some res → GG p l e rm_X11_restore s m args below meth c (MQ below (cQi D w0 sz res.1 (W_X11_restore k h_t h_t_w h_t_tape h_t_firsts h_t_sizes h_t_worths h_t_readWorths h_t_dues h_t_sums h_t_worthOf h_t_lies h_t_pairs h_t_row h_t_hands h_t_paidOn h_t_lates h_t_fixed h_t_lanes h_t_longs h_t_items h_t_hand h_t_used s_isKept s_taped s_pieces s_at s_readMany s_readKind s_readCut s_rowSet s_bestSet res.2)) args s 0 0 A) D A 2 0 0 39 [] [] (W_X11_restore k h_t h_t_w h_t_tape h_t_firsts h_t_sizes h_t_worths h_t_readWorths h_t_dues h_t_sums h_t_worthOf h_t_lies h_t_pairs h_t_row h_t_hands h_t_paidOn h_t_lates h_t_fixed h_t_lanes h_t_longs h_t_items h_t_hand h_t_used s_isKept s_taped s_pieces s_at s_readMany s_readKind s_readCut s_rowSet s_bestSet t.2)) : ∀ (n : Nat) (t : Int32 × (Nat → Int32)), L_X11_restore_12 kx n t = some res → GG p l e rm_X11_restore s m args below meth c (MQ below (cQi D w0 sz res.1 (W_X11_restore k h_t h_t_w h_t_tape h_t_firsts h_t_sizes h_t_worths h_t_readWorths h_t_dues h_t_sums h_t_worthOf h_t_lies h_t_pairs h_t_row h_t_hands h_t_paidOn h_t_lates h_t_fixed h_t_lanes h_t_longs h_t_items h_t_hand h_t_used s_isKept s_taped s_pieces s_at s_readMany s_readKind s_readCut s_rowSet s_bestSet res.2)) args s 0 0 A) D A 2 0 0 12 [(0, .ref h_t), (1, .int t.1)] [] (W_X11_restore k h_t h_t_w h_t_tape h_t_firsts h_t_sizes h_t_worths h_t_readWorths h_t_dues h_t_sums h_t_worthOf h_t_lies h_t_pairs h_t_row h_t_hands h_t_paidOn h_t_lates h_t_fixed h_t_lanes h_t_longs h_t_items h_t_hand h_t_used s_isKept s_taped s_pieces s_at s_readMany s_readKind s_readCut s_rowSet s_bestSet t.2) := by
  intro n
  induction n with
  | zero => intro t h; cases h
  | succ n ih =>
    intro t h
    obtain ⟨v1, s_w⟩ := t
    replace h : LB_X11_restore_12 kx (L_X11_restore_12 kx n) v1 s_w = some res := h
    have hr := ih
    unfold LB_X11_restore_12 at h
    refine g_iload_n 12 C 1 dX11_restore_12 rfl rfl ?_
    refine g_bipush 13 C (30 : Int32) dX11_restore_13 (by decide) ?_
    refine g_icmp_ge 15 39 C dX11_restore_15 (by decide) (fun c => ?_) (fun c => ?_)
    · replace h := it_e c h
      refine GG.sub (lv' := []) [] rfl ?_
      exact hx (v1, s_w) h
    · replace h := if_e c h
      refine g_aload_n 18 C 0 dX11_restore_18 rfl rfl ?_
      refine g_get 19 C in_X11_restore_X11 0 0 rfl rfl (by decide) fl_X11_restore_7 rfl rfl dX11_restore_19 ?_
      refine g_iload_n 22 C 1 dX11_restore_22 rfl rfl ?_
      refine g_aload_n 23 C 0 dX11_restore_23 rfl rfl ?_
      refine g_get 24 C in_X11_restore_X11 0 0 rfl rfl (by decide) fl_X11_restore_7 rfl rfl dX11_restore_24 ?_
      refine g_bipush 27 C (30 : Int32) dX11_restore_27 (by decide) ?_
      refine g_iload_n 29 C 1 dX11_restore_29 rfl rfl ?_
      refine g_iadd 30 C dX11_restore_30 ?_
      obtain ⟨o1, h⟩ := ob_e h
      refine g_iald 31 C 1 rfl o1 dX11_restore_31 ?_
      obtain ⟨o2, h⟩ := ob_e h
      refine g_iast 32 C (W_X11_restore k h_t h_t_w h_t_tape h_t_firsts h_t_sizes h_t_worths h_t_readWorths h_t_dues h_t_sums h_t_worthOf h_t_lies h_t_pairs h_t_row h_t_hands h_t_paidOn h_t_lates h_t_fixed h_t_lanes h_t_longs h_t_items h_t_hand h_t_used s_isKept s_taped s_pieces s_at s_readMany s_readKind s_readCut s_rowSet s_bestSet (upd s_w v1.toNatClampNeg (s_w ((30 : Int32) + v1).toNatClampNeg))) 1 rfl o2 rfl dX11_restore_32 ?_
      refine g_iinc 33 C 1 (1 : Int32) [(1, .int (v1 + (1 : Int32))), (0, .ref h_t)] dX11_restore_33 rfl (by decide) (by decide) rfl ?_
      refine g_goto 36 12 C dX11_restore_36 (by decide) ?_
      refine GG.sub (lv' := [(0, .ref h_t), (1, .int (v1 + (1 : Int32)))]) [1, 0] rfl ?_
      exact hr ((v1 + (1 : Int32)), (upd s_w v1.toNatClampNeg (s_w ((30 : Int32) + v1).toNatClampNeg))) h
set_option maxHeartbeats 4000000 in
set_option maxRecDepth 100000 in
theorem ok_B_X11_restore_39 {h_t : Nat} {h_t_w : Nat} {h_t_tape : Nat} {h_t_firsts : Nat} {h_t_sizes : Nat} {h_t_worths : Nat} {h_t_readWorths : Nat} {h_t_dues : Nat} {h_t_sums : Nat} {h_t_worthOf : Nat} {h_t_lies : Nat} {h_t_pairs : Nat} {h_t_row : Nat} {h_t_hands : Nat} {h_t_paidOn : Nat} {h_t_lates : Nat} {h_t_fixed : Nat} {h_t_lanes : Nat} {h_t_longs : Nat} {h_t_items : Nat} {h_t_hand : Nat} {h_t_used : Nat} {s_isKept : Int32} {s_taped : Int32} {s_pieces : Int32} {s_at : Int32} {s_readMany : Int32} {s_readKind : Int32} {s_readCut : Int32} {s_rowSet : Int32} {s_bestSet : Int32} {s_w : Nat → Int32} {res : Int32 × (Nat → Int32)} (C : CX p s m args meth c cX11_restore wsX11_restore RX11 2 D k A (some .int)) (hA : A = va_A w0 sz)  (h : B_X11_restore_39 s_w = some res) : GG p l e rm_X11_restore s m args below meth c (MQ below (cQi D w0 sz res.1 (W_X11_restore k h_t h_t_w h_t_tape h_t_firsts h_t_sizes h_t_worths h_t_readWorths h_t_dues h_t_sums h_t_worthOf h_t_lies h_t_pairs h_t_row h_t_hands h_t_paidOn h_t_lates h_t_fixed h_t_lanes h_t_longs h_t_items h_t_hand h_t_used s_isKept s_taped s_pieces s_at s_readMany s_readKind s_readCut s_rowSet s_bestSet res.2)) args s 0 0 A) D A 2 0 0 39 [] [] (W_X11_restore k h_t h_t_w h_t_tape h_t_firsts h_t_sizes h_t_worths h_t_readWorths h_t_dues h_t_sums h_t_worthOf h_t_lies h_t_pairs h_t_row h_t_hands h_t_paidOn h_t_lates h_t_fixed h_t_lanes h_t_longs h_t_items h_t_hand h_t_used s_isKept s_taped s_pieces s_at s_readMany s_readKind s_readCut s_rowSet s_bestSet s_w) := by
  unfold B_X11_restore_39 at h
  refine g_iconst 39 C (1 : Int32) dX11_restore_39 (by decide) ?_
  obtain rfl := Option.some.inj h
  exact g_iret 40 C hA rfl dX11_restore_40 rfl
set_option maxHeartbeats 4000000 in
set_option maxRecDepth 100000 in
theorem k_X11_restore {l : Launch} {D : va_G} {k : Nat → ClassId} (h_t : Nat) (h_t_w : Nat) (h_t_tape : Nat) (h_t_firsts : Nat) (h_t_sizes : Nat) (h_t_worths : Nat) (h_t_readWorths : Nat) (h_t_dues : Nat) (h_t_sums : Nat) (h_t_worthOf : Nat) (h_t_lies : Nat) (h_t_pairs : Nat) (h_t_row : Nat) (h_t_hands : Nat) (h_t_paidOn : Nat) (h_t_lates : Nat) (h_t_fixed : Nat) (h_t_lanes : Nat) (h_t_longs : Nat) (h_t_items : Nat) (h_t_hand : Nat) (h_t_used : Nat) (s_isKept : Int32) (s_taped : Int32) (s_pieces : Int32) (s_at : Int32) (s_readMany : Int32) (s_readKind : Int32) (s_readCut : Int32) (s_rowSet : Int32) (s_bestSet : Int32) (s_w : Nat → Int32) (res : Int32 × (Nat → Int32)) (h : f_X11_restore s_isKept s_w = some res) (sz : Nat) : Met l yX11_restore wsX11_restore rm_X11_restore (cPre D k [.ref h_t] (W_X11_restore k h_t h_t_w h_t_tape h_t_firsts h_t_sizes h_t_worths h_t_readWorths h_t_dues h_t_sums h_t_worthOf h_t_lies h_t_pairs h_t_row h_t_hands h_t_paidOn h_t_lates h_t_fixed h_t_lanes h_t_longs h_t_items h_t_hand h_t_used s_isKept s_taped s_pieces s_at s_readMany s_readKind s_readCut s_rowSet s_bestSet s_w) sz) (cQi D (W_X11_restore k h_t h_t_w h_t_tape h_t_firsts h_t_sizes h_t_worths h_t_readWorths h_t_dues h_t_sums h_t_worthOf h_t_lies h_t_pairs h_t_row h_t_hands h_t_paidOn h_t_lates h_t_fixed h_t_lanes h_t_longs h_t_items h_t_hand h_t_used s_isKept s_taped s_pieces s_at s_readMany s_readKind s_readCut s_rowSet s_bestSet s_w) sz res.1 (W_X11_restore k h_t h_t_w h_t_tape h_t_firsts h_t_sizes h_t_worths h_t_readWorths h_t_dues h_t_sums h_t_worthOf h_t_lies h_t_pairs h_t_row h_t_hands h_t_paidOn h_t_lates h_t_fixed h_t_lanes h_t_longs h_t_items h_t_hand h_t_used s_isKept s_taped s_pieces s_at s_readMany s_readKind s_readCut s_rowSet s_bestSet res.2)) 0 0 (va_A (W_X11_restore k h_t h_t_w h_t_tape h_t_firsts h_t_sizes h_t_worths h_t_readWorths h_t_dues h_t_sums h_t_worthOf h_t_lies h_t_pairs h_t_row h_t_hands h_t_paidOn h_t_lates h_t_fixed h_t_lanes h_t_longs h_t_items h_t_hand h_t_used s_isKept s_taped s_pieces s_at s_readMany s_readKind s_readCut s_rowSet s_bestSet s_w) sz) := by
  refine met_of [(0, .ref h_t)] (by decide) rfl rfl (Nat.le_of_ble_eq_true rfl) rfl ?_
  intro p e s m args below meth c A hA hsz C
  unfold f_X11_restore at h
  refine g_aload_n 0 C 0 dX11_restore_0 rfl rfl ?_
  refine g_get 1 C in_X11_restore_X11 0 1 rfl rfl (by decide) fl_X11_restore_207 rfl rfl dX11_restore_1 ?_
  refine g_if_ne 4 10 C dX11_restore_4 (by decide) (fun c => ?_) (fun c => ?_)
  · replace h := if_e c h
    refine g_iconst 10 C (0 : Int32) dX11_restore_10 (by decide) ?_
    refine g_istore_n 11 C [(1, .int (0 : Int32)), (0, .ref h_t)] dX11_restore_11 rfl (by decide) rfl ?_
    refine GG.sub (lv' := [(0, .ref h_t), (1, .int (0 : Int32))]) [1, 0] rfl ?_
    exact ok_L_X11_restore_12 C hA (fun t h => by
      refine GG.sub (lv' := []) [] rfl ?_
      exact ok_B_X11_restore_39 C hA h) FUEL ((0 : Int32), s_w) h
  · replace h := it_e c h
    refine g_bipush 7 C (-4 : Int32) dX11_restore_7 (by decide) ?_
    obtain rfl := Option.some.inj h
    exact g_iret 9 C hA rfl dX11_restore_9 rfl
end

/-! X11_isSheet -/
abbrev W_X11_isSheet (k : Nat → ClassId) : va_W := []
def rm_X11_isSheet : Room := { frames := 1, cells := 0, slots := 0, locals := 25 }
theorem ct_X11_isSheet_100 : Cond.constantLong RX11 100 (3 : Int64) ∈ wsX11_isSheet := by decide +kernel
theorem pd_X11_isSheet : yX11_isSheet.cls ≠ "java/lang/invoke/MethodHandle" ∧ yX11_isSheet.cls ≠ "java/lang/invoke/VarHandle" ∧ (parseMethodDescriptor yX11_isSheet.desc).map (fun d => d.parameters.length) = some 1 := by decide +kernel
section
variable {p : Program} {l : Launch} {e : Env} {s : State} {m : MethodId} {args : Array Value} {below : List Frame} {meth : Method} {c : Code} {D : va_G} {k : Nat → ClassId} {A : Nat → Prop} {w0 : va_W} {sz : Nat}
set_option maxHeartbeats 4000000 in
set_option maxRecDepth 100000 in
theorem k_X11_isSheet {l : Launch} {D : va_G} {k : Nat → ClassId} (v0 : Int32) (res : Int32) (h : f_X11_isSheet v0 = some res) (sz : Nat) : Met l yX11_isSheet wsX11_isSheet rm_X11_isSheet (cPre D k [.int v0] (W_X11_isSheet k) sz) (cQi D (W_X11_isSheet k) sz res (W_X11_isSheet k)) 0 0 (va_A (W_X11_isSheet k) sz) := by
  refine met_of [(0, .int v0)] (by decide) rfl rfl (Nat.le_of_ble_eq_true rfl) rfl ?_
  intro p e s m args below meth c A hA hsz C
  unfold f_X11_isSheet at h
  refine g_iload_n 0 C 0 dX11_isSheet_0 rfl rfl ?_
  refine g_i2l 1 C dX11_isSheet_1 ?_
  refine g_lconst 2 C (0 : Int64) dX11_isSheet_2 (by decide) ?_
  refine g_ldc2 3 C (3 : Int64) dX11_isSheet_3 ct_X11_isSheet_100 ?_
  obtain ⟨q1, e2, h⟩ := bi_e h
  refine g_callSi 6 C (As := [.long v0.toInt64, .long (0 : Int64), .long (3 : Int64)]) [] [] [] (W_X11_isSheet k) (fun sz => k_X11_in v0.toInt64 (0 : Int64) (3 : Int64) q1 e2 sz) gX11_isSheet_X11_in rfl pd_X11_in rfl ⟨rfl, rfl, Nat.le_of_ble_eq_true rfl, Nat.le_of_ble_eq_true rfl⟩ (Nat.le_of_ble_eq_true rfl) ⟨Nat.zero_le _, Nat.zero_le _⟩ ⟨rfl, rfl, rfl, rfl, rfl, by decide, rfl⟩ rfl dX11_isSheet_6 ?_
  obtain ⟨o3, h⟩ := ob_e h
  obtain rfl := Option.some.inj h
  exact g_zret 9 C hA rfl (zb_n o3) dX11_isSheet_9 rfl
end

/-! X11_bars -/
abbrev W_X11_bars (k : Nat → ClassId) (h_t : Nat) (h_t_lanes : Nat) (h_t_longs : Nat) (h_t_w : Nat) (h_t_tape : Nat) (h_t_firsts : Nat) (h_t_sizes : Nat) (h_t_worths : Nat) (h_t_readWorths : Nat) (h_t_dues : Nat) (h_t_sums : Nat) (h_t_worthOf : Nat) (h_t_lies : Nat) (h_t_pairs : Nat) (h_t_row : Nat) (h_t_hands : Nat) (h_t_paidOn : Nat) (h_t_lates : Nat) (h_t_fixed : Nat) (h_t_items : Nat) (h_t_hand : Nat) (h_t_used : Nat) (s_isKept : Int32) (s_taped : Int32) (s_pieces : Int32) (s_at : Int32) (s_readMany : Int32) (s_readKind : Int32) (s_readCut : Int32) (s_rowSet : Int32) (s_bestSet : Int32) (s_lanes : Nat → Int32) (s_longs : Nat → Int32) : va_W := [(h_t, .inr (11, [.ref h_t_w, .int s_isKept, .ref h_t_tape, .int s_taped, .ref h_t_firsts, .ref h_t_sizes, .ref h_t_worths, .int s_pieces, .int s_at, .ref h_t_readWorths, .int s_readMany, .int s_readKind, .int s_readCut, .ref h_t_dues, .ref h_t_sums, .ref h_t_worthOf, .ref h_t_lies, .ref h_t_pairs, .ref h_t_row, .int s_rowSet, .int s_bestSet, .ref h_t_hands, .ref h_t_paidOn, .ref h_t_lates, .ref h_t_fixed, .ref h_t_lanes, .ref h_t_longs, .ref h_t_items, .ref h_t_hand, .ref h_t_used])), (h_t_lanes, .inl (k 0, 4, .inl s_lanes)), (h_t_longs, .inl (k 0, 4, .inl s_longs))]
def rm_X11_bars : Room := { frames := 0, cells := 0, slots := 0, locals := 0 }
theorem in_X11_bars_X11 : ∀ w ∈ u_ws RX11 TX11 30, w ∈ wsX11_bars := by decide +kernel
theorem fl_X11_bars_62 : Cond.fieldLink RX11 62 "LinkDaysModel" "lanes" "[I" ∈ wsX11_bars := by decide +kernel
theorem fl_X11_bars_65 : Cond.fieldLink RX11 65 "LinkDaysModel" "longs" "[I" ∈ wsX11_bars := by decide +kernel
theorem pd_X11_bars : yX11_bars.cls = RX11 ∧ yX11_bars.cls ≠ "java/lang/invoke/MethodHandle" ∧ yX11_bars.cls ≠ "java/lang/invoke/VarHandle" ∧ (parseMethodDescriptor yX11_bars.desc).map (fun d => d.parameters.length) = some 4 := by decide +kernel
section
variable {p : Program} {l : Launch} {e : Env} {s : State} {m : MethodId} {args : Array Value} {below : List Frame} {meth : Method} {c : Code} {D : va_G} {k : Nat → ClassId} {A : Nat → Prop} {w0 : va_W} {sz : Nat}
set_option maxHeartbeats 4000000 in
set_option maxRecDepth 100000 in
theorem ok_B_X11_bars_61 {h_t : Nat} {h_t_lanes : Nat} {h_t_longs : Nat} {h_t_w : Nat} {h_t_tape : Nat} {h_t_firsts : Nat} {h_t_sizes : Nat} {h_t_worths : Nat} {h_t_readWorths : Nat} {h_t_dues : Nat} {h_t_sums : Nat} {h_t_worthOf : Nat} {h_t_lies : Nat} {h_t_pairs : Nat} {h_t_row : Nat} {h_t_hands : Nat} {h_t_paidOn : Nat} {h_t_lates : Nat} {h_t_fixed : Nat} {h_t_items : Nat} {h_t_hand : Nat} {h_t_used : Nat} {s_isKept : Int32} {s_taped : Int32} {s_pieces : Int32} {s_at : Int32} {s_readMany : Int32} {s_readKind : Int32} {s_readCut : Int32} {s_rowSet : Int32} {s_bestSet : Int32} {s_lanes : Nat → Int32} {s_longs : Nat → Int32} {x0 : Int32} {res : Int32} (C : CX p s m args meth c cX11_bars wsX11_bars RX11 5 D k A (some .int)) (hA : A = va_A w0 sz)  (h : B_X11_bars_61 x0 = some res) : GG p l e rm_X11_bars s m args below meth c (MQ below (cQi D w0 sz res (W_X11_bars k h_t h_t_lanes h_t_longs h_t_w h_t_tape h_t_firsts h_t_sizes h_t_worths h_t_readWorths h_t_dues h_t_sums h_t_worthOf h_t_lies h_t_pairs h_t_row h_t_hands h_t_paidOn h_t_lates h_t_fixed h_t_items h_t_hand h_t_used s_isKept s_taped s_pieces s_at s_readMany s_readKind s_readCut s_rowSet s_bestSet s_lanes s_longs)) args s 0 0 A) D A 5 0 0 61 [] [.int x0] (W_X11_bars k h_t h_t_lanes h_t_longs h_t_w h_t_tape h_t_firsts h_t_sizes h_t_worths h_t_readWorths h_t_dues h_t_sums h_t_worthOf h_t_lies h_t_pairs h_t_row h_t_hands h_t_paidOn h_t_lates h_t_fixed h_t_items h_t_hand h_t_used s_isKept s_taped s_pieces s_at s_readMany s_readKind s_readCut s_rowSet s_bestSet s_lanes s_longs) := by
  unfold B_X11_bars_61 at h
  obtain rfl := Option.some.inj h
  exact g_iret 61 C hA rfl dX11_bars_61 rfl
set_option maxHeartbeats 4000000 in
set_option maxRecDepth 100000 in
theorem ok_B_X11_bars_55 {h_t : Nat} {h_t_lanes : Nat} {h_t_longs : Nat} {h_t_w : Nat} {h_t_tape : Nat} {h_t_firsts : Nat} {h_t_sizes : Nat} {h_t_worths : Nat} {h_t_readWorths : Nat} {h_t_dues : Nat} {h_t_sums : Nat} {h_t_worthOf : Nat} {h_t_lies : Nat} {h_t_pairs : Nat} {h_t_row : Nat} {h_t_hands : Nat} {h_t_paidOn : Nat} {h_t_lates : Nat} {h_t_fixed : Nat} {h_t_items : Nat} {h_t_hand : Nat} {h_t_used : Nat} {s_isKept : Int32} {s_taped : Int32} {s_pieces : Int32} {s_at : Int32} {s_readMany : Int32} {s_readKind : Int32} {s_readCut : Int32} {s_rowSet : Int32} {s_bestSet : Int32} {s_lanes : Nat → Int32} {s_longs : Nat → Int32} {res : Int32} (C : CX p s m args meth c cX11_bars wsX11_bars RX11 5 D k A (some .int)) (hA : A = va_A w0 sz)  (h : B_X11_bars_55 = some res) : GG p l e rm_X11_bars s m args below meth c (MQ below (cQi D w0 sz res (W_X11_bars k h_t h_t_lanes h_t_longs h_t_w h_t_tape h_t_firsts h_t_sizes h_t_worths h_t_readWorths h_t_dues h_t_sums h_t_worthOf h_t_lies h_t_pairs h_t_row h_t_hands h_t_paidOn h_t_lates h_t_fixed h_t_items h_t_hand h_t_used s_isKept s_taped s_pieces s_at s_readMany s_readKind s_readCut s_rowSet s_bestSet s_lanes s_longs)) args s 0 0 A) D A 5 0 0 55 [] [] (W_X11_bars k h_t h_t_lanes h_t_longs h_t_w h_t_tape h_t_firsts h_t_sizes h_t_worths h_t_readWorths h_t_dues h_t_sums h_t_worthOf h_t_lies h_t_pairs h_t_row h_t_hands h_t_paidOn h_t_lates h_t_fixed h_t_items h_t_hand h_t_used s_isKept s_taped s_pieces s_at s_readMany s_readKind s_readCut s_rowSet s_bestSet s_lanes s_longs) := by
  unfold B_X11_bars_55 at h
  refine g_bipush 55 C (-13 : Int32) dX11_bars_55 (by decide) ?_
  refine g_goto 57 61 C dX11_bars_57 (by decide) ?_
  refine GG.sub (lv' := []) [] rfl ?_
  exact ok_B_X11_bars_61 C hA h
set_option maxHeartbeats 4000000 in
set_option maxRecDepth 100000 in
theorem k_X11_bars {l : Launch} {D : va_G} {k : Nat → ClassId} (h_t : Nat) (h_t_lanes : Nat) (h_t_longs : Nat) (h_t_w : Nat) (h_t_tape : Nat) (h_t_firsts : Nat) (h_t_sizes : Nat) (h_t_worths : Nat) (h_t_readWorths : Nat) (h_t_dues : Nat) (h_t_sums : Nat) (h_t_worthOf : Nat) (h_t_lies : Nat) (h_t_pairs : Nat) (h_t_row : Nat) (h_t_hands : Nat) (h_t_paidOn : Nat) (h_t_lates : Nat) (h_t_fixed : Nat) (h_t_items : Nat) (h_t_hand : Nat) (h_t_used : Nat) (s_isKept : Int32) (s_taped : Int32) (s_pieces : Int32) (s_at : Int32) (s_readMany : Int32) (s_readKind : Int32) (s_readCut : Int32) (s_rowSet : Int32) (s_bestSet : Int32) (s_lanes : Nat → Int32) (s_longs : Nat → Int32) (v1 : Int32) (v2 : Int32) (v3 : Int32) (v4 : Int32) (res : Int32) (h : f_X11_bars s_lanes s_longs v1 v2 v3 v4 = some res) (sz : Nat) : Met l yX11_bars wsX11_bars rm_X11_bars (cPre D k [.ref h_t, .int v1, .int v2, .int v3, .int v4] (W_X11_bars k h_t h_t_lanes h_t_longs h_t_w h_t_tape h_t_firsts h_t_sizes h_t_worths h_t_readWorths h_t_dues h_t_sums h_t_worthOf h_t_lies h_t_pairs h_t_row h_t_hands h_t_paidOn h_t_lates h_t_fixed h_t_items h_t_hand h_t_used s_isKept s_taped s_pieces s_at s_readMany s_readKind s_readCut s_rowSet s_bestSet s_lanes s_longs) sz) (cQi D (W_X11_bars k h_t h_t_lanes h_t_longs h_t_w h_t_tape h_t_firsts h_t_sizes h_t_worths h_t_readWorths h_t_dues h_t_sums h_t_worthOf h_t_lies h_t_pairs h_t_row h_t_hands h_t_paidOn h_t_lates h_t_fixed h_t_items h_t_hand h_t_used s_isKept s_taped s_pieces s_at s_readMany s_readKind s_readCut s_rowSet s_bestSet s_lanes s_longs) sz res (W_X11_bars k h_t h_t_lanes h_t_longs h_t_w h_t_tape h_t_firsts h_t_sizes h_t_worths h_t_readWorths h_t_dues h_t_sums h_t_worthOf h_t_lies h_t_pairs h_t_row h_t_hands h_t_paidOn h_t_lates h_t_fixed h_t_items h_t_hand h_t_used s_isKept s_taped s_pieces s_at s_readMany s_readKind s_readCut s_rowSet s_bestSet s_lanes s_longs)) 0 0 (va_A (W_X11_bars k h_t h_t_lanes h_t_longs h_t_w h_t_tape h_t_firsts h_t_sizes h_t_worths h_t_readWorths h_t_dues h_t_sums h_t_worthOf h_t_lies h_t_pairs h_t_row h_t_hands h_t_paidOn h_t_lates h_t_fixed h_t_items h_t_hand h_t_used s_isKept s_taped s_pieces s_at s_readMany s_readKind s_readCut s_rowSet s_bestSet s_lanes s_longs) sz) := by
  refine met_of [(0, .ref h_t), (1, .int v1), (2, .int v2), (3, .int v3), (4, .int v4)] (by decide) rfl rfl (Nat.le_of_ble_eq_true rfl) rfl ?_
  intro p e s m args below meth c A hA hsz C
  unfold f_X11_bars at h
  refine g_aload_n 0 C 0 dX11_bars_0 rfl rfl ?_
  refine g_get 1 C in_X11_bars_X11 0 25 rfl rfl (by decide) fl_X11_bars_62 rfl rfl dX11_bars_1 ?_
  refine g_iload_n 4 C 1 dX11_bars_4 rfl rfl ?_
  obtain ⟨o1, h⟩ := ob_e h
  refine g_iald 5 C 1 rfl o1 dX11_bars_5 ?_
  refine g_if_ge 6 14 C dX11_bars_6 (by decide) (fun c => ?_) (fun c => ?_)
  · replace h := it_e c h
    refine g_aload_n 14 C 0 dX11_bars_14 rfl rfl ?_
    refine g_get 15 C in_X11_bars_X11 0 25 rfl rfl (by decide) fl_X11_bars_62 rfl rfl dX11_bars_15 ?_
    refine g_iload_n 18 C 1 dX11_bars_18 rfl rfl ?_
    obtain ⟨o2, h⟩ := ob_e h
    refine g_iald 19 C 1 rfl o2 dX11_bars_19 ?_
    refine g_iload_n 20 C 2 dX11_bars_20 rfl rfl ?_
    refine g_icmp_eq 21 29 C dX11_bars_21 (by decide) (fun c => ?_) (fun c => ?_)
    · replace h := it_e c h
      refine g_iload_n 29 C 3 dX11_bars_29 rfl rfl ?_
      refine g_if_lt 30 55 C dX11_bars_30 (by decide) (fun c => ?_) (fun c => ?_)
      · replace h := it_e c h
        refine GG.sub (lv' := []) [] rfl ?_
        exact ok_B_X11_bars_55 C hA h
      · replace h := if_e c h
        refine g_iload 33 C 4 dX11_bars_33 rfl ?_
        refine g_if_lt 35 55 C dX11_bars_35 (by decide) (fun c => ?_) (fun c => ?_)
        · replace h := it_e c h
          refine GG.sub (lv' := []) [] rfl ?_
          exact ok_B_X11_bars_55 C hA h
        · replace h := if_e c h
          refine g_iload_n 38 C 3 dX11_bars_38 rfl rfl ?_
          refine g_i2l 39 C dX11_bars_39 ?_
          refine g_iload 40 C 4 dX11_bars_40 rfl ?_
          refine g_i2l 42 C dX11_bars_42 ?_
          refine g_ladd 43 C dX11_bars_43 ?_
          refine g_aload_n 44 C 0 dX11_bars_44 rfl rfl ?_
          refine g_get 45 C in_X11_bars_X11 0 26 rfl rfl (by decide) fl_X11_bars_65 rfl rfl dX11_bars_45 ?_
          refine g_iload_n 48 C 1 dX11_bars_48 rfl rfl ?_
          obtain ⟨o3, h⟩ := ob_e h
          refine g_iald 49 C 2 rfl o3 dX11_bars_49 ?_
          refine g_i2l 50 C dX11_bars_50 ?_
          refine g_lcmp 51 C dX11_bars_51 ?_
          refine g_if_le 52 60 C dX11_bars_52 (by decide) (fun c => ?_) (fun c => ?_)
          · replace h := it_e c h
            refine g_iconst 60 C (0 : Int32) dX11_bars_60 (by decide) ?_
            refine GG.sub (lv' := []) [] rfl ?_
            exact ok_B_X11_bars_61 C hA h
          · replace h := if_e c h
            refine GG.sub (lv' := []) [] rfl ?_
            exact ok_B_X11_bars_55 C hA h
    · replace h := if_e c h
      refine g_bipush 24 C (-12 : Int32) dX11_bars_24 (by decide) ?_
      refine g_goto 26 61 C dX11_bars_26 (by decide) ?_
      refine GG.sub (lv' := []) [] rfl ?_
      exact ok_B_X11_bars_61 C hA h
  · replace h := if_e c h
    refine g_bipush 9 C (-11 : Int32) dX11_bars_9 (by decide) ?_
    refine g_goto 11 61 C dX11_bars_11 (by decide) ?_
    refine GG.sub (lv' := []) [] rfl ?_
    exact ok_B_X11_bars_61 C hA h
end

/-! X11_cutTo -/
abbrev W_X11_cutTo (k : Nat → ClassId) : va_W := []
def rm_X11_cutTo : Room := { frames := 0, cells := 0, slots := 0, locals := 0 }
theorem pd_X11_cutTo : yX11_cutTo.cls ≠ "java/lang/invoke/MethodHandle" ∧ yX11_cutTo.cls ≠ "java/lang/invoke/VarHandle" ∧ (parseMethodDescriptor yX11_cutTo.desc).map (fun d => d.parameters.length) = some 2 := by decide +kernel
section
variable {p : Program} {l : Launch} {e : Env} {s : State} {m : MethodId} {args : Array Value} {below : List Frame} {meth : Method} {c : Code} {D : va_G} {k : Nat → ClassId} {A : Nat → Prop} {w0 : va_W} {sz : Nat}
set_option maxHeartbeats 4000000 in
set_option maxRecDepth 100000 in
theorem ok_B_X11_cutTo_23 {x0 : Int64} {res : Int64} (C : CX p s m args meth c cX11_cutTo wsX11_cutTo RX11 3 D k A (some .long)) (hA : A = va_A w0 sz)  (h : B_X11_cutTo_23 x0 = some res) : GG p l e rm_X11_cutTo s m args below meth c (MQ below (cQl D w0 sz res (W_X11_cutTo k)) args s 0 0 A) D A 3 0 0 23 [] [.long x0] (W_X11_cutTo k) := by
  unfold B_X11_cutTo_23 at h
  obtain rfl := Option.some.inj h
  exact g_lret 23 C hA rfl dX11_cutTo_23 rfl
set_option maxHeartbeats 4000000 in
set_option maxRecDepth 100000 in
theorem k_X11_cutTo {l : Launch} {D : va_G} {k : Nat → ClassId} (v0 : Int32) (v1 : Int64) (res : Int64) (h : f_X11_cutTo v0 v1 = some res) (sz : Nat) : Met l yX11_cutTo wsX11_cutTo rm_X11_cutTo (cPre D k [.int v0, .long v1] (W_X11_cutTo k) sz) (cQl D (W_X11_cutTo k) sz res (W_X11_cutTo k)) 0 0 (va_A (W_X11_cutTo k) sz) := by
  refine met_of [(0, .int v0), (1, .long v1)] (by decide) rfl rfl (Nat.le_of_ble_eq_true rfl) rfl ?_
  intro p e s m args below meth c A hA hsz C
  unfold f_X11_cutTo at h
  refine g_iload_n 0 C 0 dX11_cutTo_0 rfl rfl ?_
  refine g_if_ne 1 11 C dX11_cutTo_1 (by decide) (fun c => ?_) (fun c => ?_)
  · replace h := if_e c h
    refine g_iload_n 11 C 0 dX11_cutTo_11 rfl rfl ?_
    refine g_iconst 12 C (1 : Int32) dX11_cutTo_12 (by decide) ?_
    refine g_icmp_ne 13 22 C dX11_cutTo_13 (by decide) (fun c => ?_) (fun c => ?_)
    · replace h := if_e c h
      refine g_lload_n 22 C 1 dX11_cutTo_22 rfl rfl ?_
      refine GG.sub (lv' := []) [] rfl ?_
      exact ok_B_X11_cutTo_23 C hA h
    · replace h := it_e c h
      refine g_lload_n 16 C 1 dX11_cutTo_16 rfl rfl ?_
      refine g_l2i 17 C dX11_cutTo_17 ?_
      refine g_i2l 18 C dX11_cutTo_18 ?_
      refine g_goto 19 23 C dX11_cutTo_19 (by decide) ?_
      refine GG.sub (lv' := []) [] rfl ?_
      exact ok_B_X11_cutTo_23 C hA h
  · replace h := it_e c h
    refine g_lload_n 4 C 1 dX11_cutTo_4 rfl rfl ?_
    refine g_l2i 5 C dX11_cutTo_5 ?_
    refine g_i2b 6 C dX11_cutTo_6 ?_
    refine g_i2l 7 C dX11_cutTo_7 ?_
    refine g_goto 8 23 C dX11_cutTo_8 (by decide) ?_
    refine GG.sub (lv' := []) [] rfl ?_
    exact ok_B_X11_cutTo_23 C hA h
end

/-! X11_holds -/
abbrev W_X11_holds (k : Nat → ClassId) (h_t : Nat) (h_t_used : Nat) (h_t_worths : Nat) (h_t_items : Nat) (h_t_w : Nat) (h_t_tape : Nat) (h_t_firsts : Nat) (h_t_sizes : Nat) (h_t_readWorths : Nat) (h_t_dues : Nat) (h_t_sums : Nat) (h_t_worthOf : Nat) (h_t_lies : Nat) (h_t_pairs : Nat) (h_t_row : Nat) (h_t_hands : Nat) (h_t_paidOn : Nat) (h_t_lates : Nat) (h_t_fixed : Nat) (h_t_lanes : Nat) (h_t_longs : Nat) (h_t_hand : Nat) (s_isKept : Int32) (s_taped : Int32) (s_pieces : Int32) (s_at : Int32) (s_readMany : Int32) (s_readKind : Int32) (s_readCut : Int32) (s_rowSet : Int32) (s_bestSet : Int32) (s_used : Nat → Int32) (s_worths : Nat → Int32) (s_items : Nat → Int64) : va_W := [(h_t, .inr (11, [.ref h_t_w, .int s_isKept, .ref h_t_tape, .int s_taped, .ref h_t_firsts, .ref h_t_sizes, .ref h_t_worths, .int s_pieces, .int s_at, .ref h_t_readWorths, .int s_readMany, .int s_readKind, .int s_readCut, .ref h_t_dues, .ref h_t_sums, .ref h_t_worthOf, .ref h_t_lies, .ref h_t_pairs, .ref h_t_row, .int s_rowSet, .int s_bestSet, .ref h_t_hands, .ref h_t_paidOn, .ref h_t_lates, .ref h_t_fixed, .ref h_t_lanes, .ref h_t_longs, .ref h_t_items, .ref h_t_hand, .ref h_t_used])), (h_t_used, .inl (k 3, 24, .inl s_used)), (h_t_worths, .inl (k 0, 24, .inl s_worths)), (h_t_items, .inl (k 1, 96, .inr (.inl s_items)))]
def rm_X11_holds : Room := { frames := 0, cells := 0, slots := 0, locals := 0 }
theorem in_X11_holds_X11 : ∀ w ∈ u_ws RX11 TX11 30, w ∈ wsX11_holds := by decide +kernel
theorem fl_X11_holds_22 : Cond.fieldLink RX11 22 "LinkDaysModel" "worths" "[I" ∈ wsX11_holds := by decide +kernel
theorem fl_X11_holds_68 : Cond.fieldLink RX11 68 "LinkDaysModel" "items" "[J" ∈ wsX11_holds := by decide +kernel
theorem fl_X11_holds_74 : Cond.fieldLink RX11 74 "LinkDaysModel" "used" "[Z" ∈ wsX11_holds := by decide +kernel
theorem fl_X11_holds_85 : Cond.fieldLink RX11 85 "LinkDaysModel" "pieces" "I" ∈ wsX11_holds := by decide +kernel
theorem pd_X11_holds : yX11_holds.cls = RX11 ∧ yX11_holds.cls ≠ "java/lang/invoke/MethodHandle" ∧ yX11_holds.cls ≠ "java/lang/invoke/VarHandle" ∧ (parseMethodDescriptor yX11_holds.desc).map (fun d => d.parameters.length) = some 2 := by decide +kernel
section
variable {p : Program} {l : Launch} {e : Env} {s : State} {m : MethodId} {args : Array Value} {below : List Frame} {meth : Method} {c : Code} {D : va_G} {k : Nat → ClassId} {A : Nat → Prop} {w0 : va_W} {sz : Nat}
set_option maxHeartbeats 4000000 in
set_option maxRecDepth 100000 in
theorem ok_L_X11_holds_2 {h_t : Nat} {h_t_used : Nat} {h_t_worths : Nat} {h_t_items : Nat} {h_t_w : Nat} {h_t_tape : Nat} {h_t_firsts : Nat} {h_t_sizes : Nat} {h_t_readWorths : Nat} {h_t_dues : Nat} {h_t_sums : Nat} {h_t_worthOf : Nat} {h_t_lies : Nat} {h_t_pairs : Nat} {h_t_row : Nat} {h_t_hands : Nat} {h_t_paidOn : Nat} {h_t_lates : Nat} {h_t_fixed : Nat} {h_t_lanes : Nat} {h_t_longs : Nat} {h_t_hand : Nat} {s_isKept : Int32} {s_taped : Int32} {s_pieces : Int32} {s_at : Int32} {s_readMany : Int32} {s_readKind : Int32} {s_readCut : Int32} {s_rowSet : Int32} {s_bestSet : Int32} {s_worths : Nat → Int32} {s_items : Nat → Int64} {v1 : Int32} {v2 : Int32} {res : Int32 × (Nat → Int32)} (C : CX p s m args meth c cX11_holds wsX11_holds RX11 5 D k A (some .boolean)) (hA : A = va_A w0 sz) {kx : Int32 × (Nat → Int32) → Option (Int32 × (Nat → Int32))} (hx : ∀ t : Int32 × (Nat → Int32), kx t = some res → GG p l e rm_X11_holds s m args below meth c (MQ below (cQi D w0 sz res.1 (W_X11_holds k h_t h_t_used h_t_worths h_t_items h_t_w h_t_tape h_t_firsts h_t_sizes h_t_readWorths h_t_dues h_t_sums h_t_worthOf h_t_lies h_t_pairs h_t_row h_t_hands h_t_paidOn h_t_lates h_t_fixed h_t_lanes h_t_longs h_t_hand s_isKept s_taped s_pieces s_at s_readMany s_readKind s_readCut s_rowSet s_bestSet res.2 s_worths s_items)) args s 0 0 A) D A 5 0 0 23 [(0, .ref h_t), (1, .int v1), (2, .int v2)] [] (W_X11_holds k h_t h_t_used h_t_worths h_t_items h_t_w h_t_tape h_t_firsts h_t_sizes h_t_readWorths h_t_dues h_t_sums h_t_worthOf h_t_lies h_t_pairs h_t_row h_t_hands h_t_paidOn h_t_lates h_t_fixed h_t_lanes h_t_longs h_t_hand s_isKept s_taped s_pieces s_at s_readMany s_readKind s_readCut s_rowSet s_bestSet t.2 s_worths s_items)) : ∀ (n : Nat) (t : Int32 × (Nat → Int32)), L_X11_holds_2 s_pieces kx n t = some res → GG p l e rm_X11_holds s m args below meth c (MQ below (cQi D w0 sz res.1 (W_X11_holds k h_t h_t_used h_t_worths h_t_items h_t_w h_t_tape h_t_firsts h_t_sizes h_t_readWorths h_t_dues h_t_sums h_t_worthOf h_t_lies h_t_pairs h_t_row h_t_hands h_t_paidOn h_t_lates h_t_fixed h_t_lanes h_t_longs h_t_hand s_isKept s_taped s_pieces s_at s_readMany s_readKind s_readCut s_rowSet s_bestSet res.2 s_worths s_items)) args s 0 0 A) D A 5 0 0 2 [(0, .ref h_t), (1, .int v1), (2, .int v2), (3, .int t.1)] [] (W_X11_holds k h_t h_t_used h_t_worths h_t_items h_t_w h_t_tape h_t_firsts h_t_sizes h_t_readWorths h_t_dues h_t_sums h_t_worthOf h_t_lies h_t_pairs h_t_row h_t_hands h_t_paidOn h_t_lates h_t_fixed h_t_lanes h_t_longs h_t_hand s_isKept s_taped s_pieces s_at s_readMany s_readKind s_readCut s_rowSet s_bestSet t.2 s_worths s_items) := by
  intro n
  induction n with
  | zero => intro t h; cases h
  | succ n ih =>
    intro t h
    obtain ⟨v3, s_used⟩ := t
    replace h : LB_X11_holds_2 s_pieces kx (L_X11_holds_2 s_pieces kx n) v3 s_used = some res := h
    have hr := ih
    unfold LB_X11_holds_2 at h
    refine g_iload_n 2 C 3 dX11_holds_2 rfl rfl ?_
    refine g_aload_n 3 C 0 dX11_holds_3 rfl rfl ?_
    refine g_get 4 C in_X11_holds_X11 0 7 rfl rfl (by decide) fl_X11_holds_85 rfl rfl dX11_holds_4 ?_
    refine g_icmp_ge 7 23 C dX11_holds_7 (by decide) (fun c => ?_) (fun c => ?_)
    · replace h := it_e c h
      refine GG.sub (lv' := [(0, .ref h_t), (1, .int v1), (2, .int v2)]) [0, 1, 2] rfl ?_
      exact hx (v3, s_used) h
    · replace h := if_e c h
      refine g_aload_n 10 C 0 dX11_holds_10 rfl rfl ?_
      refine g_get 11 C in_X11_holds_X11 0 29 rfl rfl (by decide) fl_X11_holds_74 rfl rfl dX11_holds_11 ?_
      refine g_iload_n 14 C 3 dX11_holds_14 rfl rfl ?_
      refine g_iconst 15 C (0 : Int32) dX11_holds_15 (by decide) ?_
      obtain ⟨o1, h⟩ := ob_e h
      refine g_zast 16 C (W_X11_holds k h_t h_t_used h_t_worths h_t_items h_t_w h_t_tape h_t_firsts h_t_sizes h_t_readWorths h_t_dues h_t_sums h_t_worthOf h_t_lies h_t_pairs h_t_row h_t_hands h_t_paidOn h_t_lates h_t_fixed h_t_lanes h_t_longs h_t_hand s_isKept s_taped s_pieces s_at s_readMany s_readKind s_readCut s_rowSet s_bestSet (upd s_used v3.toNatClampNeg (vp_nar .boolean (0 : Int32))) s_worths s_items) 1 rfl o1 rfl dX11_holds_16 ?_
      refine g_iinc 17 C 3 (1 : Int32) [(3, .int (v3 + (1 : Int32))), (0, .ref h_t), (1, .int v1), (2, .int v2)] dX11_holds_17 rfl (by decide) (by decide) rfl ?_
      refine g_goto 20 2 C dX11_holds_20 (by decide) ?_
      refine GG.sub (lv' := [(0, .ref h_t), (1, .int v1), (2, .int v2), (3, .int (v3 + (1 : Int32)))]) [1, 2, 3, 0] rfl ?_
      exact hr ((v3 + (1 : Int32)), (upd s_used v3.toNatClampNeg (vp_nar .boolean (0 : Int32)))) h
set_option maxHeartbeats 4000000 in
set_option maxRecDepth 100000 in
theorem ok_B_X11_holds_72 {h_t : Nat} {h_t_used : Nat} {h_t_worths : Nat} {h_t_items : Nat} {h_t_w : Nat} {h_t_tape : Nat} {h_t_firsts : Nat} {h_t_sizes : Nat} {h_t_readWorths : Nat} {h_t_dues : Nat} {h_t_sums : Nat} {h_t_worthOf : Nat} {h_t_lies : Nat} {h_t_pairs : Nat} {h_t_row : Nat} {h_t_hands : Nat} {h_t_paidOn : Nat} {h_t_lates : Nat} {h_t_fixed : Nat} {h_t_lanes : Nat} {h_t_longs : Nat} {h_t_hand : Nat} {s_isKept : Int32} {s_taped : Int32} {s_pieces : Int32} {s_at : Int32} {s_readMany : Int32} {s_readKind : Int32} {s_readCut : Int32} {s_rowSet : Int32} {s_bestSet : Int32} {s_used : Nat → Int32} {s_worths : Nat → Int32} {s_items : Nat → Int64} {v1 : Int32} {v2 : Int32} {v3 : Int32} {v4 : Int32} {res : Int32 × (Nat → Int32)} {kx rec : Int32 → Option (Int32 × (Nat → Int32))} (C : CX p s m args meth c cX11_holds wsX11_holds RX11 5 D k A (some .boolean)) (hA : A = va_A w0 sz) (hx : ∀ t : Int32, kx t = some res → GG p l e rm_X11_holds s m args below meth c (MQ below (cQi D w0 sz res.1 (W_X11_holds k h_t h_t_used h_t_worths h_t_items h_t_w h_t_tape h_t_firsts h_t_sizes h_t_readWorths h_t_dues h_t_sums h_t_worthOf h_t_lies h_t_pairs h_t_row h_t_hands h_t_paidOn h_t_lates h_t_fixed h_t_lanes h_t_longs h_t_hand s_isKept s_taped s_pieces s_at s_readMany s_readKind s_readCut s_rowSet s_bestSet res.2 s_worths s_items)) args s 0 0 A) D A 5 0 0 78 [(0, .ref h_t), (1, .int v1), (2, .int v2), (3, .int v3), (4, .int t)] [] (W_X11_holds k h_t h_t_used h_t_worths h_t_items h_t_w h_t_tape h_t_firsts h_t_sizes h_t_readWorths h_t_dues h_t_sums h_t_worthOf h_t_lies h_t_pairs h_t_row h_t_hands h_t_paidOn h_t_lates h_t_fixed h_t_lanes h_t_longs h_t_hand s_isKept s_taped s_pieces s_at s_readMany s_readKind s_readCut s_rowSet s_bestSet s_used s_worths s_items)) (hr : ∀ t : Int32, rec t = some res → GG p l e rm_X11_holds s m args below meth c (MQ below (cQi D w0 sz res.1 (W_X11_holds k h_t h_t_used h_t_worths h_t_items h_t_w h_t_tape h_t_firsts h_t_sizes h_t_readWorths h_t_dues h_t_sums h_t_worthOf h_t_lies h_t_pairs h_t_row h_t_hands h_t_paidOn h_t_lates h_t_fixed h_t_lanes h_t_longs h_t_hand s_isKept s_taped s_pieces s_at s_readMany s_readKind s_readCut s_rowSet s_bestSet res.2 s_worths s_items)) args s 0 0 A) D A 5 0 0 33 [(0, .ref h_t), (1, .int v1), (2, .int v2), (3, .int v3), (4, .int t)] [] (W_X11_holds k h_t h_t_used h_t_worths h_t_items h_t_w h_t_tape h_t_firsts h_t_sizes h_t_readWorths h_t_dues h_t_sums h_t_worthOf h_t_lies h_t_pairs h_t_row h_t_hands h_t_paidOn h_t_lates h_t_fixed h_t_lanes h_t_longs h_t_hand s_isKept s_taped s_pieces s_at s_readMany s_readKind s_readCut s_rowSet s_bestSet s_used s_worths s_items))  (h : B_X11_holds_72 kx rec v4 = some res) : GG p l e rm_X11_holds s m args below meth c (MQ below (cQi D w0 sz res.1 (W_X11_holds k h_t h_t_used h_t_worths h_t_items h_t_w h_t_tape h_t_firsts h_t_sizes h_t_readWorths h_t_dues h_t_sums h_t_worthOf h_t_lies h_t_pairs h_t_row h_t_hands h_t_paidOn h_t_lates h_t_fixed h_t_lanes h_t_longs h_t_hand s_isKept s_taped s_pieces s_at s_readMany s_readKind s_readCut s_rowSet s_bestSet res.2 s_worths s_items)) args s 0 0 A) D A 5 0 0 72 [(0, .ref h_t), (1, .int v1), (2, .int v2), (3, .int v3), (4, .int v4)] [] (W_X11_holds k h_t h_t_used h_t_worths h_t_items h_t_w h_t_tape h_t_firsts h_t_sizes h_t_readWorths h_t_dues h_t_sums h_t_worthOf h_t_lies h_t_pairs h_t_row h_t_hands h_t_paidOn h_t_lates h_t_fixed h_t_lanes h_t_longs h_t_hand s_isKept s_taped s_pieces s_at s_readMany s_readKind s_readCut s_rowSet s_bestSet s_used s_worths s_items) := by
  unfold B_X11_holds_72 at h
  refine g_iinc 72 C 4 (1 : Int32) [(4, .int (v4 + (1 : Int32))), (0, .ref h_t), (1, .int v1), (2, .int v2), (3, .int v3)] dX11_holds_72 rfl (by decide) (by decide) rfl ?_
  refine g_goto 75 33 C dX11_holds_75 (by decide) ?_
  refine GG.sub (lv' := [(0, .ref h_t), (1, .int v1), (2, .int v2), (3, .int v3), (4, .int (v4 + (1 : Int32)))]) [1, 2, 3, 4, 0] rfl ?_
  exact hr (v4 + (1 : Int32)) h
set_option maxHeartbeats 4000000 in
set_option maxRecDepth 100000 in
theorem ok_L_X11_holds_33 {h_t : Nat} {h_t_used : Nat} {h_t_worths : Nat} {h_t_items : Nat} {h_t_w : Nat} {h_t_tape : Nat} {h_t_firsts : Nat} {h_t_sizes : Nat} {h_t_readWorths : Nat} {h_t_dues : Nat} {h_t_sums : Nat} {h_t_worthOf : Nat} {h_t_lies : Nat} {h_t_pairs : Nat} {h_t_row : Nat} {h_t_hands : Nat} {h_t_paidOn : Nat} {h_t_lates : Nat} {h_t_fixed : Nat} {h_t_lanes : Nat} {h_t_longs : Nat} {h_t_hand : Nat} {s_isKept : Int32} {s_taped : Int32} {s_pieces : Int32} {s_at : Int32} {s_readMany : Int32} {s_readKind : Int32} {s_readCut : Int32} {s_rowSet : Int32} {s_bestSet : Int32} {s_used : Nat → Int32} {s_worths : Nat → Int32} {s_items : Nat → Int64} {v1 : Int32} {v2 : Int32} {v3 : Int32} {res : Int32 × (Nat → Int32)} (C : CX p s m args meth c cX11_holds wsX11_holds RX11 5 D k A (some .boolean)) (hA : A = va_A w0 sz) {kx : Int32 → Option (Int32 × (Nat → Int32))} (hx : ∀ t : Int32, kx t = some res → GG p l e rm_X11_holds s m args below meth c (MQ below (cQi D w0 sz res.1 (W_X11_holds k h_t h_t_used h_t_worths h_t_items h_t_w h_t_tape h_t_firsts h_t_sizes h_t_readWorths h_t_dues h_t_sums h_t_worthOf h_t_lies h_t_pairs h_t_row h_t_hands h_t_paidOn h_t_lates h_t_fixed h_t_lanes h_t_longs h_t_hand s_isKept s_taped s_pieces s_at s_readMany s_readKind s_readCut s_rowSet s_bestSet res.2 s_worths s_items)) args s 0 0 A) D A 5 0 0 78 [(0, .ref h_t), (1, .int v1), (2, .int v2), (3, .int v3), (4, .int t)] [] (W_X11_holds k h_t h_t_used h_t_worths h_t_items h_t_w h_t_tape h_t_firsts h_t_sizes h_t_readWorths h_t_dues h_t_sums h_t_worthOf h_t_lies h_t_pairs h_t_row h_t_hands h_t_paidOn h_t_lates h_t_fixed h_t_lanes h_t_longs h_t_hand s_isKept s_taped s_pieces s_at s_readMany s_readKind s_readCut s_rowSet s_bestSet s_used s_worths s_items)) : ∀ (n : Nat) (t : Int32), L_X11_holds_33 s_pieces s_used s_worths s_items v1 v3 kx n t = some res → GG p l e rm_X11_holds s m args below meth c (MQ below (cQi D w0 sz res.1 (W_X11_holds k h_t h_t_used h_t_worths h_t_items h_t_w h_t_tape h_t_firsts h_t_sizes h_t_readWorths h_t_dues h_t_sums h_t_worthOf h_t_lies h_t_pairs h_t_row h_t_hands h_t_paidOn h_t_lates h_t_fixed h_t_lanes h_t_longs h_t_hand s_isKept s_taped s_pieces s_at s_readMany s_readKind s_readCut s_rowSet s_bestSet res.2 s_worths s_items)) args s 0 0 A) D A 5 0 0 33 [(0, .ref h_t), (1, .int v1), (2, .int v2), (3, .int v3), (4, .int t)] [] (W_X11_holds k h_t h_t_used h_t_worths h_t_items h_t_w h_t_tape h_t_firsts h_t_sizes h_t_readWorths h_t_dues h_t_sums h_t_worthOf h_t_lies h_t_pairs h_t_row h_t_hands h_t_paidOn h_t_lates h_t_fixed h_t_lanes h_t_longs h_t_hand s_isKept s_taped s_pieces s_at s_readMany s_readKind s_readCut s_rowSet s_bestSet s_used s_worths s_items) := by
  intro n
  induction n with
  | zero => intro t h; cases h
  | succ n ih =>
    intro t h
    obtain ⟨v4, rfl⟩ : ∃ z, z = t := ⟨_, rfl⟩
    replace h : LB_X11_holds_33 s_pieces s_used s_worths s_items v1 v3 kx (L_X11_holds_33 s_pieces s_used s_worths s_items v1 v3 kx n) v4 = some res := h
    have hr := ih
    unfold LB_X11_holds_33 at h
    refine g_iload 33 C 4 dX11_holds_33 rfl ?_
    refine g_aload_n 35 C 0 dX11_holds_35 rfl rfl ?_
    refine g_get 36 C in_X11_holds_X11 0 7 rfl rfl (by decide) fl_X11_holds_85 rfl rfl dX11_holds_36 ?_
    refine g_icmp_ge 39 78 C dX11_holds_39 (by decide) (fun c => ?_) (fun c => ?_)
    · replace h := it_e c h
      refine GG.sub (lv' := [(0, .ref h_t), (1, .int v1), (2, .int v2), (3, .int v3), (4, .int v4)]) [0, 1, 2, 3, 4] rfl ?_
      exact hx v4 h
    · replace h := if_e c h
      refine g_aload_n 42 C 0 dX11_holds_42 rfl rfl ?_
      refine g_get 43 C in_X11_holds_X11 0 29 rfl rfl (by decide) fl_X11_holds_74 rfl rfl dX11_holds_43 ?_
      refine g_iload 46 C 4 dX11_holds_46 rfl ?_
      obtain ⟨o2, h⟩ := ob_e h
      refine g_zald 48 C 1 rfl o2 dX11_holds_48 ?_
      refine g_if_ne 49 72 C dX11_holds_49 (by decide) (fun c => ?_) (fun c => ?_)
      · replace h := if_e c h
        refine GG.sub (lv' := [(0, .ref h_t), (1, .int v1), (2, .int v2), (3, .int v3), (4, .int v4)]) [0, 1, 2, 3, 4] rfl ?_
        exact ok_B_X11_holds_72 C hA hx hr h
      · replace h := it_e c h
        refine g_aload_n 52 C 0 dX11_holds_52 rfl rfl ?_
        refine g_get 53 C in_X11_holds_X11 0 6 rfl rfl (by decide) fl_X11_holds_22 rfl rfl dX11_holds_53 ?_
        refine g_iload 56 C 4 dX11_holds_56 rfl ?_
        obtain ⟨o3, h⟩ := ob_e h
        refine g_iald 58 C 2 rfl o3 dX11_holds_58 ?_
        refine g_i2l 59 C dX11_holds_59 ?_
        refine g_aload_n 60 C 0 dX11_holds_60 rfl rfl ?_
        refine g_get 61 C in_X11_holds_X11 0 27 rfl rfl (by decide) fl_X11_holds_68 rfl rfl dX11_holds_61 ?_
        refine g_iload_n 64 C 1 dX11_holds_64 rfl rfl ?_
        refine g_iload_n 65 C 3 dX11_holds_65 rfl rfl ?_
        refine g_iadd 66 C dX11_holds_66 ?_
        obtain ⟨o4, h⟩ := ob_e h
        refine g_lald 67 C 3 rfl o4 dX11_holds_67 ?_
        refine g_lcmp 68 C dX11_holds_68 ?_
        refine g_if_eq 69 78 C dX11_holds_69 (by decide) (fun c => ?_) (fun c => ?_)
        · replace h := it_e c h
          refine GG.sub (lv' := [(0, .ref h_t), (1, .int v1), (2, .int v2), (3, .int v3), (4, .int v4)]) [0, 1, 2, 3, 4] rfl ?_
          exact hx v4 h
        · replace h := if_e c h
          refine GG.sub (lv' := [(0, .ref h_t), (1, .int v1), (2, .int v2), (3, .int v3), (4, .int v4)]) [0, 1, 2, 3, 4] rfl ?_
          exact ok_B_X11_holds_72 C hA hx hr h
set_option maxHeartbeats 4000000 in
set_option maxRecDepth 100000 in
theorem ok_B_X11_holds_78 {h_t : Nat} {h_t_used : Nat} {h_t_worths : Nat} {h_t_items : Nat} {h_t_w : Nat} {h_t_tape : Nat} {h_t_firsts : Nat} {h_t_sizes : Nat} {h_t_readWorths : Nat} {h_t_dues : Nat} {h_t_sums : Nat} {h_t_worthOf : Nat} {h_t_lies : Nat} {h_t_pairs : Nat} {h_t_row : Nat} {h_t_hands : Nat} {h_t_paidOn : Nat} {h_t_lates : Nat} {h_t_fixed : Nat} {h_t_lanes : Nat} {h_t_longs : Nat} {h_t_hand : Nat} {s_isKept : Int32} {s_taped : Int32} {s_pieces : Int32} {s_at : Int32} {s_readMany : Int32} {s_readKind : Int32} {s_readCut : Int32} {s_rowSet : Int32} {s_bestSet : Int32} {s_used : Nat → Int32} {s_worths : Nat → Int32} {s_items : Nat → Int64} {v1 : Int32} {v2 : Int32} {v3 : Int32} {v4 : Int32} {res : Int32 × (Nat → Int32)} {kx rec : Int32 × (Nat → Int32) → Option (Int32 × (Nat → Int32))} (C : CX p s m args meth c cX11_holds wsX11_holds RX11 5 D k A (some .boolean)) (hA : A = va_A w0 sz) (hx : ∀ t : Int32 × (Nat → Int32), kx t = some res → GG p l e rm_X11_holds s m args below meth c (MQ below (cQi D w0 sz res.1 (W_X11_holds k h_t h_t_used h_t_worths h_t_items h_t_w h_t_tape h_t_firsts h_t_sizes h_t_readWorths h_t_dues h_t_sums h_t_worthOf h_t_lies h_t_pairs h_t_row h_t_hands h_t_paidOn h_t_lates h_t_fixed h_t_lanes h_t_longs h_t_hand s_isKept s_taped s_pieces s_at s_readMany s_readKind s_readCut s_rowSet s_bestSet res.2 s_worths s_items)) args s 0 0 A) D A 5 0 0 103 [] [] (W_X11_holds k h_t h_t_used h_t_worths h_t_items h_t_w h_t_tape h_t_firsts h_t_sizes h_t_readWorths h_t_dues h_t_sums h_t_worthOf h_t_lies h_t_pairs h_t_row h_t_hands h_t_paidOn h_t_lates h_t_fixed h_t_lanes h_t_longs h_t_hand s_isKept s_taped s_pieces s_at s_readMany s_readKind s_readCut s_rowSet s_bestSet t.2 s_worths s_items)) (hr : ∀ t : Int32 × (Nat → Int32), rec t = some res → GG p l e rm_X11_holds s m args below meth c (MQ below (cQi D w0 sz res.1 (W_X11_holds k h_t h_t_used h_t_worths h_t_items h_t_w h_t_tape h_t_firsts h_t_sizes h_t_readWorths h_t_dues h_t_sums h_t_worthOf h_t_lies h_t_pairs h_t_row h_t_hands h_t_paidOn h_t_lates h_t_fixed h_t_lanes h_t_longs h_t_hand s_isKept s_taped s_pieces s_at s_readMany s_readKind s_readCut s_rowSet s_bestSet res.2 s_worths s_items)) args s 0 0 A) D A 5 0 0 25 [(0, .ref h_t), (1, .int v1), (2, .int v2), (3, .int t.1)] [] (W_X11_holds k h_t h_t_used h_t_worths h_t_items h_t_w h_t_tape h_t_firsts h_t_sizes h_t_readWorths h_t_dues h_t_sums h_t_worthOf h_t_lies h_t_pairs h_t_row h_t_hands h_t_paidOn h_t_lates h_t_fixed h_t_lanes h_t_longs h_t_hand s_isKept s_taped s_pieces s_at s_readMany s_readKind s_readCut s_rowSet s_bestSet t.2 s_worths s_items))  (h : B_X11_holds_78 kx rec s_pieces s_used v3 v4 = some res) : GG p l e rm_X11_holds s m args below meth c (MQ below (cQi D w0 sz res.1 (W_X11_holds k h_t h_t_used h_t_worths h_t_items h_t_w h_t_tape h_t_firsts h_t_sizes h_t_readWorths h_t_dues h_t_sums h_t_worthOf h_t_lies h_t_pairs h_t_row h_t_hands h_t_paidOn h_t_lates h_t_fixed h_t_lanes h_t_longs h_t_hand s_isKept s_taped s_pieces s_at s_readMany s_readKind s_readCut s_rowSet s_bestSet res.2 s_worths s_items)) args s 0 0 A) D A 5 0 0 78 [(0, .ref h_t), (1, .int v1), (2, .int v2), (3, .int v3), (4, .int v4)] [] (W_X11_holds k h_t h_t_used h_t_worths h_t_items h_t_w h_t_tape h_t_firsts h_t_sizes h_t_readWorths h_t_dues h_t_sums h_t_worthOf h_t_lies h_t_pairs h_t_row h_t_hands h_t_paidOn h_t_lates h_t_fixed h_t_lanes h_t_longs h_t_hand s_isKept s_taped s_pieces s_at s_readMany s_readKind s_readCut s_rowSet s_bestSet s_used s_worths s_items) := by
  unfold B_X11_holds_78 at h
  refine g_iload 78 C 4 dX11_holds_78 rfl ?_
  refine g_aload_n 80 C 0 dX11_holds_80 rfl rfl ?_
  refine g_get 81 C in_X11_holds_X11 0 7 rfl rfl (by decide) fl_X11_holds_85 rfl rfl dX11_holds_81 ?_
  refine g_icmp_ne 84 89 C dX11_holds_84 (by decide) (fun c => ?_) (fun c => ?_)
  · replace h := if_e c h
    refine g_aload_n 89 C 0 dX11_holds_89 rfl rfl ?_
    refine g_get 90 C in_X11_holds_X11 0 29 rfl rfl (by decide) fl_X11_holds_74 rfl rfl dX11_holds_90 ?_
    refine g_iload 93 C 4 dX11_holds_93 rfl ?_
    refine g_iconst 95 C (1 : Int32) dX11_holds_95 (by decide) ?_
    obtain ⟨o5, h⟩ := ob_e h
    refine g_zast 96 C (W_X11_holds k h_t h_t_used h_t_worths h_t_items h_t_w h_t_tape h_t_firsts h_t_sizes h_t_readWorths h_t_dues h_t_sums h_t_worthOf h_t_lies h_t_pairs h_t_row h_t_hands h_t_paidOn h_t_lates h_t_fixed h_t_lanes h_t_longs h_t_hand s_isKept s_taped s_pieces s_at s_readMany s_readKind s_readCut s_rowSet s_bestSet (upd s_used v4.toNatClampNeg (vp_nar .boolean (1 : Int32))) s_worths s_items) 1 rfl o5 rfl dX11_holds_96 ?_
    refine g_iinc 97 C 3 (1 : Int32) [(3, .int (v3 + (1 : Int32))), (0, .ref h_t), (1, .int v1), (2, .int v2), (4, .int v4)] dX11_holds_97 rfl (by decide) (by decide) rfl ?_
    refine g_goto 100 25 C dX11_holds_100 (by decide) ?_
    refine GG.sub (lv' := [(0, .ref h_t), (1, .int v1), (2, .int v2), (3, .int (v3 + (1 : Int32)))]) [1, 2, 3, 0] rfl ?_
    exact hr ((v3 + (1 : Int32)), (upd s_used v4.toNatClampNeg (vp_nar .boolean (1 : Int32)))) h
  · replace h := it_e c h
    refine g_iconst 87 C (0 : Int32) dX11_holds_87 (by decide) ?_
    obtain rfl := Option.some.inj h
    exact g_zret 88 C hA rfl rfl dX11_holds_88 rfl
set_option maxHeartbeats 4000000 in
set_option maxRecDepth 100000 in
theorem ok_L_X11_holds_25 {h_t : Nat} {h_t_used : Nat} {h_t_worths : Nat} {h_t_items : Nat} {h_t_w : Nat} {h_t_tape : Nat} {h_t_firsts : Nat} {h_t_sizes : Nat} {h_t_readWorths : Nat} {h_t_dues : Nat} {h_t_sums : Nat} {h_t_worthOf : Nat} {h_t_lies : Nat} {h_t_pairs : Nat} {h_t_row : Nat} {h_t_hands : Nat} {h_t_paidOn : Nat} {h_t_lates : Nat} {h_t_fixed : Nat} {h_t_lanes : Nat} {h_t_longs : Nat} {h_t_hand : Nat} {s_isKept : Int32} {s_taped : Int32} {s_pieces : Int32} {s_at : Int32} {s_readMany : Int32} {s_readKind : Int32} {s_readCut : Int32} {s_rowSet : Int32} {s_bestSet : Int32} {s_worths : Nat → Int32} {s_items : Nat → Int64} {v1 : Int32} {v2 : Int32} {res : Int32 × (Nat → Int32)} (C : CX p s m args meth c cX11_holds wsX11_holds RX11 5 D k A (some .boolean)) (hA : A = va_A w0 sz) {kx : Int32 × (Nat → Int32) → Option (Int32 × (Nat → Int32))} (hx : ∀ t : Int32 × (Nat → Int32), kx t = some res → GG p l e rm_X11_holds s m args below meth c (MQ below (cQi D w0 sz res.1 (W_X11_holds k h_t h_t_used h_t_worths h_t_items h_t_w h_t_tape h_t_firsts h_t_sizes h_t_readWorths h_t_dues h_t_sums h_t_worthOf h_t_lies h_t_pairs h_t_row h_t_hands h_t_paidOn h_t_lates h_t_fixed h_t_lanes h_t_longs h_t_hand s_isKept s_taped s_pieces s_at s_readMany s_readKind s_readCut s_rowSet s_bestSet res.2 s_worths s_items)) args s 0 0 A) D A 5 0 0 103 [] [] (W_X11_holds k h_t h_t_used h_t_worths h_t_items h_t_w h_t_tape h_t_firsts h_t_sizes h_t_readWorths h_t_dues h_t_sums h_t_worthOf h_t_lies h_t_pairs h_t_row h_t_hands h_t_paidOn h_t_lates h_t_fixed h_t_lanes h_t_longs h_t_hand s_isKept s_taped s_pieces s_at s_readMany s_readKind s_readCut s_rowSet s_bestSet t.2 s_worths s_items)) : ∀ (n : Nat) (t : Int32 × (Nat → Int32)), L_X11_holds_25 s_pieces s_worths s_items v1 v2 kx n t = some res → GG p l e rm_X11_holds s m args below meth c (MQ below (cQi D w0 sz res.1 (W_X11_holds k h_t h_t_used h_t_worths h_t_items h_t_w h_t_tape h_t_firsts h_t_sizes h_t_readWorths h_t_dues h_t_sums h_t_worthOf h_t_lies h_t_pairs h_t_row h_t_hands h_t_paidOn h_t_lates h_t_fixed h_t_lanes h_t_longs h_t_hand s_isKept s_taped s_pieces s_at s_readMany s_readKind s_readCut s_rowSet s_bestSet res.2 s_worths s_items)) args s 0 0 A) D A 5 0 0 25 [(0, .ref h_t), (1, .int v1), (2, .int v2), (3, .int t.1)] [] (W_X11_holds k h_t h_t_used h_t_worths h_t_items h_t_w h_t_tape h_t_firsts h_t_sizes h_t_readWorths h_t_dues h_t_sums h_t_worthOf h_t_lies h_t_pairs h_t_row h_t_hands h_t_paidOn h_t_lates h_t_fixed h_t_lanes h_t_longs h_t_hand s_isKept s_taped s_pieces s_at s_readMany s_readKind s_readCut s_rowSet s_bestSet t.2 s_worths s_items) := by
  intro n
  induction n with
  | zero => intro t h; cases h
  | succ n ih =>
    intro t h
    obtain ⟨v3, s_used⟩ := t
    replace h : LB_X11_holds_25 s_pieces s_worths s_items v1 v2 kx (L_X11_holds_25 s_pieces s_worths s_items v1 v2 kx n) v3 s_used = some res := h
    have hr := ih
    unfold LB_X11_holds_25 at h
    refine g_iload_n 25 C 3 dX11_holds_25 rfl rfl ?_
    refine g_iload_n 26 C 2 dX11_holds_26 rfl rfl ?_
    refine g_icmp_ge 27 103 C dX11_holds_27 (by decide) (fun c => ?_) (fun c => ?_)
    · replace h := it_e c h
      refine GG.sub (lv' := []) [] rfl ?_
      exact hx (v3, s_used) h
    · replace h := if_e c h
      refine g_iconst 30 C (0 : Int32) dX11_holds_30 (by decide) ?_
      refine g_istore 31 C [(4, .int (0 : Int32)), (0, .ref h_t), (1, .int v1), (2, .int v2), (3, .int v3)] dX11_holds_31 (by decide) rfl ?_
      refine GG.sub (lv' := [(0, .ref h_t), (1, .int v1), (2, .int v2), (3, .int v3), (4, .int (0 : Int32))]) [1, 2, 3, 4, 0] rfl ?_
      exact ok_L_X11_holds_33 C hA (fun t h => by
        refine GG.sub (lv' := [(0, .ref h_t), (1, .int v1), (2, .int v2), (3, .int v3), (4, .int t)]) [0, 1, 2, 3, 4] rfl ?_
        exact ok_B_X11_holds_78 C hA hx hr h) FUEL (0 : Int32) h
set_option maxHeartbeats 4000000 in
set_option maxRecDepth 100000 in
theorem ok_B_X11_holds_103 {h_t : Nat} {h_t_used : Nat} {h_t_worths : Nat} {h_t_items : Nat} {h_t_w : Nat} {h_t_tape : Nat} {h_t_firsts : Nat} {h_t_sizes : Nat} {h_t_readWorths : Nat} {h_t_dues : Nat} {h_t_sums : Nat} {h_t_worthOf : Nat} {h_t_lies : Nat} {h_t_pairs : Nat} {h_t_row : Nat} {h_t_hands : Nat} {h_t_paidOn : Nat} {h_t_lates : Nat} {h_t_fixed : Nat} {h_t_lanes : Nat} {h_t_longs : Nat} {h_t_hand : Nat} {s_isKept : Int32} {s_taped : Int32} {s_pieces : Int32} {s_at : Int32} {s_readMany : Int32} {s_readKind : Int32} {s_readCut : Int32} {s_rowSet : Int32} {s_bestSet : Int32} {s_used : Nat → Int32} {s_worths : Nat → Int32} {s_items : Nat → Int64} {res : Int32 × (Nat → Int32)} (C : CX p s m args meth c cX11_holds wsX11_holds RX11 5 D k A (some .boolean)) (hA : A = va_A w0 sz)  (h : B_X11_holds_103 s_used = some res) : GG p l e rm_X11_holds s m args below meth c (MQ below (cQi D w0 sz res.1 (W_X11_holds k h_t h_t_used h_t_worths h_t_items h_t_w h_t_tape h_t_firsts h_t_sizes h_t_readWorths h_t_dues h_t_sums h_t_worthOf h_t_lies h_t_pairs h_t_row h_t_hands h_t_paidOn h_t_lates h_t_fixed h_t_lanes h_t_longs h_t_hand s_isKept s_taped s_pieces s_at s_readMany s_readKind s_readCut s_rowSet s_bestSet res.2 s_worths s_items)) args s 0 0 A) D A 5 0 0 103 [] [] (W_X11_holds k h_t h_t_used h_t_worths h_t_items h_t_w h_t_tape h_t_firsts h_t_sizes h_t_readWorths h_t_dues h_t_sums h_t_worthOf h_t_lies h_t_pairs h_t_row h_t_hands h_t_paidOn h_t_lates h_t_fixed h_t_lanes h_t_longs h_t_hand s_isKept s_taped s_pieces s_at s_readMany s_readKind s_readCut s_rowSet s_bestSet s_used s_worths s_items) := by
  unfold B_X11_holds_103 at h
  refine g_iconst 103 C (1 : Int32) dX11_holds_103 (by decide) ?_
  obtain rfl := Option.some.inj h
  exact g_zret 104 C hA rfl rfl dX11_holds_104 rfl
set_option maxHeartbeats 4000000 in
set_option maxRecDepth 100000 in
theorem ok_B_X11_holds_23 {h_t : Nat} {h_t_used : Nat} {h_t_worths : Nat} {h_t_items : Nat} {h_t_w : Nat} {h_t_tape : Nat} {h_t_firsts : Nat} {h_t_sizes : Nat} {h_t_readWorths : Nat} {h_t_dues : Nat} {h_t_sums : Nat} {h_t_worthOf : Nat} {h_t_lies : Nat} {h_t_pairs : Nat} {h_t_row : Nat} {h_t_hands : Nat} {h_t_paidOn : Nat} {h_t_lates : Nat} {h_t_fixed : Nat} {h_t_lanes : Nat} {h_t_longs : Nat} {h_t_hand : Nat} {s_isKept : Int32} {s_taped : Int32} {s_pieces : Int32} {s_at : Int32} {s_readMany : Int32} {s_readKind : Int32} {s_readCut : Int32} {s_rowSet : Int32} {s_bestSet : Int32} {s_used : Nat → Int32} {s_worths : Nat → Int32} {s_items : Nat → Int64} {v1 : Int32} {v2 : Int32} {res : Int32 × (Nat → Int32)} (C : CX p s m args meth c cX11_holds wsX11_holds RX11 5 D k A (some .boolean)) (hA : A = va_A w0 sz)  (h : B_X11_holds_23 s_pieces s_used s_worths s_items v1 v2 = some res) : GG p l e rm_X11_holds s m args below meth c (MQ below (cQi D w0 sz res.1 (W_X11_holds k h_t h_t_used h_t_worths h_t_items h_t_w h_t_tape h_t_firsts h_t_sizes h_t_readWorths h_t_dues h_t_sums h_t_worthOf h_t_lies h_t_pairs h_t_row h_t_hands h_t_paidOn h_t_lates h_t_fixed h_t_lanes h_t_longs h_t_hand s_isKept s_taped s_pieces s_at s_readMany s_readKind s_readCut s_rowSet s_bestSet res.2 s_worths s_items)) args s 0 0 A) D A 5 0 0 23 [(0, .ref h_t), (1, .int v1), (2, .int v2)] [] (W_X11_holds k h_t h_t_used h_t_worths h_t_items h_t_w h_t_tape h_t_firsts h_t_sizes h_t_readWorths h_t_dues h_t_sums h_t_worthOf h_t_lies h_t_pairs h_t_row h_t_hands h_t_paidOn h_t_lates h_t_fixed h_t_lanes h_t_longs h_t_hand s_isKept s_taped s_pieces s_at s_readMany s_readKind s_readCut s_rowSet s_bestSet s_used s_worths s_items) := by
  unfold B_X11_holds_23 at h
  refine g_iconst 23 C (0 : Int32) dX11_holds_23 (by decide) ?_
  refine g_istore_n 24 C [(3, .int (0 : Int32)), (0, .ref h_t), (1, .int v1), (2, .int v2)] dX11_holds_24 rfl (by decide) rfl ?_
  refine GG.sub (lv' := [(0, .ref h_t), (1, .int v1), (2, .int v2), (3, .int (0 : Int32))]) [1, 2, 3, 0] rfl ?_
  exact ok_L_X11_holds_25 C hA (fun t h => by
    refine GG.sub (lv' := []) [] rfl ?_
    exact ok_B_X11_holds_103 C hA h) FUEL ((0 : Int32), s_used) h
set_option maxHeartbeats 4000000 in
set_option maxRecDepth 100000 in
theorem k_X11_holds {l : Launch} {D : va_G} {k : Nat → ClassId} (h_t : Nat) (h_t_used : Nat) (h_t_worths : Nat) (h_t_items : Nat) (h_t_w : Nat) (h_t_tape : Nat) (h_t_firsts : Nat) (h_t_sizes : Nat) (h_t_readWorths : Nat) (h_t_dues : Nat) (h_t_sums : Nat) (h_t_worthOf : Nat) (h_t_lies : Nat) (h_t_pairs : Nat) (h_t_row : Nat) (h_t_hands : Nat) (h_t_paidOn : Nat) (h_t_lates : Nat) (h_t_fixed : Nat) (h_t_lanes : Nat) (h_t_longs : Nat) (h_t_hand : Nat) (s_isKept : Int32) (s_taped : Int32) (s_pieces : Int32) (s_at : Int32) (s_readMany : Int32) (s_readKind : Int32) (s_readCut : Int32) (s_rowSet : Int32) (s_bestSet : Int32) (s_used : Nat → Int32) (s_worths : Nat → Int32) (s_items : Nat → Int64) (v1 : Int32) (v2 : Int32) (res : Int32 × (Nat → Int32)) (h : f_X11_holds s_pieces s_used s_worths s_items v1 v2 = some res) (sz : Nat) : Met l yX11_holds wsX11_holds rm_X11_holds (cPre D k [.ref h_t, .int v1, .int v2] (W_X11_holds k h_t h_t_used h_t_worths h_t_items h_t_w h_t_tape h_t_firsts h_t_sizes h_t_readWorths h_t_dues h_t_sums h_t_worthOf h_t_lies h_t_pairs h_t_row h_t_hands h_t_paidOn h_t_lates h_t_fixed h_t_lanes h_t_longs h_t_hand s_isKept s_taped s_pieces s_at s_readMany s_readKind s_readCut s_rowSet s_bestSet s_used s_worths s_items) sz) (cQi D (W_X11_holds k h_t h_t_used h_t_worths h_t_items h_t_w h_t_tape h_t_firsts h_t_sizes h_t_readWorths h_t_dues h_t_sums h_t_worthOf h_t_lies h_t_pairs h_t_row h_t_hands h_t_paidOn h_t_lates h_t_fixed h_t_lanes h_t_longs h_t_hand s_isKept s_taped s_pieces s_at s_readMany s_readKind s_readCut s_rowSet s_bestSet s_used s_worths s_items) sz res.1 (W_X11_holds k h_t h_t_used h_t_worths h_t_items h_t_w h_t_tape h_t_firsts h_t_sizes h_t_readWorths h_t_dues h_t_sums h_t_worthOf h_t_lies h_t_pairs h_t_row h_t_hands h_t_paidOn h_t_lates h_t_fixed h_t_lanes h_t_longs h_t_hand s_isKept s_taped s_pieces s_at s_readMany s_readKind s_readCut s_rowSet s_bestSet res.2 s_worths s_items)) 0 0 (va_A (W_X11_holds k h_t h_t_used h_t_worths h_t_items h_t_w h_t_tape h_t_firsts h_t_sizes h_t_readWorths h_t_dues h_t_sums h_t_worthOf h_t_lies h_t_pairs h_t_row h_t_hands h_t_paidOn h_t_lates h_t_fixed h_t_lanes h_t_longs h_t_hand s_isKept s_taped s_pieces s_at s_readMany s_readKind s_readCut s_rowSet s_bestSet s_used s_worths s_items) sz) := by
  refine met_of [(0, .ref h_t), (1, .int v1), (2, .int v2)] (by decide) rfl rfl (Nat.le_of_ble_eq_true rfl) rfl ?_
  intro p e s m args below meth c A hA hsz C
  unfold f_X11_holds at h
  refine g_iconst 0 C (0 : Int32) dX11_holds_0 (by decide) ?_
  refine g_istore_n 1 C [(3, .int (0 : Int32)), (0, .ref h_t), (1, .int v1), (2, .int v2)] dX11_holds_1 rfl (by decide) rfl ?_
  refine GG.sub (lv' := [(0, .ref h_t), (1, .int v1), (2, .int v2), (3, .int (0 : Int32))]) [1, 2, 3, 0] rfl ?_
  exact ok_L_X11_holds_2 C hA (fun t h => by
    refine GG.sub (lv' := [(0, .ref h_t), (1, .int v1), (2, .int v2)]) [0, 1, 2] rfl ?_
    exact ok_B_X11_holds_23 C hA h) FUEL ((0 : Int32), s_used) h
end

/-! X11_seen -/
abbrev W_X11_seen (k : Nat → ClassId) (h_t : Nat) (h_t_lanes : Nat) (h_t_longs : Nat) (h_t_items : Nat) (h_t_w : Nat) (h_t_row : Nat) (h_t_firsts : Nat) (h_t_sizes : Nat) (h_t_worths : Nat) (h_t_used : Nat) (h_t_tape : Nat) (h_t_readWorths : Nat) (h_t_dues : Nat) (h_t_sums : Nat) (h_t_worthOf : Nat) (h_t_lies : Nat) (h_t_pairs : Nat) (h_t_hands : Nat) (h_t_paidOn : Nat) (h_t_lates : Nat) (h_t_fixed : Nat) (h_t_hand : Nat) (s_isKept : Int32) (s_taped : Int32) (s_pieces : Int32) (s_at : Int32) (s_readMany : Int32) (s_readKind : Int32) (s_readCut : Int32) (s_rowSet : Int32) (s_bestSet : Int32) (s_lanes : Nat → Int32) (s_longs : Nat → Int32) (s_items : Nat → Int64) (s_w : Nat → Int32) (s_row : Nat → Int32) (s_firsts : Nat → Int32) (s_sizes : Nat → Int32) (s_worths : Nat → Int32) (s_used : Nat → Int32) : va_W := [(h_t, .inr (11, [.ref h_t_w, .int s_isKept, .ref h_t_tape, .int s_taped, .ref h_t_firsts, .ref h_t_sizes, .ref h_t_worths, .int s_pieces, .int s_at, .ref h_t_readWorths, .int s_readMany, .int s_readKind, .int s_readCut, .ref h_t_dues, .ref h_t_sums, .ref h_t_worthOf, .ref h_t_lies, .ref h_t_pairs, .ref h_t_row, .int s_rowSet, .int s_bestSet, .ref h_t_hands, .ref h_t_paidOn, .ref h_t_lates, .ref h_t_fixed, .ref h_t_lanes, .ref h_t_longs, .ref h_t_items, .ref h_t_hand, .ref h_t_used])), (h_t_lanes, .inl (k 0, 4, .inl s_lanes)), (h_t_longs, .inl (k 0, 4, .inl s_longs)), (h_t_items, .inl (k 1, 96, .inr (.inl s_items))), (h_t_w, .inl (k 0, 60, .inl s_w)), (h_t_row, .inl (k 0, 5, .inl s_row)), (h_t_firsts, .inl (k 0, 24, .inl s_firsts)), (h_t_sizes, .inl (k 0, 24, .inl s_sizes)), (h_t_worths, .inl (k 0, 24, .inl s_worths)), (h_t_used, .inl (k 3, 24, .inl s_used))]
def rm_X11_seen : Room := { frames := 2, cells := 0, slots := 0, locals := 46 }
theorem in_X11_seen_X11 : ∀ w ∈ u_ws RX11 TX11 30, w ∈ wsX11_seen := by decide +kernel
theorem ct_X11_seen_100 : Cond.constantLong RX11 100 (3 : Int64) ∈ wsX11_seen := by decide +kernel
theorem ct_X11_seen_112 : Cond.constantLong RX11 112 (8 : Int64) ∈ wsX11_seen := by decide +kernel
theorem ct_X11_seen_156 : Cond.constantLong RX11 156 (2 : Int64) ∈ wsX11_seen := by decide +kernel
theorem ct_X11_seen_169 : Cond.constantLong RX11 169 (999 : Int64) ∈ wsX11_seen := by decide +kernel
theorem ct_X11_seen_197 : Cond.constantLong RX11 197 (-1 : Int64) ∈ wsX11_seen := by decide +kernel
theorem fl_X11_seen_183 : Cond.fieldLink RX11 183 "LinkDaysModel" "rowSet" "I" ∈ wsX11_seen := by decide +kernel
theorem fl_X11_seen_68 : Cond.fieldLink RX11 68 "LinkDaysModel" "items" "[J" ∈ wsX11_seen := by decide +kernel
theorem pd_X11_seen : yX11_seen.cls = RX11 ∧ yX11_seen.cls ≠ "java/lang/invoke/MethodHandle" ∧ yX11_seen.cls ≠ "java/lang/invoke/VarHandle" ∧ (parseMethodDescriptor yX11_seen.desc).map (fun d => d.parameters.length) = some 6 := by decide +kernel
section
variable {p : Program} {l : Launch} {e : Env} {s : State} {m : MethodId} {args : Array Value} {below : List Frame} {meth : Method} {c : Code} {D : va_G} {k : Nat → ClassId} {A : Nat → Prop} {w0 : va_W} {sz : Nat}
set_option maxHeartbeats 4000000 in
set_option maxRecDepth 100000 in
theorem ok_B_X11_seen_59 {h_t : Nat} {h_t_lanes : Nat} {h_t_longs : Nat} {h_t_items : Nat} {h_t_w : Nat} {h_t_row : Nat} {h_t_firsts : Nat} {h_t_sizes : Nat} {h_t_worths : Nat} {h_t_used : Nat} {h_t_tape : Nat} {h_t_readWorths : Nat} {h_t_dues : Nat} {h_t_sums : Nat} {h_t_worthOf : Nat} {h_t_lies : Nat} {h_t_pairs : Nat} {h_t_hands : Nat} {h_t_paidOn : Nat} {h_t_lates : Nat} {h_t_fixed : Nat} {h_t_hand : Nat} {s_isKept : Int32} {s_taped : Int32} {s_pieces : Int32} {s_at : Int32} {s_readMany : Int32} {s_readKind : Int32} {s_readCut : Int32} {s_rowSet : Int32} {s_bestSet : Int32} {s_lanes : Nat → Int32} {s_longs : Nat → Int32} {s_items : Nat → Int64} {s_w : Nat → Int32} {s_row : Nat → Int32} {s_firsts : Nat → Int32} {s_sizes : Nat → Int32} {s_worths : Nat → Int32} {s_used : Nat → Int32} {res : Int32 × Int32 × Int32 × (Nat → Int32) × (Nat → Int32) × (Nat → Int32) × (Nat → Int32) × (Nat → Int32)} (C : CX p s m args meth c cX11_seen wsX11_seen RX11 11 D k A (some .int)) (hA : A = va_A w0 sz)  (h : B_X11_seen_59 s_pieces s_rowSet s_row s_firsts s_sizes s_worths s_used = some res) : GG p l e rm_X11_seen s m args below meth c (MQ below (cQi D w0 sz res.1 (W_X11_seen k h_t h_t_lanes h_t_longs h_t_items h_t_w h_t_row h_t_firsts h_t_sizes h_t_worths h_t_used h_t_tape h_t_readWorths h_t_dues h_t_sums h_t_worthOf h_t_lies h_t_pairs h_t_hands h_t_paidOn h_t_lates h_t_fixed h_t_hand s_isKept s_taped res.2.1 s_at s_readMany s_readKind s_readCut res.2.2.1 s_bestSet s_lanes s_longs s_items s_w res.2.2.2.1 res.2.2.2.2.1 res.2.2.2.2.2.1 res.2.2.2.2.2.2.1 res.2.2.2.2.2.2.2)) args s 0 0 A) D A 11 0 0 59 [] [] (W_X11_seen k h_t h_t_lanes h_t_longs h_t_items h_t_w h_t_row h_t_firsts h_t_sizes h_t_worths h_t_used h_t_tape h_t_readWorths h_t_dues h_t_sums h_t_worthOf h_t_lies h_t_pairs h_t_hands h_t_paidOn h_t_lates h_t_fixed h_t_hand s_isKept s_taped s_pieces s_at s_readMany s_readKind s_readCut s_rowSet s_bestSet s_lanes s_longs s_items s_w s_row s_firsts s_sizes s_worths s_used) := by
  unfold B_X11_seen_59 at h
  refine g_iconst 59 C (-1 : Int32) dX11_seen_59 (by decide) ?_
  obtain rfl := Option.some.inj h
  exact g_iret 60 C hA rfl dX11_seen_60 rfl
set_option maxHeartbeats 4000000 in
set_option maxRecDepth 100000 in
theorem ok_L_X11_seen_84 {h_t : Nat} {h_t_lanes : Nat} {h_t_longs : Nat} {h_t_items : Nat} {h_t_w : Nat} {h_t_row : Nat} {h_t_firsts : Nat} {h_t_sizes : Nat} {h_t_worths : Nat} {h_t_used : Nat} {h_t_tape : Nat} {h_t_readWorths : Nat} {h_t_dues : Nat} {h_t_sums : Nat} {h_t_worthOf : Nat} {h_t_lies : Nat} {h_t_pairs : Nat} {h_t_hands : Nat} {h_t_paidOn : Nat} {h_t_lates : Nat} {h_t_fixed : Nat} {h_t_hand : Nat} {s_isKept : Int32} {s_taped : Int32} {s_pieces : Int32} {s_at : Int32} {s_readMany : Int32} {s_readKind : Int32} {s_readCut : Int32} {s_rowSet : Int32} {s_bestSet : Int32} {s_lanes : Nat → Int32} {s_longs : Nat → Int32} {s_items : Nat → Int64} {s_w : Nat → Int32} {s_row : Nat → Int32} {s_firsts : Nat → Int32} {s_sizes : Nat → Int32} {s_worths : Nat → Int32} {s_used : Nat → Int32} {v1 : Int32} {v2 : Int32} {v4 : Int32} {v5 : Int32} {v6 : Int32} {res : Int32 × Int32 × Int32 × (Nat → Int32) × (Nat → Int32) × (Nat → Int32) × (Nat → Int32) × (Nat → Int32)} (C : CX p s m args meth c cX11_seen wsX11_seen RX11 11 D k A (some .int)) (hA : A = va_A w0 sz) {kx : Int32 → Option (Int32 × Int32 × Int32 × (Nat → Int32) × (Nat → Int32) × (Nat → Int32) × (Nat → Int32) × (Nat → Int32))} (hx : ∀ t : Int32, kx t = some res → GG p l e rm_X11_seen s m args below meth c (MQ below (cQi D w0 sz res.1 (W_X11_seen k h_t h_t_lanes h_t_longs h_t_items h_t_w h_t_row h_t_firsts h_t_sizes h_t_worths h_t_used h_t_tape h_t_readWorths h_t_dues h_t_sums h_t_worthOf h_t_lies h_t_pairs h_t_hands h_t_paidOn h_t_lates h_t_fixed h_t_hand s_isKept s_taped res.2.1 s_at s_readMany s_readKind s_readCut res.2.2.1 s_bestSet s_lanes s_longs s_items s_w res.2.2.2.1 res.2.2.2.2.1 res.2.2.2.2.2.1 res.2.2.2.2.2.2.1 res.2.2.2.2.2.2.2)) args s 0 0 A) D A 11 0 0 125 [(0, .ref h_t), (1, .int v1), (2, .int v2), (4, .int v4), (5, .int v5), (6, .int v6)] [] (W_X11_seen k h_t h_t_lanes h_t_longs h_t_items h_t_w h_t_row h_t_firsts h_t_sizes h_t_worths h_t_used h_t_tape h_t_readWorths h_t_dues h_t_sums h_t_worthOf h_t_lies h_t_pairs h_t_hands h_t_paidOn h_t_lates h_t_fixed h_t_hand s_isKept s_taped s_pieces s_at s_readMany s_readKind s_readCut s_rowSet s_bestSet s_lanes s_longs s_items s_w s_row s_firsts s_sizes s_worths s_used)) : ∀ (n : Nat) (t : Int32), L_X11_seen_84 s_pieces s_rowSet s_items s_row s_firsts s_sizes s_worths s_used v2 v4 v5 kx n t = some res → GG p l e rm_X11_seen s m args below meth c (MQ below (cQi D w0 sz res.1 (W_X11_seen k h_t h_t_lanes h_t_longs h_t_items h_t_w h_t_row h_t_firsts h_t_sizes h_t_worths h_t_used h_t_tape h_t_readWorths h_t_dues h_t_sums h_t_worthOf h_t_lies h_t_pairs h_t_hands h_t_paidOn h_t_lates h_t_fixed h_t_hand s_isKept s_taped res.2.1 s_at s_readMany s_readKind s_readCut res.2.2.1 s_bestSet s_lanes s_longs s_items s_w res.2.2.2.1 res.2.2.2.2.1 res.2.2.2.2.2.1 res.2.2.2.2.2.2.1 res.2.2.2.2.2.2.2)) args s 0 0 A) D A 11 0 0 84 [(0, .ref h_t), (1, .int v1), (2, .int v2), (4, .int v4), (5, .int v5), (6, .int v6), (8, .int t)] [] (W_X11_seen k h_t h_t_lanes h_t_longs h_t_items h_t_w h_t_row h_t_firsts h_t_sizes h_t_worths h_t_used h_t_tape h_t_readWorths h_t_dues h_t_sums h_t_worthOf h_t_lies h_t_pairs h_t_hands h_t_paidOn h_t_lates h_t_fixed h_t_hand s_isKept s_taped s_pieces s_at s_readMany s_readKind s_readCut s_rowSet s_bestSet s_lanes s_longs s_items s_w s_row s_firsts s_sizes s_worths s_used) := by
  intro n
  induction n with
  | zero => intro t h; cases h
  | succ n ih =>
    intro t h
    obtain ⟨v8, rfl⟩ : ∃ z, z = t := ⟨_, rfl⟩
    replace h : LB_X11_seen_84 s_pieces s_rowSet s_items s_row s_firsts s_sizes s_worths s_used v2 v4 v5 kx (L_X11_seen_84 s_pieces s_rowSet s_items s_row s_firsts s_sizes s_worths s_used v2 v4 v5 kx n) v8 = some res := h
    have hr := ih
    unfold LB_X11_seen_84 at h
    refine g_iload 84 C 6 dX11_seen_84 rfl ?_
    refine g_iload 86 C 4 dX11_seen_86 rfl ?_
    refine g_icmp_ge 88 125 C dX11_seen_88 (by decide) (fun c => ?_) (fun c => ?_)
    · replace h := it_e c h
      refine GG.sub (lv' := [(0, .ref h_t), (1, .int v1), (2, .int v2), (4, .int v4), (5, .int v5), (6, .int v6)]) [0, 1, 2, 3, 4, 5] rfl ?_
      exact hx v8 h
    · replace h := if_e c h
      refine g_aload_n 91 C 0 dX11_seen_91 rfl rfl ?_
      refine g_get 92 C in_X11_seen_X11 0 27 rfl rfl (by decide) fl_X11_seen_68 rfl rfl dX11_seen_92 ?_
      refine g_bipush 95 C (24 : Int32) dX11_seen_95 (by decide) ?_
      refine g_iload_n 97 C 2 dX11_seen_97 rfl rfl ?_
      refine g_imul 98 C dX11_seen_98 ?_
      refine g_iload 99 C 3 dX11_seen_99 rfl ?_
      refine g_iadd 101 C dX11_seen_101 ?_
      refine g_iload 102 C 6 dX11_seen_102 rfl ?_
      refine g_iadd 104 C dX11_seen_104 ?_
      obtain ⟨o13, h⟩ := ob_e h
      refine g_lald 105 C 3 rfl o13 dX11_seen_105 ?_
      refine g_lconst 106 C (1 : Int64) dX11_seen_106 (by decide) ?_
      refine g_ldc2 107 C (999 : Int64) dX11_seen_107 ct_X11_seen_169 ?_
      obtain ⟨q14, e15, h⟩ := bi_e h
      refine g_callSi 110 C (As := [.long (s_items ((((24 : Int32) * v2) + v4) + v8).toNatClampNeg), .long (1 : Int64), .long (999 : Int64)]) [] [0, 1, 2, 3, 4, 5, 6, 7, 8, 9] [0, 1, 2, 3, 4, 5, 6, 7, 8, 9] (W_X11_seen k h_t h_t_lanes h_t_longs h_t_items h_t_w h_t_row h_t_firsts h_t_sizes h_t_worths h_t_used h_t_tape h_t_readWorths h_t_dues h_t_sums h_t_worthOf h_t_lies h_t_pairs h_t_hands h_t_paidOn h_t_lates h_t_fixed h_t_hand s_isKept s_taped s_pieces s_at s_readMany s_readKind s_readCut s_rowSet s_bestSet s_lanes s_longs s_items s_w s_row s_firsts s_sizes s_worths s_used) (fun sz => k_X11_in (s_items ((((24 : Int32) * v2) + v4) + v8).toNatClampNeg) (1 : Int64) (999 : Int64) q14 e15 sz) gX11_seen_X11_in rfl pd_X11_in rfl ⟨rfl, rfl, Nat.le_of_ble_eq_true rfl, Nat.le_of_ble_eq_true rfl⟩ (Nat.le_of_ble_eq_true rfl) ⟨Nat.zero_le _, Nat.zero_le _⟩ ⟨rfl, rfl, rfl, rfl, rfl, by decide, rfl⟩ rfl dX11_seen_110 ?_
      refine g_if_ne 113 119 C dX11_seen_113 (by decide) (fun c => ?_) (fun c => ?_)
      · replace h := if_e c h
        refine g_iinc 119 C 6 (1 : Int32) [(8, .int (v8 + (1 : Int32))), (0, .ref h_t), (1, .int v1), (2, .int v2), (4, .int v4), (5, .int v5), (6, .int v6)] dX11_seen_119 rfl (by decide) (by decide) rfl ?_
        refine g_goto 122 84 C dX11_seen_122 (by decide) ?_
        refine GG.sub (lv' := [(0, .ref h_t), (1, .int v1), (2, .int v2), (4, .int v4), (5, .int v5), (6, .int v6), (8, .int (v8 + (1 : Int32)))]) [1, 2, 3, 4, 5, 6, 0] rfl ?_
        exact hr (v8 + (1 : Int32)) h
      · replace h := it_e c h
        refine g_bipush 116 C (-2 : Int32) dX11_seen_116 (by decide) ?_
        obtain rfl := Option.some.inj h
        exact g_iret 118 C hA rfl dX11_seen_118 rfl
set_option maxHeartbeats 4000000 in
set_option maxRecDepth 100000 in
theorem ok_B_X11_seen_199 {h_t : Nat} {h_t_lanes : Nat} {h_t_longs : Nat} {h_t_items : Nat} {h_t_w : Nat} {h_t_row : Nat} {h_t_firsts : Nat} {h_t_sizes : Nat} {h_t_worths : Nat} {h_t_used : Nat} {h_t_tape : Nat} {h_t_readWorths : Nat} {h_t_dues : Nat} {h_t_sums : Nat} {h_t_worthOf : Nat} {h_t_lies : Nat} {h_t_pairs : Nat} {h_t_hands : Nat} {h_t_paidOn : Nat} {h_t_lates : Nat} {h_t_fixed : Nat} {h_t_hand : Nat} {s_isKept : Int32} {s_taped : Int32} {s_pieces : Int32} {s_at : Int32} {s_readMany : Int32} {s_readKind : Int32} {s_readCut : Int32} {s_rowSet : Int32} {s_bestSet : Int32} {s_lanes : Nat → Int32} {s_longs : Nat → Int32} {s_items : Nat → Int64} {s_w : Nat → Int32} {s_row : Nat → Int32} {s_firsts : Nat → Int32} {s_sizes : Nat → Int32} {s_worths : Nat → Int32} {s_used : Nat → Int32} {v1 : Int32} {v2 : Int32} {v4 : Int32} {v5 : Int32} {v6 : Int32} {v8 : Int32} {v9 : Int32} {res : Int32 × Int32 × Int32 × (Nat → Int32) × (Nat → Int32) × (Nat → Int32) × (Nat → Int32) × (Nat → Int32)} {kx rec : Int32 × Int32 × Int32 × Int32 × Int32 × (Nat → Int32) × (Nat → Int32) × (Nat → Int32) × (Nat → Int32) × (Nat → Int32) → Option (Int32 × Int32 × Int32 × (Nat → Int32) × (Nat → Int32) × (Nat → Int32) × (Nat → Int32) × (Nat → Int32))} (C : CX p s m args meth c cX11_seen wsX11_seen RX11 11 D k A (some .int)) (hA : A = va_A w0 sz) (hx : ∀ t : Int32 × Int32 × Int32 × Int32 × Int32 × (Nat → Int32) × (Nat → Int32) × (Nat → Int32) × (Nat → Int32) × (Nat → Int32), kx t = some res → GG p l e rm_X11_seen s m args below meth c (MQ below (cQi D w0 sz res.1 (W_X11_seen k h_t h_t_lanes h_t_longs h_t_items h_t_w h_t_row h_t_firsts h_t_sizes h_t_worths h_t_used h_t_tape h_t_readWorths h_t_dues h_t_sums h_t_worthOf h_t_lies h_t_pairs h_t_hands h_t_paidOn h_t_lates h_t_fixed h_t_hand s_isKept s_taped res.2.1 s_at s_readMany s_readKind s_readCut res.2.2.1 s_bestSet s_lanes s_longs s_items s_w res.2.2.2.1 res.2.2.2.2.1 res.2.2.2.2.2.1 res.2.2.2.2.2.2.1 res.2.2.2.2.2.2.2)) args s 0 0 A) D A 11 0 0 213 [(1, .int v1), (6, .int v6), (8, .int t.1), (9, .int t.2.1)] [] (W_X11_seen k h_t h_t_lanes h_t_longs h_t_items h_t_w h_t_row h_t_firsts h_t_sizes h_t_worths h_t_used h_t_tape h_t_readWorths h_t_dues h_t_sums h_t_worthOf h_t_lies h_t_pairs h_t_hands h_t_paidOn h_t_lates h_t_fixed h_t_hand s_isKept s_taped t.2.2.2.1 s_at s_readMany s_readKind s_readCut t.2.2.2.2.1 s_bestSet s_lanes s_longs s_items s_w t.2.2.2.2.2.1 t.2.2.2.2.2.2.1 t.2.2.2.2.2.2.2.1 t.2.2.2.2.2.2.2.2.1 t.2.2.2.2.2.2.2.2.2)) (hr : ∀ t : Int32 × Int32 × Int32 × Int32 × Int32 × (Nat → Int32) × (Nat → Int32) × (Nat → Int32) × (Nat → Int32) × (Nat → Int32), rec t = some res → GG p l e rm_X11_seen s m args below meth c (MQ below (cQi D w0 sz res.1 (W_X11_seen k h_t h_t_lanes h_t_longs h_t_items h_t_w h_t_row h_t_firsts h_t_sizes h_t_worths h_t_used h_t_tape h_t_readWorths h_t_dues h_t_sums h_t_worthOf h_t_lies h_t_pairs h_t_hands h_t_paidOn h_t_lates h_t_fixed h_t_hand s_isKept s_taped res.2.1 s_at s_readMany s_readKind s_readCut res.2.2.1 s_bestSet s_lanes s_longs s_items s_w res.2.2.2.1 res.2.2.2.2.1 res.2.2.2.2.2.1 res.2.2.2.2.2.2.1 res.2.2.2.2.2.2.2)) args s 0 0 A) D A 11 0 0 151 [(0, .ref h_t), (1, .int v1), (2, .int v2), (4, .int v4), (5, .int v5), (6, .int v6), (8, .int t.1), (9, .int t.2.1), (10, .int t.2.2.1)] [] (W_X11_seen k h_t h_t_lanes h_t_longs h_t_items h_t_w h_t_row h_t_firsts h_t_sizes h_t_worths h_t_used h_t_tape h_t_readWorths h_t_dues h_t_sums h_t_worthOf h_t_lies h_t_pairs h_t_hands h_t_paidOn h_t_lates h_t_fixed h_t_hand s_isKept s_taped t.2.2.2.1 s_at s_readMany s_readKind s_readCut t.2.2.2.2.1 s_bestSet s_lanes s_longs s_items s_w t.2.2.2.2.2.1 t.2.2.2.2.2.2.1 t.2.2.2.2.2.2.2.1 t.2.2.2.2.2.2.2.2.1 t.2.2.2.2.2.2.2.2.2))  (h : B_X11_seen_199 kx rec s_pieces s_rowSet s_w s_row s_firsts s_sizes s_worths s_used v1 v8 v9 = some res) : GG p l e rm_X11_seen s m args below meth c (MQ below (cQi D w0 sz res.1 (W_X11_seen k h_t h_t_lanes h_t_longs h_t_items h_t_w h_t_row h_t_firsts h_t_sizes h_t_worths h_t_used h_t_tape h_t_readWorths h_t_dues h_t_sums h_t_worthOf h_t_lies h_t_pairs h_t_hands h_t_paidOn h_t_lates h_t_fixed h_t_hand s_isKept s_taped res.2.1 s_at s_readMany s_readKind s_readCut res.2.2.1 s_bestSet s_lanes s_longs s_items s_w res.2.2.2.1 res.2.2.2.2.1 res.2.2.2.2.2.1 res.2.2.2.2.2.2.1 res.2.2.2.2.2.2.2)) args s 0 0 A) D A 11 0 0 199 [(0, .ref h_t), (1, .int v1), (2, .int v2), (4, .int v4), (5, .int v5), (6, .int v6), (8, .int v8), (9, .int v9)] [] (W_X11_seen k h_t h_t_lanes h_t_longs h_t_items h_t_w h_t_row h_t_firsts h_t_sizes h_t_worths h_t_used h_t_tape h_t_readWorths h_t_dues h_t_sums h_t_worthOf h_t_lies h_t_pairs h_t_hands h_t_paidOn h_t_lates h_t_fixed h_t_hand s_isKept s_taped s_pieces s_at s_readMany s_readKind s_readCut s_rowSet s_bestSet s_lanes s_longs s_items s_w s_row s_firsts s_sizes s_worths s_used) := by
  unfold B_X11_seen_199 at h
  refine g_aload_n 199 C 0 dX11_seen_199 rfl rfl ?_
  refine g_iload_n 200 C 1 dX11_seen_200 rfl rfl ?_
  refine g_aload_n 201 C 0 dX11_seen_201 rfl rfl ?_
  obtain ⟨q24, e25, h⟩ := bi_e h
  refine g_callVi 202 C (As := []) [0, 4] [1, 2, 3, 5, 6, 7, 8, 9] [8, 0, 1, 2, 9, 3, 4, 5, 6, 7] (W_X11_seen k h_t h_t_lanes h_t_longs h_t_items h_t_w h_t_row h_t_firsts h_t_sizes h_t_worths h_t_used h_t_tape h_t_readWorths h_t_dues h_t_sums h_t_worthOf h_t_lies h_t_pairs h_t_hands h_t_paidOn h_t_lates h_t_fixed h_t_hand s_isKept s_taped s_pieces s_at s_readMany s_readKind s_readCut s_rowSet s_bestSet s_lanes s_longs s_items s_w s_row s_firsts s_sizes s_worths s_used) 0 (fun sz => k_X11_notches h_t h_t_w h_t_tape h_t_firsts h_t_sizes h_t_worths h_t_readWorths h_t_dues h_t_sums h_t_worthOf h_t_lies h_t_pairs h_t_row h_t_hands h_t_paidOn h_t_lates h_t_fixed h_t_lanes h_t_longs h_t_items h_t_hand h_t_used s_isKept s_taped s_pieces s_at s_readMany s_readKind s_readCut s_rowSet s_bestSet s_w q24 e25 sz) gX11_seen_X11_notches rfl pd_X11_notches rfl rfl rfl ⟨rfl, rfl, Nat.le_of_ble_eq_true rfl, Nat.le_of_ble_eq_true rfl⟩ (Nat.le_of_ble_eq_true rfl) ⟨Nat.zero_le _, Nat.zero_le _⟩ ⟨rfl, rfl, rfl, rfl, rfl, by decide, rfl⟩ rfl dX11_seen_202 ?_
  obtain ⟨q26, e27, h⟩ := bi_e h
  refine g_callVi 205 C (As := [.int v1, .int q24]) [0, 5] [1, 2, 3, 4, 6, 7, 8, 9] [8, 0, 1, 2, 3, 9, 4, 5, 6, 7] (W_X11_seen k h_t h_t_lanes h_t_longs h_t_items h_t_w h_t_row h_t_firsts h_t_sizes h_t_worths h_t_used h_t_tape h_t_readWorths h_t_dues h_t_sums h_t_worthOf h_t_lies h_t_pairs h_t_hands h_t_paidOn h_t_lates h_t_fixed h_t_hand s_isKept s_taped s_pieces s_at s_readMany s_readKind s_readCut q26.2.1 s_bestSet s_lanes s_longs s_items s_w q26.2.2 s_firsts s_sizes s_worths s_used) 0 (fun sz => k_X11_goesOn h_t h_t_row h_t_w h_t_tape h_t_firsts h_t_sizes h_t_worths h_t_readWorths h_t_dues h_t_sums h_t_worthOf h_t_lies h_t_pairs h_t_hands h_t_paidOn h_t_lates h_t_fixed h_t_lanes h_t_longs h_t_items h_t_hand h_t_used s_isKept s_taped s_pieces s_at s_readMany s_readKind s_readCut s_rowSet s_bestSet s_row v1 q24 q26 e27 sz) gX11_seen_X11_goesOn rfl pd_X11_goesOn rfl rfl rfl ⟨rfl, rfl, Nat.le_of_ble_eq_true rfl, Nat.le_of_ble_eq_true rfl⟩ (Nat.le_of_ble_eq_true rfl) ⟨Nat.zero_le _, Nat.zero_le _⟩ ⟨rfl, rfl, rfl, rfl, rfl, by decide, rfl⟩ rfl dX11_seen_205 ?_
  refine g_istore 208 C [(10, .int q26.1), (0, .ref h_t), (1, .int v1), (2, .int v2), (4, .int v4), (5, .int v5), (6, .int v6), (8, .int v8), (9, .int v9)] dX11_seen_208 (by decide) rfl ?_
  refine g_goto 210 151 C dX11_seen_210 (by decide) ?_
  refine GG.sub (lv' := [(0, .ref h_t), (1, .int v1), (2, .int v2), (4, .int v4), (5, .int v5), (6, .int v6), (8, .int v8), (9, .int v9), (10, .int q26.1)]) [1, 2, 3, 4, 5, 6, 7, 8, 0] rfl ?_
  exact hr (v8, v9, q26.1, s_pieces, q26.2.1, q26.2.2, s_firsts, s_sizes, s_worths, s_used) h
set_option maxHeartbeats 4000000 in
set_option maxRecDepth 100000 in
theorem ok_B_X11_seen_194 {h_t : Nat} {h_t_lanes : Nat} {h_t_longs : Nat} {h_t_items : Nat} {h_t_w : Nat} {h_t_row : Nat} {h_t_firsts : Nat} {h_t_sizes : Nat} {h_t_worths : Nat} {h_t_used : Nat} {h_t_tape : Nat} {h_t_readWorths : Nat} {h_t_dues : Nat} {h_t_sums : Nat} {h_t_worthOf : Nat} {h_t_lies : Nat} {h_t_pairs : Nat} {h_t_hands : Nat} {h_t_paidOn : Nat} {h_t_lates : Nat} {h_t_fixed : Nat} {h_t_hand : Nat} {s_isKept : Int32} {s_taped : Int32} {s_pieces : Int32} {s_at : Int32} {s_readMany : Int32} {s_readKind : Int32} {s_readCut : Int32} {s_rowSet : Int32} {s_bestSet : Int32} {s_lanes : Nat → Int32} {s_longs : Nat → Int32} {s_items : Nat → Int64} {s_w : Nat → Int32} {s_row : Nat → Int32} {s_firsts : Nat → Int32} {s_sizes : Nat → Int32} {s_worths : Nat → Int32} {s_used : Nat → Int32} {v1 : Int32} {v2 : Int32} {v4 : Int32} {v5 : Int32} {v6 : Int32} {v8 : Int32} {x0 : Int32} {res : Int32 × Int32 × Int32 × (Nat → Int32) × (Nat → Int32) × (Nat → Int32) × (Nat → Int32) × (Nat → Int32)} {kx rec : Int32 × Int32 × Int32 × Int32 × Int32 × (Nat → Int32) × (Nat → Int32) × (Nat → Int32) × (Nat → Int32) × (Nat → Int32) → Option (Int32 × Int32 × Int32 × (Nat → Int32) × (Nat → Int32) × (Nat → Int32) × (Nat → Int32) × (Nat → Int32))} (C : CX p s m args meth c cX11_seen wsX11_seen RX11 11 D k A (some .int)) (hA : A = va_A w0 sz) (hx : ∀ t : Int32 × Int32 × Int32 × Int32 × Int32 × (Nat → Int32) × (Nat → Int32) × (Nat → Int32) × (Nat → Int32) × (Nat → Int32), kx t = some res → GG p l e rm_X11_seen s m args below meth c (MQ below (cQi D w0 sz res.1 (W_X11_seen k h_t h_t_lanes h_t_longs h_t_items h_t_w h_t_row h_t_firsts h_t_sizes h_t_worths h_t_used h_t_tape h_t_readWorths h_t_dues h_t_sums h_t_worthOf h_t_lies h_t_pairs h_t_hands h_t_paidOn h_t_lates h_t_fixed h_t_hand s_isKept s_taped res.2.1 s_at s_readMany s_readKind s_readCut res.2.2.1 s_bestSet s_lanes s_longs s_items s_w res.2.2.2.1 res.2.2.2.2.1 res.2.2.2.2.2.1 res.2.2.2.2.2.2.1 res.2.2.2.2.2.2.2)) args s 0 0 A) D A 11 0 0 213 [(1, .int v1), (6, .int v6), (8, .int t.1), (9, .int t.2.1)] [] (W_X11_seen k h_t h_t_lanes h_t_longs h_t_items h_t_w h_t_row h_t_firsts h_t_sizes h_t_worths h_t_used h_t_tape h_t_readWorths h_t_dues h_t_sums h_t_worthOf h_t_lies h_t_pairs h_t_hands h_t_paidOn h_t_lates h_t_fixed h_t_hand s_isKept s_taped t.2.2.2.1 s_at s_readMany s_readKind s_readCut t.2.2.2.2.1 s_bestSet s_lanes s_longs s_items s_w t.2.2.2.2.2.1 t.2.2.2.2.2.2.1 t.2.2.2.2.2.2.2.1 t.2.2.2.2.2.2.2.2.1 t.2.2.2.2.2.2.2.2.2)) (hr : ∀ t : Int32 × Int32 × Int32 × Int32 × Int32 × (Nat → Int32) × (Nat → Int32) × (Nat → Int32) × (Nat → Int32) × (Nat → Int32), rec t = some res → GG p l e rm_X11_seen s m args below meth c (MQ below (cQi D w0 sz res.1 (W_X11_seen k h_t h_t_lanes h_t_longs h_t_items h_t_w h_t_row h_t_firsts h_t_sizes h_t_worths h_t_used h_t_tape h_t_readWorths h_t_dues h_t_sums h_t_worthOf h_t_lies h_t_pairs h_t_hands h_t_paidOn h_t_lates h_t_fixed h_t_hand s_isKept s_taped res.2.1 s_at s_readMany s_readKind s_readCut res.2.2.1 s_bestSet s_lanes s_longs s_items s_w res.2.2.2.1 res.2.2.2.2.1 res.2.2.2.2.2.1 res.2.2.2.2.2.2.1 res.2.2.2.2.2.2.2)) args s 0 0 A) D A 11 0 0 151 [(0, .ref h_t), (1, .int v1), (2, .int v2), (4, .int v4), (5, .int v5), (6, .int v6), (8, .int t.1), (9, .int t.2.1), (10, .int t.2.2.1)] [] (W_X11_seen k h_t h_t_lanes h_t_longs h_t_items h_t_w h_t_row h_t_firsts h_t_sizes h_t_worths h_t_used h_t_tape h_t_readWorths h_t_dues h_t_sums h_t_worthOf h_t_lies h_t_pairs h_t_hands h_t_paidOn h_t_lates h_t_fixed h_t_hand s_isKept s_taped t.2.2.2.1 s_at s_readMany s_readKind s_readCut t.2.2.2.2.1 s_bestSet s_lanes s_longs s_items s_w t.2.2.2.2.2.1 t.2.2.2.2.2.2.1 t.2.2.2.2.2.2.2.1 t.2.2.2.2.2.2.2.2.1 t.2.2.2.2.2.2.2.2.2))  (h : B_X11_seen_194 kx rec s_pieces s_rowSet s_w s_row s_firsts s_sizes s_worths s_used v1 v8 x0 = some res) : GG p l e rm_X11_seen s m args below meth c (MQ below (cQi D w0 sz res.1 (W_X11_seen k h_t h_t_lanes h_t_longs h_t_items h_t_w h_t_row h_t_firsts h_t_sizes h_t_worths h_t_used h_t_tape h_t_readWorths h_t_dues h_t_sums h_t_worthOf h_t_lies h_t_pairs h_t_hands h_t_paidOn h_t_lates h_t_fixed h_t_hand s_isKept s_taped res.2.1 s_at s_readMany s_readKind s_readCut res.2.2.1 s_bestSet s_lanes s_longs s_items s_w res.2.2.2.1 res.2.2.2.2.1 res.2.2.2.2.2.1 res.2.2.2.2.2.2.1 res.2.2.2.2.2.2.2)) args s 0 0 A) D A 11 0 0 194 [(0, .ref h_t), (1, .int v1), (2, .int v2), (4, .int v4), (5, .int v5), (6, .int v6), (8, .int v8)] [.int x0] (W_X11_seen k h_t h_t_lanes h_t_longs h_t_items h_t_w h_t_row h_t_firsts h_t_sizes h_t_worths h_t_used h_t_tape h_t_readWorths h_t_dues h_t_sums h_t_worthOf h_t_lies h_t_pairs h_t_hands h_t_paidOn h_t_lates h_t_fixed h_t_hand s_isKept s_taped s_pieces s_at s_readMany s_readKind s_readCut s_rowSet s_bestSet s_lanes s_longs s_items s_w s_row s_firsts s_sizes s_worths s_used) := by
  unfold B_X11_seen_194 at h
  refine g_istore 194 C [(9, .int x0), (0, .ref h_t), (1, .int v1), (2, .int v2), (4, .int v4), (5, .int v5), (6, .int v6), (8, .int v8)] dX11_seen_194 (by decide) rfl ?_
  refine g_iinc 196 C 7 (1 : Int32) [(8, .int (v8 + (1 : Int32))), (9, .int x0), (0, .ref h_t), (1, .int v1), (2, .int v2), (4, .int v4), (5, .int v5), (6, .int v6)] dX11_seen_196 rfl (by decide) (by decide) rfl ?_
  refine GG.sub (lv' := [(0, .ref h_t), (1, .int v1), (2, .int v2), (4, .int v4), (5, .int v5), (6, .int v6), (8, .int (v8 + (1 : Int32))), (9, .int x0)]) [2, 3, 4, 5, 6, 7, 0, 1] rfl ?_
  exact ok_B_X11_seen_199 C hA hx hr h
set_option maxHeartbeats 4000000 in
set_option maxRecDepth 100000 in
theorem ok_L_X11_seen_151 {h_t : Nat} {h_t_lanes : Nat} {h_t_longs : Nat} {h_t_items : Nat} {h_t_w : Nat} {h_t_row : Nat} {h_t_firsts : Nat} {h_t_sizes : Nat} {h_t_worths : Nat} {h_t_used : Nat} {h_t_tape : Nat} {h_t_readWorths : Nat} {h_t_dues : Nat} {h_t_sums : Nat} {h_t_worthOf : Nat} {h_t_lies : Nat} {h_t_pairs : Nat} {h_t_hands : Nat} {h_t_paidOn : Nat} {h_t_lates : Nat} {h_t_fixed : Nat} {h_t_hand : Nat} {s_isKept : Int32} {s_taped : Int32} {s_at : Int32} {s_readMany : Int32} {s_readKind : Int32} {s_readCut : Int32} {s_bestSet : Int32} {s_lanes : Nat → Int32} {s_longs : Nat → Int32} {s_items : Nat → Int64} {s_w : Nat → Int32} {v1 : Int32} {v2 : Int32} {v4 : Int32} {v5 : Int32} {v6 : Int32} {res : Int32 × Int32 × Int32 × (Nat → Int32) × (Nat → Int32) × (Nat → Int32) × (Nat → Int32) × (Nat → Int32)} (C : CX p s m args meth c cX11_seen wsX11_seen RX11 11 D k A (some .int)) (hA : A = va_A w0 sz) {kx : Int32 × Int32 × Int32 × Int32 × Int32 × (Nat → Int32) × (Nat → Int32) × (Nat → Int32) × (Nat → Int32) × (Nat → Int32) → Option (Int32 × Int32 × Int32 × (Nat → Int32) × (Nat → Int32) × (Nat → Int32) × (Nat → Int32) × (Nat → Int32))} (hx : ∀ t : Int32 × Int32 × Int32 × Int32 × Int32 × (Nat → Int32) × (Nat → Int32) × (Nat → Int32) × (Nat → Int32) × (Nat → Int32), kx t = some res → GG p l e rm_X11_seen s m args below meth c (MQ below (cQi D w0 sz res.1 (W_X11_seen k h_t h_t_lanes h_t_longs h_t_items h_t_w h_t_row h_t_firsts h_t_sizes h_t_worths h_t_used h_t_tape h_t_readWorths h_t_dues h_t_sums h_t_worthOf h_t_lies h_t_pairs h_t_hands h_t_paidOn h_t_lates h_t_fixed h_t_hand s_isKept s_taped res.2.1 s_at s_readMany s_readKind s_readCut res.2.2.1 s_bestSet s_lanes s_longs s_items s_w res.2.2.2.1 res.2.2.2.2.1 res.2.2.2.2.2.1 res.2.2.2.2.2.2.1 res.2.2.2.2.2.2.2)) args s 0 0 A) D A 11 0 0 213 [(1, .int v1), (6, .int v6), (8, .int t.1), (9, .int t.2.1)] [] (W_X11_seen k h_t h_t_lanes h_t_longs h_t_items h_t_w h_t_row h_t_firsts h_t_sizes h_t_worths h_t_used h_t_tape h_t_readWorths h_t_dues h_t_sums h_t_worthOf h_t_lies h_t_pairs h_t_hands h_t_paidOn h_t_lates h_t_fixed h_t_hand s_isKept s_taped t.2.2.2.1 s_at s_readMany s_readKind s_readCut t.2.2.2.2.1 s_bestSet s_lanes s_longs s_items s_w t.2.2.2.2.2.1 t.2.2.2.2.2.2.1 t.2.2.2.2.2.2.2.1 t.2.2.2.2.2.2.2.2.1 t.2.2.2.2.2.2.2.2.2)) : ∀ (n : Nat) (t : Int32 × Int32 × Int32 × Int32 × Int32 × (Nat → Int32) × (Nat → Int32) × (Nat → Int32) × (Nat → Int32) × (Nat → Int32)), L_X11_seen_151 s_items s_w v1 v2 v4 v5 kx n t = some res → GG p l e rm_X11_seen s m args below meth c (MQ below (cQi D w0 sz res.1 (W_X11_seen k h_t h_t_lanes h_t_longs h_t_items h_t_w h_t_row h_t_firsts h_t_sizes h_t_worths h_t_used h_t_tape h_t_readWorths h_t_dues h_t_sums h_t_worthOf h_t_lies h_t_pairs h_t_hands h_t_paidOn h_t_lates h_t_fixed h_t_hand s_isKept s_taped res.2.1 s_at s_readMany s_readKind s_readCut res.2.2.1 s_bestSet s_lanes s_longs s_items s_w res.2.2.2.1 res.2.2.2.2.1 res.2.2.2.2.2.1 res.2.2.2.2.2.2.1 res.2.2.2.2.2.2.2)) args s 0 0 A) D A 11 0 0 151 [(0, .ref h_t), (1, .int v1), (2, .int v2), (4, .int v4), (5, .int v5), (6, .int v6), (8, .int t.1), (9, .int t.2.1), (10, .int t.2.2.1)] [] (W_X11_seen k h_t h_t_lanes h_t_longs h_t_items h_t_w h_t_row h_t_firsts h_t_sizes h_t_worths h_t_used h_t_tape h_t_readWorths h_t_dues h_t_sums h_t_worthOf h_t_lies h_t_pairs h_t_hands h_t_paidOn h_t_lates h_t_fixed h_t_hand s_isKept s_taped t.2.2.2.1 s_at s_readMany s_readKind s_readCut t.2.2.2.2.1 s_bestSet s_lanes s_longs s_items s_w t.2.2.2.2.2.1 t.2.2.2.2.2.2.1 t.2.2.2.2.2.2.2.1 t.2.2.2.2.2.2.2.2.1 t.2.2.2.2.2.2.2.2.2) := by
  intro n
  induction n with
  | zero => intro t h; cases h
  | succ n ih =>
    intro t h
    obtain ⟨v8, v9, v10, s_pieces, s_rowSet, s_row, s_firsts, s_sizes, s_worths, s_used⟩ := t
    replace h : LB_X11_seen_151 s_items s_w v1 v2 v4 v5 kx (L_X11_seen_151 s_items s_w v1 v2 v4 v5 kx n) v8 v9 v10 s_pieces s_rowSet s_row s_firsts s_sizes s_worths s_used = some res := h
    have hr := ih
    unfold LB_X11_seen_151 at h
    refine g_iload 151 C 8 dX11_seen_151 rfl ?_
    refine g_if_eq 153 213 C dX11_seen_153 (by decide) (fun c => ?_) (fun c => ?_)
    · replace h := it_e c h
      refine GG.sub (lv' := [(1, .int v1), (6, .int v6), (8, .int v8), (9, .int v9)]) [1, 5, 6, 7] rfl ?_
      exact hx (v8, v9, v10, s_pieces, s_rowSet, s_row, s_firsts, s_sizes, s_worths, s_used) h
    · replace h := if_e c h
      refine g_aload_n 156 C 0 dX11_seen_156 rfl rfl ?_
      refine g_aload_n 157 C 0 dX11_seen_157 rfl rfl ?_
      refine g_get 158 C in_X11_seen_X11 0 19 rfl rfl (by decide) fl_X11_seen_183 rfl rfl dX11_seen_158 ?_
      obtain ⟨q20, e21, h⟩ := bi_e h
      refine g_callVv 161 C (As := [.int s_rowSet]) [0, 4, 6, 7, 8] [1, 2, 3, 5, 9] [5, 0, 1, 2, 6, 3, 7, 8, 9, 4] (W_X11_seen k h_t h_t_lanes h_t_longs h_t_items h_t_w h_t_row h_t_firsts h_t_sizes h_t_worths h_t_used h_t_tape h_t_readWorths h_t_dues h_t_sums h_t_worthOf h_t_lies h_t_pairs h_t_hands h_t_paidOn h_t_lates h_t_fixed h_t_hand s_isKept s_taped q20.1 s_at s_readMany s_readKind s_readCut s_rowSet s_bestSet s_lanes s_longs s_items s_w s_row q20.2.1 q20.2.2.1 q20.2.2.2 s_used) 0 (fun sz => k_X11_lay h_t h_t_w h_t_firsts h_t_sizes h_t_worths h_t_tape h_t_readWorths h_t_dues h_t_sums h_t_worthOf h_t_lies h_t_pairs h_t_row h_t_hands h_t_paidOn h_t_lates h_t_fixed h_t_lanes h_t_longs h_t_items h_t_hand h_t_used s_isKept s_taped s_pieces s_at s_readMany s_readKind s_readCut s_rowSet s_bestSet s_w s_firsts s_sizes s_worths s_rowSet q20 e21 sz) gX11_seen_X11_lay rfl pd_X11_lay rfl rfl rfl ⟨rfl, rfl, Nat.le_of_ble_eq_true rfl, Nat.le_of_ble_eq_true rfl⟩ (Nat.le_of_ble_eq_true rfl) ⟨Nat.zero_le _, Nat.zero_le _⟩ ⟨rfl, rfl, rfl, rfl, rfl, by decide, rfl⟩ rfl dX11_seen_161 ?_
      refine g_aload_n 164 C 0 dX11_seen_164 rfl rfl ?_
      refine g_bipush 165 C (24 : Int32) dX11_seen_165 (by decide) ?_
      refine g_iload_n 167 C 2 dX11_seen_167 rfl rfl ?_
      refine g_imul 168 C dX11_seen_168 ?_
      refine g_iload 169 C 3 dX11_seen_169 rfl ?_
      refine g_iadd 171 C dX11_seen_171 ?_
      refine g_iload 172 C 4 dX11_seen_172 rfl ?_
      obtain ⟨q22, e23, h⟩ := bi_e h
      refine g_callVi 174 C (As := [.int (((24 : Int32) * v2) + v4), .int v5]) [0, 9, 8, 3] [1, 2, 4, 5, 6, 7] [6, 0, 1, 9, 2, 3, 4, 5, 8, 7] (W_X11_seen k h_t h_t_lanes h_t_longs h_t_items h_t_w h_t_row h_t_firsts h_t_sizes h_t_worths h_t_used h_t_tape h_t_readWorths h_t_dues h_t_sums h_t_worthOf h_t_lies h_t_pairs h_t_hands h_t_paidOn h_t_lates h_t_fixed h_t_hand s_isKept s_taped q20.1 s_at s_readMany s_readKind s_readCut s_rowSet s_bestSet s_lanes s_longs s_items s_w s_row q20.2.1 q20.2.2.1 q20.2.2.2 q22.2) 0 (fun sz => k_X11_holds h_t h_t_used h_t_worths h_t_items h_t_w h_t_tape h_t_firsts h_t_sizes h_t_readWorths h_t_dues h_t_sums h_t_worthOf h_t_lies h_t_pairs h_t_row h_t_hands h_t_paidOn h_t_lates h_t_fixed h_t_lanes h_t_longs h_t_hand s_isKept s_taped q20.1 s_at s_readMany s_readKind s_readCut s_rowSet s_bestSet s_used q20.2.2.2 s_items (((24 : Int32) * v2) + v4) v5 q22 e23 sz) gX11_seen_X11_holds rfl pd_X11_holds rfl rfl rfl ⟨rfl, rfl, Nat.le_of_ble_eq_true rfl, Nat.le_of_ble_eq_true rfl⟩ (Nat.le_of_ble_eq_true rfl) ⟨Nat.zero_le _, Nat.zero_le _⟩ ⟨rfl, rfl, rfl, rfl, rfl, by decide, rfl⟩ rfl dX11_seen_174 ?_
      refine g_if_eq 177 199 C dX11_seen_177 (by decide) (fun c => ?_) (fun c => ?_)
      · replace h := it_e c h
        refine GG.sub (lv' := [(0, .ref h_t), (1, .int v1), (2, .int v2), (4, .int v4), (5, .int v5), (6, .int v6), (8, .int v8), (9, .int v9)]) [0, 1, 2, 3, 4, 5, 6, 7] rfl ?_
        exact ok_B_X11_seen_199 C hA hx hr h
      · replace h := if_e c h
        refine g_iload 180 C 6 dX11_seen_180 rfl ?_
        refine g_if_ne 182 192 C dX11_seen_182 (by decide) (fun c => ?_) (fun c => ?_)
        · replace h := if_e c h
          refine g_iload 192 C 7 dX11_seen_192 rfl ?_
          refine GG.sub (lv' := [(0, .ref h_t), (1, .int v1), (2, .int v2), (4, .int v4), (5, .int v5), (6, .int v6), (8, .int v8)]) [0, 1, 2, 3, 4, 5, 6] rfl ?_
          exact ok_B_X11_seen_194 C hA hx hr h
        · replace h := it_e c h
          refine g_aload_n 185 C 0 dX11_seen_185 rfl rfl ?_
          refine g_get 186 C in_X11_seen_X11 0 19 rfl rfl (by decide) fl_X11_seen_183 rfl rfl dX11_seen_186 ?_
          refine g_goto 189 194 C dX11_seen_189 (by decide) ?_
          refine GG.sub (lv' := [(0, .ref h_t), (1, .int v1), (2, .int v2), (4, .int v4), (5, .int v5), (6, .int v6), (8, .int v8)]) [0, 1, 2, 3, 4, 5, 6] rfl ?_
          exact ok_B_X11_seen_194 C hA hx hr h
set_option maxHeartbeats 4000000 in
set_option maxRecDepth 100000 in
theorem ok_B_X11_seen_246 {h_t : Nat} {h_t_lanes : Nat} {h_t_longs : Nat} {h_t_items : Nat} {h_t_w : Nat} {h_t_row : Nat} {h_t_firsts : Nat} {h_t_sizes : Nat} {h_t_worths : Nat} {h_t_used : Nat} {h_t_tape : Nat} {h_t_readWorths : Nat} {h_t_dues : Nat} {h_t_sums : Nat} {h_t_worthOf : Nat} {h_t_lies : Nat} {h_t_pairs : Nat} {h_t_hands : Nat} {h_t_paidOn : Nat} {h_t_lates : Nat} {h_t_fixed : Nat} {h_t_hand : Nat} {s_isKept : Int32} {s_taped : Int32} {s_pieces : Int32} {s_at : Int32} {s_readMany : Int32} {s_readKind : Int32} {s_readCut : Int32} {s_rowSet : Int32} {s_bestSet : Int32} {s_lanes : Nat → Int32} {s_longs : Nat → Int32} {s_items : Nat → Int64} {s_w : Nat → Int32} {s_row : Nat → Int32} {s_firsts : Nat → Int32} {s_sizes : Nat → Int32} {s_worths : Nat → Int32} {s_used : Nat → Int32} {x0 : Int32} {res : Int32 × Int32 × Int32 × (Nat → Int32) × (Nat → Int32) × (Nat → Int32) × (Nat → Int32) × (Nat → Int32)} (C : CX p s m args meth c cX11_seen wsX11_seen RX11 11 D k A (some .int)) (hA : A = va_A w0 sz)  (h : B_X11_seen_246 s_pieces s_rowSet s_row s_firsts s_sizes s_worths s_used x0 = some res) : GG p l e rm_X11_seen s m args below meth c (MQ below (cQi D w0 sz res.1 (W_X11_seen k h_t h_t_lanes h_t_longs h_t_items h_t_w h_t_row h_t_firsts h_t_sizes h_t_worths h_t_used h_t_tape h_t_readWorths h_t_dues h_t_sums h_t_worthOf h_t_lies h_t_pairs h_t_hands h_t_paidOn h_t_lates h_t_fixed h_t_hand s_isKept s_taped res.2.1 s_at s_readMany s_readKind s_readCut res.2.2.1 s_bestSet s_lanes s_longs s_items s_w res.2.2.2.1 res.2.2.2.2.1 res.2.2.2.2.2.1 res.2.2.2.2.2.2.1 res.2.2.2.2.2.2.2)) args s 0 0 A) D A 11 0 0 246 [] [.int x0] (W_X11_seen k h_t h_t_lanes h_t_longs h_t_items h_t_w h_t_row h_t_firsts h_t_sizes h_t_worths h_t_used h_t_tape h_t_readWorths h_t_dues h_t_sums h_t_worthOf h_t_lies h_t_pairs h_t_hands h_t_paidOn h_t_lates h_t_fixed h_t_hand s_isKept s_taped s_pieces s_at s_readMany s_readKind s_readCut s_rowSet s_bestSet s_lanes s_longs s_items s_w s_row s_firsts s_sizes s_worths s_used) := by
  unfold B_X11_seen_246 at h
  obtain rfl := Option.some.inj h
  exact g_iret 246 C hA rfl dX11_seen_246 rfl
set_option maxHeartbeats 4000000 in
set_option maxRecDepth 100000 in
theorem ok_B_X11_seen_234 {h_t : Nat} {h_t_lanes : Nat} {h_t_longs : Nat} {h_t_items : Nat} {h_t_w : Nat} {h_t_row : Nat} {h_t_firsts : Nat} {h_t_sizes : Nat} {h_t_worths : Nat} {h_t_used : Nat} {h_t_tape : Nat} {h_t_readWorths : Nat} {h_t_dues : Nat} {h_t_sums : Nat} {h_t_worthOf : Nat} {h_t_lies : Nat} {h_t_pairs : Nat} {h_t_hands : Nat} {h_t_paidOn : Nat} {h_t_lates : Nat} {h_t_fixed : Nat} {h_t_hand : Nat} {s_isKept : Int32} {s_taped : Int32} {s_pieces : Int32} {s_at : Int32} {s_readMany : Int32} {s_readKind : Int32} {s_readCut : Int32} {s_rowSet : Int32} {s_bestSet : Int32} {s_lanes : Nat → Int32} {s_longs : Nat → Int32} {s_items : Nat → Int64} {s_w : Nat → Int32} {s_row : Nat → Int32} {s_firsts : Nat → Int32} {s_sizes : Nat → Int32} {s_worths : Nat → Int32} {s_used : Nat → Int32} {res : Int32 × Int32 × Int32 × (Nat → Int32) × (Nat → Int32) × (Nat → Int32) × (Nat → Int32) × (Nat → Int32)} (C : CX p s m args meth c cX11_seen wsX11_seen RX11 11 D k A (some .int)) (hA : A = va_A w0 sz)  (h : B_X11_seen_234 s_pieces s_rowSet s_row s_firsts s_sizes s_worths s_used = some res) : GG p l e rm_X11_seen s m args below meth c (MQ below (cQi D w0 sz res.1 (W_X11_seen k h_t h_t_lanes h_t_longs h_t_items h_t_w h_t_row h_t_firsts h_t_sizes h_t_worths h_t_used h_t_tape h_t_readWorths h_t_dues h_t_sums h_t_worthOf h_t_lies h_t_pairs h_t_hands h_t_paidOn h_t_lates h_t_fixed h_t_hand s_isKept s_taped res.2.1 s_at s_readMany s_readKind s_readCut res.2.2.1 s_bestSet s_lanes s_longs s_items s_w res.2.2.2.1 res.2.2.2.2.1 res.2.2.2.2.2.1 res.2.2.2.2.2.2.1 res.2.2.2.2.2.2.2)) args s 0 0 A) D A 11 0 0 234 [] [] (W_X11_seen k h_t h_t_lanes h_t_longs h_t_items h_t_w h_t_row h_t_firsts h_t_sizes h_t_worths h_t_used h_t_tape h_t_readWorths h_t_dues h_t_sums h_t_worthOf h_t_lies h_t_pairs h_t_hands h_t_paidOn h_t_lates h_t_fixed h_t_hand s_isKept s_taped s_pieces s_at s_readMany s_readKind s_readCut s_rowSet s_bestSet s_lanes s_longs s_items s_w s_row s_firsts s_sizes s_worths s_used) := by
  unfold B_X11_seen_234 at h
  refine g_bipush 234 C (-4 : Int32) dX11_seen_234 (by decide) ?_
  refine g_goto 236 246 C dX11_seen_236 (by decide) ?_
  refine GG.sub (lv' := []) [] rfl ?_
  exact ok_B_X11_seen_246 C hA h
set_option maxHeartbeats 4000000 in
set_option maxRecDepth 100000 in
theorem ok_B_X11_seen_213 {h_t : Nat} {h_t_lanes : Nat} {h_t_longs : Nat} {h_t_items : Nat} {h_t_w : Nat} {h_t_row : Nat} {h_t_firsts : Nat} {h_t_sizes : Nat} {h_t_worths : Nat} {h_t_used : Nat} {h_t_tape : Nat} {h_t_readWorths : Nat} {h_t_dues : Nat} {h_t_sums : Nat} {h_t_worthOf : Nat} {h_t_lies : Nat} {h_t_pairs : Nat} {h_t_hands : Nat} {h_t_paidOn : Nat} {h_t_lates : Nat} {h_t_fixed : Nat} {h_t_hand : Nat} {s_isKept : Int32} {s_taped : Int32} {s_pieces : Int32} {s_at : Int32} {s_readMany : Int32} {s_readKind : Int32} {s_readCut : Int32} {s_rowSet : Int32} {s_bestSet : Int32} {s_lanes : Nat → Int32} {s_longs : Nat → Int32} {s_items : Nat → Int64} {s_w : Nat → Int32} {s_row : Nat → Int32} {s_firsts : Nat → Int32} {s_sizes : Nat → Int32} {s_worths : Nat → Int32} {s_used : Nat → Int32} {v1 : Int32} {v6 : Int32} {v8 : Int32} {v9 : Int32} {res : Int32 × Int32 × Int32 × (Nat → Int32) × (Nat → Int32) × (Nat → Int32) × (Nat → Int32) × (Nat → Int32)} (C : CX p s m args meth c cX11_seen wsX11_seen RX11 11 D k A (some .int)) (hA : A = va_A w0 sz)  (h : B_X11_seen_213 s_pieces s_rowSet s_row s_firsts s_sizes s_worths s_used v1 v6 v8 v9 = some res) : GG p l e rm_X11_seen s m args below meth c (MQ below (cQi D w0 sz res.1 (W_X11_seen k h_t h_t_lanes h_t_longs h_t_items h_t_w h_t_row h_t_firsts h_t_sizes h_t_worths h_t_used h_t_tape h_t_readWorths h_t_dues h_t_sums h_t_worthOf h_t_lies h_t_pairs h_t_hands h_t_paidOn h_t_lates h_t_fixed h_t_hand s_isKept s_taped res.2.1 s_at s_readMany s_readKind s_readCut res.2.2.1 s_bestSet s_lanes s_longs s_items s_w res.2.2.2.1 res.2.2.2.2.1 res.2.2.2.2.2.1 res.2.2.2.2.2.2.1 res.2.2.2.2.2.2.2)) args s 0 0 A) D A 11 0 0 213 [(1, .int v1), (6, .int v6), (8, .int v8), (9, .int v9)] [] (W_X11_seen k h_t h_t_lanes h_t_longs h_t_items h_t_w h_t_row h_t_firsts h_t_sizes h_t_worths h_t_used h_t_tape h_t_readWorths h_t_dues h_t_sums h_t_worthOf h_t_lies h_t_pairs h_t_hands h_t_paidOn h_t_lates h_t_fixed h_t_hand s_isKept s_taped s_pieces s_at s_readMany s_readKind s_readCut s_rowSet s_bestSet s_lanes s_longs s_items s_w s_row s_firsts s_sizes s_worths s_used) := by
  unfold B_X11_seen_213 at h
  refine g_iload 213 C 1 dX11_seen_213 rfl ?_
  refine g_if_ge 215 223 C dX11_seen_215 (by decide) (fun c => ?_) (fun c => ?_)
  · replace h := it_e c h
    refine g_iload 223 C 2 dX11_seen_223 rfl ?_
    refine g_if_eq 225 234 C dX11_seen_225 (by decide) (fun c => ?_) (fun c => ?_)
    · replace h := it_e c h
      refine GG.sub (lv' := []) [] rfl ?_
      exact ok_B_X11_seen_234 C hA h
    · replace h := if_e c h
      refine g_iload 228 C 1 dX11_seen_228 rfl ?_
      refine g_iload_n 230 C 0 dX11_seen_230 rfl rfl ?_
      refine g_icmp_lt 231 239 C dX11_seen_231 (by decide) (fun c => ?_) (fun c => ?_)
      · replace h := it_e c h
        refine g_iload 239 C 3 dX11_seen_239 rfl ?_
        refine g_iload 241 C 1 dX11_seen_241 rfl ?_
        obtain ⟨q28, e29, h⟩ := bi_e h
        refine g_callSi 243 C (As := [.int v9, .int v6]) [] [0, 1, 2, 3, 4, 5, 6, 7, 8, 9] [0, 1, 2, 3, 4, 5, 6, 7, 8, 9] (W_X11_seen k h_t h_t_lanes h_t_longs h_t_items h_t_w h_t_row h_t_firsts h_t_sizes h_t_worths h_t_used h_t_tape h_t_readWorths h_t_dues h_t_sums h_t_worthOf h_t_lies h_t_pairs h_t_hands h_t_paidOn h_t_lates h_t_fixed h_t_hand s_isKept s_taped s_pieces s_at s_readMany s_readKind s_readCut s_rowSet s_bestSet s_lanes s_longs s_items s_w s_row s_firsts s_sizes s_worths s_used) (fun sz => k_X11_atOf v9 v6 q28 e29 sz) gX11_seen_X11_atOf rfl pd_X11_atOf rfl ⟨rfl, rfl, Nat.le_of_ble_eq_true rfl, Nat.le_of_ble_eq_true rfl⟩ (Nat.le_of_ble_eq_true rfl) ⟨Nat.zero_le _, Nat.zero_le _⟩ ⟨rfl, rfl, rfl, rfl, rfl, by decide, rfl⟩ rfl dX11_seen_243 ?_
        refine GG.sub (lv' := []) [] rfl ?_
        exact ok_B_X11_seen_246 C hA h
      · replace h := if_e c h
        refine GG.sub (lv' := []) [] rfl ?_
        exact ok_B_X11_seen_234 C hA h
  · replace h := if_e c h
    refine g_iload 218 C 2 dX11_seen_218 rfl ?_
    refine g_goto 220 246 C dX11_seen_220 (by decide) ?_
    refine GG.sub (lv' := []) [] rfl ?_
    exact ok_B_X11_seen_246 C hA h
set_option maxHeartbeats 4000000 in
set_option maxRecDepth 100000 in
theorem ok_B_X11_seen_144 {h_t : Nat} {h_t_lanes : Nat} {h_t_longs : Nat} {h_t_items : Nat} {h_t_w : Nat} {h_t_row : Nat} {h_t_firsts : Nat} {h_t_sizes : Nat} {h_t_worths : Nat} {h_t_used : Nat} {h_t_tape : Nat} {h_t_readWorths : Nat} {h_t_dues : Nat} {h_t_sums : Nat} {h_t_worthOf : Nat} {h_t_lies : Nat} {h_t_pairs : Nat} {h_t_hands : Nat} {h_t_paidOn : Nat} {h_t_lates : Nat} {h_t_fixed : Nat} {h_t_hand : Nat} {s_isKept : Int32} {s_taped : Int32} {s_pieces : Int32} {s_at : Int32} {s_readMany : Int32} {s_readKind : Int32} {s_readCut : Int32} {s_rowSet : Int32} {s_bestSet : Int32} {s_lanes : Nat → Int32} {s_longs : Nat → Int32} {s_items : Nat → Int64} {s_w : Nat → Int32} {s_row : Nat → Int32} {s_firsts : Nat → Int32} {s_sizes : Nat → Int32} {s_worths : Nat → Int32} {s_used : Nat → Int32} {v1 : Int32} {v2 : Int32} {v4 : Int32} {v5 : Int32} {v6 : Int32} {v8 : Int32} {v9 : Int32} {x0 : Int32} {res : Int32 × Int32 × Int32 × (Nat → Int32) × (Nat → Int32) × (Nat → Int32) × (Nat → Int32) × (Nat → Int32)} (C : CX p s m args meth c cX11_seen wsX11_seen RX11 11 D k A (some .int)) (hA : A = va_A w0 sz)  (h : B_X11_seen_144 s_pieces s_items s_w s_row s_firsts s_sizes s_worths s_used v1 v2 v4 v5 v6 v8 v9 x0 = some res) : GG p l e rm_X11_seen s m args below meth c (MQ below (cQi D w0 sz res.1 (W_X11_seen k h_t h_t_lanes h_t_longs h_t_items h_t_w h_t_row h_t_firsts h_t_sizes h_t_worths h_t_used h_t_tape h_t_readWorths h_t_dues h_t_sums h_t_worthOf h_t_lies h_t_pairs h_t_hands h_t_paidOn h_t_lates h_t_fixed h_t_hand s_isKept s_taped res.2.1 s_at s_readMany s_readKind s_readCut res.2.2.1 s_bestSet s_lanes s_longs s_items s_w res.2.2.2.1 res.2.2.2.2.1 res.2.2.2.2.2.1 res.2.2.2.2.2.2.1 res.2.2.2.2.2.2.2)) args s 0 0 A) D A 11 0 0 144 [(0, .ref h_t), (1, .int v1), (2, .int v2), (4, .int v4), (5, .int v5), (6, .int v6), (8, .int v8), (9, .int v9)] [.int x0] (W_X11_seen k h_t h_t_lanes h_t_longs h_t_items h_t_w h_t_row h_t_firsts h_t_sizes h_t_worths h_t_used h_t_tape h_t_readWorths h_t_dues h_t_sums h_t_worthOf h_t_lies h_t_pairs h_t_hands h_t_paidOn h_t_lates h_t_fixed h_t_hand s_isKept s_taped s_pieces s_at s_readMany s_readKind s_readCut s_rowSet s_bestSet s_lanes s_longs s_items s_w s_row s_firsts s_sizes s_worths s_used) := by
  unfold B_X11_seen_144 at h
  refine g_istore 144 C [(10, .int x0), (0, .ref h_t), (1, .int v1), (2, .int v2), (4, .int v4), (5, .int v5), (6, .int v6), (8, .int v8), (9, .int v9)] dX11_seen_144 (by decide) rfl ?_
  refine g_aload_n 146 C 1 dX11_seen_146 rfl rfl ?_
  refine g_iload_n 147 C 2 dX11_seen_147 rfl rfl ?_
  obtain ⟨q18, e19, h⟩ := bi_e h
  refine g_callVv 148 C (As := [.int v1]) [0, 5] [1, 2, 3, 4, 6, 7, 8, 9] [8, 0, 1, 2, 3, 9, 4, 5, 6, 7] (W_X11_seen k h_t h_t_lanes h_t_longs h_t_items h_t_w h_t_row h_t_firsts h_t_sizes h_t_worths h_t_used h_t_tape h_t_readWorths h_t_dues h_t_sums h_t_worthOf h_t_lies h_t_pairs h_t_hands h_t_paidOn h_t_lates h_t_fixed h_t_hand s_isKept s_taped s_pieces s_at s_readMany s_readKind s_readCut q18.1 s_bestSet s_lanes s_longs s_items s_w q18.2 s_firsts s_sizes s_worths s_used) 0 (fun sz => k_X11_begin h_t h_t_row h_t_w h_t_tape h_t_firsts h_t_sizes h_t_worths h_t_readWorths h_t_dues h_t_sums h_t_worthOf h_t_lies h_t_pairs h_t_hands h_t_paidOn h_t_lates h_t_fixed h_t_lanes h_t_longs h_t_items h_t_hand h_t_used s_isKept s_taped s_pieces s_at s_readMany s_readKind s_readCut s_rowSet s_bestSet s_row v1 q18 e19 sz) gX11_seen_X11_begin rfl pd_X11_begin rfl rfl rfl ⟨rfl, rfl, Nat.le_of_ble_eq_true rfl, Nat.le_of_ble_eq_true rfl⟩ (Nat.le_of_ble_eq_true rfl) ⟨Nat.zero_le _, Nat.zero_le _⟩ ⟨rfl, rfl, rfl, rfl, rfl, by decide, rfl⟩ rfl dX11_seen_148 ?_
  refine GG.sub (lv' := [(0, .ref h_t), (1, .int v1), (2, .int v2), (4, .int v4), (5, .int v5), (6, .int v6), (8, .int v8), (9, .int v9), (10, .int x0)]) [1, 2, 3, 4, 5, 6, 7, 8, 0] rfl ?_
  exact ok_L_X11_seen_151 C hA (fun t h => by
    refine GG.sub (lv' := [(1, .int v1), (6, .int v6), (8, .int t.1), (9, .int t.2.1)]) [0, 1, 2, 3] rfl ?_
    exact ok_B_X11_seen_213 C hA h) FUEL (v8, v9, x0, s_pieces, q18.1, q18.2, s_firsts, s_sizes, s_worths, s_used) h
set_option maxHeartbeats 4000000 in
set_option maxRecDepth 100000 in
theorem ok_B_X11_seen_125 {h_t : Nat} {h_t_lanes : Nat} {h_t_longs : Nat} {h_t_items : Nat} {h_t_w : Nat} {h_t_row : Nat} {h_t_firsts : Nat} {h_t_sizes : Nat} {h_t_worths : Nat} {h_t_used : Nat} {h_t_tape : Nat} {h_t_readWorths : Nat} {h_t_dues : Nat} {h_t_sums : Nat} {h_t_worthOf : Nat} {h_t_lies : Nat} {h_t_pairs : Nat} {h_t_hands : Nat} {h_t_paidOn : Nat} {h_t_lates : Nat} {h_t_fixed : Nat} {h_t_hand : Nat} {s_isKept : Int32} {s_taped : Int32} {s_pieces : Int32} {s_at : Int32} {s_readMany : Int32} {s_readKind : Int32} {s_readCut : Int32} {s_rowSet : Int32} {s_bestSet : Int32} {s_lanes : Nat → Int32} {s_longs : Nat → Int32} {s_items : Nat → Int64} {s_w : Nat → Int32} {s_row : Nat → Int32} {s_firsts : Nat → Int32} {s_sizes : Nat → Int32} {s_worths : Nat → Int32} {s_used : Nat → Int32} {v1 : Int32} {v2 : Int32} {v4 : Int32} {v5 : Int32} {v6 : Int32} {res : Int32 × Int32 × Int32 × (Nat → Int32) × (Nat → Int32) × (Nat → Int32) × (Nat → Int32) × (Nat → Int32)} (C : CX p s m args meth c cX11_seen wsX11_seen RX11 11 D k A (some .int)) (hA : A = va_A w0 sz)  (h : B_X11_seen_125 s_pieces s_items s_w s_row s_firsts s_sizes s_worths s_used v1 v2 v4 v5 v6 = some res) : GG p l e rm_X11_seen s m args below meth c (MQ below (cQi D w0 sz res.1 (W_X11_seen k h_t h_t_lanes h_t_longs h_t_items h_t_w h_t_row h_t_firsts h_t_sizes h_t_worths h_t_used h_t_tape h_t_readWorths h_t_dues h_t_sums h_t_worthOf h_t_lies h_t_pairs h_t_hands h_t_paidOn h_t_lates h_t_fixed h_t_hand s_isKept s_taped res.2.1 s_at s_readMany s_readKind s_readCut res.2.2.1 s_bestSet s_lanes s_longs s_items s_w res.2.2.2.1 res.2.2.2.2.1 res.2.2.2.2.2.1 res.2.2.2.2.2.2.1 res.2.2.2.2.2.2.2)) args s 0 0 A) D A 11 0 0 125 [(0, .ref h_t), (1, .int v1), (2, .int v2), (4, .int v4), (5, .int v5), (6, .int v6)] [] (W_X11_seen k h_t h_t_lanes h_t_longs h_t_items h_t_w h_t_row h_t_firsts h_t_sizes h_t_worths h_t_used h_t_tape h_t_readWorths h_t_dues h_t_sums h_t_worthOf h_t_lies h_t_pairs h_t_hands h_t_paidOn h_t_lates h_t_fixed h_t_hand s_isKept s_taped s_pieces s_at s_readMany s_readKind s_readCut s_rowSet s_bestSet s_lanes s_longs s_items s_w s_row s_firsts s_sizes s_worths s_used) := by
  unfold B_X11_seen_125 at h
  refine g_iconst 125 C (0 : Int32) dX11_seen_125 (by decide) ?_
  refine g_istore 126 C [(8, .int (0 : Int32)), (0, .ref h_t), (1, .int v1), (2, .int v2), (4, .int v4), (5, .int v5), (6, .int v6)] dX11_seen_126 (by decide) rfl ?_
  refine g_iconst 128 C (0 : Int32) dX11_seen_128 (by decide) ?_
  refine g_istore 129 C [(9, .int (0 : Int32)), (8, .int (0 : Int32)), (0, .ref h_t), (1, .int v1), (2, .int v2), (4, .int v4), (5, .int v5), (6, .int v6)] dX11_seen_129 (by decide) rfl ?_
  refine g_aload_n 131 C 2 dX11_seen_131 rfl rfl ?_
  obtain ⟨q16, e17, h⟩ := bi_e h
  refine g_callVi 132 C (As := []) [0, 4] [1, 2, 3, 5, 6, 7, 8, 9] [8, 0, 1, 2, 9, 3, 4, 5, 6, 7] (W_X11_seen k h_t h_t_lanes h_t_longs h_t_items h_t_w h_t_row h_t_firsts h_t_sizes h_t_worths h_t_used h_t_tape h_t_readWorths h_t_dues h_t_sums h_t_worthOf h_t_lies h_t_pairs h_t_hands h_t_paidOn h_t_lates h_t_fixed h_t_hand s_isKept s_taped s_pieces s_at s_readMany s_readKind s_readCut s_rowSet s_bestSet s_lanes s_longs s_items s_w s_row s_firsts s_sizes s_worths s_used) 0 (fun sz => k_X11_notches h_t h_t_w h_t_tape h_t_firsts h_t_sizes h_t_worths h_t_readWorths h_t_dues h_t_sums h_t_worthOf h_t_lies h_t_pairs h_t_row h_t_hands h_t_paidOn h_t_lates h_t_fixed h_t_lanes h_t_longs h_t_items h_t_hand h_t_used s_isKept s_taped s_pieces s_at s_readMany s_readKind s_readCut s_rowSet s_bestSet s_w q16 e17 sz) gX11_seen_X11_notches rfl pd_X11_notches rfl rfl rfl ⟨rfl, rfl, Nat.le_of_ble_eq_true rfl, Nat.le_of_ble_eq_true rfl⟩ (Nat.le_of_ble_eq_true rfl) ⟨Nat.zero_le _, Nat.zero_le _⟩ ⟨rfl, rfl, rfl, rfl, rfl, by decide, rfl⟩ rfl dX11_seen_132 ?_
  refine g_iload_n 135 C 3 dX11_seen_135 rfl rfl ?_
  refine g_icmp_lt 136 143 C dX11_seen_136 (by decide) (fun c => ?_) (fun c => ?_)
  · replace h := it_e c h
    refine g_iconst 143 C (0 : Int32) dX11_seen_143 (by decide) ?_
    refine GG.sub (lv' := [(0, .ref h_t), (1, .int v1), (2, .int v2), (4, .int v4), (5, .int v5), (6, .int v6), (8, .int (0 : Int32)), (9, .int (0 : Int32))]) [2, 3, 4, 5, 6, 7, 1, 0] rfl ?_
    exact ok_B_X11_seen_144 C hA h
  · replace h := if_e c h
    refine g_iconst 139 C (1 : Int32) dX11_seen_139 (by decide) ?_
    refine g_goto 140 144 C dX11_seen_140 (by decide) ?_
    refine GG.sub (lv' := [(0, .ref h_t), (1, .int v1), (2, .int v2), (4, .int v4), (5, .int v5), (6, .int v6), (8, .int (0 : Int32)), (9, .int (0 : Int32))]) [2, 3, 4, 5, 6, 7, 1, 0] rfl ?_
    exact ok_B_X11_seen_144 C hA h
set_option maxHeartbeats 4000000 in
set_option maxRecDepth 100000 in
theorem k_X11_seen {l : Launch} {D : va_G} {k : Nat → ClassId} (h_t : Nat) (h_t_lanes : Nat) (h_t_longs : Nat) (h_t_items : Nat) (h_t_w : Nat) (h_t_row : Nat) (h_t_firsts : Nat) (h_t_sizes : Nat) (h_t_worths : Nat) (h_t_used : Nat) (h_t_tape : Nat) (h_t_readWorths : Nat) (h_t_dues : Nat) (h_t_sums : Nat) (h_t_worthOf : Nat) (h_t_lies : Nat) (h_t_pairs : Nat) (h_t_hands : Nat) (h_t_paidOn : Nat) (h_t_lates : Nat) (h_t_fixed : Nat) (h_t_hand : Nat) (s_isKept : Int32) (s_taped : Int32) (s_pieces : Int32) (s_at : Int32) (s_readMany : Int32) (s_readKind : Int32) (s_readCut : Int32) (s_rowSet : Int32) (s_bestSet : Int32) (s_lanes : Nat → Int32) (s_longs : Nat → Int32) (s_items : Nat → Int64) (s_w : Nat → Int32) (s_row : Nat → Int32) (s_firsts : Nat → Int32) (s_sizes : Nat → Int32) (s_worths : Nat → Int32) (s_used : Nat → Int32) (v1 : Int32) (v2 : Int32) (v3 : Int32) (v4 : Int32) (v5 : Int32) (v6 : Int32) (res : Int32 × Int32 × Int32 × (Nat → Int32) × (Nat → Int32) × (Nat → Int32) × (Nat → Int32) × (Nat → Int32)) (h : f_X11_seen s_pieces s_rowSet s_lanes s_longs s_items s_w s_row s_firsts s_sizes s_worths s_used v1 v2 v3 v4 v5 v6 = some res) (sz : Nat) : Met l yX11_seen wsX11_seen rm_X11_seen (cPre D k [.ref h_t, .int v1, .int v2, .int v3, .int v4, .int v5, .int v6] (W_X11_seen k h_t h_t_lanes h_t_longs h_t_items h_t_w h_t_row h_t_firsts h_t_sizes h_t_worths h_t_used h_t_tape h_t_readWorths h_t_dues h_t_sums h_t_worthOf h_t_lies h_t_pairs h_t_hands h_t_paidOn h_t_lates h_t_fixed h_t_hand s_isKept s_taped s_pieces s_at s_readMany s_readKind s_readCut s_rowSet s_bestSet s_lanes s_longs s_items s_w s_row s_firsts s_sizes s_worths s_used) sz) (cQi D (W_X11_seen k h_t h_t_lanes h_t_longs h_t_items h_t_w h_t_row h_t_firsts h_t_sizes h_t_worths h_t_used h_t_tape h_t_readWorths h_t_dues h_t_sums h_t_worthOf h_t_lies h_t_pairs h_t_hands h_t_paidOn h_t_lates h_t_fixed h_t_hand s_isKept s_taped s_pieces s_at s_readMany s_readKind s_readCut s_rowSet s_bestSet s_lanes s_longs s_items s_w s_row s_firsts s_sizes s_worths s_used) sz res.1 (W_X11_seen k h_t h_t_lanes h_t_longs h_t_items h_t_w h_t_row h_t_firsts h_t_sizes h_t_worths h_t_used h_t_tape h_t_readWorths h_t_dues h_t_sums h_t_worthOf h_t_lies h_t_pairs h_t_hands h_t_paidOn h_t_lates h_t_fixed h_t_hand s_isKept s_taped res.2.1 s_at s_readMany s_readKind s_readCut res.2.2.1 s_bestSet s_lanes s_longs s_items s_w res.2.2.2.1 res.2.2.2.2.1 res.2.2.2.2.2.1 res.2.2.2.2.2.2.1 res.2.2.2.2.2.2.2)) 0 0 (va_A (W_X11_seen k h_t h_t_lanes h_t_longs h_t_items h_t_w h_t_row h_t_firsts h_t_sizes h_t_worths h_t_used h_t_tape h_t_readWorths h_t_dues h_t_sums h_t_worthOf h_t_lies h_t_pairs h_t_hands h_t_paidOn h_t_lates h_t_fixed h_t_hand s_isKept s_taped s_pieces s_at s_readMany s_readKind s_readCut s_rowSet s_bestSet s_lanes s_longs s_items s_w s_row s_firsts s_sizes s_worths s_used) sz) := by
  refine met_of [(0, .ref h_t), (1, .int v1), (2, .int v2), (3, .int v3), (4, .int v4), (5, .int v5), (6, .int v6)] (by decide) rfl rfl (Nat.le_of_ble_eq_true rfl) rfl ?_
  intro p e s m args below meth c A hA hsz C
  unfold f_X11_seen at h
  refine g_iload_n 0 C 1 dX11_seen_0 rfl rfl ?_
  refine g_i2l 1 C dX11_seen_1 ?_
  refine g_lconst 2 C (0 : Int64) dX11_seen_2 (by decide) ?_
  refine g_ldc2 3 C (3 : Int64) dX11_seen_3 ct_X11_seen_100 ?_
  obtain ⟨q1, e2, h⟩ := bi_e h
  refine g_callSi 6 C (As := [.long v1.toInt64, .long (0 : Int64), .long (3 : Int64)]) [] [0, 1, 2, 3, 4, 5, 6, 7, 8, 9] [0, 1, 2, 3, 4, 5, 6, 7, 8, 9] (W_X11_seen k h_t h_t_lanes h_t_longs h_t_items h_t_w h_t_row h_t_firsts h_t_sizes h_t_worths h_t_used h_t_tape h_t_readWorths h_t_dues h_t_sums h_t_worthOf h_t_lies h_t_pairs h_t_hands h_t_paidOn h_t_lates h_t_fixed h_t_hand s_isKept s_taped s_pieces s_at s_readMany s_readKind s_readCut s_rowSet s_bestSet s_lanes s_longs s_items s_w s_row s_firsts s_sizes s_worths s_used) (fun sz => k_X11_in v1.toInt64 (0 : Int64) (3 : Int64) q1 e2 sz) gX11_seen_X11_in rfl pd_X11_in rfl ⟨rfl, rfl, Nat.le_of_ble_eq_true rfl, Nat.le_of_ble_eq_true rfl⟩ (Nat.le_of_ble_eq_true rfl) ⟨Nat.zero_le _, Nat.zero_le _⟩ ⟨rfl, rfl, rfl, rfl, rfl, by decide, rfl⟩ rfl dX11_seen_6 ?_
  refine g_if_eq 9 59 C dX11_seen_9 (by decide) (fun c => ?_) (fun c => ?_)
  · replace h := it_e c h
    refine GG.sub (lv' := []) [] rfl ?_
    exact ok_B_X11_seen_59 C hA h
  · replace h := if_e c h
    refine g_iload_n 12 C 2 dX11_seen_12 rfl rfl ?_
    obtain ⟨q3, e4, h⟩ := bi_e h
    refine g_callSi 13 C (As := [.int v2]) [] [0, 1, 2, 3, 4, 5, 6, 7, 8, 9] [0, 1, 2, 3, 4, 5, 6, 7, 8, 9] (W_X11_seen k h_t h_t_lanes h_t_longs h_t_items h_t_w h_t_row h_t_firsts h_t_sizes h_t_worths h_t_used h_t_tape h_t_readWorths h_t_dues h_t_sums h_t_worthOf h_t_lies h_t_pairs h_t_hands h_t_paidOn h_t_lates h_t_fixed h_t_hand s_isKept s_taped s_pieces s_at s_readMany s_readKind s_readCut s_rowSet s_bestSet s_lanes s_longs s_items s_w s_row s_firsts s_sizes s_worths s_used) (fun sz => k_X11_isSheet v2 q3 e4 sz) gX11_seen_X11_isSheet rfl pd_X11_isSheet rfl ⟨rfl, rfl, Nat.le_of_ble_eq_true rfl, Nat.le_of_ble_eq_true rfl⟩ (Nat.le_of_ble_eq_true rfl) ⟨Nat.zero_le _, Nat.zero_le _⟩ ⟨rfl, rfl, rfl, rfl, rfl, by decide, rfl⟩ rfl dX11_seen_13 ?_
    refine g_if_eq 16 59 C dX11_seen_16 (by decide) (fun c => ?_) (fun c => ?_)
    · replace h := it_e c h
      refine GG.sub (lv' := []) [] rfl ?_
      exact ok_B_X11_seen_59 C hA h
    · replace h := if_e c h
      refine g_iload_n 19 C 3 dX11_seen_19 rfl rfl ?_
      refine g_i2l 20 C dX11_seen_20 ?_
      refine g_lconst 21 C (0 : Int64) dX11_seen_21 (by decide) ?_
      refine g_ldc2 22 C (2 : Int64) dX11_seen_22 ct_X11_seen_156 ?_
      obtain ⟨q5, e6, h⟩ := bi_e h
      refine g_callSi 25 C (As := [.long v3.toInt64, .long (0 : Int64), .long (2 : Int64)]) [] [0, 1, 2, 3, 4, 5, 6, 7, 8, 9] [0, 1, 2, 3, 4, 5, 6, 7, 8, 9] (W_X11_seen k h_t h_t_lanes h_t_longs h_t_items h_t_w h_t_row h_t_firsts h_t_sizes h_t_worths h_t_used h_t_tape h_t_readWorths h_t_dues h_t_sums h_t_worthOf h_t_lies h_t_pairs h_t_hands h_t_paidOn h_t_lates h_t_fixed h_t_hand s_isKept s_taped s_pieces s_at s_readMany s_readKind s_readCut s_rowSet s_bestSet s_lanes s_longs s_items s_w s_row s_firsts s_sizes s_worths s_used) (fun sz => k_X11_in v3.toInt64 (0 : Int64) (2 : Int64) q5 e6 sz) gX11_seen_X11_in rfl pd_X11_in rfl ⟨rfl, rfl, Nat.le_of_ble_eq_true rfl, Nat.le_of_ble_eq_true rfl⟩ (Nat.le_of_ble_eq_true rfl) ⟨Nat.zero_le _, Nat.zero_le _⟩ ⟨rfl, rfl, rfl, rfl, rfl, by decide, rfl⟩ rfl dX11_seen_25 ?_
      refine g_if_eq 28 59 C dX11_seen_28 (by decide) (fun c => ?_) (fun c => ?_)
      · replace h := it_e c h
        refine GG.sub (lv' := []) [] rfl ?_
        exact ok_B_X11_seen_59 C hA h
      · replace h := if_e c h
        refine g_iload 31 C 5 dX11_seen_31 rfl ?_
        refine g_i2l 33 C dX11_seen_33 ?_
        refine g_lconst 34 C (1 : Int64) dX11_seen_34 (by decide) ?_
        refine g_ldc2 35 C (8 : Int64) dX11_seen_35 ct_X11_seen_112 ?_
        obtain ⟨q7, e8, h⟩ := bi_e h
        refine g_callSi 38 C (As := [.long v5.toInt64, .long (1 : Int64), .long (8 : Int64)]) [] [0, 1, 2, 3, 4, 5, 6, 7, 8, 9] [0, 1, 2, 3, 4, 5, 6, 7, 8, 9] (W_X11_seen k h_t h_t_lanes h_t_longs h_t_items h_t_w h_t_row h_t_firsts h_t_sizes h_t_worths h_t_used h_t_tape h_t_readWorths h_t_dues h_t_sums h_t_worthOf h_t_lies h_t_pairs h_t_hands h_t_paidOn h_t_lates h_t_fixed h_t_hand s_isKept s_taped s_pieces s_at s_readMany s_readKind s_readCut s_rowSet s_bestSet s_lanes s_longs s_items s_w s_row s_firsts s_sizes s_worths s_used) (fun sz => k_X11_in v5.toInt64 (1 : Int64) (8 : Int64) q7 e8 sz) gX11_seen_X11_in rfl pd_X11_in rfl ⟨rfl, rfl, Nat.le_of_ble_eq_true rfl, Nat.le_of_ble_eq_true rfl⟩ (Nat.le_of_ble_eq_true rfl) ⟨Nat.zero_le _, Nat.zero_le _⟩ ⟨rfl, rfl, rfl, rfl, rfl, by decide, rfl⟩ rfl dX11_seen_38 ?_
        refine g_if_eq 41 59 C dX11_seen_41 (by decide) (fun c => ?_) (fun c => ?_)
        · replace h := it_e c h
          refine GG.sub (lv' := []) [] rfl ?_
          exact ok_B_X11_seen_59 C hA h
        · replace h := if_e c h
          refine g_iload 44 C 6 dX11_seen_44 rfl ?_
          refine g_i2l 46 C dX11_seen_46 ?_
          refine g_ldc2 47 C (-1 : Int64) dX11_seen_47 ct_X11_seen_197 ?_
          refine g_ldc2 50 C (2 : Int64) dX11_seen_50 ct_X11_seen_156 ?_
          obtain ⟨q9, e10, h⟩ := bi_e h
          refine g_callSi 53 C (As := [.long v6.toInt64, .long (-1 : Int64), .long (2 : Int64)]) [] [0, 1, 2, 3, 4, 5, 6, 7, 8, 9] [0, 1, 2, 3, 4, 5, 6, 7, 8, 9] (W_X11_seen k h_t h_t_lanes h_t_longs h_t_items h_t_w h_t_row h_t_firsts h_t_sizes h_t_worths h_t_used h_t_tape h_t_readWorths h_t_dues h_t_sums h_t_worthOf h_t_lies h_t_pairs h_t_hands h_t_paidOn h_t_lates h_t_fixed h_t_hand s_isKept s_taped s_pieces s_at s_readMany s_readKind s_readCut s_rowSet s_bestSet s_lanes s_longs s_items s_w s_row s_firsts s_sizes s_worths s_used) (fun sz => k_X11_in v6.toInt64 (-1 : Int64) (2 : Int64) q9 e10 sz) gX11_seen_X11_in rfl pd_X11_in rfl ⟨rfl, rfl, Nat.le_of_ble_eq_true rfl, Nat.le_of_ble_eq_true rfl⟩ (Nat.le_of_ble_eq_true rfl) ⟨Nat.zero_le _, Nat.zero_le _⟩ ⟨rfl, rfl, rfl, rfl, rfl, by decide, rfl⟩ rfl dX11_seen_53 ?_
          refine g_if_ne 56 61 C dX11_seen_56 (by decide) (fun c => ?_) (fun c => ?_)
          · replace h := if_e c h
            refine g_aload_n 61 C 0 dX11_seen_61 rfl rfl ?_
            refine g_iload_n 62 C 2 dX11_seen_62 rfl rfl ?_
            refine g_iload_n 63 C 3 dX11_seen_63 rfl rfl ?_
            refine g_iload 64 C 4 dX11_seen_64 rfl ?_
            refine g_iload 66 C 5 dX11_seen_66 rfl ?_
            obtain ⟨q11, e12, h⟩ := bi_e h
            refine g_callVi 68 C (As := [.int v2, .int v3, .int v4, .int v5]) [0, 1, 2] [3, 4, 5, 6, 7, 8, 9] [7, 8, 9, 0, 1, 2, 3, 4, 5, 6] (W_X11_seen k h_t h_t_lanes h_t_longs h_t_items h_t_w h_t_row h_t_firsts h_t_sizes h_t_worths h_t_used h_t_tape h_t_readWorths h_t_dues h_t_sums h_t_worthOf h_t_lies h_t_pairs h_t_hands h_t_paidOn h_t_lates h_t_fixed h_t_hand s_isKept s_taped s_pieces s_at s_readMany s_readKind s_readCut s_rowSet s_bestSet s_lanes s_longs s_items s_w s_row s_firsts s_sizes s_worths s_used) 0 (fun sz => k_X11_bars h_t h_t_lanes h_t_longs h_t_w h_t_tape h_t_firsts h_t_sizes h_t_worths h_t_readWorths h_t_dues h_t_sums h_t_worthOf h_t_lies h_t_pairs h_t_row h_t_hands h_t_paidOn h_t_lates h_t_fixed h_t_items h_t_hand h_t_used s_isKept s_taped s_pieces s_at s_readMany s_readKind s_readCut s_rowSet s_bestSet s_lanes s_longs v2 v3 v4 v5 q11 e12 sz) gX11_seen_X11_bars rfl pd_X11_bars rfl rfl rfl ⟨rfl, rfl, Nat.le_of_ble_eq_true rfl, Nat.le_of_ble_eq_true rfl⟩ (Nat.le_of_ble_eq_true rfl) ⟨Nat.zero_le _, Nat.zero_le _⟩ ⟨rfl, rfl, rfl, rfl, rfl, by decide, rfl⟩ rfl dX11_seen_68 ?_
            refine g_istore 71 C [(7, .int q11), (0, .ref h_t), (1, .int v1), (2, .int v2), (3, .int v3), (4, .int v4), (5, .int v5), (6, .int v6)] dX11_seen_71 (by decide) rfl ?_
            refine g_iload 73 C 0 dX11_seen_73 rfl ?_
            refine g_if_eq 75 81 C dX11_seen_75 (by decide) (fun c => ?_) (fun c => ?_)
            · replace h := it_e c h
              refine g_iconst 81 C (0 : Int32) dX11_seen_81 (by decide) ?_
              refine g_istore 82 C [(8, .int (0 : Int32)), (7, .int q11), (0, .ref h_t), (1, .int v1), (2, .int v2), (3, .int v3), (4, .int v4), (5, .int v5), (6, .int v6)] dX11_seen_82 (by decide) rfl ?_
              refine GG.sub (lv' := [(0, .ref h_t), (1, .int v1), (2, .int v2), (4, .int v4), (5, .int v5), (6, .int v6), (8, .int (0 : Int32))]) [2, 3, 4, 6, 7, 8, 0] rfl ?_
              exact ok_L_X11_seen_84 C hA (fun t h => by
                refine GG.sub (lv' := [(0, .ref h_t), (1, .int v1), (2, .int v2), (4, .int v4), (5, .int v5), (6, .int v6)]) [0, 1, 2, 3, 4, 5] rfl ?_
                exact ok_B_X11_seen_125 C hA h) FUEL (0 : Int32) h
            · replace h := if_e c h
              refine g_iload 78 C 0 dX11_seen_78 rfl ?_
              obtain rfl := Option.some.inj h
              exact g_iret 80 C hA rfl dX11_seen_80 rfl
          · replace h := it_e c h
            refine GG.sub (lv' := []) [] rfl ?_
            exact ok_B_X11_seen_59 C hA h
end

/-! X11_film -/
abbrev W_X11_film (k : Nat → ClassId) (h_t : Nat) (h_t_w : Nat) (h_t_firsts : Nat) (h_t_sizes : Nat) (h_t_worths : Nat) (h_t_lanes : Nat) (h_t_longs : Nat) (h_t_items : Nat) (h_t_tape : Nat) (h_t_readWorths : Nat) (h_t_dues : Nat) (h_t_sums : Nat) (h_t_worthOf : Nat) (h_t_lies : Nat) (h_t_pairs : Nat) (h_t_row : Nat) (h_t_hands : Nat) (h_t_paidOn : Nat) (h_t_lates : Nat) (h_t_fixed : Nat) (h_t_hand : Nat) (h_t_used : Nat) (s_isKept : Int32) (s_taped : Int32) (s_pieces : Int32) (s_at : Int32) (s_readMany : Int32) (s_readKind : Int32) (s_readCut : Int32) (s_rowSet : Int32) (s_bestSet : Int32) (s_w : Nat → Int32) (s_firsts : Nat → Int32) (s_sizes : Nat → Int32) (s_worths : Nat → Int32) (s_lanes : Nat → Int32) (s_longs : Nat → Int32) (s_items : Nat → Int64) : va_W := [(h_t, .inr (11, [.ref h_t_w, .int s_isKept, .ref h_t_tape, .int s_taped, .ref h_t_firsts, .ref h_t_sizes, .ref h_t_worths, .int s_pieces, .int s_at, .ref h_t_readWorths, .int s_readMany, .int s_readKind, .int s_readCut, .ref h_t_dues, .ref h_t_sums, .ref h_t_worthOf, .ref h_t_lies, .ref h_t_pairs, .ref h_t_row, .int s_rowSet, .int s_bestSet, .ref h_t_hands, .ref h_t_paidOn, .ref h_t_lates, .ref h_t_fixed, .ref h_t_lanes, .ref h_t_longs, .ref h_t_items, .ref h_t_hand, .ref h_t_used])), (h_t_w, .inl (k 0, 60, .inl s_w)), (h_t_firsts, .inl (k 0, 24, .inl s_firsts)), (h_t_sizes, .inl (k 0, 24, .inl s_sizes)), (h_t_worths, .inl (k 0, 24, .inl s_worths)), (h_t_lanes, .inl (k 0, 4, .inl s_lanes)), (h_t_longs, .inl (k 0, 4, .inl s_longs)), (h_t_items, .inl (k 1, 96, .inr (.inl s_items)))]
def rm_X11_film : Room := { frames := 3, cells := 0, slots := 0, locals := 66 }
theorem in_X11_film_X11 : ∀ w ∈ u_ws RX11 TX11 30, w ∈ wsX11_film := by decide +kernel
theorem ct_X11_film_156 : Cond.constantLong RX11 156 (2 : Int64) ∈ wsX11_film := by decide +kernel
theorem fl_X11_film_22 : Cond.fieldLink RX11 22 "LinkDaysModel" "worths" "[I" ∈ wsX11_film := by decide +kernel
theorem fl_X11_film_68 : Cond.fieldLink RX11 68 "LinkDaysModel" "items" "[J" ∈ wsX11_film := by decide +kernel
theorem fl_X11_film_85 : Cond.fieldLink RX11 85 "LinkDaysModel" "pieces" "I" ∈ wsX11_film := by decide +kernel
theorem pd_X11_film : yX11_film.cls = RX11 ∧ yX11_film.cls ≠ "java/lang/invoke/MethodHandle" ∧ yX11_film.cls ≠ "java/lang/invoke/VarHandle" ∧ (parseMethodDescriptor yX11_film.desc).map (fun d => d.parameters.length) = some 3 := by decide +kernel
section
variable {p : Program} {l : Launch} {e : Env} {s : State} {m : MethodId} {args : Array Value} {below : List Frame} {meth : Method} {c : Code} {D : va_G} {k : Nat → ClassId} {A : Nat → Prop} {w0 : va_W} {sz : Nat}
set_option maxHeartbeats 4000000 in
set_option maxRecDepth 100000 in
theorem ok_B_X11_film_19 {h_t : Nat} {h_t_w : Nat} {h_t_firsts : Nat} {h_t_sizes : Nat} {h_t_worths : Nat} {h_t_lanes : Nat} {h_t_longs : Nat} {h_t_items : Nat} {h_t_tape : Nat} {h_t_readWorths : Nat} {h_t_dues : Nat} {h_t_sums : Nat} {h_t_worthOf : Nat} {h_t_lies : Nat} {h_t_pairs : Nat} {h_t_row : Nat} {h_t_hands : Nat} {h_t_paidOn : Nat} {h_t_lates : Nat} {h_t_fixed : Nat} {h_t_hand : Nat} {h_t_used : Nat} {s_isKept : Int32} {s_taped : Int32} {s_pieces : Int32} {s_at : Int32} {s_readMany : Int32} {s_readKind : Int32} {s_readCut : Int32} {s_rowSet : Int32} {s_bestSet : Int32} {s_w : Nat → Int32} {s_firsts : Nat → Int32} {s_sizes : Nat → Int32} {s_worths : Nat → Int32} {s_lanes : Nat → Int32} {s_longs : Nat → Int32} {s_items : Nat → Int64} {res : Int32 × Int32 × (Nat → Int32) × (Nat → Int32) × (Nat → Int32) × (Nat → Int64)} (C : CX p s m args meth c cX11_film wsX11_film RX11 6 D k A (some .int)) (hA : A = va_A w0 sz)  (h : B_X11_film_19 s_pieces s_firsts s_sizes s_worths s_items = some res) : GG p l e rm_X11_film s m args below meth c (MQ below (cQi D w0 sz res.1 (W_X11_film k h_t h_t_w h_t_firsts h_t_sizes h_t_worths h_t_lanes h_t_longs h_t_items h_t_tape h_t_readWorths h_t_dues h_t_sums h_t_worthOf h_t_lies h_t_pairs h_t_row h_t_hands h_t_paidOn h_t_lates h_t_fixed h_t_hand h_t_used s_isKept s_taped res.2.1 s_at s_readMany s_readKind s_readCut s_rowSet s_bestSet s_w res.2.2.1 res.2.2.2.1 res.2.2.2.2.1 s_lanes s_longs res.2.2.2.2.2)) args s 0 0 A) D A 6 0 0 19 [] [] (W_X11_film k h_t h_t_w h_t_firsts h_t_sizes h_t_worths h_t_lanes h_t_longs h_t_items h_t_tape h_t_readWorths h_t_dues h_t_sums h_t_worthOf h_t_lies h_t_pairs h_t_row h_t_hands h_t_paidOn h_t_lates h_t_fixed h_t_hand h_t_used s_isKept s_taped s_pieces s_at s_readMany s_readKind s_readCut s_rowSet s_bestSet s_w s_firsts s_sizes s_worths s_lanes s_longs s_items) := by
  unfold B_X11_film_19 at h
  refine g_iconst 19 C (-1 : Int32) dX11_film_19 (by decide) ?_
  obtain rfl := Option.some.inj h
  exact g_iret 20 C hA rfl dX11_film_20 rfl
set_option maxHeartbeats 4000000 in
set_option maxRecDepth 100000 in
theorem ok_L_X11_film_49 {h_t : Nat} {h_t_w : Nat} {h_t_firsts : Nat} {h_t_sizes : Nat} {h_t_worths : Nat} {h_t_lanes : Nat} {h_t_longs : Nat} {h_t_items : Nat} {h_t_tape : Nat} {h_t_readWorths : Nat} {h_t_dues : Nat} {h_t_sums : Nat} {h_t_worthOf : Nat} {h_t_lies : Nat} {h_t_pairs : Nat} {h_t_row : Nat} {h_t_hands : Nat} {h_t_paidOn : Nat} {h_t_lates : Nat} {h_t_fixed : Nat} {h_t_hand : Nat} {h_t_used : Nat} {s_isKept : Int32} {s_taped : Int32} {s_pieces : Int32} {s_at : Int32} {s_readMany : Int32} {s_readKind : Int32} {s_readCut : Int32} {s_rowSet : Int32} {s_bestSet : Int32} {s_w : Nat → Int32} {s_firsts : Nat → Int32} {s_sizes : Nat → Int32} {s_worths : Nat → Int32} {s_lanes : Nat → Int32} {s_longs : Nat → Int32} {v1 : Int32} {v2 : Int32} {v3 : Int32} {res : Int32 × Int32 × (Nat → Int32) × (Nat → Int32) × (Nat → Int32) × (Nat → Int64)} (C : CX p s m args meth c cX11_film wsX11_film RX11 6 D k A (some .int)) (hA : A = va_A w0 sz) {kx : Int32 × (Nat → Int64) → Option (Int32 × Int32 × (Nat → Int32) × (Nat → Int32) × (Nat → Int32) × (Nat → Int64))} (hx : ∀ t : Int32 × (Nat → Int64), kx t = some res → GG p l e rm_X11_film s m args below meth c (MQ below (cQi D w0 sz res.1 (W_X11_film k h_t h_t_w h_t_firsts h_t_sizes h_t_worths h_t_lanes h_t_longs h_t_items h_t_tape h_t_readWorths h_t_dues h_t_sums h_t_worthOf h_t_lies h_t_pairs h_t_row h_t_hands h_t_paidOn h_t_lates h_t_fixed h_t_hand h_t_used s_isKept s_taped res.2.1 s_at s_readMany s_readKind s_readCut s_rowSet s_bestSet s_w res.2.2.1 res.2.2.2.1 res.2.2.2.2.1 s_lanes s_longs res.2.2.2.2.2)) args s 0 0 A) D A 6 0 0 90 [(0, .ref h_t)] [] (W_X11_film k h_t h_t_w h_t_firsts h_t_sizes h_t_worths h_t_lanes h_t_longs h_t_items h_t_tape h_t_readWorths h_t_dues h_t_sums h_t_worthOf h_t_lies h_t_pairs h_t_row h_t_hands h_t_paidOn h_t_lates h_t_fixed h_t_hand h_t_used s_isKept s_taped s_pieces s_at s_readMany s_readKind s_readCut s_rowSet s_bestSet s_w s_firsts s_sizes s_worths s_lanes s_longs t.2)) : ∀ (n : Nat) (t : Int32 × (Nat → Int64)), L_X11_film_49 s_pieces s_worths v1 v2 v3 kx n t = some res → GG p l e rm_X11_film s m args below meth c (MQ below (cQi D w0 sz res.1 (W_X11_film k h_t h_t_w h_t_firsts h_t_sizes h_t_worths h_t_lanes h_t_longs h_t_items h_t_tape h_t_readWorths h_t_dues h_t_sums h_t_worthOf h_t_lies h_t_pairs h_t_row h_t_hands h_t_paidOn h_t_lates h_t_fixed h_t_hand h_t_used s_isKept s_taped res.2.1 s_at s_readMany s_readKind s_readCut s_rowSet s_bestSet s_w res.2.2.1 res.2.2.2.1 res.2.2.2.2.1 s_lanes s_longs res.2.2.2.2.2)) args s 0 0 A) D A 6 0 0 49 [(0, .ref h_t), (1, .int v1), (2, .int v2), (3, .int v3), (5, .int t.1)] [] (W_X11_film k h_t h_t_w h_t_firsts h_t_sizes h_t_worths h_t_lanes h_t_longs h_t_items h_t_tape h_t_readWorths h_t_dues h_t_sums h_t_worthOf h_t_lies h_t_pairs h_t_row h_t_hands h_t_paidOn h_t_lates h_t_fixed h_t_hand h_t_used s_isKept s_taped s_pieces s_at s_readMany s_readKind s_readCut s_rowSet s_bestSet s_w s_firsts s_sizes s_worths s_lanes s_longs t.2) := by
  intro n
  induction n with
  | zero => intro t h; cases h
  | succ n ih =>
    intro t h
    obtain ⟨v5, s_items⟩ := t
    replace h : LB_X11_film_49 s_pieces s_worths v1 v2 v3 kx (L_X11_film_49 s_pieces s_worths v1 v2 v3 kx n) v5 s_items = some res := h
    have hr := ih
    unfold LB_X11_film_49 at h
    refine g_iload 49 C 4 dX11_film_49 rfl ?_
    refine g_aload_n 51 C 0 dX11_film_51 rfl rfl ?_
    refine g_get 52 C in_X11_film_X11 0 7 rfl rfl (by decide) fl_X11_film_85 rfl rfl dX11_film_52 ?_
    refine g_icmp_ge 55 90 C dX11_film_55 (by decide) (fun c => ?_) (fun c => ?_)
    · replace h := it_e c h
      refine GG.sub (lv' := [(0, .ref h_t)]) [0] rfl ?_
      exact hx (v5, s_items) h
    · replace h := if_e c h
      refine g_aload_n 58 C 0 dX11_film_58 rfl rfl ?_
      refine g_get 59 C in_X11_film_X11 0 27 rfl rfl (by decide) fl_X11_film_68 rfl rfl dX11_film_59 ?_
      refine g_bipush 62 C (24 : Int32) dX11_film_62 (by decide) ?_
      refine g_iload_n 64 C 1 dX11_film_64 rfl rfl ?_
      refine g_imul 65 C dX11_film_65 ?_
      refine g_iload_n 66 C 3 dX11_film_66 rfl rfl ?_
      refine g_iadd 67 C dX11_film_67 ?_
      refine g_iload 68 C 4 dX11_film_68 rfl ?_
      refine g_iadd 70 C dX11_film_70 ?_
      refine g_iload_n 71 C 2 dX11_film_71 rfl rfl ?_
      refine g_aload_n 72 C 0 dX11_film_72 rfl rfl ?_
      refine g_get 73 C in_X11_film_X11 0 6 rfl rfl (by decide) fl_X11_film_22 rfl rfl dX11_film_73 ?_
      refine g_iload 76 C 4 dX11_film_76 rfl ?_
      obtain ⟨o9, h⟩ := ob_e h
      refine g_iald 78 C 4 rfl o9 dX11_film_78 ?_
      refine g_i2l 79 C dX11_film_79 ?_
      obtain ⟨q10, e11, h⟩ := bi_e h
      refine g_callSl 80 C (As := [.int v2, .long ((s_worths v5.toNatClampNeg).toInt64)]) [] [0, 1, 2, 3, 4, 5, 6, 7] [0, 1, 2, 3, 4, 5, 6, 7] (W_X11_film k h_t h_t_w h_t_firsts h_t_sizes h_t_worths h_t_lanes h_t_longs h_t_items h_t_tape h_t_readWorths h_t_dues h_t_sums h_t_worthOf h_t_lies h_t_pairs h_t_row h_t_hands h_t_paidOn h_t_lates h_t_fixed h_t_hand h_t_used s_isKept s_taped s_pieces s_at s_readMany s_readKind s_readCut s_rowSet s_bestSet s_w s_firsts s_sizes s_worths s_lanes s_longs s_items) (fun sz => k_X11_cutTo v2 ((s_worths v5.toNatClampNeg).toInt64) q10 e11 sz) gX11_film_X11_cutTo rfl pd_X11_cutTo rfl ⟨rfl, rfl, Nat.le_of_ble_eq_true rfl, Nat.le_of_ble_eq_true rfl⟩ (Nat.le_of_ble_eq_true rfl) ⟨Nat.zero_le _, Nat.zero_le _⟩ ⟨rfl, rfl, rfl, rfl, rfl, by decide, rfl⟩ rfl dX11_film_80 ?_
      obtain ⟨o12, h⟩ := ob_e h
      refine g_last 83 C (W_X11_film k h_t h_t_w h_t_firsts h_t_sizes h_t_worths h_t_lanes h_t_longs h_t_items h_t_tape h_t_readWorths h_t_dues h_t_sums h_t_worthOf h_t_lies h_t_pairs h_t_row h_t_hands h_t_paidOn h_t_lates h_t_fixed h_t_hand h_t_used s_isKept s_taped s_pieces s_at s_readMany s_readKind s_readCut s_rowSet s_bestSet s_w s_firsts s_sizes s_worths s_lanes s_longs (vp_updL s_items ((((24 : Int32) * v1) + v3) + v5).toNatClampNeg q10)) 7 rfl o12 rfl dX11_film_83 ?_
      refine g_iinc 84 C 4 (1 : Int32) [(5, .int (v5 + (1 : Int32))), (0, .ref h_t), (1, .int v1), (2, .int v2), (3, .int v3)] dX11_film_84 rfl (by decide) (by decide) rfl ?_
      refine g_goto 87 49 C dX11_film_87 (by decide) ?_
      refine GG.sub (lv' := [(0, .ref h_t), (1, .int v1), (2, .int v2), (3, .int v3), (5, .int (v5 + (1 : Int32)))]) [1, 2, 3, 4, 0] rfl ?_
      exact hr ((v5 + (1 : Int32)), (vp_updL s_items ((((24 : Int32) * v1) + v3) + v5).toNatClampNeg q10)) h
set_option maxHeartbeats 4000000 in
set_option maxRecDepth 100000 in
theorem ok_B_X11_film_90 {h_t : Nat} {h_t_w : Nat} {h_t_firsts : Nat} {h_t_sizes : Nat} {h_t_worths : Nat} {h_t_lanes : Nat} {h_t_longs : Nat} {h_t_items : Nat} {h_t_tape : Nat} {h_t_readWorths : Nat} {h_t_dues : Nat} {h_t_sums : Nat} {h_t_worthOf : Nat} {h_t_lies : Nat} {h_t_pairs : Nat} {h_t_row : Nat} {h_t_hands : Nat} {h_t_paidOn : Nat} {h_t_lates : Nat} {h_t_fixed : Nat} {h_t_hand : Nat} {h_t_used : Nat} {s_isKept : Int32} {s_taped : Int32} {s_pieces : Int32} {s_at : Int32} {s_readMany : Int32} {s_readKind : Int32} {s_readCut : Int32} {s_rowSet : Int32} {s_bestSet : Int32} {s_w : Nat → Int32} {s_firsts : Nat → Int32} {s_sizes : Nat → Int32} {s_worths : Nat → Int32} {s_lanes : Nat → Int32} {s_longs : Nat → Int32} {s_items : Nat → Int64} {res : Int32 × Int32 × (Nat → Int32) × (Nat → Int32) × (Nat → Int32) × (Nat → Int64)} (C : CX p s m args meth c cX11_film wsX11_film RX11 6 D k A (some .int)) (hA : A = va_A w0 sz)  (h : B_X11_film_90 s_pieces s_firsts s_sizes s_worths s_items = some res) : GG p l e rm_X11_film s m args below meth c (MQ below (cQi D w0 sz res.1 (W_X11_film k h_t h_t_w h_t_firsts h_t_sizes h_t_worths h_t_lanes h_t_longs h_t_items h_t_tape h_t_readWorths h_t_dues h_t_sums h_t_worthOf h_t_lies h_t_pairs h_t_row h_t_hands h_t_paidOn h_t_lates h_t_fixed h_t_hand h_t_used s_isKept s_taped res.2.1 s_at s_readMany s_readKind s_readCut s_rowSet s_bestSet s_w res.2.2.1 res.2.2.2.1 res.2.2.2.2.1 s_lanes s_longs res.2.2.2.2.2)) args s 0 0 A) D A 6 0 0 90 [(0, .ref h_t)] [] (W_X11_film k h_t h_t_w h_t_firsts h_t_sizes h_t_worths h_t_lanes h_t_longs h_t_items h_t_tape h_t_readWorths h_t_dues h_t_sums h_t_worthOf h_t_lies h_t_pairs h_t_row h_t_hands h_t_paidOn h_t_lates h_t_fixed h_t_hand h_t_used s_isKept s_taped s_pieces s_at s_readMany s_readKind s_readCut s_rowSet s_bestSet s_w s_firsts s_sizes s_worths s_lanes s_longs s_items) := by
  unfold B_X11_film_90 at h
  refine g_aload_n 90 C 0 dX11_film_90 rfl rfl ?_
  refine g_get 91 C in_X11_film_X11 0 7 rfl rfl (by decide) fl_X11_film_85 rfl rfl dX11_film_91 ?_
  obtain rfl := Option.some.inj h
  exact g_iret 94 C hA rfl dX11_film_94 rfl
set_option maxHeartbeats 4000000 in
set_option maxRecDepth 100000 in
theorem k_X11_film {l : Launch} {D : va_G} {k : Nat → ClassId} (h_t : Nat) (h_t_w : Nat) (h_t_firsts : Nat) (h_t_sizes : Nat) (h_t_worths : Nat) (h_t_lanes : Nat) (h_t_longs : Nat) (h_t_items : Nat) (h_t_tape : Nat) (h_t_readWorths : Nat) (h_t_dues : Nat) (h_t_sums : Nat) (h_t_worthOf : Nat) (h_t_lies : Nat) (h_t_pairs : Nat) (h_t_row : Nat) (h_t_hands : Nat) (h_t_paidOn : Nat) (h_t_lates : Nat) (h_t_fixed : Nat) (h_t_hand : Nat) (h_t_used : Nat) (s_isKept : Int32) (s_taped : Int32) (s_pieces : Int32) (s_at : Int32) (s_readMany : Int32) (s_readKind : Int32) (s_readCut : Int32) (s_rowSet : Int32) (s_bestSet : Int32) (s_w : Nat → Int32) (s_firsts : Nat → Int32) (s_sizes : Nat → Int32) (s_worths : Nat → Int32) (s_lanes : Nat → Int32) (s_longs : Nat → Int32) (s_items : Nat → Int64) (v1 : Int32) (v2 : Int32) (v3 : Int32) (res : Int32 × Int32 × (Nat → Int32) × (Nat → Int32) × (Nat → Int32) × (Nat → Int64)) (h : f_X11_film s_pieces s_w s_firsts s_sizes s_worths s_lanes s_longs s_items v1 v2 v3 = some res) (sz : Nat) : Met l yX11_film wsX11_film rm_X11_film (cPre D k [.ref h_t, .int v1, .int v2, .int v3] (W_X11_film k h_t h_t_w h_t_firsts h_t_sizes h_t_worths h_t_lanes h_t_longs h_t_items h_t_tape h_t_readWorths h_t_dues h_t_sums h_t_worthOf h_t_lies h_t_pairs h_t_row h_t_hands h_t_paidOn h_t_lates h_t_fixed h_t_hand h_t_used s_isKept s_taped s_pieces s_at s_readMany s_readKind s_readCut s_rowSet s_bestSet s_w s_firsts s_sizes s_worths s_lanes s_longs s_items) sz) (cQi D (W_X11_film k h_t h_t_w h_t_firsts h_t_sizes h_t_worths h_t_lanes h_t_longs h_t_items h_t_tape h_t_readWorths h_t_dues h_t_sums h_t_worthOf h_t_lies h_t_pairs h_t_row h_t_hands h_t_paidOn h_t_lates h_t_fixed h_t_hand h_t_used s_isKept s_taped s_pieces s_at s_readMany s_readKind s_readCut s_rowSet s_bestSet s_w s_firsts s_sizes s_worths s_lanes s_longs s_items) sz res.1 (W_X11_film k h_t h_t_w h_t_firsts h_t_sizes h_t_worths h_t_lanes h_t_longs h_t_items h_t_tape h_t_readWorths h_t_dues h_t_sums h_t_worthOf h_t_lies h_t_pairs h_t_row h_t_hands h_t_paidOn h_t_lates h_t_fixed h_t_hand h_t_used s_isKept s_taped res.2.1 s_at s_readMany s_readKind s_readCut s_rowSet s_bestSet s_w res.2.2.1 res.2.2.2.1 res.2.2.2.2.1 s_lanes s_longs res.2.2.2.2.2)) 0 0 (va_A (W_X11_film k h_t h_t_w h_t_firsts h_t_sizes h_t_worths h_t_lanes h_t_longs h_t_items h_t_tape h_t_readWorths h_t_dues h_t_sums h_t_worthOf h_t_lies h_t_pairs h_t_row h_t_hands h_t_paidOn h_t_lates h_t_fixed h_t_hand h_t_used s_isKept s_taped s_pieces s_at s_readMany s_readKind s_readCut s_rowSet s_bestSet s_w s_firsts s_sizes s_worths s_lanes s_longs s_items) sz) := by
  refine met_of [(0, .ref h_t), (1, .int v1), (2, .int v2), (3, .int v3)] (by decide) rfl rfl (Nat.le_of_ble_eq_true rfl) rfl ?_
  intro p e s m args below meth c A hA hsz C
  unfold f_X11_film at h
  refine g_iload_n 0 C 1 dX11_film_0 rfl rfl ?_
  obtain ⟨q1, e2, h⟩ := bi_e h
  refine g_callSi 1 C (As := [.int v1]) [] [0, 1, 2, 3, 4, 5, 6, 7] [0, 1, 2, 3, 4, 5, 6, 7] (W_X11_film k h_t h_t_w h_t_firsts h_t_sizes h_t_worths h_t_lanes h_t_longs h_t_items h_t_tape h_t_readWorths h_t_dues h_t_sums h_t_worthOf h_t_lies h_t_pairs h_t_row h_t_hands h_t_paidOn h_t_lates h_t_fixed h_t_hand h_t_used s_isKept s_taped s_pieces s_at s_readMany s_readKind s_readCut s_rowSet s_bestSet s_w s_firsts s_sizes s_worths s_lanes s_longs s_items) (fun sz => k_X11_isSheet v1 q1 e2 sz) gX11_film_X11_isSheet rfl pd_X11_isSheet rfl ⟨rfl, rfl, Nat.le_of_ble_eq_true rfl, Nat.le_of_ble_eq_true rfl⟩ (Nat.le_of_ble_eq_true rfl) ⟨Nat.zero_le _, Nat.zero_le _⟩ ⟨rfl, rfl, rfl, rfl, rfl, by decide, rfl⟩ rfl dX11_film_1 ?_
  refine g_if_eq 4 19 C dX11_film_4 (by decide) (fun c => ?_) (fun c => ?_)
  · replace h := it_e c h
    refine GG.sub (lv' := []) [] rfl ?_
    exact ok_B_X11_film_19 C hA h
  · replace h := if_e c h
    refine g_iload_n 7 C 2 dX11_film_7 rfl rfl ?_
    refine g_i2l 8 C dX11_film_8 ?_
    refine g_lconst 9 C (0 : Int64) dX11_film_9 (by decide) ?_
    refine g_ldc2 10 C (2 : Int64) dX11_film_10 ct_X11_film_156 ?_
    obtain ⟨q3, e4, h⟩ := bi_e h
    refine g_callSi 13 C (As := [.long v2.toInt64, .long (0 : Int64), .long (2 : Int64)]) [] [0, 1, 2, 3, 4, 5, 6, 7] [0, 1, 2, 3, 4, 5, 6, 7] (W_X11_film k h_t h_t_w h_t_firsts h_t_sizes h_t_worths h_t_lanes h_t_longs h_t_items h_t_tape h_t_readWorths h_t_dues h_t_sums h_t_worthOf h_t_lies h_t_pairs h_t_row h_t_hands h_t_paidOn h_t_lates h_t_fixed h_t_hand h_t_used s_isKept s_taped s_pieces s_at s_readMany s_readKind s_readCut s_rowSet s_bestSet s_w s_firsts s_sizes s_worths s_lanes s_longs s_items) (fun sz => k_X11_in v2.toInt64 (0 : Int64) (2 : Int64) q3 e4 sz) gX11_film_X11_in rfl pd_X11_in rfl ⟨rfl, rfl, Nat.le_of_ble_eq_true rfl, Nat.le_of_ble_eq_true rfl⟩ (Nat.le_of_ble_eq_true rfl) ⟨Nat.zero_le _, Nat.zero_le _⟩ ⟨rfl, rfl, rfl, rfl, rfl, by decide, rfl⟩ rfl dX11_film_13 ?_
    refine g_if_ne 16 21 C dX11_film_16 (by decide) (fun c => ?_) (fun c => ?_)
    · replace h := if_e c h
      refine g_aload_n 21 C 0 dX11_film_21 rfl rfl ?_
      obtain ⟨q5, e6, h⟩ := bi_e h
      refine g_callVv 22 C (As := []) [0, 1, 2, 3, 4] [5, 6, 7] [3, 4, 5, 6, 7, 0, 1, 2] (W_X11_film k h_t h_t_w h_t_firsts h_t_sizes h_t_worths h_t_lanes h_t_longs h_t_items h_t_tape h_t_readWorths h_t_dues h_t_sums h_t_worthOf h_t_lies h_t_pairs h_t_row h_t_hands h_t_paidOn h_t_lates h_t_fixed h_t_hand h_t_used s_isKept s_taped q5.1 s_at s_readMany s_readKind s_readCut s_rowSet s_bestSet s_w q5.2.1 q5.2.2.1 q5.2.2.2 s_lanes s_longs s_items) 0 (fun sz => k_X11_layNow h_t h_t_w h_t_firsts h_t_sizes h_t_worths h_t_tape h_t_readWorths h_t_dues h_t_sums h_t_worthOf h_t_lies h_t_pairs h_t_row h_t_hands h_t_paidOn h_t_lates h_t_fixed h_t_lanes h_t_longs h_t_items h_t_hand h_t_used s_isKept s_taped s_pieces s_at s_readMany s_readKind s_readCut s_rowSet s_bestSet s_w s_firsts s_sizes s_worths q5 e6 sz) gX11_film_X11_layNow rfl pd_X11_layNow rfl rfl rfl ⟨rfl, rfl, Nat.le_of_ble_eq_true rfl, Nat.le_of_ble_eq_true rfl⟩ (Nat.le_of_ble_eq_true rfl) ⟨Nat.zero_le _, Nat.zero_le _⟩ ⟨rfl, rfl, rfl, rfl, rfl, by decide, rfl⟩ rfl dX11_film_22 ?_
      refine g_aload_n 25 C 0 dX11_film_25 rfl rfl ?_
      refine g_iload_n 26 C 1 dX11_film_26 rfl rfl ?_
      refine g_iload_n 27 C 2 dX11_film_27 rfl rfl ?_
      refine g_iload_n 28 C 3 dX11_film_28 rfl rfl ?_
      refine g_aload_n 29 C 0 dX11_film_29 rfl rfl ?_
      refine g_get 30 C in_X11_film_X11 0 7 rfl rfl (by decide) fl_X11_film_85 rfl rfl dX11_film_30 ?_
      obtain ⟨q7, e8, h⟩ := bi_e h
      refine g_callVi 33 C (As := [.int v1, .int v2, .int v3, .int q5.1]) [0, 5, 6] [1, 2, 3, 4, 7] [5, 0, 1, 2, 3, 6, 7, 4] (W_X11_film k h_t h_t_w h_t_firsts h_t_sizes h_t_worths h_t_lanes h_t_longs h_t_items h_t_tape h_t_readWorths h_t_dues h_t_sums h_t_worthOf h_t_lies h_t_pairs h_t_row h_t_hands h_t_paidOn h_t_lates h_t_fixed h_t_hand h_t_used s_isKept s_taped q5.1 s_at s_readMany s_readKind s_readCut s_rowSet s_bestSet s_w q5.2.1 q5.2.2.1 q5.2.2.2 s_lanes s_longs s_items) 0 (fun sz => k_X11_bars h_t h_t_lanes h_t_longs h_t_w h_t_tape h_t_firsts h_t_sizes h_t_worths h_t_readWorths h_t_dues h_t_sums h_t_worthOf h_t_lies h_t_pairs h_t_row h_t_hands h_t_paidOn h_t_lates h_t_fixed h_t_items h_t_hand h_t_used s_isKept s_taped q5.1 s_at s_readMany s_readKind s_readCut s_rowSet s_bestSet s_lanes s_longs v1 v2 v3 q5.1 q7 e8 sz) gX11_film_X11_bars rfl pd_X11_bars rfl rfl rfl ⟨rfl, rfl, Nat.le_of_ble_eq_true rfl, Nat.le_of_ble_eq_true rfl⟩ (Nat.le_of_ble_eq_true rfl) ⟨Nat.zero_le _, Nat.zero_le _⟩ ⟨rfl, rfl, rfl, rfl, rfl, by decide, rfl⟩ rfl dX11_film_33 ?_
      refine g_istore 36 C [(4, .int q7), (0, .ref h_t), (1, .int v1), (2, .int v2), (3, .int v3)] dX11_film_36 (by decide) rfl ?_
      refine g_iload 38 C 0 dX11_film_38 rfl ?_
      refine g_if_eq 40 46 C dX11_film_40 (by decide) (fun c => ?_) (fun c => ?_)
      · replace h := it_e c h
        refine g_iconst 46 C (0 : Int32) dX11_film_46 (by decide) ?_
        refine g_istore 47 C [(5, .int (0 : Int32)), (4, .int q7), (0, .ref h_t), (1, .int v1), (2, .int v2), (3, .int v3)] dX11_film_47 (by decide) rfl ?_
        refine GG.sub (lv' := [(0, .ref h_t), (1, .int v1), (2, .int v2), (3, .int v3), (5, .int (0 : Int32))]) [2, 3, 4, 5, 0] rfl ?_
        exact ok_L_X11_film_49 C hA (fun t h => by
          refine GG.sub (lv' := [(0, .ref h_t)]) [0] rfl ?_
          exact ok_B_X11_film_90 C hA h) FUEL ((0 : Int32), s_items) h
      · replace h := if_e c h
        refine g_iload 43 C 0 dX11_film_43 rfl ?_
        obtain rfl := Option.some.inj h
        exact g_iret 45 C hA rfl dX11_film_45 rfl
    · replace h := it_e c h
      refine GG.sub (lv' := []) [] rfl ?_
      exact ok_B_X11_film_19 C hA h
end

/-! X11_sheet -/
abbrev W_X11_sheet (k : Nat → ClassId) (h_t : Nat) (h_t_lanes : Nat) (h_t_longs : Nat) (h_t_items : Nat) (h_t_w : Nat) (h_t_tape : Nat) (h_t_firsts : Nat) (h_t_sizes : Nat) (h_t_worths : Nat) (h_t_readWorths : Nat) (h_t_dues : Nat) (h_t_sums : Nat) (h_t_worthOf : Nat) (h_t_lies : Nat) (h_t_pairs : Nat) (h_t_row : Nat) (h_t_hands : Nat) (h_t_paidOn : Nat) (h_t_lates : Nat) (h_t_fixed : Nat) (h_t_hand : Nat) (h_t_used : Nat) (s_isKept : Int32) (s_taped : Int32) (s_pieces : Int32) (s_at : Int32) (s_readMany : Int32) (s_readKind : Int32) (s_readCut : Int32) (s_rowSet : Int32) (s_bestSet : Int32) (s_lanes : Nat → Int32) (s_longs : Nat → Int32) (s_items : Nat → Int64) : va_W := [(h_t, .inr (11, [.ref h_t_w, .int s_isKept, .ref h_t_tape, .int s_taped, .ref h_t_firsts, .ref h_t_sizes, .ref h_t_worths, .int s_pieces, .int s_at, .ref h_t_readWorths, .int s_readMany, .int s_readKind, .int s_readCut, .ref h_t_dues, .ref h_t_sums, .ref h_t_worthOf, .ref h_t_lies, .ref h_t_pairs, .ref h_t_row, .int s_rowSet, .int s_bestSet, .ref h_t_hands, .ref h_t_paidOn, .ref h_t_lates, .ref h_t_fixed, .ref h_t_lanes, .ref h_t_longs, .ref h_t_items, .ref h_t_hand, .ref h_t_used])), (h_t_lanes, .inl (k 0, 4, .inl s_lanes)), (h_t_longs, .inl (k 0, 4, .inl s_longs)), (h_t_items, .inl (k 1, 96, .inr (.inl s_items)))]
def rm_X11_sheet : Room := { frames := 2, cells := 0, slots := 0, locals := 45 }
theorem in_X11_sheet_X11 : ∀ w ∈ u_ws RX11 TX11 30, w ∈ wsX11_sheet := by decide +kernel
theorem ct_X11_sheet_156 : Cond.constantLong RX11 156 (2 : Int64) ∈ wsX11_sheet := by decide +kernel
theorem fl_X11_sheet_62 : Cond.fieldLink RX11 62 "LinkDaysModel" "lanes" "[I" ∈ wsX11_sheet := by decide +kernel
theorem fl_X11_sheet_65 : Cond.fieldLink RX11 65 "LinkDaysModel" "longs" "[I" ∈ wsX11_sheet := by decide +kernel
theorem fl_X11_sheet_68 : Cond.fieldLink RX11 68 "LinkDaysModel" "items" "[J" ∈ wsX11_sheet := by decide +kernel
theorem pd_X11_sheet : yX11_sheet.cls = RX11 ∧ yX11_sheet.cls ≠ "java/lang/invoke/MethodHandle" ∧ yX11_sheet.cls ≠ "java/lang/invoke/VarHandle" ∧ (parseMethodDescriptor yX11_sheet.desc).map (fun d => d.parameters.length) = some 3 := by decide +kernel
section
variable {p : Program} {l : Launch} {e : Env} {s : State} {m : MethodId} {args : Array Value} {below : List Frame} {meth : Method} {c : Code} {D : va_G} {k : Nat → ClassId} {A : Nat → Prop} {w0 : va_W} {sz : Nat}
set_option maxHeartbeats 4000000 in
set_option maxRecDepth 100000 in
theorem ok_B_X11_sheet_25 {h_t : Nat} {h_t_lanes : Nat} {h_t_longs : Nat} {h_t_items : Nat} {h_t_w : Nat} {h_t_tape : Nat} {h_t_firsts : Nat} {h_t_sizes : Nat} {h_t_worths : Nat} {h_t_readWorths : Nat} {h_t_dues : Nat} {h_t_sums : Nat} {h_t_worthOf : Nat} {h_t_lies : Nat} {h_t_pairs : Nat} {h_t_row : Nat} {h_t_hands : Nat} {h_t_paidOn : Nat} {h_t_lates : Nat} {h_t_fixed : Nat} {h_t_hand : Nat} {h_t_used : Nat} {s_isKept : Int32} {s_taped : Int32} {s_pieces : Int32} {s_at : Int32} {s_readMany : Int32} {s_readKind : Int32} {s_readCut : Int32} {s_rowSet : Int32} {s_bestSet : Int32} {s_lanes : Nat → Int32} {s_longs : Nat → Int32} {s_items : Nat → Int64} {res : Int32 × (Nat → Int32) × (Nat → Int32) × (Nat → Int64)} (C : CX p s m args meth c cX11_sheet wsX11_sheet RX11 5 D k A (some .int)) (hA : A = va_A w0 sz)  (h : B_X11_sheet_25 s_lanes s_longs s_items = some res) : GG p l e rm_X11_sheet s m args below meth c (MQ below (cQi D w0 sz res.1 (W_X11_sheet k h_t h_t_lanes h_t_longs h_t_items h_t_w h_t_tape h_t_firsts h_t_sizes h_t_worths h_t_readWorths h_t_dues h_t_sums h_t_worthOf h_t_lies h_t_pairs h_t_row h_t_hands h_t_paidOn h_t_lates h_t_fixed h_t_hand h_t_used s_isKept s_taped s_pieces s_at s_readMany s_readKind s_readCut s_rowSet s_bestSet res.2.1 res.2.2.1 res.2.2.2)) args s 0 0 A) D A 5 0 0 25 [] [] (W_X11_sheet k h_t h_t_lanes h_t_longs h_t_items h_t_w h_t_tape h_t_firsts h_t_sizes h_t_worths h_t_readWorths h_t_dues h_t_sums h_t_worthOf h_t_lies h_t_pairs h_t_row h_t_hands h_t_paidOn h_t_lates h_t_fixed h_t_hand h_t_used s_isKept s_taped s_pieces s_at s_readMany s_readKind s_readCut s_rowSet s_bestSet s_lanes s_longs s_items) := by
  unfold B_X11_sheet_25 at h
  refine g_iconst 25 C (-1 : Int32) dX11_sheet_25 (by decide) ?_
  obtain rfl := Option.some.inj h
  exact g_iret 26 C hA rfl dX11_sheet_26 rfl
set_option maxHeartbeats 4000000 in
set_option maxRecDepth 100000 in
theorem ok_L_X11_sheet_51 {h_t : Nat} {h_t_lanes : Nat} {h_t_longs : Nat} {h_t_items : Nat} {h_t_w : Nat} {h_t_tape : Nat} {h_t_firsts : Nat} {h_t_sizes : Nat} {h_t_worths : Nat} {h_t_readWorths : Nat} {h_t_dues : Nat} {h_t_sums : Nat} {h_t_worthOf : Nat} {h_t_lies : Nat} {h_t_pairs : Nat} {h_t_row : Nat} {h_t_hands : Nat} {h_t_paidOn : Nat} {h_t_lates : Nat} {h_t_fixed : Nat} {h_t_hand : Nat} {h_t_used : Nat} {s_isKept : Int32} {s_taped : Int32} {s_pieces : Int32} {s_at : Int32} {s_readMany : Int32} {s_readKind : Int32} {s_readCut : Int32} {s_rowSet : Int32} {s_bestSet : Int32} {s_lanes : Nat → Int32} {s_longs : Nat → Int32} {v1 : Int32} {v3 : Int32} {res : Int32 × (Nat → Int32) × (Nat → Int32) × (Nat → Int64)} (C : CX p s m args meth c cX11_sheet wsX11_sheet RX11 5 D k A (some .int)) (hA : A = va_A w0 sz) {kx : Int32 × (Nat → Int64) → Option (Int32 × (Nat → Int32) × (Nat → Int32) × (Nat → Int64))} (hx : ∀ t : Int32 × (Nat → Int64), kx t = some res → GG p l e rm_X11_sheet s m args below meth c (MQ below (cQi D w0 sz res.1 (W_X11_sheet k h_t h_t_lanes h_t_longs h_t_items h_t_w h_t_tape h_t_firsts h_t_sizes h_t_worths h_t_readWorths h_t_dues h_t_sums h_t_worthOf h_t_lies h_t_pairs h_t_row h_t_hands h_t_paidOn h_t_lates h_t_fixed h_t_hand h_t_used s_isKept s_taped s_pieces s_at s_readMany s_readKind s_readCut s_rowSet s_bestSet res.2.1 res.2.2.1 res.2.2.2)) args s 0 0 A) D A 5 0 0 77 [(3, .int v3)] [] (W_X11_sheet k h_t h_t_lanes h_t_longs h_t_items h_t_w h_t_tape h_t_firsts h_t_sizes h_t_worths h_t_readWorths h_t_dues h_t_sums h_t_worthOf h_t_lies h_t_pairs h_t_row h_t_hands h_t_paidOn h_t_lates h_t_fixed h_t_hand h_t_used s_isKept s_taped s_pieces s_at s_readMany s_readKind s_readCut s_rowSet s_bestSet s_lanes s_longs t.2)) : ∀ (n : Nat) (t : Int32 × (Nat → Int64)), L_X11_sheet_51 v1 kx n t = some res → GG p l e rm_X11_sheet s m args below meth c (MQ below (cQi D w0 sz res.1 (W_X11_sheet k h_t h_t_lanes h_t_longs h_t_items h_t_w h_t_tape h_t_firsts h_t_sizes h_t_worths h_t_readWorths h_t_dues h_t_sums h_t_worthOf h_t_lies h_t_pairs h_t_row h_t_hands h_t_paidOn h_t_lates h_t_fixed h_t_hand h_t_used s_isKept s_taped s_pieces s_at s_readMany s_readKind s_readCut s_rowSet s_bestSet res.2.1 res.2.2.1 res.2.2.2)) args s 0 0 A) D A 5 0 0 51 [(0, .ref h_t), (1, .int v1), (3, .int v3), (4, .int t.1)] [] (W_X11_sheet k h_t h_t_lanes h_t_longs h_t_items h_t_w h_t_tape h_t_firsts h_t_sizes h_t_worths h_t_readWorths h_t_dues h_t_sums h_t_worthOf h_t_lies h_t_pairs h_t_row h_t_hands h_t_paidOn h_t_lates h_t_fixed h_t_hand h_t_used s_isKept s_taped s_pieces s_at s_readMany s_readKind s_readCut s_rowSet s_bestSet s_lanes s_longs t.2) := by
  intro n
  induction n with
  | zero => intro t h; cases h
  | succ n ih =>
    intro t h
    obtain ⟨v4, s_items⟩ := t
    replace h : LB_X11_sheet_51 v1 kx (L_X11_sheet_51 v1 kx n) v4 s_items = some res := h
    have hr := ih
    unfold LB_X11_sheet_51 at h
    refine g_iload 51 C 3 dX11_sheet_51 rfl ?_
    refine g_bipush 53 C (24 : Int32) dX11_sheet_53 (by decide) ?_
    refine g_icmp_ge 55 77 C dX11_sheet_55 (by decide) (fun c => ?_) (fun c => ?_)
    · replace h := it_e c h
      refine GG.sub (lv' := [(3, .int v3)]) [2] rfl ?_
      exact hx (v4, s_items) h
    · replace h := if_e c h
      refine g_aload_n 58 C 0 dX11_sheet_58 rfl rfl ?_
      refine g_get 59 C in_X11_sheet_X11 0 27 rfl rfl (by decide) fl_X11_sheet_68 rfl rfl dX11_sheet_59 ?_
      refine g_bipush 62 C (24 : Int32) dX11_sheet_62 (by decide) ?_
      refine g_iload_n 64 C 1 dX11_sheet_64 rfl rfl ?_
      refine g_imul 65 C dX11_sheet_65 ?_
      refine g_iload 66 C 3 dX11_sheet_66 rfl ?_
      refine g_iadd 68 C dX11_sheet_68 ?_
      refine g_lconst 69 C (0 : Int64) dX11_sheet_69 (by decide) ?_
      obtain ⟨o7, h⟩ := ob_e h
      refine g_last 70 C (W_X11_sheet k h_t h_t_lanes h_t_longs h_t_items h_t_w h_t_tape h_t_firsts h_t_sizes h_t_worths h_t_readWorths h_t_dues h_t_sums h_t_worthOf h_t_lies h_t_pairs h_t_row h_t_hands h_t_paidOn h_t_lates h_t_fixed h_t_hand h_t_used s_isKept s_taped s_pieces s_at s_readMany s_readKind s_readCut s_rowSet s_bestSet s_lanes s_longs (vp_updL s_items (((24 : Int32) * v1) + v4).toNatClampNeg (0 : Int64))) 3 rfl o7 rfl dX11_sheet_70 ?_
      refine g_iinc 71 C 3 (1 : Int32) [(4, .int (v4 + (1 : Int32))), (0, .ref h_t), (1, .int v1), (3, .int v3)] dX11_sheet_71 rfl (by decide) (by decide) rfl ?_
      refine g_goto 74 51 C dX11_sheet_74 (by decide) ?_
      refine GG.sub (lv' := [(0, .ref h_t), (1, .int v1), (3, .int v3), (4, .int (v4 + (1 : Int32)))]) [1, 2, 3, 0] rfl ?_
      exact hr ((v4 + (1 : Int32)), (vp_updL s_items (((24 : Int32) * v1) + v4).toNatClampNeg (0 : Int64))) h
set_option maxHeartbeats 4000000 in
set_option maxRecDepth 100000 in
theorem ok_B_X11_sheet_77 {h_t : Nat} {h_t_lanes : Nat} {h_t_longs : Nat} {h_t_items : Nat} {h_t_w : Nat} {h_t_tape : Nat} {h_t_firsts : Nat} {h_t_sizes : Nat} {h_t_worths : Nat} {h_t_readWorths : Nat} {h_t_dues : Nat} {h_t_sums : Nat} {h_t_worthOf : Nat} {h_t_lies : Nat} {h_t_pairs : Nat} {h_t_row : Nat} {h_t_hands : Nat} {h_t_paidOn : Nat} {h_t_lates : Nat} {h_t_fixed : Nat} {h_t_hand : Nat} {h_t_used : Nat} {s_isKept : Int32} {s_taped : Int32} {s_pieces : Int32} {s_at : Int32} {s_readMany : Int32} {s_readKind : Int32} {s_readCut : Int32} {s_rowSet : Int32} {s_bestSet : Int32} {s_lanes : Nat → Int32} {s_longs : Nat → Int32} {s_items : Nat → Int64} {v3 : Int32} {res : Int32 × (Nat → Int32) × (Nat → Int32) × (Nat → Int64)} (C : CX p s m args meth c cX11_sheet wsX11_sheet RX11 5 D k A (some .int)) (hA : A = va_A w0 sz)  (h : B_X11_sheet_77 s_lanes s_longs s_items v3 = some res) : GG p l e rm_X11_sheet s m args below meth c (MQ below (cQi D w0 sz res.1 (W_X11_sheet k h_t h_t_lanes h_t_longs h_t_items h_t_w h_t_tape h_t_firsts h_t_sizes h_t_worths h_t_readWorths h_t_dues h_t_sums h_t_worthOf h_t_lies h_t_pairs h_t_row h_t_hands h_t_paidOn h_t_lates h_t_fixed h_t_hand h_t_used s_isKept s_taped s_pieces s_at s_readMany s_readKind s_readCut s_rowSet s_bestSet res.2.1 res.2.2.1 res.2.2.2)) args s 0 0 A) D A 5 0 0 77 [(3, .int v3)] [] (W_X11_sheet k h_t h_t_lanes h_t_longs h_t_items h_t_w h_t_tape h_t_firsts h_t_sizes h_t_worths h_t_readWorths h_t_dues h_t_sums h_t_worthOf h_t_lies h_t_pairs h_t_row h_t_hands h_t_paidOn h_t_lates h_t_fixed h_t_hand h_t_used s_isKept s_taped s_pieces s_at s_readMany s_readKind s_readCut s_rowSet s_bestSet s_lanes s_longs s_items) := by
  unfold B_X11_sheet_77 at h
  refine g_iload_n 77 C 0 dX11_sheet_77 rfl rfl ?_
  obtain rfl := Option.some.inj h
  exact g_iret 78 C hA rfl dX11_sheet_78 rfl
set_option maxHeartbeats 4000000 in
set_option maxRecDepth 100000 in
theorem k_X11_sheet {l : Launch} {D : va_G} {k : Nat → ClassId} (h_t : Nat) (h_t_lanes : Nat) (h_t_longs : Nat) (h_t_items : Nat) (h_t_w : Nat) (h_t_tape : Nat) (h_t_firsts : Nat) (h_t_sizes : Nat) (h_t_worths : Nat) (h_t_readWorths : Nat) (h_t_dues : Nat) (h_t_sums : Nat) (h_t_worthOf : Nat) (h_t_lies : Nat) (h_t_pairs : Nat) (h_t_row : Nat) (h_t_hands : Nat) (h_t_paidOn : Nat) (h_t_lates : Nat) (h_t_fixed : Nat) (h_t_hand : Nat) (h_t_used : Nat) (s_isKept : Int32) (s_taped : Int32) (s_pieces : Int32) (s_at : Int32) (s_readMany : Int32) (s_readKind : Int32) (s_readCut : Int32) (s_rowSet : Int32) (s_bestSet : Int32) (s_lanes : Nat → Int32) (s_longs : Nat → Int32) (s_items : Nat → Int64) (v1 : Int32) (v2 : Int32) (v3 : Int32) (res : Int32 × (Nat → Int32) × (Nat → Int32) × (Nat → Int64)) (h : f_X11_sheet s_lanes s_longs s_items v1 v2 v3 = some res) (sz : Nat) : Met l yX11_sheet wsX11_sheet rm_X11_sheet (cPre D k [.ref h_t, .int v1, .int v2, .int v3] (W_X11_sheet k h_t h_t_lanes h_t_longs h_t_items h_t_w h_t_tape h_t_firsts h_t_sizes h_t_worths h_t_readWorths h_t_dues h_t_sums h_t_worthOf h_t_lies h_t_pairs h_t_row h_t_hands h_t_paidOn h_t_lates h_t_fixed h_t_hand h_t_used s_isKept s_taped s_pieces s_at s_readMany s_readKind s_readCut s_rowSet s_bestSet s_lanes s_longs s_items) sz) (cQi D (W_X11_sheet k h_t h_t_lanes h_t_longs h_t_items h_t_w h_t_tape h_t_firsts h_t_sizes h_t_worths h_t_readWorths h_t_dues h_t_sums h_t_worthOf h_t_lies h_t_pairs h_t_row h_t_hands h_t_paidOn h_t_lates h_t_fixed h_t_hand h_t_used s_isKept s_taped s_pieces s_at s_readMany s_readKind s_readCut s_rowSet s_bestSet s_lanes s_longs s_items) sz res.1 (W_X11_sheet k h_t h_t_lanes h_t_longs h_t_items h_t_w h_t_tape h_t_firsts h_t_sizes h_t_worths h_t_readWorths h_t_dues h_t_sums h_t_worthOf h_t_lies h_t_pairs h_t_row h_t_hands h_t_paidOn h_t_lates h_t_fixed h_t_hand h_t_used s_isKept s_taped s_pieces s_at s_readMany s_readKind s_readCut s_rowSet s_bestSet res.2.1 res.2.2.1 res.2.2.2)) 0 0 (va_A (W_X11_sheet k h_t h_t_lanes h_t_longs h_t_items h_t_w h_t_tape h_t_firsts h_t_sizes h_t_worths h_t_readWorths h_t_dues h_t_sums h_t_worthOf h_t_lies h_t_pairs h_t_row h_t_hands h_t_paidOn h_t_lates h_t_fixed h_t_hand h_t_used s_isKept s_taped s_pieces s_at s_readMany s_readKind s_readCut s_rowSet s_bestSet s_lanes s_longs s_items) sz) := by
  refine met_of [(0, .ref h_t), (1, .int v1), (2, .int v2), (3, .int v3)] (by decide) rfl rfl (Nat.le_of_ble_eq_true rfl) rfl ?_
  intro p e s m args below meth c A hA hsz C
  unfold f_X11_sheet at h
  refine g_iload_n 0 C 1 dX11_sheet_0 rfl rfl ?_
  obtain ⟨q1, e2, h⟩ := bi_e h
  refine g_callSi 1 C (As := [.int v1]) [] [0, 1, 2, 3] [0, 1, 2, 3] (W_X11_sheet k h_t h_t_lanes h_t_longs h_t_items h_t_w h_t_tape h_t_firsts h_t_sizes h_t_worths h_t_readWorths h_t_dues h_t_sums h_t_worthOf h_t_lies h_t_pairs h_t_row h_t_hands h_t_paidOn h_t_lates h_t_fixed h_t_hand h_t_used s_isKept s_taped s_pieces s_at s_readMany s_readKind s_readCut s_rowSet s_bestSet s_lanes s_longs s_items) (fun sz => k_X11_isSheet v1 q1 e2 sz) gX11_sheet_X11_isSheet rfl pd_X11_isSheet rfl ⟨rfl, rfl, Nat.le_of_ble_eq_true rfl, Nat.le_of_ble_eq_true rfl⟩ (Nat.le_of_ble_eq_true rfl) ⟨Nat.zero_le _, Nat.zero_le _⟩ ⟨rfl, rfl, rfl, rfl, rfl, by decide, rfl⟩ rfl dX11_sheet_1 ?_
  refine g_if_eq 4 25 C dX11_sheet_4 (by decide) (fun c => ?_) (fun c => ?_)
  · replace h := it_e c h
    refine GG.sub (lv' := []) [] rfl ?_
    exact ok_B_X11_sheet_25 C hA h
  · replace h := if_e c h
    refine g_iload_n 7 C 2 dX11_sheet_7 rfl rfl ?_
    refine g_i2l 8 C dX11_sheet_8 ?_
    refine g_lconst 9 C (0 : Int64) dX11_sheet_9 (by decide) ?_
    refine g_ldc2 10 C (2 : Int64) dX11_sheet_10 ct_X11_sheet_156 ?_
    obtain ⟨q3, e4, h⟩ := bi_e h
    refine g_callSi 13 C (As := [.long v2.toInt64, .long (0 : Int64), .long (2 : Int64)]) [] [0, 1, 2, 3] [0, 1, 2, 3] (W_X11_sheet k h_t h_t_lanes h_t_longs h_t_items h_t_w h_t_tape h_t_firsts h_t_sizes h_t_worths h_t_readWorths h_t_dues h_t_sums h_t_worthOf h_t_lies h_t_pairs h_t_row h_t_hands h_t_paidOn h_t_lates h_t_fixed h_t_hand h_t_used s_isKept s_taped s_pieces s_at s_readMany s_readKind s_readCut s_rowSet s_bestSet s_lanes s_longs s_items) (fun sz => k_X11_in v2.toInt64 (0 : Int64) (2 : Int64) q3 e4 sz) gX11_sheet_X11_in rfl pd_X11_in rfl ⟨rfl, rfl, Nat.le_of_ble_eq_true rfl, Nat.le_of_ble_eq_true rfl⟩ (Nat.le_of_ble_eq_true rfl) ⟨Nat.zero_le _, Nat.zero_le _⟩ ⟨rfl, rfl, rfl, rfl, rfl, by decide, rfl⟩ rfl dX11_sheet_13 ?_
    refine g_if_eq 16 25 C dX11_sheet_16 (by decide) (fun c => ?_) (fun c => ?_)
    · replace h := it_e c h
      refine GG.sub (lv' := []) [] rfl ?_
      exact ok_B_X11_sheet_25 C hA h
    · replace h := if_e c h
      refine g_iload_n 19 C 3 dX11_sheet_19 rfl rfl ?_
      refine g_bipush 20 C (24 : Int32) dX11_sheet_20 (by decide) ?_
      refine g_icmp_le 22 27 C dX11_sheet_22 (by decide) (fun c => ?_) (fun c => ?_)
      · replace h := it_e c h
        refine g_iload_n 27 C 3 dX11_sheet_27 rfl rfl ?_
        refine g_if_ge 28 34 C dX11_sheet_28 (by decide) (fun c => ?_) (fun c => ?_)
        · replace h := it_e c h
          refine g_aload_n 34 C 0 dX11_sheet_34 rfl rfl ?_
          refine g_get 35 C in_X11_sheet_X11 0 25 rfl rfl (by decide) fl_X11_sheet_62 rfl rfl dX11_sheet_35 ?_
          refine g_iload_n 38 C 1 dX11_sheet_38 rfl rfl ?_
          refine g_iload_n 39 C 2 dX11_sheet_39 rfl rfl ?_
          obtain ⟨o5, h⟩ := ob_e h
          refine g_iast 40 C (W_X11_sheet k h_t h_t_lanes h_t_longs h_t_items h_t_w h_t_tape h_t_firsts h_t_sizes h_t_worths h_t_readWorths h_t_dues h_t_sums h_t_worthOf h_t_lies h_t_pairs h_t_row h_t_hands h_t_paidOn h_t_lates h_t_fixed h_t_hand h_t_used s_isKept s_taped s_pieces s_at s_readMany s_readKind s_readCut s_rowSet s_bestSet (upd s_lanes v1.toNatClampNeg v2) s_longs s_items) 1 rfl o5 rfl dX11_sheet_40 ?_
          refine g_aload_n 41 C 0 dX11_sheet_41 rfl rfl ?_
          refine g_get 42 C in_X11_sheet_X11 0 26 rfl rfl (by decide) fl_X11_sheet_65 rfl rfl dX11_sheet_42 ?_
          refine g_iload_n 45 C 1 dX11_sheet_45 rfl rfl ?_
          refine g_iload_n 46 C 3 dX11_sheet_46 rfl rfl ?_
          obtain ⟨o6, h⟩ := ob_e h
          refine g_iast 47 C (W_X11_sheet k h_t h_t_lanes h_t_longs h_t_items h_t_w h_t_tape h_t_firsts h_t_sizes h_t_worths h_t_readWorths h_t_dues h_t_sums h_t_worthOf h_t_lies h_t_pairs h_t_row h_t_hands h_t_paidOn h_t_lates h_t_fixed h_t_hand h_t_used s_isKept s_taped s_pieces s_at s_readMany s_readKind s_readCut s_rowSet s_bestSet (upd s_lanes v1.toNatClampNeg v2) (upd s_longs v1.toNatClampNeg v3) s_items) 2 rfl o6 rfl dX11_sheet_47 ?_
          refine g_iconst 48 C (0 : Int32) dX11_sheet_48 (by decide) ?_
          refine g_istore 49 C [(4, .int (0 : Int32)), (0, .ref h_t), (1, .int v1), (2, .int v2), (3, .int v3)] dX11_sheet_49 (by decide) rfl ?_
          refine GG.sub (lv' := [(0, .ref h_t), (1, .int v1), (3, .int v3), (4, .int (0 : Int32))]) [1, 2, 4, 0] rfl ?_
          exact ok_L_X11_sheet_51 C hA (fun t h => by
            refine GG.sub (lv' := [(3, .int v3)]) [0] rfl ?_
            exact ok_B_X11_sheet_77 C hA h) FUEL ((0 : Int32), s_items) h
        · replace h := if_e c h
          refine g_bipush 31 C (-14 : Int32) dX11_sheet_31 (by decide) ?_
          obtain rfl := Option.some.inj h
          exact g_iret 33 C hA rfl dX11_sheet_33 rfl
      · replace h := if_e c h
        refine GG.sub (lv' := []) [] rfl ?_
        exact ok_B_X11_sheet_25 C hA h
end

/-! X11_drop -/
abbrev W_X11_drop (k : Nat → ClassId) (h_t : Nat) (h_t_lanes : Nat) (h_t_longs : Nat) (h_t_w : Nat) (h_t_tape : Nat) (h_t_firsts : Nat) (h_t_sizes : Nat) (h_t_worths : Nat) (h_t_readWorths : Nat) (h_t_dues : Nat) (h_t_sums : Nat) (h_t_worthOf : Nat) (h_t_lies : Nat) (h_t_pairs : Nat) (h_t_row : Nat) (h_t_hands : Nat) (h_t_paidOn : Nat) (h_t_lates : Nat) (h_t_fixed : Nat) (h_t_items : Nat) (h_t_hand : Nat) (h_t_used : Nat) (s_isKept : Int32) (s_taped : Int32) (s_pieces : Int32) (s_at : Int32) (s_readMany : Int32) (s_readKind : Int32) (s_readCut : Int32) (s_rowSet : Int32) (s_bestSet : Int32) (s_lanes : Nat → Int32) (s_longs : Nat → Int32) : va_W := [(h_t, .inr (11, [.ref h_t_w, .int s_isKept, .ref h_t_tape, .int s_taped, .ref h_t_firsts, .ref h_t_sizes, .ref h_t_worths, .int s_pieces, .int s_at, .ref h_t_readWorths, .int s_readMany, .int s_readKind, .int s_readCut, .ref h_t_dues, .ref h_t_sums, .ref h_t_worthOf, .ref h_t_lies, .ref h_t_pairs, .ref h_t_row, .int s_rowSet, .int s_bestSet, .ref h_t_hands, .ref h_t_paidOn, .ref h_t_lates, .ref h_t_fixed, .ref h_t_lanes, .ref h_t_longs, .ref h_t_items, .ref h_t_hand, .ref h_t_used])), (h_t_lanes, .inl (k 0, 4, .inl s_lanes)), (h_t_longs, .inl (k 0, 4, .inl s_longs))]
def rm_X11_drop : Room := { frames := 2, cells := 0, slots := 0, locals := 45 }
theorem in_X11_drop_X11 : ∀ w ∈ u_ws RX11 TX11 30, w ∈ wsX11_drop := by decide +kernel
theorem fl_X11_drop_62 : Cond.fieldLink RX11 62 "LinkDaysModel" "lanes" "[I" ∈ wsX11_drop := by decide +kernel
theorem fl_X11_drop_65 : Cond.fieldLink RX11 65 "LinkDaysModel" "longs" "[I" ∈ wsX11_drop := by decide +kernel
theorem pd_X11_drop : yX11_drop.cls = RX11 ∧ yX11_drop.cls ≠ "java/lang/invoke/MethodHandle" ∧ yX11_drop.cls ≠ "java/lang/invoke/VarHandle" ∧ (parseMethodDescriptor yX11_drop.desc).map (fun d => d.parameters.length) = some 1 := by decide +kernel
section
variable {p : Program} {l : Launch} {e : Env} {s : State} {m : MethodId} {args : Array Value} {below : List Frame} {meth : Method} {c : Code} {D : va_G} {k : Nat → ClassId} {A : Nat → Prop} {w0 : va_W} {sz : Nat}
set_option maxHeartbeats 4000000 in
set_option maxRecDepth 100000 in
theorem k_X11_drop {l : Launch} {D : va_G} {k : Nat → ClassId} (h_t : Nat) (h_t_lanes : Nat) (h_t_longs : Nat) (h_t_w : Nat) (h_t_tape : Nat) (h_t_firsts : Nat) (h_t_sizes : Nat) (h_t_worths : Nat) (h_t_readWorths : Nat) (h_t_dues : Nat) (h_t_sums : Nat) (h_t_worthOf : Nat) (h_t_lies : Nat) (h_t_pairs : Nat) (h_t_row : Nat) (h_t_hands : Nat) (h_t_paidOn : Nat) (h_t_lates : Nat) (h_t_fixed : Nat) (h_t_items : Nat) (h_t_hand : Nat) (h_t_used : Nat) (s_isKept : Int32) (s_taped : Int32) (s_pieces : Int32) (s_at : Int32) (s_readMany : Int32) (s_readKind : Int32) (s_readCut : Int32) (s_rowSet : Int32) (s_bestSet : Int32) (s_lanes : Nat → Int32) (s_longs : Nat → Int32) (v1 : Int32) (res : Int32 × (Nat → Int32)) (h : f_X11_drop s_lanes s_longs v1 = some res) (sz : Nat) : Met l yX11_drop wsX11_drop rm_X11_drop (cPre D k [.ref h_t, .int v1] (W_X11_drop k h_t h_t_lanes h_t_longs h_t_w h_t_tape h_t_firsts h_t_sizes h_t_worths h_t_readWorths h_t_dues h_t_sums h_t_worthOf h_t_lies h_t_pairs h_t_row h_t_hands h_t_paidOn h_t_lates h_t_fixed h_t_items h_t_hand h_t_used s_isKept s_taped s_pieces s_at s_readMany s_readKind s_readCut s_rowSet s_bestSet s_lanes s_longs) sz) (cQi D (W_X11_drop k h_t h_t_lanes h_t_longs h_t_w h_t_tape h_t_firsts h_t_sizes h_t_worths h_t_readWorths h_t_dues h_t_sums h_t_worthOf h_t_lies h_t_pairs h_t_row h_t_hands h_t_paidOn h_t_lates h_t_fixed h_t_items h_t_hand h_t_used s_isKept s_taped s_pieces s_at s_readMany s_readKind s_readCut s_rowSet s_bestSet s_lanes s_longs) sz res.1 (W_X11_drop k h_t h_t_lanes h_t_longs h_t_w h_t_tape h_t_firsts h_t_sizes h_t_worths h_t_readWorths h_t_dues h_t_sums h_t_worthOf h_t_lies h_t_pairs h_t_row h_t_hands h_t_paidOn h_t_lates h_t_fixed h_t_items h_t_hand h_t_used s_isKept s_taped s_pieces s_at s_readMany s_readKind s_readCut s_rowSet s_bestSet res.2 s_longs)) 0 0 (va_A (W_X11_drop k h_t h_t_lanes h_t_longs h_t_w h_t_tape h_t_firsts h_t_sizes h_t_worths h_t_readWorths h_t_dues h_t_sums h_t_worthOf h_t_lies h_t_pairs h_t_row h_t_hands h_t_paidOn h_t_lates h_t_fixed h_t_items h_t_hand h_t_used s_isKept s_taped s_pieces s_at s_readMany s_readKind s_readCut s_rowSet s_bestSet s_lanes s_longs) sz) := by
  refine met_of [(0, .ref h_t), (1, .int v1)] (by decide) rfl rfl (Nat.le_of_ble_eq_true rfl) rfl ?_
  intro p e s m args below meth c A hA hsz C
  unfold f_X11_drop at h
  refine g_iload_n 0 C 1 dX11_drop_0 rfl rfl ?_
  obtain ⟨q1, e2, h⟩ := bi_e h
  refine g_callSi 1 C (As := [.int v1]) [] [0, 1, 2] [0, 1, 2] (W_X11_drop k h_t h_t_lanes h_t_longs h_t_w h_t_tape h_t_firsts h_t_sizes h_t_worths h_t_readWorths h_t_dues h_t_sums h_t_worthOf h_t_lies h_t_pairs h_t_row h_t_hands h_t_paidOn h_t_lates h_t_fixed h_t_items h_t_hand h_t_used s_isKept s_taped s_pieces s_at s_readMany s_readKind s_readCut s_rowSet s_bestSet s_lanes s_longs) (fun sz => k_X11_isSheet v1 q1 e2 sz) gX11_drop_X11_isSheet rfl pd_X11_isSheet rfl ⟨rfl, rfl, Nat.le_of_ble_eq_true rfl, Nat.le_of_ble_eq_true rfl⟩ (Nat.le_of_ble_eq_true rfl) ⟨Nat.zero_le _, Nat.zero_le _⟩ ⟨rfl, rfl, rfl, rfl, rfl, by decide, rfl⟩ rfl dX11_drop_1 ?_
  refine g_if_ne 4 9 C dX11_drop_4 (by decide) (fun c => ?_) (fun c => ?_)
  · replace h := if_e c h
    refine g_aload_n 9 C 0 dX11_drop_9 rfl rfl ?_
    refine g_get 10 C in_X11_drop_X11 0 25 rfl rfl (by decide) fl_X11_drop_62 rfl rfl dX11_drop_10 ?_
    refine g_iload_n 13 C 1 dX11_drop_13 rfl rfl ?_
    obtain ⟨o3, h⟩ := ob_e h
    refine g_iald 14 C 1 rfl o3 dX11_drop_14 ?_
    refine g_if_ge 15 21 C dX11_drop_15 (by decide) (fun c => ?_) (fun c => ?_)
    · replace h := it_e c h
      refine g_aload_n 21 C 0 dX11_drop_21 rfl rfl ?_
      refine g_get 22 C in_X11_drop_X11 0 25 rfl rfl (by decide) fl_X11_drop_62 rfl rfl dX11_drop_22 ?_
      refine g_iload_n 25 C 1 dX11_drop_25 rfl rfl ?_
      refine g_iconst 26 C (-1 : Int32) dX11_drop_26 (by decide) ?_
      obtain ⟨o4, h⟩ := ob_e h
      refine g_iast 27 C (W_X11_drop k h_t h_t_lanes h_t_longs h_t_w h_t_tape h_t_firsts h_t_sizes h_t_worths h_t_readWorths h_t_dues h_t_sums h_t_worthOf h_t_lies h_t_pairs h_t_row h_t_hands h_t_paidOn h_t_lates h_t_fixed h_t_items h_t_hand h_t_used s_isKept s_taped s_pieces s_at s_readMany s_readKind s_readCut s_rowSet s_bestSet (upd s_lanes v1.toNatClampNeg (-1 : Int32)) s_longs) 1 rfl o4 rfl dX11_drop_27 ?_
      refine g_aload_n 28 C 0 dX11_drop_28 rfl rfl ?_
      refine g_get 29 C in_X11_drop_X11 0 26 rfl rfl (by decide) fl_X11_drop_65 rfl rfl dX11_drop_29 ?_
      refine g_iload_n 32 C 1 dX11_drop_32 rfl rfl ?_
      obtain ⟨o5, h⟩ := ob_e h
      refine g_iald 33 C 2 rfl o5 dX11_drop_33 ?_
      obtain rfl := Option.some.inj h
      exact g_iret 34 C hA rfl dX11_drop_34 rfl
    · replace h := if_e c h
      refine g_bipush 18 C (-11 : Int32) dX11_drop_18 (by decide) ?_
      obtain rfl := Option.some.inj h
      exact g_iret 20 C hA rfl dX11_drop_20 rfl
  · replace h := it_e c h
    refine g_iconst 7 C (-1 : Int32) dX11_drop_7 (by decide) ?_
    obtain rfl := Option.some.inj h
    exact g_iret 8 C hA rfl dX11_drop_8 rfl
end

/-! X11_item -/
abbrev W_X11_item (k : Nat → ClassId) (h_t : Nat) (h_t_lanes : Nat) (h_t_longs : Nat) (h_t_items : Nat) (h_t_w : Nat) (h_t_tape : Nat) (h_t_firsts : Nat) (h_t_sizes : Nat) (h_t_worths : Nat) (h_t_readWorths : Nat) (h_t_dues : Nat) (h_t_sums : Nat) (h_t_worthOf : Nat) (h_t_lies : Nat) (h_t_pairs : Nat) (h_t_row : Nat) (h_t_hands : Nat) (h_t_paidOn : Nat) (h_t_lates : Nat) (h_t_fixed : Nat) (h_t_hand : Nat) (h_t_used : Nat) (s_isKept : Int32) (s_taped : Int32) (s_pieces : Int32) (s_at : Int32) (s_readMany : Int32) (s_readKind : Int32) (s_readCut : Int32) (s_rowSet : Int32) (s_bestSet : Int32) (s_lanes : Nat → Int32) (s_longs : Nat → Int32) (s_items : Nat → Int64) : va_W := [(h_t, .inr (11, [.ref h_t_w, .int s_isKept, .ref h_t_tape, .int s_taped, .ref h_t_firsts, .ref h_t_sizes, .ref h_t_worths, .int s_pieces, .int s_at, .ref h_t_readWorths, .int s_readMany, .int s_readKind, .int s_readCut, .ref h_t_dues, .ref h_t_sums, .ref h_t_worthOf, .ref h_t_lies, .ref h_t_pairs, .ref h_t_row, .int s_rowSet, .int s_bestSet, .ref h_t_hands, .ref h_t_paidOn, .ref h_t_lates, .ref h_t_fixed, .ref h_t_lanes, .ref h_t_longs, .ref h_t_items, .ref h_t_hand, .ref h_t_used])), (h_t_lanes, .inl (k 0, 4, .inl s_lanes)), (h_t_longs, .inl (k 0, 4, .inl s_longs)), (h_t_items, .inl (k 1, 96, .inr (.inl s_items)))]
def rm_X11_item : Room := { frames := 2, cells := 0, slots := 0, locals := 45 }
theorem in_X11_item_X11 : ∀ w ∈ u_ws RX11 TX11 30, w ∈ wsX11_item := by decide +kernel
theorem ct_X11_item_156 : Cond.constantLong RX11 156 (2 : Int64) ∈ wsX11_item := by decide +kernel
theorem fl_X11_item_68 : Cond.fieldLink RX11 68 "LinkDaysModel" "items" "[J" ∈ wsX11_item := by decide +kernel
theorem pd_X11_item : yX11_item.cls = RX11 ∧ yX11_item.cls ≠ "java/lang/invoke/MethodHandle" ∧ yX11_item.cls ≠ "java/lang/invoke/VarHandle" ∧ (parseMethodDescriptor yX11_item.desc).map (fun d => d.parameters.length) = some 4 := by decide +kernel
section
variable {p : Program} {l : Launch} {e : Env} {s : State} {m : MethodId} {args : Array Value} {below : List Frame} {meth : Method} {c : Code} {D : va_G} {k : Nat → ClassId} {A : Nat → Prop} {w0 : va_W} {sz : Nat}
set_option maxHeartbeats 4000000 in
set_option maxRecDepth 100000 in
theorem ok_B_X11_item_19 {h_t : Nat} {h_t_lanes : Nat} {h_t_longs : Nat} {h_t_items : Nat} {h_t_w : Nat} {h_t_tape : Nat} {h_t_firsts : Nat} {h_t_sizes : Nat} {h_t_worths : Nat} {h_t_readWorths : Nat} {h_t_dues : Nat} {h_t_sums : Nat} {h_t_worthOf : Nat} {h_t_lies : Nat} {h_t_pairs : Nat} {h_t_row : Nat} {h_t_hands : Nat} {h_t_paidOn : Nat} {h_t_lates : Nat} {h_t_fixed : Nat} {h_t_hand : Nat} {h_t_used : Nat} {s_isKept : Int32} {s_taped : Int32} {s_pieces : Int32} {s_at : Int32} {s_readMany : Int32} {s_readKind : Int32} {s_readCut : Int32} {s_rowSet : Int32} {s_bestSet : Int32} {s_lanes : Nat → Int32} {s_longs : Nat → Int32} {s_items : Nat → Int64} {res : Int32 × (Nat → Int64)} (C : CX p s m args meth c cX11_item wsX11_item RX11 7 D k A (some .int)) (hA : A = va_A w0 sz)  (h : B_X11_item_19 s_items = some res) : GG p l e rm_X11_item s m args below meth c (MQ below (cQi D w0 sz res.1 (W_X11_item k h_t h_t_lanes h_t_longs h_t_items h_t_w h_t_tape h_t_firsts h_t_sizes h_t_worths h_t_readWorths h_t_dues h_t_sums h_t_worthOf h_t_lies h_t_pairs h_t_row h_t_hands h_t_paidOn h_t_lates h_t_fixed h_t_hand h_t_used s_isKept s_taped s_pieces s_at s_readMany s_readKind s_readCut s_rowSet s_bestSet s_lanes s_longs res.2)) args s 0 0 A) D A 7 0 0 19 [] [] (W_X11_item k h_t h_t_lanes h_t_longs h_t_items h_t_w h_t_tape h_t_firsts h_t_sizes h_t_worths h_t_readWorths h_t_dues h_t_sums h_t_worthOf h_t_lies h_t_pairs h_t_row h_t_hands h_t_paidOn h_t_lates h_t_fixed h_t_hand h_t_used s_isKept s_taped s_pieces s_at s_readMany s_readKind s_readCut s_rowSet s_bestSet s_lanes s_longs s_items) := by
  unfold B_X11_item_19 at h
  refine g_iconst 19 C (-1 : Int32) dX11_item_19 (by decide) ?_
  obtain rfl := Option.some.inj h
  exact g_iret 20 C hA rfl dX11_item_20 rfl
set_option maxHeartbeats 4000000 in
set_option maxRecDepth 100000 in
theorem k_X11_item {l : Launch} {D : va_G} {k : Nat → ClassId} (h_t : Nat) (h_t_lanes : Nat) (h_t_longs : Nat) (h_t_items : Nat) (h_t_w : Nat) (h_t_tape : Nat) (h_t_firsts : Nat) (h_t_sizes : Nat) (h_t_worths : Nat) (h_t_readWorths : Nat) (h_t_dues : Nat) (h_t_sums : Nat) (h_t_worthOf : Nat) (h_t_lies : Nat) (h_t_pairs : Nat) (h_t_row : Nat) (h_t_hands : Nat) (h_t_paidOn : Nat) (h_t_lates : Nat) (h_t_fixed : Nat) (h_t_hand : Nat) (h_t_used : Nat) (s_isKept : Int32) (s_taped : Int32) (s_pieces : Int32) (s_at : Int32) (s_readMany : Int32) (s_readKind : Int32) (s_readCut : Int32) (s_rowSet : Int32) (s_bestSet : Int32) (s_lanes : Nat → Int32) (s_longs : Nat → Int32) (s_items : Nat → Int64) (v1 : Int32) (v2 : Int32) (v3 : Int32) (v4 : Int64) (res : Int32 × (Nat → Int64)) (h : f_X11_item s_lanes s_longs s_items v1 v2 v3 v4 = some res) (sz : Nat) : Met l yX11_item wsX11_item rm_X11_item (cPre D k [.ref h_t, .int v1, .int v2, .int v3, .long v4] (W_X11_item k h_t h_t_lanes h_t_longs h_t_items h_t_w h_t_tape h_t_firsts h_t_sizes h_t_worths h_t_readWorths h_t_dues h_t_sums h_t_worthOf h_t_lies h_t_pairs h_t_row h_t_hands h_t_paidOn h_t_lates h_t_fixed h_t_hand h_t_used s_isKept s_taped s_pieces s_at s_readMany s_readKind s_readCut s_rowSet s_bestSet s_lanes s_longs s_items) sz) (cQi D (W_X11_item k h_t h_t_lanes h_t_longs h_t_items h_t_w h_t_tape h_t_firsts h_t_sizes h_t_worths h_t_readWorths h_t_dues h_t_sums h_t_worthOf h_t_lies h_t_pairs h_t_row h_t_hands h_t_paidOn h_t_lates h_t_fixed h_t_hand h_t_used s_isKept s_taped s_pieces s_at s_readMany s_readKind s_readCut s_rowSet s_bestSet s_lanes s_longs s_items) sz res.1 (W_X11_item k h_t h_t_lanes h_t_longs h_t_items h_t_w h_t_tape h_t_firsts h_t_sizes h_t_worths h_t_readWorths h_t_dues h_t_sums h_t_worthOf h_t_lies h_t_pairs h_t_row h_t_hands h_t_paidOn h_t_lates h_t_fixed h_t_hand h_t_used s_isKept s_taped s_pieces s_at s_readMany s_readKind s_readCut s_rowSet s_bestSet s_lanes s_longs res.2)) 0 0 (va_A (W_X11_item k h_t h_t_lanes h_t_longs h_t_items h_t_w h_t_tape h_t_firsts h_t_sizes h_t_worths h_t_readWorths h_t_dues h_t_sums h_t_worthOf h_t_lies h_t_pairs h_t_row h_t_hands h_t_paidOn h_t_lates h_t_fixed h_t_hand h_t_used s_isKept s_taped s_pieces s_at s_readMany s_readKind s_readCut s_rowSet s_bestSet s_lanes s_longs s_items) sz) := by
  refine met_of [(0, .ref h_t), (1, .int v1), (2, .int v2), (3, .int v3), (4, .long v4)] (by decide) rfl rfl (Nat.le_of_ble_eq_true rfl) rfl ?_
  intro p e s m args below meth c A hA hsz C
  unfold f_X11_item at h
  refine g_iload_n 0 C 1 dX11_item_0 rfl rfl ?_
  obtain ⟨q1, e2, h⟩ := bi_e h
  refine g_callSi 1 C (As := [.int v1]) [] [0, 1, 2, 3] [0, 1, 2, 3] (W_X11_item k h_t h_t_lanes h_t_longs h_t_items h_t_w h_t_tape h_t_firsts h_t_sizes h_t_worths h_t_readWorths h_t_dues h_t_sums h_t_worthOf h_t_lies h_t_pairs h_t_row h_t_hands h_t_paidOn h_t_lates h_t_fixed h_t_hand h_t_used s_isKept s_taped s_pieces s_at s_readMany s_readKind s_readCut s_rowSet s_bestSet s_lanes s_longs s_items) (fun sz => k_X11_isSheet v1 q1 e2 sz) gX11_item_X11_isSheet rfl pd_X11_isSheet rfl ⟨rfl, rfl, Nat.le_of_ble_eq_true rfl, Nat.le_of_ble_eq_true rfl⟩ (Nat.le_of_ble_eq_true rfl) ⟨Nat.zero_le _, Nat.zero_le _⟩ ⟨rfl, rfl, rfl, rfl, rfl, by decide, rfl⟩ rfl dX11_item_1 ?_
  refine g_if_eq 4 19 C dX11_item_4 (by decide) (fun c => ?_) (fun c => ?_)
  · replace h := it_e c h
    refine GG.sub (lv' := []) [] rfl ?_
    exact ok_B_X11_item_19 C hA h
  · replace h := if_e c h
    refine g_iload_n 7 C 2 dX11_item_7 rfl rfl ?_
    refine g_i2l 8 C dX11_item_8 ?_
    refine g_lconst 9 C (0 : Int64) dX11_item_9 (by decide) ?_
    refine g_ldc2 10 C (2 : Int64) dX11_item_10 ct_X11_item_156 ?_
    obtain ⟨q3, e4, h⟩ := bi_e h
    refine g_callSi 13 C (As := [.long v2.toInt64, .long (0 : Int64), .long (2 : Int64)]) [] [0, 1, 2, 3] [0, 1, 2, 3] (W_X11_item k h_t h_t_lanes h_t_longs h_t_items h_t_w h_t_tape h_t_firsts h_t_sizes h_t_worths h_t_readWorths h_t_dues h_t_sums h_t_worthOf h_t_lies h_t_pairs h_t_row h_t_hands h_t_paidOn h_t_lates h_t_fixed h_t_hand h_t_used s_isKept s_taped s_pieces s_at s_readMany s_readKind s_readCut s_rowSet s_bestSet s_lanes s_longs s_items) (fun sz => k_X11_in v2.toInt64 (0 : Int64) (2 : Int64) q3 e4 sz) gX11_item_X11_in rfl pd_X11_in rfl ⟨rfl, rfl, Nat.le_of_ble_eq_true rfl, Nat.le_of_ble_eq_true rfl⟩ (Nat.le_of_ble_eq_true rfl) ⟨Nat.zero_le _, Nat.zero_le _⟩ ⟨rfl, rfl, rfl, rfl, rfl, by decide, rfl⟩ rfl dX11_item_13 ?_
    refine g_if_ne 16 21 C dX11_item_16 (by decide) (fun c => ?_) (fun c => ?_)
    · replace h := if_e c h
      refine g_aload_n 21 C 0 dX11_item_21 rfl rfl ?_
      refine g_iload_n 22 C 1 dX11_item_22 rfl rfl ?_
      refine g_iload_n 23 C 2 dX11_item_23 rfl rfl ?_
      refine g_iload_n 24 C 3 dX11_item_24 rfl rfl ?_
      refine g_iconst 25 C (1 : Int32) dX11_item_25 (by decide) ?_
      obtain ⟨q5, e6, h⟩ := bi_e h
      refine g_callVi 26 C (As := [.int v1, .int v2, .int v3, .int (1 : Int32)]) [0, 1, 2] [3] [1, 2, 3, 0] (W_X11_item k h_t h_t_lanes h_t_longs h_t_items h_t_w h_t_tape h_t_firsts h_t_sizes h_t_worths h_t_readWorths h_t_dues h_t_sums h_t_worthOf h_t_lies h_t_pairs h_t_row h_t_hands h_t_paidOn h_t_lates h_t_fixed h_t_hand h_t_used s_isKept s_taped s_pieces s_at s_readMany s_readKind s_readCut s_rowSet s_bestSet s_lanes s_longs s_items) 0 (fun sz => k_X11_bars h_t h_t_lanes h_t_longs h_t_w h_t_tape h_t_firsts h_t_sizes h_t_worths h_t_readWorths h_t_dues h_t_sums h_t_worthOf h_t_lies h_t_pairs h_t_row h_t_hands h_t_paidOn h_t_lates h_t_fixed h_t_items h_t_hand h_t_used s_isKept s_taped s_pieces s_at s_readMany s_readKind s_readCut s_rowSet s_bestSet s_lanes s_longs v1 v2 v3 (1 : Int32) q5 e6 sz) gX11_item_X11_bars rfl pd_X11_bars rfl rfl rfl ⟨rfl, rfl, Nat.le_of_ble_eq_true rfl, Nat.le_of_ble_eq_true rfl⟩ (Nat.le_of_ble_eq_true rfl) ⟨Nat.zero_le _, Nat.zero_le _⟩ ⟨rfl, rfl, rfl, rfl, rfl, by decide, rfl⟩ rfl dX11_item_26 ?_
      refine g_istore 29 C [(6, .int q5), (0, .ref h_t), (1, .int v1), (2, .int v2), (3, .int v3), (4, .long v4)] dX11_item_29 (by decide) rfl ?_
      refine g_iload 31 C 0 dX11_item_31 rfl ?_
      refine g_if_eq 33 39 C dX11_item_33 (by decide) (fun c => ?_) (fun c => ?_)
      · replace h := it_e c h
        refine g_aload_n 39 C 1 dX11_item_39 rfl rfl ?_
        refine g_get 40 C in_X11_item_X11 0 27 rfl rfl (by decide) fl_X11_item_68 rfl rfl dX11_item_40 ?_
        refine g_bipush 43 C (24 : Int32) dX11_item_43 (by decide) ?_
        refine g_iload_n 45 C 2 dX11_item_45 rfl rfl ?_
        refine g_imul 46 C dX11_item_46 ?_
        refine g_iload_n 47 C 4 dX11_item_47 rfl rfl ?_
        refine g_iadd 48 C dX11_item_48 ?_
        refine g_iload_n 49 C 3 dX11_item_49 rfl rfl ?_
        refine g_lload 50 C 5 dX11_item_50 rfl ?_
        obtain ⟨q7, e8, h⟩ := bi_e h
        refine g_callSl 52 C (As := [.int v2, .long v4]) [] [0, 1, 2, 3] [0, 1, 2, 3] (W_X11_item k h_t h_t_lanes h_t_longs h_t_items h_t_w h_t_tape h_t_firsts h_t_sizes h_t_worths h_t_readWorths h_t_dues h_t_sums h_t_worthOf h_t_lies h_t_pairs h_t_row h_t_hands h_t_paidOn h_t_lates h_t_fixed h_t_hand h_t_used s_isKept s_taped s_pieces s_at s_readMany s_readKind s_readCut s_rowSet s_bestSet s_lanes s_longs s_items) (fun sz => k_X11_cutTo v2 v4 q7 e8 sz) gX11_item_X11_cutTo rfl pd_X11_cutTo rfl ⟨rfl, rfl, Nat.le_of_ble_eq_true rfl, Nat.le_of_ble_eq_true rfl⟩ (Nat.le_of_ble_eq_true rfl) ⟨Nat.zero_le _, Nat.zero_le _⟩ ⟨rfl, rfl, rfl, rfl, rfl, by decide, rfl⟩ rfl dX11_item_52 ?_
        obtain ⟨o9, h⟩ := ob_e h
        refine g_last 55 C (W_X11_item k h_t h_t_lanes h_t_longs h_t_items h_t_w h_t_tape h_t_firsts h_t_sizes h_t_worths h_t_readWorths h_t_dues h_t_sums h_t_worthOf h_t_lies h_t_pairs h_t_row h_t_hands h_t_paidOn h_t_lates h_t_fixed h_t_hand h_t_used s_isKept s_taped s_pieces s_at s_readMany s_readKind s_readCut s_rowSet s_bestSet s_lanes s_longs (vp_updL s_items (((24 : Int32) * v1) + v3).toNatClampNeg q7)) 3 rfl o9 rfl dX11_item_55 ?_
        refine g_iconst 56 C (1 : Int32) dX11_item_56 (by decide) ?_
        obtain rfl := Option.some.inj h
        exact g_iret 57 C hA rfl dX11_item_57 rfl
      · replace h := if_e c h
        refine g_iload 36 C 0 dX11_item_36 rfl ?_
        obtain rfl := Option.some.inj h
        exact g_iret 38 C hA rfl dX11_item_38 rfl
    · replace h := it_e c h
      refine GG.sub (lv' := []) [] rfl ?_
      exact ok_B_X11_item_19 C hA h
end

/-! X11_copy -/
abbrev W_X11_copy (k : Nat → ClassId) (h_t : Nat) (h_t_lanes : Nat) (h_t_longs : Nat) (h_t_items : Nat) (h_t_hand : Nat) (h_t_w : Nat) (h_t_tape : Nat) (h_t_firsts : Nat) (h_t_sizes : Nat) (h_t_worths : Nat) (h_t_readWorths : Nat) (h_t_dues : Nat) (h_t_sums : Nat) (h_t_worthOf : Nat) (h_t_lies : Nat) (h_t_pairs : Nat) (h_t_row : Nat) (h_t_hands : Nat) (h_t_paidOn : Nat) (h_t_lates : Nat) (h_t_fixed : Nat) (h_t_used : Nat) (s_isKept : Int32) (s_taped : Int32) (s_pieces : Int32) (s_at : Int32) (s_readMany : Int32) (s_readKind : Int32) (s_readCut : Int32) (s_rowSet : Int32) (s_bestSet : Int32) (s_lanes : Nat → Int32) (s_longs : Nat → Int32) (s_items : Nat → Int64) (s_hand : Nat → Int64) : va_W := [(h_t, .inr (11, [.ref h_t_w, .int s_isKept, .ref h_t_tape, .int s_taped, .ref h_t_firsts, .ref h_t_sizes, .ref h_t_worths, .int s_pieces, .int s_at, .ref h_t_readWorths, .int s_readMany, .int s_readKind, .int s_readCut, .ref h_t_dues, .ref h_t_sums, .ref h_t_worthOf, .ref h_t_lies, .ref h_t_pairs, .ref h_t_row, .int s_rowSet, .int s_bestSet, .ref h_t_hands, .ref h_t_paidOn, .ref h_t_lates, .ref h_t_fixed, .ref h_t_lanes, .ref h_t_longs, .ref h_t_items, .ref h_t_hand, .ref h_t_used])), (h_t_lanes, .inl (k 0, 4, .inl s_lanes)), (h_t_longs, .inl (k 0, 4, .inl s_longs)), (h_t_items, .inl (k 1, 96, .inr (.inl s_items))), (h_t_hand, .inl (k 1, 24, .inr (.inl s_hand)))]
def rm_X11_copy : Room := { frames := 2, cells := 0, slots := 0, locals := 45 }
theorem in_X11_copy_X11 : ∀ w ∈ u_ws RX11 TX11 30, w ∈ wsX11_copy := by decide +kernel
theorem fl_X11_copy_62 : Cond.fieldLink RX11 62 "LinkDaysModel" "lanes" "[I" ∈ wsX11_copy := by decide +kernel
theorem fl_X11_copy_68 : Cond.fieldLink RX11 68 "LinkDaysModel" "items" "[J" ∈ wsX11_copy := by decide +kernel
theorem fl_X11_copy_71 : Cond.fieldLink RX11 71 "LinkDaysModel" "hand" "[J" ∈ wsX11_copy := by decide +kernel
theorem pd_X11_copy : yX11_copy.cls = RX11 ∧ yX11_copy.cls ≠ "java/lang/invoke/MethodHandle" ∧ yX11_copy.cls ≠ "java/lang/invoke/VarHandle" ∧ (parseMethodDescriptor yX11_copy.desc).map (fun d => d.parameters.length) = some 5 := by decide +kernel
section
variable {p : Program} {l : Launch} {e : Env} {s : State} {m : MethodId} {args : Array Value} {below : List Frame} {meth : Method} {c : Code} {D : va_G} {k : Nat → ClassId} {A : Nat → Prop} {w0 : va_W} {sz : Nat}
set_option maxHeartbeats 4000000 in
set_option maxRecDepth 100000 in
theorem ok_B_X11_copy_14 {h_t : Nat} {h_t_lanes : Nat} {h_t_longs : Nat} {h_t_items : Nat} {h_t_hand : Nat} {h_t_w : Nat} {h_t_tape : Nat} {h_t_firsts : Nat} {h_t_sizes : Nat} {h_t_worths : Nat} {h_t_readWorths : Nat} {h_t_dues : Nat} {h_t_sums : Nat} {h_t_worthOf : Nat} {h_t_lies : Nat} {h_t_pairs : Nat} {h_t_row : Nat} {h_t_hands : Nat} {h_t_paidOn : Nat} {h_t_lates : Nat} {h_t_fixed : Nat} {h_t_used : Nat} {s_isKept : Int32} {s_taped : Int32} {s_pieces : Int32} {s_at : Int32} {s_readMany : Int32} {s_readKind : Int32} {s_readCut : Int32} {s_rowSet : Int32} {s_bestSet : Int32} {s_lanes : Nat → Int32} {s_longs : Nat → Int32} {s_items : Nat → Int64} {s_hand : Nat → Int64} {res : Int32 × (Nat → Int64) × (Nat → Int64)} (C : CX p s m args meth c cX11_copy wsX11_copy RX11 8 D k A (some .int)) (hA : A = va_A w0 sz)  (h : B_X11_copy_14 s_items s_hand = some res) : GG p l e rm_X11_copy s m args below meth c (MQ below (cQi D w0 sz res.1 (W_X11_copy k h_t h_t_lanes h_t_longs h_t_items h_t_hand h_t_w h_t_tape h_t_firsts h_t_sizes h_t_worths h_t_readWorths h_t_dues h_t_sums h_t_worthOf h_t_lies h_t_pairs h_t_row h_t_hands h_t_paidOn h_t_lates h_t_fixed h_t_used s_isKept s_taped s_pieces s_at s_readMany s_readKind s_readCut s_rowSet s_bestSet s_lanes s_longs res.2.1 res.2.2)) args s 0 0 A) D A 8 0 0 14 [] [] (W_X11_copy k h_t h_t_lanes h_t_longs h_t_items h_t_hand h_t_w h_t_tape h_t_firsts h_t_sizes h_t_worths h_t_readWorths h_t_dues h_t_sums h_t_worthOf h_t_lies h_t_pairs h_t_row h_t_hands h_t_paidOn h_t_lates h_t_fixed h_t_used s_isKept s_taped s_pieces s_at s_readMany s_readKind s_readCut s_rowSet s_bestSet s_lanes s_longs s_items s_hand) := by
  unfold B_X11_copy_14 at h
  refine g_iconst 14 C (-1 : Int32) dX11_copy_14 (by decide) ?_
  obtain rfl := Option.some.inj h
  exact g_iret 15 C hA rfl dX11_copy_15 rfl
set_option maxHeartbeats 4000000 in
set_option maxRecDepth 100000 in
theorem ok_B_X11_copy_34 {h_t : Nat} {h_t_lanes : Nat} {h_t_longs : Nat} {h_t_items : Nat} {h_t_hand : Nat} {h_t_w : Nat} {h_t_tape : Nat} {h_t_firsts : Nat} {h_t_sizes : Nat} {h_t_worths : Nat} {h_t_readWorths : Nat} {h_t_dues : Nat} {h_t_sums : Nat} {h_t_worthOf : Nat} {h_t_lies : Nat} {h_t_pairs : Nat} {h_t_row : Nat} {h_t_hands : Nat} {h_t_paidOn : Nat} {h_t_lates : Nat} {h_t_fixed : Nat} {h_t_used : Nat} {s_isKept : Int32} {s_taped : Int32} {s_pieces : Int32} {s_at : Int32} {s_readMany : Int32} {s_readKind : Int32} {s_readCut : Int32} {s_rowSet : Int32} {s_bestSet : Int32} {s_lanes : Nat → Int32} {s_longs : Nat → Int32} {s_items : Nat → Int64} {s_hand : Nat → Int64} {res : Int32 × (Nat → Int64) × (Nat → Int64)} (C : CX p s m args meth c cX11_copy wsX11_copy RX11 8 D k A (some .int)) (hA : A = va_A w0 sz)  (h : B_X11_copy_34 s_items s_hand = some res) : GG p l e rm_X11_copy s m args below meth c (MQ below (cQi D w0 sz res.1 (W_X11_copy k h_t h_t_lanes h_t_longs h_t_items h_t_hand h_t_w h_t_tape h_t_firsts h_t_sizes h_t_worths h_t_readWorths h_t_dues h_t_sums h_t_worthOf h_t_lies h_t_pairs h_t_row h_t_hands h_t_paidOn h_t_lates h_t_fixed h_t_used s_isKept s_taped s_pieces s_at s_readMany s_readKind s_readCut s_rowSet s_bestSet s_lanes s_longs res.2.1 res.2.2)) args s 0 0 A) D A 8 0 0 34 [] [] (W_X11_copy k h_t h_t_lanes h_t_longs h_t_items h_t_hand h_t_w h_t_tape h_t_firsts h_t_sizes h_t_worths h_t_readWorths h_t_dues h_t_sums h_t_worthOf h_t_lies h_t_pairs h_t_row h_t_hands h_t_paidOn h_t_lates h_t_fixed h_t_used s_isKept s_taped s_pieces s_at s_readMany s_readKind s_readCut s_rowSet s_bestSet s_lanes s_longs s_items s_hand) := by
  unfold B_X11_copy_34 at h
  refine g_bipush 34 C (-11 : Int32) dX11_copy_34 (by decide) ?_
  obtain rfl := Option.some.inj h
  exact g_iret 36 C hA rfl dX11_copy_36 rfl
set_option maxHeartbeats 4000000 in
set_option maxRecDepth 100000 in
theorem ok_L_X11_copy_91 {h_t : Nat} {h_t_lanes : Nat} {h_t_longs : Nat} {h_t_items : Nat} {h_t_hand : Nat} {h_t_w : Nat} {h_t_tape : Nat} {h_t_firsts : Nat} {h_t_sizes : Nat} {h_t_worths : Nat} {h_t_readWorths : Nat} {h_t_dues : Nat} {h_t_sums : Nat} {h_t_worthOf : Nat} {h_t_lies : Nat} {h_t_pairs : Nat} {h_t_row : Nat} {h_t_hands : Nat} {h_t_paidOn : Nat} {h_t_lates : Nat} {h_t_fixed : Nat} {h_t_used : Nat} {s_isKept : Int32} {s_taped : Int32} {s_pieces : Int32} {s_at : Int32} {s_readMany : Int32} {s_readKind : Int32} {s_readCut : Int32} {s_rowSet : Int32} {s_bestSet : Int32} {s_lanes : Nat → Int32} {s_longs : Nat → Int32} {s_items : Nat → Int64} {v1 : Int32} {v2 : Int32} {v3 : Int32} {v4 : Int32} {v5 : Int32} {res : Int32 × (Nat → Int64) × (Nat → Int64)} (C : CX p s m args meth c cX11_copy wsX11_copy RX11 8 D k A (some .int)) (hA : A = va_A w0 sz) {kx : Int32 × (Nat → Int64) → Option (Int32 × (Nat → Int64) × (Nat → Int64))} (hx : ∀ t : Int32 × (Nat → Int64), kx t = some res → GG p l e rm_X11_copy s m args below meth c (MQ below (cQi D w0 sz res.1 (W_X11_copy k h_t h_t_lanes h_t_longs h_t_items h_t_hand h_t_w h_t_tape h_t_firsts h_t_sizes h_t_worths h_t_readWorths h_t_dues h_t_sums h_t_worthOf h_t_lies h_t_pairs h_t_row h_t_hands h_t_paidOn h_t_lates h_t_fixed h_t_used s_isKept s_taped s_pieces s_at s_readMany s_readKind s_readCut s_rowSet s_bestSet s_lanes s_longs res.2.1 res.2.2)) args s 0 0 A) D A 8 0 0 125 [(0, .ref h_t), (3, .int v3), (4, .int v4), (5, .int v5)] [] (W_X11_copy k h_t h_t_lanes h_t_longs h_t_items h_t_hand h_t_w h_t_tape h_t_firsts h_t_sizes h_t_worths h_t_readWorths h_t_dues h_t_sums h_t_worthOf h_t_lies h_t_pairs h_t_row h_t_hands h_t_paidOn h_t_lates h_t_fixed h_t_used s_isKept s_taped s_pieces s_at s_readMany s_readKind s_readCut s_rowSet s_bestSet s_lanes s_longs s_items t.2)) : ∀ (n : Nat) (t : Int32 × (Nat → Int64)), L_X11_copy_91 s_items v1 v2 v5 kx n t = some res → GG p l e rm_X11_copy s m args below meth c (MQ below (cQi D w0 sz res.1 (W_X11_copy k h_t h_t_lanes h_t_longs h_t_items h_t_hand h_t_w h_t_tape h_t_firsts h_t_sizes h_t_worths h_t_readWorths h_t_dues h_t_sums h_t_worthOf h_t_lies h_t_pairs h_t_row h_t_hands h_t_paidOn h_t_lates h_t_fixed h_t_used s_isKept s_taped s_pieces s_at s_readMany s_readKind s_readCut s_rowSet s_bestSet s_lanes s_longs res.2.1 res.2.2)) args s 0 0 A) D A 8 0 0 91 [(0, .ref h_t), (1, .int v1), (2, .int v2), (3, .int v3), (4, .int v4), (5, .int v5), (7, .int t.1)] [] (W_X11_copy k h_t h_t_lanes h_t_longs h_t_items h_t_hand h_t_w h_t_tape h_t_firsts h_t_sizes h_t_worths h_t_readWorths h_t_dues h_t_sums h_t_worthOf h_t_lies h_t_pairs h_t_row h_t_hands h_t_paidOn h_t_lates h_t_fixed h_t_used s_isKept s_taped s_pieces s_at s_readMany s_readKind s_readCut s_rowSet s_bestSet s_lanes s_longs s_items t.2) := by
  intro n
  induction n with
  | zero => intro t h; cases h
  | succ n ih =>
    intro t h
    obtain ⟨v7, s_hand⟩ := t
    replace h : LB_X11_copy_91 s_items v1 v2 v5 kx (L_X11_copy_91 s_items v1 v2 v5 kx n) v7 s_hand = some res := h
    have hr := ih
    unfold LB_X11_copy_91 at h
    refine g_iload 91 C 6 dX11_copy_91 rfl ?_
    refine g_iload 93 C 5 dX11_copy_93 rfl ?_
    refine g_icmp_ge 95 125 C dX11_copy_95 (by decide) (fun c => ?_) (fun c => ?_)
    · replace h := it_e c h
      refine GG.sub (lv' := [(0, .ref h_t), (3, .int v3), (4, .int v4), (5, .int v5)]) [0, 3, 4, 5] rfl ?_
      exact hx (v7, s_hand) h
    · replace h := if_e c h
      refine g_aload_n 98 C 0 dX11_copy_98 rfl rfl ?_
      refine g_get 99 C in_X11_copy_X11 0 28 rfl rfl (by decide) fl_X11_copy_71 rfl rfl dX11_copy_99 ?_
      refine g_iload 102 C 6 dX11_copy_102 rfl ?_
      refine g_aload_n 104 C 0 dX11_copy_104 rfl rfl ?_
      refine g_get 105 C in_X11_copy_X11 0 27 rfl rfl (by decide) fl_X11_copy_68 rfl rfl dX11_copy_105 ?_
      refine g_bipush 108 C (24 : Int32) dX11_copy_108 (by decide) ?_
      refine g_iload_n 110 C 1 dX11_copy_110 rfl rfl ?_
      refine g_imul 111 C dX11_copy_111 ?_
      refine g_iload_n 112 C 2 dX11_copy_112 rfl rfl ?_
      refine g_iadd 113 C dX11_copy_113 ?_
      refine g_iload 114 C 6 dX11_copy_114 rfl ?_
      refine g_iadd 116 C dX11_copy_116 ?_
      obtain ⟨o10, h⟩ := ob_e h
      refine g_lald 117 C 3 rfl o10 dX11_copy_117 ?_
      obtain ⟨o11, h⟩ := ob_e h
      refine g_last 118 C (W_X11_copy k h_t h_t_lanes h_t_longs h_t_items h_t_hand h_t_w h_t_tape h_t_firsts h_t_sizes h_t_worths h_t_readWorths h_t_dues h_t_sums h_t_worthOf h_t_lies h_t_pairs h_t_row h_t_hands h_t_paidOn h_t_lates h_t_fixed h_t_used s_isKept s_taped s_pieces s_at s_readMany s_readKind s_readCut s_rowSet s_bestSet s_lanes s_longs s_items (vp_updL s_hand v7.toNatClampNeg (s_items ((((24 : Int32) * v1) + v2) + v7).toNatClampNeg))) 4 rfl o11 rfl dX11_copy_118 ?_
      refine g_iinc 119 C 6 (1 : Int32) [(7, .int (v7 + (1 : Int32))), (0, .ref h_t), (1, .int v1), (2, .int v2), (3, .int v3), (4, .int v4), (5, .int v5)] dX11_copy_119 rfl (by decide) (by decide) rfl ?_
      refine g_goto 122 91 C dX11_copy_122 (by decide) ?_
      refine GG.sub (lv' := [(0, .ref h_t), (1, .int v1), (2, .int v2), (3, .int v3), (4, .int v4), (5, .int v5), (7, .int (v7 + (1 : Int32)))]) [1, 2, 3, 4, 5, 6, 0] rfl ?_
      exact hr ((v7 + (1 : Int32)), (vp_updL s_hand v7.toNatClampNeg (s_items ((((24 : Int32) * v1) + v2) + v7).toNatClampNeg))) h
set_option maxHeartbeats 4000000 in
set_option maxRecDepth 100000 in
theorem ok_L_X11_copy_128 {h_t : Nat} {h_t_lanes : Nat} {h_t_longs : Nat} {h_t_items : Nat} {h_t_hand : Nat} {h_t_w : Nat} {h_t_tape : Nat} {h_t_firsts : Nat} {h_t_sizes : Nat} {h_t_worths : Nat} {h_t_readWorths : Nat} {h_t_dues : Nat} {h_t_sums : Nat} {h_t_worthOf : Nat} {h_t_lies : Nat} {h_t_pairs : Nat} {h_t_row : Nat} {h_t_hands : Nat} {h_t_paidOn : Nat} {h_t_lates : Nat} {h_t_fixed : Nat} {h_t_used : Nat} {s_isKept : Int32} {s_taped : Int32} {s_pieces : Int32} {s_at : Int32} {s_readMany : Int32} {s_readKind : Int32} {s_readCut : Int32} {s_rowSet : Int32} {s_bestSet : Int32} {s_lanes : Nat → Int32} {s_longs : Nat → Int32} {s_hand : Nat → Int64} {v3 : Int32} {v4 : Int32} {v5 : Int32} {res : Int32 × (Nat → Int64) × (Nat → Int64)} (C : CX p s m args meth c cX11_copy wsX11_copy RX11 8 D k A (some .int)) (hA : A = va_A w0 sz) {kx : Int32 × (Nat → Int64) → Option (Int32 × (Nat → Int64) × (Nat → Int64))} (hx : ∀ t : Int32 × (Nat → Int64), kx t = some res → GG p l e rm_X11_copy s m args below meth c (MQ below (cQi D w0 sz res.1 (W_X11_copy k h_t h_t_lanes h_t_longs h_t_items h_t_hand h_t_w h_t_tape h_t_firsts h_t_sizes h_t_worths h_t_readWorths h_t_dues h_t_sums h_t_worthOf h_t_lies h_t_pairs h_t_row h_t_hands h_t_paidOn h_t_lates h_t_fixed h_t_used s_isKept s_taped s_pieces s_at s_readMany s_readKind s_readCut s_rowSet s_bestSet s_lanes s_longs res.2.1 res.2.2)) args s 0 0 A) D A 8 0 0 163 [(5, .int v5)] [] (W_X11_copy k h_t h_t_lanes h_t_longs h_t_items h_t_hand h_t_w h_t_tape h_t_firsts h_t_sizes h_t_worths h_t_readWorths h_t_dues h_t_sums h_t_worthOf h_t_lies h_t_pairs h_t_row h_t_hands h_t_paidOn h_t_lates h_t_fixed h_t_used s_isKept s_taped s_pieces s_at s_readMany s_readKind s_readCut s_rowSet s_bestSet s_lanes s_longs t.2 s_hand)) : ∀ (n : Nat) (t : Int32 × (Nat → Int64)), L_X11_copy_128 s_hand v3 v4 v5 kx n t = some res → GG p l e rm_X11_copy s m args below meth c (MQ below (cQi D w0 sz res.1 (W_X11_copy k h_t h_t_lanes h_t_longs h_t_items h_t_hand h_t_w h_t_tape h_t_firsts h_t_sizes h_t_worths h_t_readWorths h_t_dues h_t_sums h_t_worthOf h_t_lies h_t_pairs h_t_row h_t_hands h_t_paidOn h_t_lates h_t_fixed h_t_used s_isKept s_taped s_pieces s_at s_readMany s_readKind s_readCut s_rowSet s_bestSet s_lanes s_longs res.2.1 res.2.2)) args s 0 0 A) D A 8 0 0 128 [(0, .ref h_t), (3, .int v3), (4, .int v4), (5, .int v5), (7, .int t.1)] [] (W_X11_copy k h_t h_t_lanes h_t_longs h_t_items h_t_hand h_t_w h_t_tape h_t_firsts h_t_sizes h_t_worths h_t_readWorths h_t_dues h_t_sums h_t_worthOf h_t_lies h_t_pairs h_t_row h_t_hands h_t_paidOn h_t_lates h_t_fixed h_t_used s_isKept s_taped s_pieces s_at s_readMany s_readKind s_readCut s_rowSet s_bestSet s_lanes s_longs t.2 s_hand) := by
  intro n
  induction n with
  | zero => intro t h; cases h
  | succ n ih =>
    intro t h
    obtain ⟨v7, s_items⟩ := t
    replace h : LB_X11_copy_128 s_hand v3 v4 v5 kx (L_X11_copy_128 s_hand v3 v4 v5 kx n) v7 s_items = some res := h
    have hr := ih
    unfold LB_X11_copy_128 at h
    refine g_iload 128 C 4 dX11_copy_128 rfl ?_
    refine g_iload 130 C 3 dX11_copy_130 rfl ?_
    refine g_icmp_ge 132 163 C dX11_copy_132 (by decide) (fun c => ?_) (fun c => ?_)
    · replace h := it_e c h
      refine GG.sub (lv' := [(5, .int v5)]) [3] rfl ?_
      exact hx (v7, s_items) h
    · replace h := if_e c h
      refine g_aload_n 135 C 0 dX11_copy_135 rfl rfl ?_
      refine g_get 136 C in_X11_copy_X11 0 27 rfl rfl (by decide) fl_X11_copy_68 rfl rfl dX11_copy_136 ?_
      refine g_bipush 139 C (24 : Int32) dX11_copy_139 (by decide) ?_
      refine g_iload_n 141 C 1 dX11_copy_141 rfl rfl ?_
      refine g_imul 142 C dX11_copy_142 ?_
      refine g_iload 143 C 2 dX11_copy_143 rfl ?_
      refine g_iadd 145 C dX11_copy_145 ?_
      refine g_iload 146 C 4 dX11_copy_146 rfl ?_
      refine g_iadd 148 C dX11_copy_148 ?_
      refine g_aload_n 149 C 0 dX11_copy_149 rfl rfl ?_
      refine g_get 150 C in_X11_copy_X11 0 28 rfl rfl (by decide) fl_X11_copy_71 rfl rfl dX11_copy_150 ?_
      refine g_iload 153 C 4 dX11_copy_153 rfl ?_
      obtain ⟨o12, h⟩ := ob_e h
      refine g_lald 155 C 4 rfl o12 dX11_copy_155 ?_
      obtain ⟨o13, h⟩ := ob_e h
      refine g_last 156 C (W_X11_copy k h_t h_t_lanes h_t_longs h_t_items h_t_hand h_t_w h_t_tape h_t_firsts h_t_sizes h_t_worths h_t_readWorths h_t_dues h_t_sums h_t_worthOf h_t_lies h_t_pairs h_t_row h_t_hands h_t_paidOn h_t_lates h_t_fixed h_t_used s_isKept s_taped s_pieces s_at s_readMany s_readKind s_readCut s_rowSet s_bestSet s_lanes s_longs (vp_updL s_items ((((24 : Int32) * v3) + v4) + v7).toNatClampNeg (s_hand v7.toNatClampNeg)) s_hand) 3 rfl o13 rfl dX11_copy_156 ?_
      refine g_iinc 157 C 4 (1 : Int32) [(7, .int (v7 + (1 : Int32))), (0, .ref h_t), (3, .int v3), (4, .int v4), (5, .int v5)] dX11_copy_157 rfl (by decide) (by decide) rfl ?_
      refine g_goto 160 128 C dX11_copy_160 (by decide) ?_
      refine GG.sub (lv' := [(0, .ref h_t), (3, .int v3), (4, .int v4), (5, .int v5), (7, .int (v7 + (1 : Int32)))]) [1, 2, 3, 4, 0] rfl ?_
      exact hr ((v7 + (1 : Int32)), (vp_updL s_items ((((24 : Int32) * v3) + v4) + v7).toNatClampNeg (s_hand v7.toNatClampNeg))) h
set_option maxHeartbeats 4000000 in
set_option maxRecDepth 100000 in
theorem ok_B_X11_copy_163 {h_t : Nat} {h_t_lanes : Nat} {h_t_longs : Nat} {h_t_items : Nat} {h_t_hand : Nat} {h_t_w : Nat} {h_t_tape : Nat} {h_t_firsts : Nat} {h_t_sizes : Nat} {h_t_worths : Nat} {h_t_readWorths : Nat} {h_t_dues : Nat} {h_t_sums : Nat} {h_t_worthOf : Nat} {h_t_lies : Nat} {h_t_pairs : Nat} {h_t_row : Nat} {h_t_hands : Nat} {h_t_paidOn : Nat} {h_t_lates : Nat} {h_t_fixed : Nat} {h_t_used : Nat} {s_isKept : Int32} {s_taped : Int32} {s_pieces : Int32} {s_at : Int32} {s_readMany : Int32} {s_readKind : Int32} {s_readCut : Int32} {s_rowSet : Int32} {s_bestSet : Int32} {s_lanes : Nat → Int32} {s_longs : Nat → Int32} {s_items : Nat → Int64} {s_hand : Nat → Int64} {v5 : Int32} {res : Int32 × (Nat → Int64) × (Nat → Int64)} (C : CX p s m args meth c cX11_copy wsX11_copy RX11 8 D k A (some .int)) (hA : A = va_A w0 sz)  (h : B_X11_copy_163 s_items s_hand v5 = some res) : GG p l e rm_X11_copy s m args below meth c (MQ below (cQi D w0 sz res.1 (W_X11_copy k h_t h_t_lanes h_t_longs h_t_items h_t_hand h_t_w h_t_tape h_t_firsts h_t_sizes h_t_worths h_t_readWorths h_t_dues h_t_sums h_t_worthOf h_t_lies h_t_pairs h_t_row h_t_hands h_t_paidOn h_t_lates h_t_fixed h_t_used s_isKept s_taped s_pieces s_at s_readMany s_readKind s_readCut s_rowSet s_bestSet s_lanes s_longs res.2.1 res.2.2)) args s 0 0 A) D A 8 0 0 163 [(5, .int v5)] [] (W_X11_copy k h_t h_t_lanes h_t_longs h_t_items h_t_hand h_t_w h_t_tape h_t_firsts h_t_sizes h_t_worths h_t_readWorths h_t_dues h_t_sums h_t_worthOf h_t_lies h_t_pairs h_t_row h_t_hands h_t_paidOn h_t_lates h_t_fixed h_t_used s_isKept s_taped s_pieces s_at s_readMany s_readKind s_readCut s_rowSet s_bestSet s_lanes s_longs s_items s_hand) := by
  unfold B_X11_copy_163 at h
  refine g_iload 163 C 0 dX11_copy_163 rfl ?_
  obtain rfl := Option.some.inj h
  exact g_iret 165 C hA rfl dX11_copy_165 rfl
set_option maxHeartbeats 4000000 in
set_option maxRecDepth 100000 in
theorem ok_B_X11_copy_125 {h_t : Nat} {h_t_lanes : Nat} {h_t_longs : Nat} {h_t_items : Nat} {h_t_hand : Nat} {h_t_w : Nat} {h_t_tape : Nat} {h_t_firsts : Nat} {h_t_sizes : Nat} {h_t_worths : Nat} {h_t_readWorths : Nat} {h_t_dues : Nat} {h_t_sums : Nat} {h_t_worthOf : Nat} {h_t_lies : Nat} {h_t_pairs : Nat} {h_t_row : Nat} {h_t_hands : Nat} {h_t_paidOn : Nat} {h_t_lates : Nat} {h_t_fixed : Nat} {h_t_used : Nat} {s_isKept : Int32} {s_taped : Int32} {s_pieces : Int32} {s_at : Int32} {s_readMany : Int32} {s_readKind : Int32} {s_readCut : Int32} {s_rowSet : Int32} {s_bestSet : Int32} {s_lanes : Nat → Int32} {s_longs : Nat → Int32} {s_items : Nat → Int64} {s_hand : Nat → Int64} {v3 : Int32} {v4 : Int32} {v5 : Int32} {res : Int32 × (Nat → Int64) × (Nat → Int64)} (C : CX p s m args meth c cX11_copy wsX11_copy RX11 8 D k A (some .int)) (hA : A = va_A w0 sz)  (h : B_X11_copy_125 s_items s_hand v3 v4 v5 = some res) : GG p l e rm_X11_copy s m args below meth c (MQ below (cQi D w0 sz res.1 (W_X11_copy k h_t h_t_lanes h_t_longs h_t_items h_t_hand h_t_w h_t_tape h_t_firsts h_t_sizes h_t_worths h_t_readWorths h_t_dues h_t_sums h_t_worthOf h_t_lies h_t_pairs h_t_row h_t_hands h_t_paidOn h_t_lates h_t_fixed h_t_used s_isKept s_taped s_pieces s_at s_readMany s_readKind s_readCut s_rowSet s_bestSet s_lanes s_longs res.2.1 res.2.2)) args s 0 0 A) D A 8 0 0 125 [(0, .ref h_t), (3, .int v3), (4, .int v4), (5, .int v5)] [] (W_X11_copy k h_t h_t_lanes h_t_longs h_t_items h_t_hand h_t_w h_t_tape h_t_firsts h_t_sizes h_t_worths h_t_readWorths h_t_dues h_t_sums h_t_worthOf h_t_lies h_t_pairs h_t_row h_t_hands h_t_paidOn h_t_lates h_t_fixed h_t_used s_isKept s_taped s_pieces s_at s_readMany s_readKind s_readCut s_rowSet s_bestSet s_lanes s_longs s_items s_hand) := by
  unfold B_X11_copy_125 at h
  refine g_iconst 125 C (0 : Int32) dX11_copy_125 (by decide) ?_
  refine g_istore 126 C [(7, .int (0 : Int32)), (0, .ref h_t), (3, .int v3), (4, .int v4), (5, .int v5)] dX11_copy_126 (by decide) rfl ?_
  refine GG.sub (lv' := [(0, .ref h_t), (3, .int v3), (4, .int v4), (5, .int v5), (7, .int (0 : Int32))]) [1, 2, 3, 4, 0] rfl ?_
  exact ok_L_X11_copy_128 C hA (fun t h => by
    refine GG.sub (lv' := [(5, .int v5)]) [0] rfl ?_
    exact ok_B_X11_copy_163 C hA h) FUEL ((0 : Int32), s_items) h
set_option maxHeartbeats 4000000 in
set_option maxRecDepth 100000 in
theorem ok_B_X11_copy_78 {h_t : Nat} {h_t_lanes : Nat} {h_t_longs : Nat} {h_t_items : Nat} {h_t_hand : Nat} {h_t_w : Nat} {h_t_tape : Nat} {h_t_firsts : Nat} {h_t_sizes : Nat} {h_t_worths : Nat} {h_t_readWorths : Nat} {h_t_dues : Nat} {h_t_sums : Nat} {h_t_worthOf : Nat} {h_t_lies : Nat} {h_t_pairs : Nat} {h_t_row : Nat} {h_t_hands : Nat} {h_t_paidOn : Nat} {h_t_lates : Nat} {h_t_fixed : Nat} {h_t_used : Nat} {s_isKept : Int32} {s_taped : Int32} {s_pieces : Int32} {s_at : Int32} {s_readMany : Int32} {s_readKind : Int32} {s_readCut : Int32} {s_rowSet : Int32} {s_bestSet : Int32} {s_lanes : Nat → Int32} {s_longs : Nat → Int32} {s_items : Nat → Int64} {s_hand : Nat → Int64} {v1 : Int32} {v2 : Int32} {v3 : Int32} {v4 : Int32} {v5 : Int32} {x0 : Int32} {res : Int32 × (Nat → Int64) × (Nat → Int64)} (C : CX p s m args meth c cX11_copy wsX11_copy RX11 8 D k A (some .int)) (hA : A = va_A w0 sz)  (h : B_X11_copy_78 s_items s_hand v1 v2 v3 v4 v5 x0 = some res) : GG p l e rm_X11_copy s m args below meth c (MQ below (cQi D w0 sz res.1 (W_X11_copy k h_t h_t_lanes h_t_longs h_t_items h_t_hand h_t_w h_t_tape h_t_firsts h_t_sizes h_t_worths h_t_readWorths h_t_dues h_t_sums h_t_worthOf h_t_lies h_t_pairs h_t_row h_t_hands h_t_paidOn h_t_lates h_t_fixed h_t_used s_isKept s_taped s_pieces s_at s_readMany s_readKind s_readCut s_rowSet s_bestSet s_lanes s_longs res.2.1 res.2.2)) args s 0 0 A) D A 8 0 0 78 [(0, .ref h_t), (1, .int v1), (2, .int v2), (3, .int v3), (4, .int v4), (5, .int v5)] [.int x0] (W_X11_copy k h_t h_t_lanes h_t_longs h_t_items h_t_hand h_t_w h_t_tape h_t_firsts h_t_sizes h_t_worths h_t_readWorths h_t_dues h_t_sums h_t_worthOf h_t_lies h_t_pairs h_t_row h_t_hands h_t_paidOn h_t_lates h_t_fixed h_t_used s_isKept s_taped s_pieces s_at s_readMany s_readKind s_readCut s_rowSet s_bestSet s_lanes s_longs s_items s_hand) := by
  unfold B_X11_copy_78 at h
  refine g_istore 78 C [(6, .int x0), (0, .ref h_t), (1, .int v1), (2, .int v2), (3, .int v3), (4, .int v4), (5, .int v5)] dX11_copy_78 (by decide) rfl ?_
  refine g_iload 80 C 0 dX11_copy_80 rfl ?_
  refine g_if_eq 82 88 C dX11_copy_82 (by decide) (fun c => ?_) (fun c => ?_)
  · replace h := it_e c h
    refine g_iconst 88 C (0 : Int32) dX11_copy_88 (by decide) ?_
    refine g_istore 89 C [(7, .int (0 : Int32)), (6, .int x0), (0, .ref h_t), (1, .int v1), (2, .int v2), (3, .int v3), (4, .int v4), (5, .int v5)] dX11_copy_89 (by decide) rfl ?_
    refine GG.sub (lv' := [(0, .ref h_t), (1, .int v1), (2, .int v2), (3, .int v3), (4, .int v4), (5, .int v5), (7, .int (0 : Int32))]) [2, 3, 4, 5, 6, 7, 0] rfl ?_
    exact ok_L_X11_copy_91 C hA (fun t h => by
      refine GG.sub (lv' := [(0, .ref h_t), (3, .int v3), (4, .int v4), (5, .int v5)]) [0, 1, 2, 3] rfl ?_
      exact ok_B_X11_copy_125 C hA h) FUEL ((0 : Int32), s_hand) h
  · replace h := if_e c h
    refine g_iload 85 C 0 dX11_copy_85 rfl ?_
    obtain rfl := Option.some.inj h
    exact g_iret 87 C hA rfl dX11_copy_87 rfl
set_option maxHeartbeats 4000000 in
set_option maxRecDepth 100000 in
theorem k_X11_copy {l : Launch} {D : va_G} {k : Nat → ClassId} (h_t : Nat) (h_t_lanes : Nat) (h_t_longs : Nat) (h_t_items : Nat) (h_t_hand : Nat) (h_t_w : Nat) (h_t_tape : Nat) (h_t_firsts : Nat) (h_t_sizes : Nat) (h_t_worths : Nat) (h_t_readWorths : Nat) (h_t_dues : Nat) (h_t_sums : Nat) (h_t_worthOf : Nat) (h_t_lies : Nat) (h_t_pairs : Nat) (h_t_row : Nat) (h_t_hands : Nat) (h_t_paidOn : Nat) (h_t_lates : Nat) (h_t_fixed : Nat) (h_t_used : Nat) (s_isKept : Int32) (s_taped : Int32) (s_pieces : Int32) (s_at : Int32) (s_readMany : Int32) (s_readKind : Int32) (s_readCut : Int32) (s_rowSet : Int32) (s_bestSet : Int32) (s_lanes : Nat → Int32) (s_longs : Nat → Int32) (s_items : Nat → Int64) (s_hand : Nat → Int64) (v1 : Int32) (v2 : Int32) (v3 : Int32) (v4 : Int32) (v5 : Int32) (res : Int32 × (Nat → Int64) × (Nat → Int64)) (h : f_X11_copy s_lanes s_longs s_items s_hand v1 v2 v3 v4 v5 = some res) (sz : Nat) : Met l yX11_copy wsX11_copy rm_X11_copy (cPre D k [.ref h_t, .int v1, .int v2, .int v3, .int v4, .int v5] (W_X11_copy k h_t h_t_lanes h_t_longs h_t_items h_t_hand h_t_w h_t_tape h_t_firsts h_t_sizes h_t_worths h_t_readWorths h_t_dues h_t_sums h_t_worthOf h_t_lies h_t_pairs h_t_row h_t_hands h_t_paidOn h_t_lates h_t_fixed h_t_used s_isKept s_taped s_pieces s_at s_readMany s_readKind s_readCut s_rowSet s_bestSet s_lanes s_longs s_items s_hand) sz) (cQi D (W_X11_copy k h_t h_t_lanes h_t_longs h_t_items h_t_hand h_t_w h_t_tape h_t_firsts h_t_sizes h_t_worths h_t_readWorths h_t_dues h_t_sums h_t_worthOf h_t_lies h_t_pairs h_t_row h_t_hands h_t_paidOn h_t_lates h_t_fixed h_t_used s_isKept s_taped s_pieces s_at s_readMany s_readKind s_readCut s_rowSet s_bestSet s_lanes s_longs s_items s_hand) sz res.1 (W_X11_copy k h_t h_t_lanes h_t_longs h_t_items h_t_hand h_t_w h_t_tape h_t_firsts h_t_sizes h_t_worths h_t_readWorths h_t_dues h_t_sums h_t_worthOf h_t_lies h_t_pairs h_t_row h_t_hands h_t_paidOn h_t_lates h_t_fixed h_t_used s_isKept s_taped s_pieces s_at s_readMany s_readKind s_readCut s_rowSet s_bestSet s_lanes s_longs res.2.1 res.2.2)) 0 0 (va_A (W_X11_copy k h_t h_t_lanes h_t_longs h_t_items h_t_hand h_t_w h_t_tape h_t_firsts h_t_sizes h_t_worths h_t_readWorths h_t_dues h_t_sums h_t_worthOf h_t_lies h_t_pairs h_t_row h_t_hands h_t_paidOn h_t_lates h_t_fixed h_t_used s_isKept s_taped s_pieces s_at s_readMany s_readKind s_readCut s_rowSet s_bestSet s_lanes s_longs s_items s_hand) sz) := by
  refine met_of [(0, .ref h_t), (1, .int v1), (2, .int v2), (3, .int v3), (4, .int v4), (5, .int v5)] (by decide) rfl rfl (Nat.le_of_ble_eq_true rfl) rfl ?_
  intro p e s m args below meth c A hA hsz C
  unfold f_X11_copy at h
  refine g_iload_n 0 C 1 dX11_copy_0 rfl rfl ?_
  obtain ⟨q1, e2, h⟩ := bi_e h
  refine g_callSi 1 C (As := [.int v1]) [] [0, 1, 2, 3, 4] [0, 1, 2, 3, 4] (W_X11_copy k h_t h_t_lanes h_t_longs h_t_items h_t_hand h_t_w h_t_tape h_t_firsts h_t_sizes h_t_worths h_t_readWorths h_t_dues h_t_sums h_t_worthOf h_t_lies h_t_pairs h_t_row h_t_hands h_t_paidOn h_t_lates h_t_fixed h_t_used s_isKept s_taped s_pieces s_at s_readMany s_readKind s_readCut s_rowSet s_bestSet s_lanes s_longs s_items s_hand) (fun sz => k_X11_isSheet v1 q1 e2 sz) gX11_copy_X11_isSheet rfl pd_X11_isSheet rfl ⟨rfl, rfl, Nat.le_of_ble_eq_true rfl, Nat.le_of_ble_eq_true rfl⟩ (Nat.le_of_ble_eq_true rfl) ⟨Nat.zero_le _, Nat.zero_le _⟩ ⟨rfl, rfl, rfl, rfl, rfl, by decide, rfl⟩ rfl dX11_copy_1 ?_
  refine g_if_eq 4 14 C dX11_copy_4 (by decide) (fun c => ?_) (fun c => ?_)
  · replace h := it_e c h
    refine GG.sub (lv' := []) [] rfl ?_
    exact ok_B_X11_copy_14 C hA h
  · replace h := if_e c h
    refine g_iload_n 7 C 3 dX11_copy_7 rfl rfl ?_
    obtain ⟨q3, e4, h⟩ := bi_e h
    refine g_callSi 8 C (As := [.int v3]) [] [0, 1, 2, 3, 4] [0, 1, 2, 3, 4] (W_X11_copy k h_t h_t_lanes h_t_longs h_t_items h_t_hand h_t_w h_t_tape h_t_firsts h_t_sizes h_t_worths h_t_readWorths h_t_dues h_t_sums h_t_worthOf h_t_lies h_t_pairs h_t_row h_t_hands h_t_paidOn h_t_lates h_t_fixed h_t_used s_isKept s_taped s_pieces s_at s_readMany s_readKind s_readCut s_rowSet s_bestSet s_lanes s_longs s_items s_hand) (fun sz => k_X11_isSheet v3 q3 e4 sz) gX11_copy_X11_isSheet rfl pd_X11_isSheet rfl ⟨rfl, rfl, Nat.le_of_ble_eq_true rfl, Nat.le_of_ble_eq_true rfl⟩ (Nat.le_of_ble_eq_true rfl) ⟨Nat.zero_le _, Nat.zero_le _⟩ ⟨rfl, rfl, rfl, rfl, rfl, by decide, rfl⟩ rfl dX11_copy_8 ?_
    refine g_if_ne 11 16 C dX11_copy_11 (by decide) (fun c => ?_) (fun c => ?_)
    · replace h := if_e c h
      refine g_aload_n 16 C 0 dX11_copy_16 rfl rfl ?_
      refine g_get 17 C in_X11_copy_X11 0 25 rfl rfl (by decide) fl_X11_copy_62 rfl rfl dX11_copy_17 ?_
      refine g_iload_n 20 C 1 dX11_copy_20 rfl rfl ?_
      obtain ⟨o5, h⟩ := ob_e h
      refine g_iald 21 C 1 rfl o5 dX11_copy_21 ?_
      refine g_if_lt 22 34 C dX11_copy_22 (by decide) (fun c => ?_) (fun c => ?_)
      · replace h := it_e c h
        refine GG.sub (lv' := []) [] rfl ?_
        exact ok_B_X11_copy_34 C hA h
      · replace h := if_e c h
        refine g_aload_n 25 C 0 dX11_copy_25 rfl rfl ?_
        refine g_get 26 C in_X11_copy_X11 0 25 rfl rfl (by decide) fl_X11_copy_62 rfl rfl dX11_copy_26 ?_
        refine g_iload_n 29 C 3 dX11_copy_29 rfl rfl ?_
        obtain ⟨o6, h⟩ := ob_e h
        refine g_iald 30 C 1 rfl o6 dX11_copy_30 ?_
        refine g_if_ge 31 37 C dX11_copy_31 (by decide) (fun c => ?_) (fun c => ?_)
        · replace h := it_e c h
          refine g_aload_n 37 C 0 dX11_copy_37 rfl rfl ?_
          refine g_iload_n 38 C 1 dX11_copy_38 rfl rfl ?_
          refine g_aload_n 39 C 0 dX11_copy_39 rfl rfl ?_
          refine g_get 40 C in_X11_copy_X11 0 25 rfl rfl (by decide) fl_X11_copy_62 rfl rfl dX11_copy_40 ?_
          refine g_iload_n 43 C 3 dX11_copy_43 rfl rfl ?_
          obtain ⟨o7, h⟩ := ob_e h
          refine g_iald 44 C 1 rfl o7 dX11_copy_44 ?_
          refine g_iload_n 45 C 2 dX11_copy_45 rfl rfl ?_
          refine g_iload 46 C 5 dX11_copy_46 rfl ?_
          obtain ⟨q8, e9, h⟩ := bi_e h
          refine g_callVi 48 C (As := [.int v1, .int (s_lanes v3.toNatClampNeg), .int v2, .int v5]) [0, 1, 2] [3, 4] [2, 3, 4, 0, 1] (W_X11_copy k h_t h_t_lanes h_t_longs h_t_items h_t_hand h_t_w h_t_tape h_t_firsts h_t_sizes h_t_worths h_t_readWorths h_t_dues h_t_sums h_t_worthOf h_t_lies h_t_pairs h_t_row h_t_hands h_t_paidOn h_t_lates h_t_fixed h_t_used s_isKept s_taped s_pieces s_at s_readMany s_readKind s_readCut s_rowSet s_bestSet s_lanes s_longs s_items s_hand) 0 (fun sz => k_X11_bars h_t h_t_lanes h_t_longs h_t_w h_t_tape h_t_firsts h_t_sizes h_t_worths h_t_readWorths h_t_dues h_t_sums h_t_worthOf h_t_lies h_t_pairs h_t_row h_t_hands h_t_paidOn h_t_lates h_t_fixed h_t_items h_t_hand h_t_used s_isKept s_taped s_pieces s_at s_readMany s_readKind s_readCut s_rowSet s_bestSet s_lanes s_longs v1 (s_lanes v3.toNatClampNeg) v2 v5 q8 e9 sz) gX11_copy_X11_bars rfl pd_X11_bars rfl rfl rfl ⟨rfl, rfl, Nat.le_of_ble_eq_true rfl, Nat.le_of_ble_eq_true rfl⟩ (Nat.le_of_ble_eq_true rfl) ⟨Nat.zero_le _, Nat.zero_le _⟩ ⟨rfl, rfl, rfl, rfl, rfl, by decide, rfl⟩ rfl dX11_copy_48 ?_
          refine g_istore 51 C [(6, .int q8), (0, .ref h_t), (1, .int v1), (2, .int v2), (3, .int v3), (4, .int v4), (5, .int v5)] dX11_copy_51 (by decide) rfl ?_
          refine g_iload 53 C 0 dX11_copy_53 rfl ?_
          refine g_if_ne 55 76 C dX11_copy_55 (by decide) (fun c => ?_) (fun c => ?_)
          · replace h := if_e c h
            refine g_iload 76 C 0 dX11_copy_76 rfl ?_
            refine GG.sub (lv' := [(0, .ref h_t), (1, .int v1), (2, .int v2), (3, .int v3), (4, .int v4), (5, .int v5)]) [1, 2, 3, 4, 5, 6] rfl ?_
            exact ok_B_X11_copy_78 C hA h
          · replace h := it_e c h
            refine g_aload_n 58 C 1 dX11_copy_58 rfl rfl ?_
            refine g_iload_n 59 C 4 dX11_copy_59 rfl rfl ?_
            refine g_aload_n 60 C 1 dX11_copy_60 rfl rfl ?_
            refine g_get 61 C in_X11_copy_X11 0 25 rfl rfl (by decide) fl_X11_copy_62 rfl rfl dX11_copy_61 ?_
            refine g_iload_n 64 C 2 dX11_copy_64 rfl rfl ?_
            obtain ⟨o14, h⟩ := ob_e h
            refine g_iald 65 C 1 rfl o14 dX11_copy_65 ?_
            refine g_iload 66 C 5 dX11_copy_66 rfl ?_
            refine g_iload 68 C 6 dX11_copy_68 rfl ?_
            obtain ⟨q15, e16, h⟩ := bi_e h
            refine g_callVi 70 C (As := [.int v3, .int (s_lanes v1.toNatClampNeg), .int v4, .int v5]) [0, 1, 2] [3, 4] [2, 3, 4, 0, 1] (W_X11_copy k h_t h_t_lanes h_t_longs h_t_items h_t_hand h_t_w h_t_tape h_t_firsts h_t_sizes h_t_worths h_t_readWorths h_t_dues h_t_sums h_t_worthOf h_t_lies h_t_pairs h_t_row h_t_hands h_t_paidOn h_t_lates h_t_fixed h_t_used s_isKept s_taped s_pieces s_at s_readMany s_readKind s_readCut s_rowSet s_bestSet s_lanes s_longs s_items s_hand) 0 (fun sz => k_X11_bars h_t h_t_lanes h_t_longs h_t_w h_t_tape h_t_firsts h_t_sizes h_t_worths h_t_readWorths h_t_dues h_t_sums h_t_worthOf h_t_lies h_t_pairs h_t_row h_t_hands h_t_paidOn h_t_lates h_t_fixed h_t_items h_t_hand h_t_used s_isKept s_taped s_pieces s_at s_readMany s_readKind s_readCut s_rowSet s_bestSet s_lanes s_longs v3 (s_lanes v1.toNatClampNeg) v4 v5 q15 e16 sz) gX11_copy_X11_bars rfl pd_X11_bars rfl rfl rfl ⟨rfl, rfl, Nat.le_of_ble_eq_true rfl, Nat.le_of_ble_eq_true rfl⟩ (Nat.le_of_ble_eq_true rfl) ⟨Nat.zero_le _, Nat.zero_le _⟩ ⟨rfl, rfl, rfl, rfl, rfl, by decide, rfl⟩ rfl dX11_copy_70 ?_
            refine g_goto 73 78 C dX11_copy_73 (by decide) ?_
            refine GG.sub (lv' := [(0, .ref h_t), (1, .int v1), (2, .int v2), (3, .int v3), (4, .int v4), (5, .int v5)]) [1, 2, 3, 4, 5, 6] rfl ?_
            exact ok_B_X11_copy_78 C hA h
        · replace h := if_e c h
          refine GG.sub (lv' := []) [] rfl ?_
          exact ok_B_X11_copy_34 C hA h
    · replace h := it_e c h
      refine GG.sub (lv' := []) [] rfl ?_
      exact ok_B_X11_copy_14 C hA h
end
