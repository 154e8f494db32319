/-! X11_in -/
abbrev W_X11_in (k : Nat → ClassId) : va_W := []
def rm_X11_in : Room := { frames := 0, cells := 0, slots := 0, locals := 0 }
theorem pd_X11_in : yX11_in.cls ≠ "java/lang/invoke/MethodHandle" ∧ yX11_in.cls ≠ "java/lang/invoke/VarHandle" ∧ (parseMethodDescriptor yX11_in.desc).map (fun d => d.parameters.length) = some 3 := by decide +kernel
section
variable {p : Program} {l : Launch} {e : Env} {s : State} {m : MethodId} {args : Array Value} {below : List Frame} {meth : Method} {c : Code} {D : va_G} {k : Nat → ClassId} {A : Nat → Prop} {w0 : va_W} {sz : Nat}
set_option maxHeartbeats 4000000 in
set_option maxRecDepth 100000 in
theorem ok_B_X11_in_18 {x0 : Int32} {res : Int32} (C : CX p s m args meth c cX11_in wsX11_in RX11 6 D k A (some .boolean)) (hA : A = va_A w0 sz)  (h : B_X11_in_18 x0 = some res) : GG p l e rm_X11_in s m args below meth c (MQ below (cQi D w0 sz res (W_X11_in k)) args s 0 0 A) D A 6 0 0 18 [] [.int x0] (W_X11_in k) := by
  unfold B_X11_in_18 at h
  obtain ⟨o1, h⟩ := ob_e h
  obtain rfl := Option.some.inj h
  exact g_zret 18 C hA rfl (zb_n o1) dX11_in_18 rfl
set_option maxHeartbeats 4000000 in
set_option maxRecDepth 100000 in
theorem ok_B_X11_in_17 {res : Int32} (C : CX p s m args meth c cX11_in wsX11_in RX11 6 D k A (some .boolean)) (hA : A = va_A w0 sz)  (h : B_X11_in_17 = some res) : GG p l e rm_X11_in s m args below meth c (MQ below (cQi D w0 sz res (W_X11_in k)) args s 0 0 A) D A 6 0 0 17 [] [] (W_X11_in k) := by
  unfold B_X11_in_17 at h
  refine g_iconst 17 C (0 : Int32) dX11_in_17 (by decide) ?_
  refine GG.sub (lv' := []) [] rfl ?_
  exact ok_B_X11_in_18 C hA h
set_option maxHeartbeats 4000000 in
set_option maxRecDepth 100000 in
theorem k_X11_in {l : Launch} {D : va_G} {k : Nat → ClassId} (v0 : Int64) (v2 : Int64) (v4 : Int64) (res : Int32) (h : f_X11_in v0 v2 v4 = some res) (sz : Nat) : Met l yX11_in wsX11_in rm_X11_in (cPre D k [.long v0, .long v2, .long v4] (W_X11_in k) sz) (cQi D (W_X11_in k) sz res (W_X11_in k)) 0 0 (va_A (W_X11_in k) sz) := by
  refine met_of [(0, .long v0), (2, .long v2), (4, .long v4)] (by decide) rfl rfl (Nat.le_of_ble_eq_true rfl) rfl ?_
  intro p e s m args below meth c A hA hsz C
  unfold f_X11_in at h
  refine g_lload_n 0 C 0 dX11_in_0 rfl rfl ?_
  refine g_lload_n 1 C 1 dX11_in_1 rfl rfl ?_
  refine g_lcmp 2 C dX11_in_2 ?_
  refine g_if_lt 3 17 C dX11_in_3 (by decide) (fun c => ?_) (fun c => ?_)
  · replace h := it_e c h
    refine GG.sub (lv' := []) [] rfl ?_
    exact ok_B_X11_in_17 C hA h
  · replace h := if_e c h
    refine g_lload_n 6 C 0 dX11_in_6 rfl rfl ?_
    refine g_lload 7 C 2 dX11_in_7 rfl ?_
    refine g_lcmp 9 C dX11_in_9 ?_
    refine g_if_gt 10 17 C dX11_in_10 (by decide) (fun c => ?_) (fun c => ?_)
    · replace h := it_e c h
      refine GG.sub (lv' := []) [] rfl ?_
      exact ok_B_X11_in_17 C hA h
    · replace h := if_e c h
      refine g_iconst 13 C (1 : Int32) dX11_in_13 (by decide) ?_
      refine g_goto 14 18 C dX11_in_14 (by decide) ?_
      refine GG.sub (lv' := []) [] rfl ?_
      exact ok_B_X11_in_18 C hA h
end

/-! X11_has -/
abbrev W_X11_has (k : Nat → ClassId) : va_W := []
def rm_X11_has : Room := { frames := 0, cells := 0, slots := 0, locals := 0 }
theorem pd_X11_has : yX11_has.cls ≠ "java/lang/invoke/MethodHandle" ∧ yX11_has.cls ≠ "java/lang/invoke/VarHandle" ∧ (parseMethodDescriptor yX11_has.desc).map (fun d => d.parameters.length) = some 2 := by decide +kernel
section
variable {p : Program} {l : Launch} {e : Env} {s : State} {m : MethodId} {args : Array Value} {below : List Frame} {meth : Method} {c : Code} {D : va_G} {k : Nat → ClassId} {A : Nat → Prop} {w0 : va_W} {sz : Nat}
set_option maxHeartbeats 4000000 in
set_option maxRecDepth 100000 in
theorem ok_B_X11_has_14 {x0 : Int32} {res : Int32} (C : CX p s m args meth c cX11_has wsX11_has RX11 2 D k A (some .boolean)) (hA : A = va_A w0 sz)  (h : B_X11_has_14 x0 = some res) : GG p l e rm_X11_has s m args below meth c (MQ below (cQi D w0 sz res (W_X11_has k)) args s 0 0 A) D A 2 0 0 14 [] [.int x0] (W_X11_has k) := by
  unfold B_X11_has_14 at h
  obtain ⟨o1, h⟩ := ob_e h
  obtain rfl := Option.some.inj h
  exact g_zret 14 C hA rfl (zb_n o1) dX11_has_14 rfl
set_option maxHeartbeats 4000000 in
set_option maxRecDepth 100000 in
theorem k_X11_has {l : Launch} {D : va_G} {k : Nat → ClassId} (v0 : Int32) (v1 : Int32) (res : Int32) (h : f_X11_has v0 v1 = some res) (sz : Nat) : Met l yX11_has wsX11_has rm_X11_has (cPre D k [.int v0, .int v1] (W_X11_has k) sz) (cQi D (W_X11_has k) sz res (W_X11_has k)) 0 0 (va_A (W_X11_has k) sz) := by
  refine met_of [(0, .int v0), (1, .int v1)] (by decide) rfl rfl (Nat.le_of_ble_eq_true rfl) rfl ?_
  intro p e s m args below meth c A hA hsz C
  unfold f_X11_has at h
  refine g_iload_n 0 C 0 dX11_has_0 rfl rfl ?_
  refine g_iload_n 1 C 1 dX11_has_1 rfl rfl ?_
  refine g_ishr 2 C dX11_has_2 ?_
  refine g_iconst 3 C (1 : Int32) dX11_has_3 (by decide) ?_
  refine g_iand 4 C dX11_has_4 ?_
  refine g_iconst 5 C (1 : Int32) dX11_has_5 (by decide) ?_
  refine g_icmp_ne 6 13 C dX11_has_6 (by decide) (fun c => ?_) (fun c => ?_)
  · replace h := if_e c h
    refine g_iconst 13 C (0 : Int32) dX11_has_13 (by decide) ?_
    refine GG.sub (lv' := []) [] rfl ?_
    exact ok_B_X11_has_14 C hA h
  · replace h := it_e c h
    refine g_iconst 9 C (1 : Int32) dX11_has_9 (by decide) ?_
    refine g_goto 10 14 C dX11_has_10 (by decide) ?_
    refine GG.sub (lv' := []) [] rfl ?_
    exact ok_B_X11_has_14 C hA h
end

/-! X11_ones -/
abbrev W_X11_ones (k : Nat → ClassId) : va_W := []
def rm_X11_ones : Room := { frames := 0, cells := 0, slots := 0, locals := 0 }
theorem pd_X11_ones : yX11_ones.cls ≠ "java/lang/invoke/MethodHandle" ∧ yX11_ones.cls ≠ "java/lang/invoke/VarHandle" ∧ (parseMethodDescriptor yX11_ones.desc).map (fun d => d.parameters.length) = some 1 := by decide +kernel
section
variable {p : Program} {l : Launch} {e : Env} {s : State} {m : MethodId} {args : Array Value} {below : List Frame} {meth : Method} {c : Code} {D : va_G} {k : Nat → ClassId} {A : Nat → Prop} {w0 : va_W} {sz : Nat}
set_option maxHeartbeats 4000000 in
set_option maxRecDepth 100000 in
theorem ok_L_X11_ones_4 {res : Int32} (C : CX p s m args meth c cX11_ones wsX11_ones RX11 3 D k A (some .int)) (hA : A = va_A w0 sz) {kx : Int32 × Int32 → Option (Int32)} (hx : ∀ t : Int32 × Int32, kx t = some res → GG p l e rm_X11_ones s m args below meth c (MQ below (cQi D w0 sz res (W_X11_ones k)) args s 0 0 A) D A 3 0 0 20 [(1, .int t.1)] [] (W_X11_ones k)) : ∀ (n : Nat) (t : Int32 × Int32), L_X11_ones_4 kx n t = some res → GG p l e rm_X11_ones s m args below meth c (MQ below (cQi D w0 sz res (W_X11_ones k)) args s 0 0 A) D A 3 0 0 4 [(1, .int t.1), (2, .int t.2)] [] (W_X11_ones k) := by
  intro n
  induction n with
  | zero => intro t h; cases h
  | succ n ih =>
    intro t h
    obtain ⟨v1, v2⟩ := t
    replace h : LB_X11_ones_4 kx (L_X11_ones_4 kx n) v1 v2 = some res := h
    have hr := ih
    unfold LB_X11_ones_4 at h
    refine g_iload_n 4 C 1 dX11_ones_4 rfl rfl ?_
    refine g_if_eq 5 20 C dX11_ones_5 (by decide) (fun c => ?_) (fun c => ?_)
    · replace h := it_e c h
      refine GG.sub (lv' := [(1, .int v1)]) [0] rfl ?_
      exact hx (v1, v2) h
    · replace h := if_e c h
      refine g_iinc 8 C 0 (1 : Int32) [(1, .int (v1 + (1 : Int32))), (2, .int v2)] dX11_ones_8 rfl (by decide) (by decide) rfl ?_
      refine g_iload_n 11 C 1 dX11_ones_11 rfl rfl ?_
      refine g_iload_n 12 C 1 dX11_ones_12 rfl rfl ?_
      refine g_iconst 13 C (1 : Int32) dX11_ones_13 (by decide) ?_
      refine g_isub 14 C dX11_ones_14 ?_
      refine g_iand 15 C dX11_ones_15 ?_
      refine g_istore_n 16 C [(2, .int (v2 &&& (v2 - (1 : Int32)))), (1, .int (v1 + (1 : Int32)))] dX11_ones_16 rfl (by decide) rfl ?_
      refine g_goto 17 4 C dX11_ones_17 (by decide) ?_
      refine GG.sub (lv' := [(1, .int (v1 + (1 : Int32))), (2, .int (v2 &&& (v2 - (1 : Int32))))]) [1, 0] rfl ?_
      exact hr ((v1 + (1 : Int32)), (v2 &&& (v2 - (1 : Int32)))) h
set_option maxHeartbeats 4000000 in
set_option maxRecDepth 100000 in
theorem ok_B_X11_ones_20 {v1 : Int32} {res : Int32} (C : CX p s m args meth c cX11_ones wsX11_ones RX11 3 D k A (some .int)) (hA : A = va_A w0 sz)  (h : B_X11_ones_20 v1 = some res) : GG p l e rm_X11_ones s m args below meth c (MQ below (cQi D w0 sz res (W_X11_ones k)) args s 0 0 A) D A 3 0 0 20 [(1, .int v1)] [] (W_X11_ones k) := by
  unfold B_X11_ones_20 at h
  refine g_iload_n 20 C 0 dX11_ones_20 rfl rfl ?_
  obtain rfl := Option.some.inj h
  exact g_iret 21 C hA rfl dX11_ones_21 rfl
set_option maxHeartbeats 4000000 in
set_option maxRecDepth 100000 in
theorem k_X11_ones {l : Launch} {D : va_G} {k : Nat → ClassId} (v0 : Int32) (res : Int32) (h : f_X11_ones v0 = some res) (sz : Nat) : Met l yX11_ones wsX11_ones rm_X11_ones (cPre D k [.int v0] (W_X11_ones k) sz) (cQi D (W_X11_ones k) sz res (W_X11_ones k)) 0 0 (va_A (W_X11_ones k) sz) := by
  refine met_of [(0, .int v0)] (by decide) rfl rfl (Nat.le_of_ble_eq_true rfl) rfl ?_
  intro p e s m args below meth c A hA hsz C
  unfold f_X11_ones at h
  refine g_iconst 0 C (0 : Int32) dX11_ones_0 (by decide) ?_
  refine g_istore_n 1 C [(1, .int (0 : Int32)), (0, .int v0)] dX11_ones_1 rfl (by decide) rfl ?_
  refine g_iload_n 2 C 1 dX11_ones_2 rfl rfl ?_
  refine g_istore_n 3 C [(2, .int v0), (1, .int (0 : Int32)), (0, .int v0)] dX11_ones_3 rfl (by decide) rfl ?_
  refine GG.sub (lv' := [(1, .int (0 : Int32)), (2, .int v0)]) [1, 0] rfl ?_
  exact ok_L_X11_ones_4 C hA (fun t h => by
    refine GG.sub (lv' := [(1, .int t.1)]) [0] rfl ?_
    exact ok_B_X11_ones_20 C hA h) FUEL ((0 : Int32), v0) h
end

/-! X11_notches -/
abbrev W_X11_notches (k : Nat → ClassId) (h_t : Nat) (h_t_w : Nat) (h_t_tape : Nat) (h_t_firsts : Nat) (h_t_sizes : Nat) (h_t_worths : Nat) (h_t_readWorths : Nat) (h_t_dues : Nat) (h_t_sums : Nat) (h_t_worthOf : Nat) (h_t_lies : Nat) (h_t_pairs : Nat) (h_t_row : Nat) (h_t_hands : Nat) (h_t_paidOn : Nat) (h_t_lates : Nat) (h_t_fixed : Nat) (h_t_lanes : Nat) (h_t_longs : Nat) (h_t_items : Nat) (h_t_hand : Nat) (h_t_used : Nat) (s_isKept : Int32) (s_taped : Int32) (s_pieces : Int32) (s_at : Int32) (s_readMany : Int32) (s_readKind : Int32) (s_readCut : Int32) (s_rowSet : Int32) (s_bestSet : Int32) (s_w : Nat → Int32) : va_W := [(h_t, .inr (11, [.ref h_t_w, .int s_isKept, .ref h_t_tape, .int s_taped, .ref h_t_firsts, .ref h_t_sizes, .ref h_t_worths, .int s_pieces, .int s_at, .ref h_t_readWorths, .int s_readMany, .int s_readKind, .int s_readCut, .ref h_t_dues, .ref h_t_sums, .ref h_t_worthOf, .ref h_t_lies, .ref h_t_pairs, .ref h_t_row, .int s_rowSet, .int s_bestSet, .ref h_t_hands, .ref h_t_paidOn, .ref h_t_lates, .ref h_t_fixed, .ref h_t_lanes, .ref h_t_longs, .ref h_t_items, .ref h_t_hand, .ref h_t_used])), (h_t_w, .inl (k 0, 60, .inl s_w))]
def rm_X11_notches : Room := { frames := 0, cells := 0, slots := 0, locals := 0 }
theorem in_X11_notches_X11 : ∀ w ∈ u_ws RX11 TX11 30, w ∈ wsX11_notches := by decide +kernel
theorem fl_X11_notches_7 : Cond.fieldLink RX11 7 "LinkDaysModel" "w" "[I" ∈ wsX11_notches := by decide +kernel
theorem pd_X11_notches : yX11_notches.cls = RX11 ∧ yX11_notches.cls ≠ "java/lang/invoke/MethodHandle" ∧ yX11_notches.cls ≠ "java/lang/invoke/VarHandle" ∧ (parseMethodDescriptor yX11_notches.desc).map (fun d => d.parameters.length) = some 0 := by decide +kernel
section
variable {p : Program} {l : Launch} {e : Env} {s : State} {m : MethodId} {args : Array Value} {below : List Frame} {meth : Method} {c : Code} {D : va_G} {k : Nat → ClassId} {A : Nat → Prop} {w0 : va_W} {sz : Nat}
set_option maxHeartbeats 4000000 in
set_option maxRecDepth 100000 in
theorem ok_B_X11_notches_21 {h_t : Nat} {h_t_w : Nat} {h_t_tape : Nat} {h_t_firsts : Nat} {h_t_sizes : Nat} {h_t_worths : Nat} {h_t_readWorths : Nat} {h_t_dues : Nat} {h_t_sums : Nat} {h_t_worthOf : Nat} {h_t_lies : Nat} {h_t_pairs : Nat} {h_t_row : Nat} {h_t_hands : Nat} {h_t_paidOn : Nat} {h_t_lates : Nat} {h_t_fixed : Nat} {h_t_lanes : Nat} {h_t_longs : Nat} {h_t_items : Nat} {h_t_hand : Nat} {h_t_used : Nat} {s_isKept : Int32} {s_taped : Int32} {s_pieces : Int32} {s_at : Int32} {s_readMany : Int32} {s_readKind : Int32} {s_readCut : Int32} {s_rowSet : Int32} {s_bestSet : Int32} {s_w : Nat → Int32} {x0 : Int32} {x1 : Int32} {res : Int32} (C : CX p s m args meth c cX11_notches wsX11_notches RX11 1 D k A (some .int)) (hA : A = va_A w0 sz)  (h : B_X11_notches_21 x0 x1 = some res) : GG p l e rm_X11_notches s m args below meth c (MQ below (cQi D w0 sz res (W_X11_notches k h_t h_t_w h_t_tape h_t_firsts h_t_sizes h_t_worths h_t_readWorths h_t_dues h_t_sums h_t_worthOf h_t_lies h_t_pairs h_t_row h_t_hands h_t_paidOn h_t_lates h_t_fixed h_t_lanes h_t_longs h_t_items h_t_hand h_t_used s_isKept s_taped s_pieces s_at s_readMany s_readKind s_readCut s_rowSet s_bestSet s_w)) args s 0 0 A) D A 1 0 0 21 [] [.int x0, .int x1] (W_X11_notches k h_t h_t_w h_t_tape h_t_firsts h_t_sizes h_t_worths h_t_readWorths h_t_dues h_t_sums h_t_worthOf h_t_lies h_t_pairs h_t_row h_t_hands h_t_paidOn h_t_lates h_t_fixed h_t_lanes h_t_longs h_t_items h_t_hand h_t_used s_isKept s_taped s_pieces s_at s_readMany s_readKind s_readCut s_rowSet s_bestSet s_w) := by
  unfold B_X11_notches_21 at h
  refine g_isub 21 C dX11_notches_21 ?_
  obtain rfl := Option.some.inj h
  exact g_iret 22 C hA rfl dX11_notches_22 rfl
set_option maxHeartbeats 4000000 in
set_option maxRecDepth 100000 in
theorem k_X11_notches {l : Launch} {D : va_G} {k : Nat → ClassId} (h_t : Nat) (h_t_w : Nat) (h_t_tape : Nat) (h_t_firsts : Nat) (h_t_sizes : Nat) (h_t_worths : Nat) (h_t_readWorths : Nat) (h_t_dues : Nat) (h_t_sums : Nat) (h_t_worthOf : Nat) (h_t_lies : Nat) (h_t_pairs : Nat) (h_t_row : Nat) (h_t_hands : Nat) (h_t_paidOn : Nat) (h_t_lates : Nat) (h_t_fixed : Nat) (h_t_lanes : Nat) (h_t_longs : Nat) (h_t_items : Nat) (h_t_hand : Nat) (h_t_used : Nat) (s_isKept : Int32) (s_taped : Int32) (s_pieces : Int32) (s_at : Int32) (s_readMany : Int32) (s_readKind : Int32) (s_readCut : Int32) (s_rowSet : Int32) (s_bestSet : Int32) (s_w : Nat → Int32) (res : Int32) (h : f_X11_notches s_w = some res) (sz : Nat) : Met l yX11_notches wsX11_notches rm_X11_notches (cPre D k [.ref h_t] (W_X11_notches k h_t h_t_w h_t_tape h_t_firsts h_t_sizes h_t_worths h_t_readWorths h_t_dues h_t_sums h_t_worthOf h_t_lies h_t_pairs h_t_row h_t_hands h_t_paidOn h_t_lates h_t_fixed h_t_lanes h_t_longs h_t_items h_t_hand h_t_used s_isKept s_taped s_pieces s_at s_readMany s_readKind s_readCut s_rowSet s_bestSet s_w) sz) (cQi D (W_X11_notches k h_t h_t_w h_t_tape h_t_firsts h_t_sizes h_t_worths h_t_readWorths h_t_dues h_t_sums h_t_worthOf h_t_lies h_t_pairs h_t_row h_t_hands h_t_paidOn h_t_lates h_t_fixed h_t_lanes h_t_longs h_t_items h_t_hand h_t_used s_isKept s_taped s_pieces s_at s_readMany s_readKind s_readCut s_rowSet s_bestSet s_w) sz res (W_X11_notches k h_t h_t_w h_t_tape h_t_firsts h_t_sizes h_t_worths h_t_readWorths h_t_dues h_t_sums h_t_worthOf h_t_lies h_t_pairs h_t_row h_t_hands h_t_paidOn h_t_lates h_t_fixed h_t_lanes h_t_longs h_t_items h_t_hand h_t_used s_isKept s_taped s_pieces s_at s_readMany s_readKind s_readCut s_rowSet s_bestSet s_w)) 0 0 (va_A (W_X11_notches k h_t h_t_w h_t_tape h_t_firsts h_t_sizes h_t_worths h_t_readWorths h_t_dues h_t_sums h_t_worthOf h_t_lies h_t_pairs h_t_row h_t_hands h_t_paidOn h_t_lates h_t_fixed h_t_lanes h_t_longs h_t_items h_t_hand h_t_used s_isKept s_taped s_pieces s_at s_readMany s_readKind s_readCut s_rowSet s_bestSet s_w) sz) := by
  refine met_of [(0, .ref h_t)] (by decide) rfl rfl (Nat.le_of_ble_eq_true rfl) rfl ?_
  intro p e s m args below meth c A hA hsz C
  unfold f_X11_notches at h
  refine g_aload_n 0 C 0 dX11_notches_0 rfl rfl ?_
  refine g_get 1 C in_X11_notches_X11 0 0 rfl rfl (by decide) fl_X11_notches_7 rfl rfl dX11_notches_1 ?_
  refine g_iconst 4 C (1 : Int32) dX11_notches_4 (by decide) ?_
  obtain ⟨o1, h⟩ := ob_e h
  refine g_iald 5 C 1 rfl o1 dX11_notches_5 ?_
  refine g_aload_n 6 C 0 dX11_notches_6 rfl rfl ?_
  refine g_get 7 C in_X11_notches_X11 0 0 rfl rfl (by decide) fl_X11_notches_7 rfl rfl dX11_notches_7 ?_
  refine g_iconst 10 C (0 : Int32) dX11_notches_10 (by decide) ?_
  obtain ⟨o2, h⟩ := ob_e h
  refine g_iald 11 C 1 rfl o2 dX11_notches_11 ?_
  refine g_iconst 12 C (2 : Int32) dX11_notches_12 (by decide) ?_
  refine g_icmp_lt 13 20 C dX11_notches_13 (by decide) (fun c => ?_) (fun c => ?_)
  · replace h := it_e c h
    refine g_iconst 20 C (0 : Int32) dX11_notches_20 (by decide) ?_
    refine GG.sub (lv' := []) [] rfl ?_
    exact ok_B_X11_notches_21 C hA h
  · replace h := if_e c h
    refine g_iconst 16 C (1 : Int32) dX11_notches_16 (by decide) ?_
    refine g_goto 17 21 C dX11_notches_17 (by decide) ?_
    refine GG.sub (lv' := []) [] rfl ?_
    exact ok_B_X11_notches_21 C hA h
end

/-! X11_isNotch -/
abbrev W_X11_isNotch (k : Nat → ClassId) (h_t : Nat) (h_t_w : Nat) (h_t_tape : Nat) (h_t_firsts : Nat) (h_t_sizes : Nat) (h_t_worths : Nat) (h_t_readWorths : Nat) (h_t_dues : Nat) (h_t_sums : Nat) (h_t_worthOf : Nat) (h_t_lies : Nat) (h_t_pairs : Nat) (h_t_row : Nat) (h_t_hands : Nat) (h_t_paidOn : Nat) (h_t_lates : Nat) (h_t_fixed : Nat) (h_t_lanes : Nat) (h_t_longs : Nat) (h_t_items : Nat) (h_t_hand : Nat) (h_t_used : Nat) (s_isKept : Int32) (s_taped : Int32) (s_pieces : Int32) (s_at : Int32) (s_readMany : Int32) (s_readKind : Int32) (s_readCut : Int32) (s_rowSet : Int32) (s_bestSet : Int32) (s_w : Nat → Int32) : va_W := [(h_t, .inr (11, [.ref h_t_w, .int s_isKept, .ref h_t_tape, .int s_taped, .ref h_t_firsts, .ref h_t_sizes, .ref h_t_worths, .int s_pieces, .int s_at, .ref h_t_readWorths, .int s_readMany, .int s_readKind, .int s_readCut, .ref h_t_dues, .ref h_t_sums, .ref h_t_worthOf, .ref h_t_lies, .ref h_t_pairs, .ref h_t_row, .int s_rowSet, .int s_bestSet, .ref h_t_hands, .ref h_t_paidOn, .ref h_t_lates, .ref h_t_fixed, .ref h_t_lanes, .ref h_t_longs, .ref h_t_items, .ref h_t_hand, .ref h_t_used])), (h_t_w, .inl (k 0, 60, .inl s_w))]
def rm_X11_isNotch : Room := { frames := 1, cells := 0, slots := 0, locals := 25 }
theorem pd_X11_isNotch : yX11_isNotch.cls = RX11 ∧ yX11_isNotch.cls ≠ "java/lang/invoke/MethodHandle" ∧ yX11_isNotch.cls ≠ "java/lang/invoke/VarHandle" ∧ (parseMethodDescriptor yX11_isNotch.desc).map (fun d => d.parameters.length) = some 1 := by decide +kernel
section
variable {p : Program} {l : Launch} {e : Env} {s : State} {m : MethodId} {args : Array Value} {below : List Frame} {meth : Method} {c : Code} {D : va_G} {k : Nat → ClassId} {A : Nat → Prop} {w0 : va_W} {sz : Nat}
set_option maxHeartbeats 4000000 in
set_option maxRecDepth 100000 in
theorem k_X11_isNotch {l : Launch} {D : va_G} {k : Nat → ClassId} (h_t : Nat) (h_t_w : Nat) (h_t_tape : Nat) (h_t_firsts : Nat) (h_t_sizes : Nat) (h_t_worths : Nat) (h_t_readWorths : Nat) (h_t_dues : Nat) (h_t_sums : Nat) (h_t_worthOf : Nat) (h_t_lies : Nat) (h_t_pairs : Nat) (h_t_row : Nat) (h_t_hands : Nat) (h_t_paidOn : Nat) (h_t_lates : Nat) (h_t_fixed : Nat) (h_t_lanes : Nat) (h_t_longs : Nat) (h_t_items : Nat) (h_t_hand : Nat) (h_t_used : Nat) (s_isKept : Int32) (s_taped : Int32) (s_pieces : Int32) (s_at : Int32) (s_readMany : Int32) (s_readKind : Int32) (s_readCut : Int32) (s_rowSet : Int32) (s_bestSet : Int32) (s_w : Nat → Int32) (v1 : Int32) (res : Int32) (h : f_X11_isNotch s_w v1 = some res) (sz : Nat) : Met l yX11_isNotch wsX11_isNotch rm_X11_isNotch (cPre D k [.ref h_t, .int v1] (W_X11_isNotch k h_t h_t_w h_t_tape h_t_firsts h_t_sizes h_t_worths h_t_readWorths h_t_dues h_t_sums h_t_worthOf h_t_lies h_t_pairs h_t_row h_t_hands h_t_paidOn h_t_lates h_t_fixed h_t_lanes h_t_longs h_t_items h_t_hand h_t_used s_isKept s_taped s_pieces s_at s_readMany s_readKind s_readCut s_rowSet s_bestSet s_w) sz) (cQi D (W_X11_isNotch k h_t h_t_w h_t_tape h_t_firsts h_t_sizes h_t_worths h_t_readWorths h_t_dues h_t_sums h_t_worthOf h_t_lies h_t_pairs h_t_row h_t_hands h_t_paidOn h_t_lates h_t_fixed h_t_lanes h_t_longs h_t_items h_t_hand h_t_used s_isKept s_taped s_pieces s_at s_readMany s_readKind s_readCut s_rowSet s_bestSet s_w) sz res (W_X11_isNotch k h_t h_t_w h_t_tape h_t_firsts h_t_sizes h_t_worths h_t_readWorths h_t_dues h_t_sums h_t_worthOf h_t_lies h_t_pairs h_t_row h_t_hands h_t_paidOn h_t_lates h_t_fixed h_t_lanes h_t_longs h_t_items h_t_hand h_t_used s_isKept s_taped s_pieces s_at s_readMany s_readKind s_readCut s_rowSet s_bestSet s_w)) 0 0 (va_A (W_X11_isNotch k h_t h_t_w h_t_tape h_t_firsts h_t_sizes h_t_worths h_t_readWorths h_t_dues h_t_sums h_t_worthOf h_t_lies h_t_pairs h_t_row h_t_hands h_t_paidOn h_t_lates h_t_fixed h_t_lanes h_t_longs h_t_items h_t_hand h_t_used s_isKept s_taped s_pieces s_at s_readMany s_readKind s_readCut s_rowSet s_bestSet s_w) sz) := by
  refine met_of [(0, .ref h_t), (1, .int v1)] (by decide) rfl rfl (Nat.le_of_ble_eq_true rfl) rfl ?_
  intro p e s m args below meth c A hA hsz C
  unfold f_X11_isNotch at h
  refine g_iload_n 0 C 1 dX11_isNotch_0 rfl rfl ?_
  refine g_i2l 1 C dX11_isNotch_1 ?_
  refine g_lconst 2 C (0 : Int64) dX11_isNotch_2 (by decide) ?_
  refine g_aload_n 3 C 0 dX11_isNotch_3 rfl rfl ?_
  obtain ⟨q1, e2, h⟩ := bi_e h
  refine g_callVi 4 C (As := []) [0, 1] [] [0, 1] (W_X11_isNotch k h_t h_t_w h_t_tape h_t_firsts h_t_sizes h_t_worths h_t_readWorths h_t_dues h_t_sums h_t_worthOf h_t_lies h_t_pairs h_t_row h_t_hands h_t_paidOn h_t_lates h_t_fixed h_t_lanes h_t_longs h_t_items h_t_hand h_t_used s_isKept s_taped s_pieces s_at s_readMany s_readKind s_readCut s_rowSet s_bestSet s_w) 0 (fun sz => k_X11_notches h_t h_t_w h_t_tape h_t_firsts h_t_sizes h_t_worths h_t_readWorths h_t_dues h_t_sums h_t_worthOf h_t_lies h_t_pairs h_t_row h_t_hands h_t_paidOn h_t_lates h_t_fixed h_t_lanes h_t_longs h_t_items h_t_hand h_t_used s_isKept s_taped s_pieces s_at s_readMany s_readKind s_readCut s_rowSet s_bestSet s_w q1 e2 sz) gX11_isNotch_X11_notches rfl pd_X11_notches rfl rfl rfl ⟨rfl, rfl, Nat.le_of_ble_eq_true rfl, Nat.le_of_ble_eq_true rfl⟩ (Nat.le_of_ble_eq_true rfl) ⟨Nat.zero_le _, Nat.zero_le _⟩ ⟨rfl, rfl, rfl, rfl, rfl, by decide, rfl⟩ rfl dX11_isNotch_4 ?_
  refine g_iconst 7 C (1 : Int32) dX11_isNotch_7 (by decide) ?_
  refine g_isub 8 C dX11_isNotch_8 ?_
  refine g_i2l 9 C dX11_isNotch_9 ?_
  obtain ⟨q3, e4, h⟩ := bi_e h
  refine g_callSi 10 C (As := [.long v1.toInt64, .long (0 : Int64), .long ((q1 - (1 : Int32)).toInt64)]) [] [0, 1] [0, 1] (W_X11_isNotch k h_t h_t_w h_t_tape h_t_firsts h_t_sizes h_t_worths h_t_readWorths h_t_dues h_t_sums h_t_worthOf h_t_lies h_t_pairs h_t_row h_t_hands h_t_paidOn h_t_lates h_t_fixed h_t_lanes h_t_longs h_t_items h_t_hand h_t_used s_isKept s_taped s_pieces s_at s_readMany s_readKind s_readCut s_rowSet s_bestSet s_w) (fun sz => k_X11_in v1.toInt64 (0 : Int64) ((q1 - (1 : Int32)).toInt64) q3 e4 sz) gX11_isNotch_X11_in rfl pd_X11_in rfl ⟨rfl, rfl, Nat.le_of_ble_eq_true rfl, Nat.le_of_ble_eq_true rfl⟩ (Nat.le_of_ble_eq_true rfl) ⟨Nat.zero_le _, Nat.zero_le _⟩ ⟨rfl, rfl, rfl, rfl, rfl, by decide, rfl⟩ rfl dX11_isNotch_10 ?_
  obtain ⟨o5, h⟩ := ob_e h
  obtain rfl := Option.some.inj h
  exact g_zret 13 C hA rfl (zb_n o5) dX11_isNotch_13 rfl
end

/-! X11_addPiece -/
abbrev W_X11_addPiece (k : Nat → ClassId) (h_t : Nat) (h_t_firsts : Nat) (h_t_sizes : Nat) (h_t_worths : Nat) (h_t_w : Nat) (h_t_tape : Nat) (h_t_readWorths : Nat) (h_t_dues : Nat) (h_t_sums : Nat) (h_t_worthOf : Nat) (h_t_lies : Nat) (h_t_pairs : Nat) (h_t_row : Nat) (h_t_hands : Nat) (h_t_paidOn : Nat) (h_t_lates : Nat) (h_t_fixed : Nat) (h_t_lanes : Nat) (h_t_longs : Nat) (h_t_items : Nat) (h_t_hand : Nat) (h_t_used : Nat) (s_isKept : Int32) (s_taped : Int32) (s_pieces : Int32) (s_at : Int32) (s_readMany : Int32) (s_readKind : Int32) (s_readCut : Int32) (s_rowSet : Int32) (s_bestSet : Int32) (s_firsts : Nat → Int32) (s_sizes : Nat → Int32) (s_worths : Nat → Int32) : va_W := [(h_t, .inr (11, [.ref h_t_w, .int s_isKept, .ref h_t_tape, .int s_taped, .ref h_t_firsts, .ref h_t_sizes, .ref h_t_worths, .int s_pieces, .int s_at, .ref h_t_readWorths, .int s_readMany, .int s_readKind, .int s_readCut, .ref h_t_dues, .ref h_t_sums, .ref h_t_worthOf, .ref h_t_lies, .ref h_t_pairs, .ref h_t_row, .int s_rowSet, .int s_bestSet, .ref h_t_hands, .ref h_t_paidOn, .ref h_t_lates, .ref h_t_fixed, .ref h_t_lanes, .ref h_t_longs, .ref h_t_items, .ref h_t_hand, .ref h_t_used])), (h_t_firsts, .inl (k 0, 24, .inl s_firsts)), (h_t_sizes, .inl (k 0, 24, .inl s_sizes)), (h_t_worths, .inl (k 0, 24, .inl s_worths))]
def rm_X11_addPiece : Room := { frames := 0, cells := 0, slots := 0, locals := 0 }
theorem in_X11_addPiece_X11 : ∀ w ∈ u_ws RX11 TX11 30, w ∈ wsX11_addPiece := by decide +kernel
theorem fl_X11_addPiece_16 : Cond.fieldLink RX11 16 "LinkDaysModel" "firsts" "[I" ∈ wsX11_addPiece := by decide +kernel
theorem fl_X11_addPiece_19 : Cond.fieldLink RX11 19 "LinkDaysModel" "sizes" "[I" ∈ wsX11_addPiece := by decide +kernel
theorem fl_X11_addPiece_22 : Cond.fieldLink RX11 22 "LinkDaysModel" "worths" "[I" ∈ wsX11_addPiece := by decide +kernel
theorem fl_X11_addPiece_85 : Cond.fieldLink RX11 85 "LinkDaysModel" "pieces" "I" ∈ wsX11_addPiece := by decide +kernel
theorem pd_X11_addPiece : yX11_addPiece.cls = RX11 ∧ yX11_addPiece.cls ≠ "java/lang/invoke/MethodHandle" ∧ yX11_addPiece.cls ≠ "java/lang/invoke/VarHandle" ∧ (parseMethodDescriptor yX11_addPiece.desc).map (fun d => d.parameters.length) = some 1 := by decide +kernel
section
variable {p : Program} {l : Launch} {e : Env} {s : State} {m : MethodId} {args : Array Value} {below : List Frame} {meth : Method} {c : Code} {D : va_G} {k : Nat → ClassId} {A : Nat → Prop} {w0 : va_W} {sz : Nat}
set_option maxHeartbeats 4000000 in
set_option maxRecDepth 100000 in
theorem k_X11_addPiece {l : Launch} {D : va_G} {k : Nat → ClassId} (h_t : Nat) (h_t_firsts : Nat) (h_t_sizes : Nat) (h_t_worths : Nat) (h_t_w : Nat) (h_t_tape : Nat) (h_t_readWorths : Nat) (h_t_dues : Nat) (h_t_sums : Nat) (h_t_worthOf : Nat) (h_t_lies : Nat) (h_t_pairs : Nat) (h_t_row : Nat) (h_t_hands : Nat) (h_t_paidOn : Nat) (h_t_lates : Nat) (h_t_fixed : Nat) (h_t_lanes : Nat) (h_t_longs : Nat) (h_t_items : Nat) (h_t_hand : Nat) (h_t_used : Nat) (s_isKept : Int32) (s_taped : Int32) (s_pieces : Int32) (s_at : Int32) (s_readMany : Int32) (s_readKind : Int32) (s_readCut : Int32) (s_rowSet : Int32) (s_bestSet : Int32) (s_firsts : Nat → Int32) (s_sizes : Nat → Int32) (s_worths : Nat → Int32) (v1 : Int32) (res : Int32 × (Nat → Int32) × (Nat → Int32) × (Nat → Int32)) (h : f_X11_addPiece s_pieces s_firsts s_sizes s_worths v1 = some res) (sz : Nat) : Met l yX11_addPiece wsX11_addPiece rm_X11_addPiece (cPre D k [.ref h_t, .int v1] (W_X11_addPiece k h_t h_t_firsts h_t_sizes h_t_worths h_t_w h_t_tape h_t_readWorths h_t_dues h_t_sums h_t_worthOf h_t_lies h_t_pairs h_t_row h_t_hands h_t_paidOn h_t_lates h_t_fixed h_t_lanes h_t_longs h_t_items h_t_hand h_t_used s_isKept s_taped s_pieces s_at s_readMany s_readKind s_readCut s_rowSet s_bestSet s_firsts s_sizes s_worths) sz) (cQv D (W_X11_addPiece k h_t h_t_firsts h_t_sizes h_t_worths h_t_w h_t_tape h_t_readWorths h_t_dues h_t_sums h_t_worthOf h_t_lies h_t_pairs h_t_row h_t_hands h_t_paidOn h_t_lates h_t_fixed h_t_lanes h_t_longs h_t_items h_t_hand h_t_used s_isKept s_taped s_pieces s_at s_readMany s_readKind s_readCut s_rowSet s_bestSet s_firsts s_sizes s_worths) sz (W_X11_addPiece k h_t h_t_firsts h_t_sizes h_t_worths h_t_w h_t_tape h_t_readWorths h_t_dues h_t_sums h_t_worthOf h_t_lies h_t_pairs h_t_row h_t_hands h_t_paidOn h_t_lates h_t_fixed h_t_lanes h_t_longs h_t_items h_t_hand h_t_used s_isKept s_taped res.1 s_at s_readMany s_readKind s_readCut s_rowSet s_bestSet res.2.1 res.2.2.1 res.2.2.2)) 0 0 (va_A (W_X11_addPiece k h_t h_t_firsts h_t_sizes h_t_worths h_t_w h_t_tape h_t_readWorths h_t_dues h_t_sums h_t_worthOf h_t_lies h_t_pairs h_t_row h_t_hands h_t_paidOn h_t_lates h_t_fixed h_t_lanes h_t_longs h_t_items h_t_hand h_t_used s_isKept s_taped s_pieces s_at s_readMany s_readKind s_readCut s_rowSet s_bestSet s_firsts s_sizes s_worths) sz) := by
  refine met_of [(0, .ref h_t), (1, .int v1)] (by decide) rfl rfl (Nat.le_of_ble_eq_true rfl) rfl ?_
  intro p e s m args below meth c A hA hsz C
  unfold f_X11_addPiece at h
  refine g_aload_n 0 C 0 dX11_addPiece_0 rfl rfl ?_
  refine g_get 1 C in_X11_addPiece_X11 0 4 rfl rfl (by decide) fl_X11_addPiece_16 rfl rfl dX11_addPiece_1 ?_
  refine g_aload_n 4 C 0 dX11_addPiece_4 rfl rfl ?_
  refine g_get 5 C in_X11_addPiece_X11 0 7 rfl rfl (by decide) fl_X11_addPiece_85 rfl rfl dX11_addPiece_5 ?_
  refine g_iload_n 8 C 1 dX11_addPiece_8 rfl rfl ?_
  obtain ⟨o1, h⟩ := ob_e h
  refine g_iast 9 C (W_X11_addPiece k h_t h_t_firsts h_t_sizes h_t_worths h_t_w h_t_tape h_t_readWorths h_t_dues h_t_sums h_t_worthOf h_t_lies h_t_pairs h_t_row h_t_hands h_t_paidOn h_t_lates h_t_fixed h_t_lanes h_t_longs h_t_items h_t_hand h_t_used s_isKept s_taped s_pieces s_at s_readMany s_readKind s_readCut s_rowSet s_bestSet (upd s_firsts s_pieces.toNatClampNeg v1) s_sizes s_worths) 1 rfl o1 rfl dX11_addPiece_9 ?_
  refine g_aload_n 10 C 0 dX11_addPiece_10 rfl rfl ?_
  refine g_get 11 C in_X11_addPiece_X11 0 5 rfl rfl (by decide) fl_X11_addPiece_19 rfl rfl dX11_addPiece_11 ?_
  refine g_aload_n 14 C 0 dX11_addPiece_14 rfl rfl ?_
  refine g_get 15 C in_X11_addPiece_X11 0 7 rfl rfl (by decide) fl_X11_addPiece_85 rfl rfl dX11_addPiece_15 ?_
  refine g_iconst 18 C (0 : Int32) dX11_addPiece_18 (by decide) ?_
  obtain ⟨o2, h⟩ := ob_e h
  refine g_iast 19 C (W_X11_addPiece k h_t h_t_firsts h_t_sizes h_t_worths h_t_w h_t_tape h_t_readWorths h_t_dues h_t_sums h_t_worthOf h_t_lies h_t_pairs h_t_row h_t_hands h_t_paidOn h_t_lates h_t_fixed h_t_lanes h_t_longs h_t_items h_t_hand h_t_used s_isKept s_taped s_pieces s_at s_readMany s_readKind s_readCut s_rowSet s_bestSet (upd s_firsts s_pieces.toNatClampNeg v1) (upd s_sizes s_pieces.toNatClampNeg (0 : Int32)) s_worths) 2 rfl o2 rfl dX11_addPiece_19 ?_
  refine g_aload_n 20 C 0 dX11_addPiece_20 rfl rfl ?_
  refine g_get 21 C in_X11_addPiece_X11 0 6 rfl rfl (by decide) fl_X11_addPiece_22 rfl rfl dX11_addPiece_21 ?_
  refine g_aload_n 24 C 0 dX11_addPiece_24 rfl rfl ?_
  refine g_get 25 C in_X11_addPiece_X11 0 7 rfl rfl (by decide) fl_X11_addPiece_85 rfl rfl dX11_addPiece_25 ?_
  refine g_iconst 28 C (0 : Int32) dX11_addPiece_28 (by decide) ?_
  obtain ⟨o3, h⟩ := ob_e h
  refine g_iast 29 C (W_X11_addPiece k h_t h_t_firsts h_t_sizes h_t_worths h_t_w h_t_tape h_t_readWorths h_t_dues h_t_sums h_t_worthOf h_t_lies h_t_pairs h_t_row h_t_hands h_t_paidOn h_t_lates h_t_fixed h_t_lanes h_t_longs h_t_items h_t_hand h_t_used s_isKept s_taped s_pieces s_at s_readMany s_readKind s_readCut s_rowSet s_bestSet (upd s_firsts s_pieces.toNatClampNeg v1) (upd s_sizes s_pieces.toNatClampNeg (0 : Int32)) (upd s_worths s_pieces.toNatClampNeg (0 : Int32))) 3 rfl o3 rfl dX11_addPiece_29 ?_
  refine g_aload_n 30 C 0 dX11_addPiece_30 rfl rfl ?_
  refine g_dup 31 C dX11_addPiece_31 rfl ?_
  refine g_get 32 C in_X11_addPiece_X11 0 7 rfl rfl (by decide) fl_X11_addPiece_85 rfl rfl dX11_addPiece_32 ?_
  refine g_iconst 35 C (1 : Int32) dX11_addPiece_35 (by decide) ?_
  refine g_iadd 36 C dX11_addPiece_36 ?_
  refine g_put 37 C (W_X11_addPiece k h_t h_t_firsts h_t_sizes h_t_worths h_t_w h_t_tape h_t_readWorths h_t_dues h_t_sums h_t_worthOf h_t_lies h_t_pairs h_t_row h_t_hands h_t_paidOn h_t_lates h_t_fixed h_t_lanes h_t_longs h_t_items h_t_hand h_t_used s_isKept s_taped (s_pieces + (1 : Int32)) s_at s_readMany s_readKind s_readCut s_rowSet s_bestSet (upd s_firsts s_pieces.toNatClampNeg v1) (upd s_sizes s_pieces.toNatClampNeg (0 : Int32)) (upd s_worths s_pieces.toNatClampNeg (0 : Int32))) in_X11_addPiece_X11 tyX11 tyX11_ok nmX11 0 7 rfl rfl (by decide) fl_X11_addPiece_85 rfl rfl (tyX11_ok 7 (by decide)) rfl rfl (Nat.le_of_ble_eq_true rfl) rfl dX11_addPiece_37 ?_
  obtain rfl := Option.some.inj h
  exact g_vret 40 C hA dX11_addPiece_40 rfl
end

/-! X11_lay -/
abbrev W_X11_lay (k : Nat → ClassId) (h_t : Nat) (h_t_w : Nat) (h_t_firsts : Nat) (h_t_sizes : Nat) (h_t_worths : Nat) (h_t_tape : Nat) (h_t_readWorths : Nat) (h_t_dues : Nat) (h_t_sums : Nat) (h_t_worthOf : Nat) (h_t_lies : Nat) (h_t_pairs : Nat) (h_t_row : Nat) (h_t_hands : Nat) (h_t_paidOn : Nat) (h_t_lates : Nat) (h_t_fixed : Nat) (h_t_lanes : Nat) (h_t_longs : Nat) (h_t_items : Nat) (h_t_hand : Nat) (h_t_used : Nat) (s_isKept : Int32) (s_taped : Int32) (s_pieces : Int32) (s_at : Int32) (s_readMany : Int32) (s_readKind : Int32) (s_readCut : Int32) (s_rowSet : Int32) (s_bestSet : Int32) (s_w : Nat → Int32) (s_firsts : Nat → Int32) (s_sizes : Nat → Int32) (s_worths : Nat → Int32) : va_W := [(h_t, .inr (11, [.ref h_t_w, .int s_isKept, .ref h_t_tape, .int s_taped, .ref h_t_firsts, .ref h_t_sizes, .ref h_t_worths, .int s_pieces, .int s_at, .ref h_t_readWorths, .int s_readMany, .int s_readKind, .int s_readCut, .ref h_t_dues, .ref h_t_sums, .ref h_t_worthOf, .ref h_t_lies, .ref h_t_pairs, .ref h_t_row, .int s_rowSet, .int s_bestSet, .ref h_t_hands, .ref h_t_paidOn, .ref h_t_lates, .ref h_t_fixed, .ref h_t_lanes, .ref h_t_longs, .ref h_t_items, .ref h_t_hand, .ref h_t_used])), (h_t_w, .inl (k 0, 60, .inl s_w)), (h_t_firsts, .inl (k 0, 24, .inl s_firsts)), (h_t_sizes, .inl (k 0, 24, .inl s_sizes)), (h_t_worths, .inl (k 0, 24, .inl s_worths))]
def rm_X11_lay : Room := { frames := 1, cells := 0, slots := 0, locals := 21 }
theorem in_X11_lay_X11 : ∀ w ∈ u_ws RX11 TX11 30, w ∈ wsX11_lay := by decide +kernel
theorem fl_X11_lay_16 : Cond.fieldLink RX11 16 "LinkDaysModel" "firsts" "[I" ∈ wsX11_lay := by decide +kernel
theorem fl_X11_lay_19 : Cond.fieldLink RX11 19 "LinkDaysModel" "sizes" "[I" ∈ wsX11_lay := by decide +kernel
theorem fl_X11_lay_22 : Cond.fieldLink RX11 22 "LinkDaysModel" "worths" "[I" ∈ wsX11_lay := by decide +kernel
theorem fl_X11_lay_7 : Cond.fieldLink RX11 7 "LinkDaysModel" "w" "[I" ∈ wsX11_lay := by decide +kernel
theorem fl_X11_lay_85 : Cond.fieldLink RX11 85 "LinkDaysModel" "pieces" "I" ∈ wsX11_lay := by decide +kernel
theorem pd_X11_lay : yX11_lay.cls = RX11 ∧ yX11_lay.cls ≠ "java/lang/invoke/MethodHandle" ∧ yX11_lay.cls ≠ "java/lang/invoke/VarHandle" ∧ (parseMethodDescriptor yX11_lay.desc).map (fun d => d.parameters.length) = some 1 := by decide +kernel
section
variable {p : Program} {l : Launch} {e : Env} {s : State} {m : MethodId} {args : Array Value} {below : List Frame} {meth : Method} {c : Code} {D : va_G} {k : Nat → ClassId} {A : Nat → Prop} {w0 : va_W} {sz : Nat}
set_option maxHeartbeats 4000000 in
set_option maxRecDepth 100000 in
theorem ok_B_X11_lay_166 {h_t : Nat} {h_t_w : Nat} {h_t_firsts : Nat} {h_t_sizes : Nat} {h_t_worths : Nat} {h_t_tape : Nat} {h_t_readWorths : Nat} {h_t_dues : Nat} {h_t_sums : Nat} {h_t_worthOf : Nat} {h_t_lies : Nat} {h_t_pairs : Nat} {h_t_row : Nat} {h_t_hands : Nat} {h_t_paidOn : Nat} {h_t_lates : Nat} {h_t_fixed : Nat} {h_t_lanes : Nat} {h_t_longs : Nat} {h_t_items : Nat} {h_t_hand : Nat} {h_t_used : Nat} {s_isKept : Int32} {s_taped : Int32} {s_pieces : Int32} {s_at : Int32} {s_readMany : Int32} {s_readKind : Int32} {s_readCut : Int32} {s_rowSet : Int32} {s_bestSet : Int32} {s_w : Nat → Int32} {s_firsts : Nat → Int32} {s_sizes : Nat → Int32} {s_worths : Nat → Int32} {v1 : Int32} {v2 : Int32} {x0 : Int32} {x1 : Int32} {x2 : Int32} {res : Int32 × (Nat → Int32) × (Nat → Int32) × (Nat → Int32)} {kx rec : Int32 × Int32 × (Nat → Int32) × (Nat → Int32) × (Nat → Int32) → Option (Int32 × (Nat → Int32) × (Nat → Int32) × (Nat → Int32))} (C : CX p s m args meth c cX11_lay wsX11_lay RX11 6 D k A none) (hA : A = va_A w0 sz) (hx : ∀ t : Int32 × Int32 × (Nat → Int32) × (Nat → Int32) × (Nat → Int32), kx t = some res → GG p l e rm_X11_lay s m args below meth c (MQ below (cQv D w0 sz (W_X11_lay k h_t h_t_w h_t_firsts h_t_sizes h_t_worths h_t_tape h_t_readWorths h_t_dues h_t_sums h_t_worthOf h_t_lies h_t_pairs h_t_row h_t_hands h_t_paidOn h_t_lates h_t_fixed h_t_lanes h_t_longs h_t_items h_t_hand h_t_used s_isKept s_taped res.1 s_at s_readMany s_readKind s_readCut s_rowSet s_bestSet s_w res.2.1 res.2.2.1 res.2.2.2)) args s 0 0 A) D A 6 0 0 174 [(0, .ref h_t), (1, .int v1)] [] (W_X11_lay k h_t h_t_w h_t_firsts h_t_sizes h_t_worths h_t_tape h_t_readWorths h_t_dues h_t_sums h_t_worthOf h_t_lies h_t_pairs h_t_row h_t_hands h_t_paidOn h_t_lates h_t_fixed h_t_lanes h_t_longs h_t_items h_t_hand h_t_used s_isKept s_taped t.2.1 s_at s_readMany s_readKind s_readCut s_rowSet s_bestSet s_w t.2.2.1 t.2.2.2.1 t.2.2.2.2)) (hr : ∀ t : Int32 × Int32 × (Nat → Int32) × (Nat → Int32) × (Nat → Int32), rec t = some res → GG p l e rm_X11_lay s m args below meth c (MQ below (cQv D w0 sz (W_X11_lay k h_t h_t_w h_t_firsts h_t_sizes h_t_worths h_t_tape h_t_readWorths h_t_dues h_t_sums h_t_worthOf h_t_lies h_t_pairs h_t_row h_t_hands h_t_paidOn h_t_lates h_t_fixed h_t_lanes h_t_longs h_t_items h_t_hand h_t_used s_isKept s_taped res.1 s_at s_readMany s_readKind s_readCut s_rowSet s_bestSet s_w res.2.1 res.2.2.1 res.2.2.2)) args s 0 0 A) D A 6 0 0 7 [(0, .ref h_t), (1, .int v1), (2, .int t.1)] [] (W_X11_lay k h_t h_t_w h_t_firsts h_t_sizes h_t_worths h_t_tape h_t_readWorths h_t_dues h_t_sums h_t_worthOf h_t_lies h_t_pairs h_t_row h_t_hands h_t_paidOn h_t_lates h_t_fixed h_t_lanes h_t_longs h_t_items h_t_hand h_t_used s_isKept s_taped t.2.1 s_at s_readMany s_readKind s_readCut s_rowSet s_bestSet s_w t.2.2.1 t.2.2.2.1 t.2.2.2.2))  (h : B_X11_lay_166 kx rec s_pieces s_firsts s_sizes s_worths v2 x0 x1 x2 = some res) : GG p l e rm_X11_lay s m args below meth c (MQ below (cQv D w0 sz (W_X11_lay k h_t h_t_w h_t_firsts h_t_sizes h_t_worths h_t_tape h_t_readWorths h_t_dues h_t_sums h_t_worthOf h_t_lies h_t_pairs h_t_row h_t_hands h_t_paidOn h_t_lates h_t_fixed h_t_lanes h_t_longs h_t_items h_t_hand h_t_used s_isKept s_taped res.1 s_at s_readMany s_readKind s_readCut s_rowSet s_bestSet s_w res.2.1 res.2.2.1 res.2.2.2)) args s 0 0 A) D A 6 0 0 166 [(0, .ref h_t), (1, .int v1), (2, .int v2)] [.int x0, .int x1, .int x2, .ref h_t_worths] (W_X11_lay k h_t h_t_w h_t_firsts h_t_sizes h_t_worths h_t_tape h_t_readWorths h_t_dues h_t_sums h_t_worthOf h_t_lies h_t_pairs h_t_row h_t_hands h_t_paidOn h_t_lates h_t_fixed h_t_lanes h_t_longs h_t_items h_t_hand h_t_used s_isKept s_taped s_pieces s_at s_readMany s_readKind s_readCut s_rowSet s_bestSet s_w s_firsts s_sizes s_worths) := by
  unfold B_X11_lay_166 at h
  refine g_iadd 166 C dX11_lay_166 ?_
  obtain ⟨o10, h⟩ := ob_e h
  refine g_iast 167 C (W_X11_lay k h_t h_t_w h_t_firsts h_t_sizes h_t_worths h_t_tape h_t_readWorths h_t_dues h_t_sums h_t_worthOf h_t_lies h_t_pairs h_t_row h_t_hands h_t_paidOn h_t_lates h_t_fixed h_t_lanes h_t_longs h_t_items h_t_hand h_t_used s_isKept s_taped s_pieces s_at s_readMany s_readKind s_readCut s_rowSet s_bestSet s_w s_firsts s_sizes (upd s_worths x2.toNatClampNeg (x1 + x0))) 4 rfl o10 rfl dX11_lay_167 ?_
  refine g_iinc 168 C 2 (1 : Int32) [(2, .int (v2 + (1 : Int32))), (0, .ref h_t), (1, .int v1)] dX11_lay_168 rfl (by decide) (by decide) rfl ?_
  refine g_goto 171 7 C dX11_lay_171 (by decide) ?_
  refine GG.sub (lv' := [(0, .ref h_t), (1, .int v1), (2, .int (v2 + (1 : Int32)))]) [1, 2, 0] rfl ?_
  exact hr ((v2 + (1 : Int32)), s_pieces, s_firsts, s_sizes, (upd s_worths x2.toNatClampNeg (x1 + x0))) h
set_option maxHeartbeats 4000000 in
set_option maxRecDepth 100000 in
theorem ok_B_X11_lay_111 {h_t : Nat} {h_t_w : Nat} {h_t_firsts : Nat} {h_t_sizes : Nat} {h_t_worths : Nat} {h_t_tape : Nat} {h_t_readWorths : Nat} {h_t_dues : Nat} {h_t_sums : Nat} {h_t_worthOf : Nat} {h_t_lies : Nat} {h_t_pairs : Nat} {h_t_row : Nat} {h_t_hands : Nat} {h_t_paidOn : Nat} {h_t_lates : Nat} {h_t_fixed : Nat} {h_t_lanes : Nat} {h_t_longs : Nat} {h_t_items : Nat} {h_t_hand : Nat} {h_t_used : Nat} {s_isKept : Int32} {s_taped : Int32} {s_pieces : Int32} {s_at : Int32} {s_readMany : Int32} {s_readKind : Int32} {s_readCut : Int32} {s_rowSet : Int32} {s_bestSet : Int32} {s_w : Nat → Int32} {s_firsts : Nat → Int32} {s_sizes : Nat → Int32} {s_worths : Nat → Int32} {v1 : Int32} {v2 : Int32} {x0 : Int32} {res : Int32 × (Nat → Int32) × (Nat → Int32) × (Nat → Int32)} {kx rec : Int32 × Int32 × (Nat → Int32) × (Nat → Int32) × (Nat → Int32) → Option (Int32 × (Nat → Int32) × (Nat → Int32) × (Nat → Int32))} (C : CX p s m args meth c cX11_lay wsX11_lay RX11 6 D k A none) (hA : A = va_A w0 sz) (hx : ∀ t : Int32 × Int32 × (Nat → Int32) × (Nat → Int32) × (Nat → Int32), kx t = some res → GG p l e rm_X11_lay s m args below meth c (MQ below (cQv D w0 sz (W_X11_lay k h_t h_t_w h_t_firsts h_t_sizes h_t_worths h_t_tape h_t_readWorths h_t_dues h_t_sums h_t_worthOf h_t_lies h_t_pairs h_t_row h_t_hands h_t_paidOn h_t_lates h_t_fixed h_t_lanes h_t_longs h_t_items h_t_hand h_t_used s_isKept s_taped res.1 s_at s_readMany s_readKind s_readCut s_rowSet s_bestSet s_w res.2.1 res.2.2.1 res.2.2.2)) args s 0 0 A) D A 6 0 0 174 [(0, .ref h_t), (1, .int v1)] [] (W_X11_lay k h_t h_t_w h_t_firsts h_t_sizes h_t_worths h_t_tape h_t_readWorths h_t_dues h_t_sums h_t_worthOf h_t_lies h_t_pairs h_t_row h_t_hands h_t_paidOn h_t_lates h_t_fixed h_t_lanes h_t_longs h_t_items h_t_hand h_t_used s_isKept s_taped t.2.1 s_at s_readMany s_readKind s_readCut s_rowSet s_bestSet s_w t.2.2.1 t.2.2.2.1 t.2.2.2.2)) (hr : ∀ t : Int32 × Int32 × (Nat → Int32) × (Nat → Int32) × (Nat → Int32), rec t = some res → GG p l e rm_X11_lay s m args below meth c (MQ below (cQv D w0 sz (W_X11_lay k h_t h_t_w h_t_firsts h_t_sizes h_t_worths h_t_tape h_t_readWorths h_t_dues h_t_sums h_t_worthOf h_t_lies h_t_pairs h_t_row h_t_hands h_t_paidOn h_t_lates h_t_fixed h_t_lanes h_t_longs h_t_items h_t_hand h_t_used s_isKept s_taped res.1 s_at s_readMany s_readKind s_readCut s_rowSet s_bestSet s_w res.2.1 res.2.2.1 res.2.2.2)) args s 0 0 A) D A 6 0 0 7 [(0, .ref h_t), (1, .int v1), (2, .int t.1)] [] (W_X11_lay k h_t h_t_w h_t_firsts h_t_sizes h_t_worths h_t_tape h_t_readWorths h_t_dues h_t_sums h_t_worthOf h_t_lies h_t_pairs h_t_row h_t_hands h_t_paidOn h_t_lates h_t_fixed h_t_lanes h_t_longs h_t_items h_t_hand h_t_used s_isKept s_taped t.2.1 s_at s_readMany s_readKind s_readCut s_rowSet s_bestSet s_w t.2.2.1 t.2.2.2.1 t.2.2.2.2))  (h : B_X11_lay_111 kx rec s_pieces s_w s_firsts s_sizes s_worths v2 x0 = some res) : GG p l e rm_X11_lay s m args below meth c (MQ below (cQv D w0 sz (W_X11_lay k h_t h_t_w h_t_firsts h_t_sizes h_t_worths h_t_tape h_t_readWorths h_t_dues h_t_sums h_t_worthOf h_t_lies h_t_pairs h_t_row h_t_hands h_t_paidOn h_t_lates h_t_fixed h_t_lanes h_t_longs h_t_items h_t_hand h_t_used s_isKept s_taped res.1 s_at s_readMany s_readKind s_readCut s_rowSet s_bestSet s_w res.2.1 res.2.2.1 res.2.2.2)) args s 0 0 A) D A 6 0 0 111 [(0, .ref h_t), (1, .int v1), (2, .int v2)] [.int x0] (W_X11_lay k h_t h_t_w h_t_firsts h_t_sizes h_t_worths h_t_tape h_t_readWorths h_t_dues h_t_sums h_t_worthOf h_t_lies h_t_pairs h_t_row h_t_hands h_t_paidOn h_t_lates h_t_fixed h_t_lanes h_t_longs h_t_items h_t_hand h_t_used s_isKept s_taped s_pieces s_at s_readMany s_readKind s_readCut s_rowSet s_bestSet s_w s_firsts s_sizes s_worths) := by
  unfold B_X11_lay_111 at h
  refine g_istore 111 C [(5, .int x0), (0, .ref h_t), (1, .int v1), (2, .int v2)] dX11_lay_111 (by decide) rfl ?_
  refine g_aload_n 113 C 1 dX11_lay_113 rfl rfl ?_
  refine g_get 114 C in_X11_lay_X11 0 5 rfl rfl (by decide) fl_X11_lay_19 rfl rfl dX11_lay_114 ?_
  refine g_aload_n 117 C 1 dX11_lay_117 rfl rfl ?_
  refine g_get 118 C in_X11_lay_X11 0 7 rfl rfl (by decide) fl_X11_lay_85 rfl rfl dX11_lay_118 ?_
  refine g_iconst 121 C (1 : Int32) dX11_lay_121 (by decide) ?_
  refine g_isub 122 C dX11_lay_122 ?_
  refine g_dup2 123 C dX11_lay_123 rfl rfl ?_
  obtain ⟨o6, h⟩ := ob_e h
  refine g_iald 124 C 3 rfl o6 dX11_lay_124 ?_
  refine g_iconst 125 C (1 : Int32) dX11_lay_125 (by decide) ?_
  refine g_iadd 126 C dX11_lay_126 ?_
  obtain ⟨o7, h⟩ := ob_e h
  refine g_iast 127 C (W_X11_lay k h_t h_t_w h_t_firsts h_t_sizes h_t_worths h_t_tape h_t_readWorths h_t_dues h_t_sums h_t_worthOf h_t_lies h_t_pairs h_t_row h_t_hands h_t_paidOn h_t_lates h_t_fixed h_t_lanes h_t_longs h_t_items h_t_hand h_t_used s_isKept s_taped s_pieces s_at s_readMany s_readKind s_readCut s_rowSet s_bestSet s_w s_firsts (upd s_sizes (s_pieces - (1 : Int32)).toNatClampNeg ((s_sizes (s_pieces - (1 : Int32)).toNatClampNeg) + (1 : Int32))) s_worths) 3 rfl o7 rfl dX11_lay_127 ?_
  refine g_aload_n 128 C 1 dX11_lay_128 rfl rfl ?_
  refine g_get 129 C in_X11_lay_X11 0 6 rfl rfl (by decide) fl_X11_lay_22 rfl rfl dX11_lay_129 ?_
  refine g_aload_n 132 C 1 dX11_lay_132 rfl rfl ?_
  refine g_get 133 C in_X11_lay_X11 0 7 rfl rfl (by decide) fl_X11_lay_85 rfl rfl dX11_lay_133 ?_
  refine g_iconst 136 C (1 : Int32) dX11_lay_136 (by decide) ?_
  refine g_isub 137 C dX11_lay_137 ?_
  refine g_dup2 138 C dX11_lay_138 rfl rfl ?_
  obtain ⟨o8, h⟩ := ob_e h
  refine g_iald 139 C 4 rfl o8 dX11_lay_139 ?_
  refine g_iload 140 C 0 dX11_lay_140 rfl ?_
  refine g_if_eq 142 158 C dX11_lay_142 (by decide) (fun c => ?_) (fun c => ?_)
  · replace h := it_e c h
    refine g_aload_n 158 C 1 dX11_lay_158 rfl rfl ?_
    refine g_get 159 C in_X11_lay_X11 0 0 rfl rfl (by decide) fl_X11_lay_7 rfl rfl dX11_lay_159 ?_
    refine g_iconst 162 C (2 : Int32) dX11_lay_162 (by decide) ?_
    refine g_iload_n 163 C 3 dX11_lay_163 rfl rfl ?_
    refine g_iadd 164 C dX11_lay_164 ?_
    obtain ⟨o9, h⟩ := ob_e h
    refine g_iald 165 C 1 rfl o9 dX11_lay_165 ?_
    refine GG.sub (lv' := [(0, .ref h_t), (1, .int v1), (2, .int v2)]) [1, 2, 3] rfl ?_
    exact ok_B_X11_lay_166 C hA hx hr h
  · replace h := if_e c h
    refine g_aload_n 145 C 1 dX11_lay_145 rfl rfl ?_
    refine g_get 146 C in_X11_lay_X11 0 0 rfl rfl (by decide) fl_X11_lay_7 rfl rfl dX11_lay_146 ?_
    refine g_iconst 149 C (2 : Int32) dX11_lay_149 (by decide) ?_
    refine g_iload_n 150 C 3 dX11_lay_150 rfl rfl ?_
    refine g_iadd 151 C dX11_lay_151 ?_
    obtain ⟨o11, h⟩ := ob_e h
    refine g_iald 152 C 1 rfl o11 dX11_lay_152 ?_
    refine g_iconst 153 C (1 : Int32) dX11_lay_153 (by decide) ?_
    refine g_isub 154 C dX11_lay_154 ?_
    refine g_goto 155 166 C dX11_lay_155 (by decide) ?_
    refine GG.sub (lv' := [(0, .ref h_t), (1, .int v1), (2, .int v2)]) [1, 2, 3] rfl ?_
    exact ok_B_X11_lay_166 C hA hx hr h
set_option maxHeartbeats 4000000 in
set_option maxRecDepth 100000 in
theorem ok_B_X11_lay_110 {h_t : Nat} {h_t_w : Nat} {h_t_firsts : Nat} {h_t_sizes : Nat} {h_t_worths : Nat} {h_t_tape : Nat} {h_t_readWorths : Nat} {h_t_dues : Nat} {h_t_sums : Nat} {h_t_worthOf : Nat} {h_t_lies : Nat} {h_t_pairs : Nat} {h_t_row : Nat} {h_t_hands : Nat} {h_t_paidOn : Nat} {h_t_lates : Nat} {h_t_fixed : Nat} {h_t_lanes : Nat} {h_t_longs : Nat} {h_t_items : Nat} {h_t_hand : Nat} {h_t_used : Nat} {s_isKept : Int32} {s_taped : Int32} {s_pieces : Int32} {s_at : Int32} {s_readMany : Int32} {s_readKind : Int32} {s_readCut : Int32} {s_rowSet : Int32} {s_bestSet : Int32} {s_w : Nat → Int32} {s_firsts : Nat → Int32} {s_sizes : Nat → Int32} {s_worths : Nat → Int32} {v1 : Int32} {v2 : Int32} {res : Int32 × (Nat → Int32) × (Nat → Int32) × (Nat → Int32)} {kx rec : Int32 × Int32 × (Nat → Int32) × (Nat → Int32) × (Nat → Int32) → Option (Int32 × (Nat → Int32) × (Nat → Int32) × (Nat → Int32))} (C : CX p s m args meth c cX11_lay wsX11_lay RX11 6 D k A none) (hA : A = va_A w0 sz) (hx : ∀ t : Int32 × Int32 × (Nat → Int32) × (Nat → Int32) × (Nat → Int32), kx t = some res → GG p l e rm_X11_lay s m args below meth c (MQ below (cQv D w0 sz (W_X11_lay k h_t h_t_w h_t_firsts h_t_sizes h_t_worths h_t_tape h_t_readWorths h_t_dues h_t_sums h_t_worthOf h_t_lies h_t_pairs h_t_row h_t_hands h_t_paidOn h_t_lates h_t_fixed h_t_lanes h_t_longs h_t_items h_t_hand h_t_used s_isKept s_taped res.1 s_at s_readMany s_readKind s_readCut s_rowSet s_bestSet s_w res.2.1 res.2.2.1 res.2.2.2)) args s 0 0 A) D A 6 0 0 174 [(0, .ref h_t), (1, .int v1)] [] (W_X11_lay k h_t h_t_w h_t_firsts h_t_sizes h_t_worths h_t_tape h_t_readWorths h_t_dues h_t_sums h_t_worthOf h_t_lies h_t_pairs h_t_row h_t_hands h_t_paidOn h_t_lates h_t_fixed h_t_lanes h_t_longs h_t_items h_t_hand h_t_used s_isKept s_taped t.2.1 s_at s_readMany s_readKind s_readCut s_rowSet s_bestSet s_w t.2.2.1 t.2.2.2.1 t.2.2.2.2)) (hr : ∀ t : Int32 × Int32 × (Nat → Int32) × (Nat → Int32) × (Nat → Int32), rec t = some res → GG p l e rm_X11_lay s m args below meth c (MQ below (cQv D w0 sz (W_X11_lay k h_t h_t_w h_t_firsts h_t_sizes h_t_worths h_t_tape h_t_readWorths h_t_dues h_t_sums h_t_worthOf h_t_lies h_t_pairs h_t_row h_t_hands h_t_paidOn h_t_lates h_t_fixed h_t_lanes h_t_longs h_t_items h_t_hand h_t_used s_isKept s_taped res.1 s_at s_readMany s_readKind s_readCut s_rowSet s_bestSet s_w res.2.1 res.2.2.1 res.2.2.2)) args s 0 0 A) D A 6 0 0 7 [(0, .ref h_t), (1, .int v1), (2, .int t.1)] [] (W_X11_lay k h_t h_t_w h_t_firsts h_t_sizes h_t_worths h_t_tape h_t_readWorths h_t_dues h_t_sums h_t_worthOf h_t_lies h_t_pairs h_t_row h_t_hands h_t_paidOn h_t_lates h_t_fixed h_t_lanes h_t_longs h_t_items h_t_hand h_t_used s_isKept s_taped t.2.1 s_at s_readMany s_readKind s_readCut s_rowSet s_bestSet s_w t.2.2.1 t.2.2.2.1 t.2.2.2.2))  (h : B_X11_lay_110 kx rec s_pieces s_w s_firsts s_sizes s_worths v2 = some res) : GG p l e rm_X11_lay s m args below meth c (MQ below (cQv D w0 sz (W_X11_lay k h_t h_t_w h_t_firsts h_t_sizes h_t_worths h_t_tape h_t_readWorths h_t_dues h_t_sums h_t_worthOf h_t_lies h_t_pairs h_t_row h_t_hands h_t_paidOn h_t_lates h_t_fixed h_t_lanes h_t_longs h_t_items h_t_hand h_t_used s_isKept s_taped res.1 s_at s_readMany s_readKind s_readCut s_rowSet s_bestSet s_w res.2.1 res.2.2.1 res.2.2.2)) args s 0 0 A) D A 6 0 0 110 [(0, .ref h_t), (1, .int v1), (2, .int v2)] [] (W_X11_lay k h_t h_t_w h_t_firsts h_t_sizes h_t_worths h_t_tape h_t_readWorths h_t_dues h_t_sums h_t_worthOf h_t_lies h_t_pairs h_t_row h_t_hands h_t_paidOn h_t_lates h_t_fixed h_t_lanes h_t_longs h_t_items h_t_hand h_t_used s_isKept s_taped s_pieces s_at s_readMany s_readKind s_readCut s_rowSet s_bestSet s_w s_firsts s_sizes s_worths) := by
  unfold B_X11_lay_110 at h
  refine g_iconst 110 C (0 : Int32) dX11_lay_110 (by decide) ?_
  refine GG.sub (lv' := [(0, .ref h_t), (1, .int v1), (2, .int v2)]) [0, 1, 2] rfl ?_
  exact ok_B_X11_lay_111 C hA hx hr h
set_option maxHeartbeats 4000000 in
set_option maxRecDepth 100000 in
theorem ok_B_X11_lay_76 {h_t : Nat} {h_t_w : Nat} {h_t_firsts : Nat} {h_t_sizes : Nat} {h_t_worths : Nat} {h_t_tape : Nat} {h_t_readWorths : Nat} {h_t_dues : Nat} {h_t_sums : Nat} {h_t_worthOf : Nat} {h_t_lies : Nat} {h_t_pairs : Nat} {h_t_row : Nat} {h_t_hands : Nat} {h_t_paidOn : Nat} {h_t_lates : Nat} {h_t_fixed : Nat} {h_t_lanes : Nat} {h_t_longs : Nat} {h_t_items : Nat} {h_t_hand : Nat} {h_t_used : Nat} {s_isKept : Int32} {s_taped : Int32} {s_pieces : Int32} {s_at : Int32} {s_readMany : Int32} {s_readKind : Int32} {s_readCut : Int32} {s_rowSet : Int32} {s_bestSet : Int32} {s_w : Nat → Int32} {s_firsts : Nat → Int32} {s_sizes : Nat → Int32} {s_worths : Nat → Int32} {v1 : Int32} {v2 : Int32} {res : Int32 × (Nat → Int32) × (Nat → Int32) × (Nat → Int32)} {kx rec : Int32 × Int32 × (Nat → Int32) × (Nat → Int32) × (Nat → Int32) → Option (Int32 × (Nat → Int32) × (Nat → Int32) × (Nat → Int32))} (C : CX p s m args meth c cX11_lay wsX11_lay RX11 6 D k A none) (hA : A = va_A w0 sz) (hx : ∀ t : Int32 × Int32 × (Nat → Int32) × (Nat → Int32) × (Nat → Int32), kx t = some res → GG p l e rm_X11_lay s m args below meth c (MQ below (cQv D w0 sz (W_X11_lay k h_t h_t_w h_t_firsts h_t_sizes h_t_worths h_t_tape h_t_readWorths h_t_dues h_t_sums h_t_worthOf h_t_lies h_t_pairs h_t_row h_t_hands h_t_paidOn h_t_lates h_t_fixed h_t_lanes h_t_longs h_t_items h_t_hand h_t_used s_isKept s_taped res.1 s_at s_readMany s_readKind s_readCut s_rowSet s_bestSet s_w res.2.1 res.2.2.1 res.2.2.2)) args s 0 0 A) D A 6 0 0 174 [(0, .ref h_t), (1, .int v1)] [] (W_X11_lay k h_t h_t_w h_t_firsts h_t_sizes h_t_worths h_t_tape h_t_readWorths h_t_dues h_t_sums h_t_worthOf h_t_lies h_t_pairs h_t_row h_t_hands h_t_paidOn h_t_lates h_t_fixed h_t_lanes h_t_longs h_t_items h_t_hand h_t_used s_isKept s_taped t.2.1 s_at s_readMany s_readKind s_readCut s_rowSet s_bestSet s_w t.2.2.1 t.2.2.2.1 t.2.2.2.2)) (hr : ∀ t : Int32 × Int32 × (Nat → Int32) × (Nat → Int32) × (Nat → Int32), rec t = some res → GG p l e rm_X11_lay s m args below meth c (MQ below (cQv D w0 sz (W_X11_lay k h_t h_t_w h_t_firsts h_t_sizes h_t_worths h_t_tape h_t_readWorths h_t_dues h_t_sums h_t_worthOf h_t_lies h_t_pairs h_t_row h_t_hands h_t_paidOn h_t_lates h_t_fixed h_t_lanes h_t_longs h_t_items h_t_hand h_t_used s_isKept s_taped res.1 s_at s_readMany s_readKind s_readCut s_rowSet s_bestSet s_w res.2.1 res.2.2.1 res.2.2.2)) args s 0 0 A) D A 6 0 0 7 [(0, .ref h_t), (1, .int v1), (2, .int t.1)] [] (W_X11_lay k h_t h_t_w h_t_firsts h_t_sizes h_t_worths h_t_tape h_t_readWorths h_t_dues h_t_sums h_t_worthOf h_t_lies h_t_pairs h_t_row h_t_hands h_t_paidOn h_t_lates h_t_fixed h_t_lanes h_t_longs h_t_items h_t_hand h_t_used s_isKept s_taped t.2.1 s_at s_readMany s_readKind s_readCut s_rowSet s_bestSet s_w t.2.2.1 t.2.2.2.1 t.2.2.2.2))  (h : B_X11_lay_76 kx rec s_pieces s_w s_firsts s_sizes s_worths v1 v2 = some res) : GG p l e rm_X11_lay s m args below meth c (MQ below (cQv D w0 sz (W_X11_lay k h_t h_t_w h_t_firsts h_t_sizes h_t_worths h_t_tape h_t_readWorths h_t_dues h_t_sums h_t_worthOf h_t_lies h_t_pairs h_t_row h_t_hands h_t_paidOn h_t_lates h_t_fixed h_t_lanes h_t_longs h_t_items h_t_hand h_t_used s_isKept s_taped res.1 s_at s_readMany s_readKind s_readCut s_rowSet s_bestSet s_w res.2.1 res.2.2.1 res.2.2.2)) args s 0 0 A) D A 6 0 0 76 [(0, .ref h_t), (1, .int v1), (2, .int v2)] [] (W_X11_lay k h_t h_t_w h_t_firsts h_t_sizes h_t_worths h_t_tape h_t_readWorths h_t_dues h_t_sums h_t_worthOf h_t_lies h_t_pairs h_t_row h_t_hands h_t_paidOn h_t_lates h_t_fixed h_t_lanes h_t_longs h_t_items h_t_hand h_t_used s_isKept s_taped s_pieces s_at s_readMany s_readKind s_readCut s_rowSet s_bestSet s_w s_firsts s_sizes s_worths) := by
  unfold B_X11_lay_76 at h
  refine g_aload_n 76 C 0 dX11_lay_76 rfl rfl ?_
  refine g_get 77 C in_X11_lay_X11 0 0 rfl rfl (by decide) fl_X11_lay_7 rfl rfl dX11_lay_77 ?_
  refine g_iconst 80 C (0 : Int32) dX11_lay_80 (by decide) ?_
  obtain ⟨o5, h⟩ := ob_e h
  refine g_iald 81 C 1 rfl o5 dX11_lay_81 ?_
  refine g_iconst 82 C (3 : Int32) dX11_lay_82 (by decide) ?_
  refine g_icmp_ne 83 110 C dX11_lay_83 (by decide) (fun c => ?_) (fun c => ?_)
  · replace h := if_e c h
    refine GG.sub (lv' := [(0, .ref h_t), (1, .int v1), (2, .int v2)]) [0, 1, 2] rfl ?_
    exact ok_B_X11_lay_110 C hA hx hr h
  · replace h := it_e c h
    refine g_iload_n 86 C 1 dX11_lay_86 rfl rfl ?_
    refine g_iload_n 87 C 2 dX11_lay_87 rfl rfl ?_
    obtain ⟨q12, e13, h⟩ := bi_e h
    refine g_callSi 88 C (As := [.int v1, .int v2]) [] [0, 1, 2, 3, 4] [0, 1, 2, 3, 4] (W_X11_lay k h_t h_t_w h_t_firsts h_t_sizes h_t_worths h_t_tape h_t_readWorths h_t_dues h_t_sums h_t_worthOf h_t_lies h_t_pairs h_t_row h_t_hands h_t_paidOn h_t_lates h_t_fixed h_t_lanes h_t_longs h_t_items h_t_hand h_t_used s_isKept s_taped s_pieces s_at s_readMany s_readKind s_readCut s_rowSet s_bestSet s_w s_firsts s_sizes s_worths) (fun sz => k_X11_has v1 v2 q12 e13 sz) gX11_lay_X11_has rfl pd_X11_has rfl ⟨rfl, rfl, Nat.le_of_ble_eq_true rfl, Nat.le_of_ble_eq_true rfl⟩ (Nat.le_of_ble_eq_true rfl) ⟨Nat.zero_le _, Nat.zero_le _⟩ ⟨rfl, rfl, rfl, rfl, rfl, by decide, rfl⟩ rfl dX11_lay_88 ?_
    refine g_if_eq 91 110 C dX11_lay_91 (by decide) (fun c => ?_) (fun c => ?_)
    · replace h := it_e c h
      refine GG.sub (lv' := [(0, .ref h_t), (1, .int v1), (2, .int v2)]) [0, 1, 2] rfl ?_
      exact ok_B_X11_lay_110 C hA hx hr h
    · replace h := if_e c h
      refine g_aload_n 94 C 0 dX11_lay_94 rfl rfl ?_
      refine g_get 95 C in_X11_lay_X11 0 0 rfl rfl (by decide) fl_X11_lay_7 rfl rfl dX11_lay_95 ?_
      refine g_iconst 98 C (2 : Int32) dX11_lay_98 (by decide) ?_
      refine g_iload_n 99 C 2 dX11_lay_99 rfl rfl ?_
      refine g_iadd 100 C dX11_lay_100 ?_
      obtain ⟨o14, h⟩ := ob_e h
      refine g_iald 101 C 1 rfl o14 dX11_lay_101 ?_
      refine g_iconst 102 C (1 : Int32) dX11_lay_102 (by decide) ?_
      refine g_icmp_le 103 110 C dX11_lay_103 (by decide) (fun c => ?_) (fun c => ?_)
      · replace h := it_e c h
        refine GG.sub (lv' := [(0, .ref h_t), (1, .int v1), (2, .int v2)]) [0, 1, 2] rfl ?_
        exact ok_B_X11_lay_110 C hA hx hr h
      · replace h := if_e c h
        refine g_iconst 106 C (1 : Int32) dX11_lay_106 (by decide) ?_
        refine g_goto 107 111 C dX11_lay_107 (by decide) ?_
        refine GG.sub (lv' := [(0, .ref h_t), (1, .int v1), (2, .int v2)]) [0, 1, 2] rfl ?_
        exact ok_B_X11_lay_111 C hA hx hr h
set_option maxHeartbeats 4000000 in
set_option maxRecDepth 100000 in
theorem ok_B_X11_lay_71 {h_t : Nat} {h_t_w : Nat} {h_t_firsts : Nat} {h_t_sizes : Nat} {h_t_worths : Nat} {h_t_tape : Nat} {h_t_readWorths : Nat} {h_t_dues : Nat} {h_t_sums : Nat} {h_t_worthOf : Nat} {h_t_lies : Nat} {h_t_pairs : Nat} {h_t_row : Nat} {h_t_hands : Nat} {h_t_paidOn : Nat} {h_t_lates : Nat} {h_t_fixed : Nat} {h_t_lanes : Nat} {h_t_longs : Nat} {h_t_items : Nat} {h_t_hand : Nat} {h_t_used : Nat} {s_isKept : Int32} {s_taped : Int32} {s_pieces : Int32} {s_at : Int32} {s_readMany : Int32} {s_readKind : Int32} {s_readCut : Int32} {s_rowSet : Int32} {s_bestSet : Int32} {s_w : Nat → Int32} {s_firsts : Nat → Int32} {s_sizes : Nat → Int32} {s_worths : Nat → Int32} {v1 : Int32} {v2 : Int32} {res : Int32 × (Nat → Int32) × (Nat → Int32) × (Nat → Int32)} {kx rec : Int32 × Int32 × (Nat → Int32) × (Nat → Int32) × (Nat → Int32) → Option (Int32 × (Nat → Int32) × (Nat → Int32) × (Nat → Int32))} (C : CX p s m args meth c cX11_lay wsX11_lay RX11 6 D k A none) (hA : A = va_A w0 sz) (hx : ∀ t : Int32 × Int32 × (Nat → Int32) × (Nat → Int32) × (Nat → Int32), kx t = some res → GG p l e rm_X11_lay s m args below meth c (MQ below (cQv D w0 sz (W_X11_lay k h_t h_t_w h_t_firsts h_t_sizes h_t_worths h_t_tape h_t_readWorths h_t_dues h_t_sums h_t_worthOf h_t_lies h_t_pairs h_t_row h_t_hands h_t_paidOn h_t_lates h_t_fixed h_t_lanes h_t_longs h_t_items h_t_hand h_t_used s_isKept s_taped res.1 s_at s_readMany s_readKind s_readCut s_rowSet s_bestSet s_w res.2.1 res.2.2.1 res.2.2.2)) args s 0 0 A) D A 6 0 0 174 [(0, .ref h_t), (1, .int v1)] [] (W_X11_lay k h_t h_t_w h_t_firsts h_t_sizes h_t_worths h_t_tape h_t_readWorths h_t_dues h_t_sums h_t_worthOf h_t_lies h_t_pairs h_t_row h_t_hands h_t_paidOn h_t_lates h_t_fixed h_t_lanes h_t_longs h_t_items h_t_hand h_t_used s_isKept s_taped t.2.1 s_at s_readMany s_readKind s_readCut s_rowSet s_bestSet s_w t.2.2.1 t.2.2.2.1 t.2.2.2.2)) (hr : ∀ t : Int32 × Int32 × (Nat → Int32) × (Nat → Int32) × (Nat → Int32), rec t = some res → GG p l e rm_X11_lay s m args below meth c (MQ below (cQv D w0 sz (W_X11_lay k h_t h_t_w h_t_firsts h_t_sizes h_t_worths h_t_tape h_t_readWorths h_t_dues h_t_sums h_t_worthOf h_t_lies h_t_pairs h_t_row h_t_hands h_t_paidOn h_t_lates h_t_fixed h_t_lanes h_t_longs h_t_items h_t_hand h_t_used s_isKept s_taped res.1 s_at s_readMany s_readKind s_readCut s_rowSet s_bestSet s_w res.2.1 res.2.2.1 res.2.2.2)) args s 0 0 A) D A 6 0 0 7 [(0, .ref h_t), (1, .int v1), (2, .int t.1)] [] (W_X11_lay k h_t h_t_w h_t_firsts h_t_sizes h_t_worths h_t_tape h_t_readWorths h_t_dues h_t_sums h_t_worthOf h_t_lies h_t_pairs h_t_row h_t_hands h_t_paidOn h_t_lates h_t_fixed h_t_lanes h_t_longs h_t_items h_t_hand h_t_used s_isKept s_taped t.2.1 s_at s_readMany s_readKind s_readCut s_rowSet s_bestSet s_w t.2.2.1 t.2.2.2.1 t.2.2.2.2))  (h : B_X11_lay_71 kx rec s_pieces s_w s_firsts s_sizes s_worths v1 v2 = some res) : GG p l e rm_X11_lay s m args below meth c (MQ below (cQv D w0 sz (W_X11_lay k h_t h_t_w h_t_firsts h_t_sizes h_t_worths h_t_tape h_t_readWorths h_t_dues h_t_sums h_t_worthOf h_t_lies h_t_pairs h_t_row h_t_hands h_t_paidOn h_t_lates h_t_fixed h_t_lanes h_t_longs h_t_items h_t_hand h_t_used s_isKept s_taped res.1 s_at s_readMany s_readKind s_readCut s_rowSet s_bestSet s_w res.2.1 res.2.2.1 res.2.2.2)) args s 0 0 A) D A 6 0 0 71 [(0, .ref h_t), (1, .int v1), (2, .int v2)] [] (W_X11_lay k h_t h_t_w h_t_firsts h_t_sizes h_t_worths h_t_tape h_t_readWorths h_t_dues h_t_sums h_t_worthOf h_t_lies h_t_pairs h_t_row h_t_hands h_t_paidOn h_t_lates h_t_fixed h_t_lanes h_t_longs h_t_items h_t_hand h_t_used s_isKept s_taped s_pieces s_at s_readMany s_readKind s_readCut s_rowSet s_bestSet s_w s_firsts s_sizes s_worths) := by
  unfold B_X11_lay_71 at h
  refine g_aload_n 71 C 0 dX11_lay_71 rfl rfl ?_
  refine g_iload_n 72 C 2 dX11_lay_72 rfl rfl ?_
  obtain ⟨q3, e4, h⟩ := bi_e h
  refine g_callVv 73 C (As := [.int v2]) [0, 2, 3, 4] [1] [1, 0, 2, 3, 4] (W_X11_lay k h_t h_t_w h_t_firsts h_t_sizes h_t_worths h_t_tape h_t_readWorths h_t_dues h_t_sums h_t_worthOf h_t_lies h_t_pairs h_t_row h_t_hands h_t_paidOn h_t_lates h_t_fixed h_t_lanes h_t_longs h_t_items h_t_hand h_t_used s_isKept s_taped q3.1 s_at s_readMany s_readKind s_readCut s_rowSet s_bestSet s_w q3.2.1 q3.2.2.1 q3.2.2.2) 0 (fun sz => k_X11_addPiece h_t h_t_firsts h_t_sizes h_t_worths h_t_w h_t_tape h_t_readWorths h_t_dues h_t_sums h_t_worthOf h_t_lies h_t_pairs h_t_row h_t_hands h_t_paidOn h_t_lates h_t_fixed h_t_lanes h_t_longs h_t_items h_t_hand h_t_used s_isKept s_taped s_pieces s_at s_readMany s_readKind s_readCut s_rowSet s_bestSet s_firsts s_sizes s_worths v2 q3 e4 sz) gX11_lay_X11_addPiece rfl pd_X11_addPiece rfl rfl rfl ⟨rfl, rfl, Nat.le_of_ble_eq_true rfl, Nat.le_of_ble_eq_true rfl⟩ (Nat.le_of_ble_eq_true rfl) ⟨Nat.zero_le _, Nat.zero_le _⟩ ⟨rfl, rfl, rfl, rfl, rfl, by decide, rfl⟩ rfl dX11_lay_73 ?_
  refine GG.sub (lv' := [(0, .ref h_t), (1, .int v1), (2, .int v2)]) [0, 1, 2] rfl ?_
  exact ok_B_X11_lay_76 C hA hx hr h
set_option maxHeartbeats 4000000 in
set_option maxRecDepth 100000 in
theorem ok_B_X11_lay_60 {h_t : Nat} {h_t_w : Nat} {h_t_firsts : Nat} {h_t_sizes : Nat} {h_t_worths : Nat} {h_t_tape : Nat} {h_t_readWorths : Nat} {h_t_dues : Nat} {h_t_sums : Nat} {h_t_worthOf : Nat} {h_t_lies : Nat} {h_t_pairs : Nat} {h_t_row : Nat} {h_t_hands : Nat} {h_t_paidOn : Nat} {h_t_lates : Nat} {h_t_fixed : Nat} {h_t_lanes : Nat} {h_t_longs : Nat} {h_t_items : Nat} {h_t_hand : Nat} {h_t_used : Nat} {s_isKept : Int32} {s_taped : Int32} {s_pieces : Int32} {s_at : Int32} {s_readMany : Int32} {s_readKind : Int32} {s_readCut : Int32} {s_rowSet : Int32} {s_bestSet : Int32} {s_w : Nat → Int32} {s_firsts : Nat → Int32} {s_sizes : Nat → Int32} {s_worths : Nat → Int32} {v1 : Int32} {v2 : Int32} {v3 : Int32} {x0 : Int32} {res : Int32 × (Nat → Int32) × (Nat → Int32) × (Nat → Int32)} {kx rec : Int32 × Int32 × (Nat → Int32) × (Nat → Int32) × (Nat → Int32) → Option (Int32 × (Nat → Int32) × (Nat → Int32) × (Nat → Int32))} (C : CX p s m args meth c cX11_lay wsX11_lay RX11 6 D k A none) (hA : A = va_A w0 sz) (hx : ∀ t : Int32 × Int32 × (Nat → Int32) × (Nat → Int32) × (Nat → Int32), kx t = some res → GG p l e rm_X11_lay s m args below meth c (MQ below (cQv D w0 sz (W_X11_lay k h_t h_t_w h_t_firsts h_t_sizes h_t_worths h_t_tape h_t_readWorths h_t_dues h_t_sums h_t_worthOf h_t_lies h_t_pairs h_t_row h_t_hands h_t_paidOn h_t_lates h_t_fixed h_t_lanes h_t_longs h_t_items h_t_hand h_t_used s_isKept s_taped res.1 s_at s_readMany s_readKind s_readCut s_rowSet s_bestSet s_w res.2.1 res.2.2.1 res.2.2.2)) args s 0 0 A) D A 6 0 0 174 [(0, .ref h_t), (1, .int v1)] [] (W_X11_lay k h_t h_t_w h_t_firsts h_t_sizes h_t_worths h_t_tape h_t_readWorths h_t_dues h_t_sums h_t_worthOf h_t_lies h_t_pairs h_t_row h_t_hands h_t_paidOn h_t_lates h_t_fixed h_t_lanes h_t_longs h_t_items h_t_hand h_t_used s_isKept s_taped t.2.1 s_at s_readMany s_readKind s_readCut s_rowSet s_bestSet s_w t.2.2.1 t.2.2.2.1 t.2.2.2.2)) (hr : ∀ t : Int32 × Int32 × (Nat → Int32) × (Nat → Int32) × (Nat → Int32), rec t = some res → GG p l e rm_X11_lay s m args below meth c (MQ below (cQv D w0 sz (W_X11_lay k h_t h_t_w h_t_firsts h_t_sizes h_t_worths h_t_tape h_t_readWorths h_t_dues h_t_sums h_t_worthOf h_t_lies h_t_pairs h_t_row h_t_hands h_t_paidOn h_t_lates h_t_fixed h_t_lanes h_t_longs h_t_items h_t_hand h_t_used s_isKept s_taped res.1 s_at s_readMany s_readKind s_readCut s_rowSet s_bestSet s_w res.2.1 res.2.2.1 res.2.2.2)) args s 0 0 A) D A 6 0 0 7 [(0, .ref h_t), (1, .int v1), (2, .int t.1)] [] (W_X11_lay k h_t h_t_w h_t_firsts h_t_sizes h_t_worths h_t_tape h_t_readWorths h_t_dues h_t_sums h_t_worthOf h_t_lies h_t_pairs h_t_row h_t_hands h_t_paidOn h_t_lates h_t_fixed h_t_lanes h_t_longs h_t_items h_t_hand h_t_used s_isKept s_taped t.2.1 s_at s_readMany s_readKind s_readCut s_rowSet s_bestSet s_w t.2.2.1 t.2.2.2.1 t.2.2.2.2))  (h : B_X11_lay_60 kx rec s_pieces s_w s_firsts s_sizes s_worths v1 v2 v3 x0 = some res) : GG p l e rm_X11_lay s m args below meth c (MQ below (cQv D w0 sz (W_X11_lay k h_t h_t_w h_t_firsts h_t_sizes h_t_worths h_t_tape h_t_readWorths h_t_dues h_t_sums h_t_worthOf h_t_lies h_t_pairs h_t_row h_t_hands h_t_paidOn h_t_lates h_t_fixed h_t_lanes h_t_longs h_t_items h_t_hand h_t_used s_isKept s_taped res.1 s_at s_readMany s_readKind s_readCut s_rowSet s_bestSet s_w res.2.1 res.2.2.1 res.2.2.2)) args s 0 0 A) D A 6 0 0 60 [(0, .ref h_t), (1, .int v1), (2, .int v2), (3, .int v3)] [.int x0] (W_X11_lay k h_t h_t_w h_t_firsts h_t_sizes h_t_worths h_t_tape h_t_readWorths h_t_dues h_t_sums h_t_worthOf h_t_lies h_t_pairs h_t_row h_t_hands h_t_paidOn h_t_lates h_t_fixed h_t_lanes h_t_longs h_t_items h_t_hand h_t_used s_isKept s_taped s_pieces s_at s_readMany s_readKind s_readCut s_rowSet s_bestSet s_w s_firsts s_sizes s_worths) := by
  unfold B_X11_lay_60 at h
  refine g_istore 60 C [(4, .int x0), (0, .ref h_t), (1, .int v1), (2, .int v2), (3, .int v3)] dX11_lay_60 (by decide) rfl ?_
  refine g_iload_n 62 C 4 dX11_lay_62 rfl rfl ?_
  refine g_if_ne 63 71 C dX11_lay_63 (by decide) (fun c => ?_) (fun c => ?_)
  · replace h := if_e c h
    refine GG.sub (lv' := [(0, .ref h_t), (1, .int v1), (2, .int v2)]) [1, 2, 3] rfl ?_
    exact ok_B_X11_lay_71 C hA hx hr h
  · replace h := it_e c h
    refine g_iload 66 C 0 dX11_lay_66 rfl ?_
    refine g_if_eq 68 76 C dX11_lay_68 (by decide) (fun c => ?_) (fun c => ?_)
    · replace h := it_e c h
      refine GG.sub (lv' := [(0, .ref h_t), (1, .int v1), (2, .int v2)]) [1, 2, 3] rfl ?_
      exact ok_B_X11_lay_76 C hA hx hr h
    · replace h := if_e c h
      refine GG.sub (lv' := [(0, .ref h_t), (1, .int v1), (2, .int v2)]) [1, 2, 3] rfl ?_
      exact ok_B_X11_lay_71 C hA hx hr h
set_option maxHeartbeats 4000000 in
set_option maxRecDepth 100000 in
theorem ok_B_X11_lay_55 {h_t : Nat} {h_t_w : Nat} {h_t_firsts : Nat} {h_t_sizes : Nat} {h_t_worths : Nat} {h_t_tape : Nat} {h_t_readWorths : Nat} {h_t_dues : Nat} {h_t_sums : Nat} {h_t_worthOf : Nat} {h_t_lies : Nat} {h_t_pairs : Nat} {h_t_row : Nat} {h_t_hands : Nat} {h_t_paidOn : Nat} {h_t_lates : Nat} {h_t_fixed : Nat} {h_t_lanes : Nat} {h_t_longs : Nat} {h_t_items : Nat} {h_t_hand : Nat} {h_t_used : Nat} {s_isKept : Int32} {s_taped : Int32} {s_pieces : Int32} {s_at : Int32} {s_readMany : Int32} {s_readKind : Int32} {s_readCut : Int32} {s_rowSet : Int32} {s_bestSet : Int32} {s_w : Nat → Int32} {s_firsts : Nat → Int32} {s_sizes : Nat → Int32} {s_worths : Nat → Int32} {v1 : Int32} {v2 : Int32} {v3 : Int32} {res : Int32 × (Nat → Int32) × (Nat → Int32) × (Nat → Int32)} {kx rec : Int32 × Int32 × (Nat → Int32) × (Nat → Int32) × (Nat → Int32) → Option (Int32 × (Nat → Int32) × (Nat → Int32) × (Nat → Int32))} (C : CX p s m args meth c cX11_lay wsX11_lay RX11 6 D k A none) (hA : A = va_A w0 sz) (hx : ∀ t : Int32 × Int32 × (Nat → Int32) × (Nat → Int32) × (Nat → Int32), kx t = some res → GG p l e rm_X11_lay s m args below meth c (MQ below (cQv D w0 sz (W_X11_lay k h_t h_t_w h_t_firsts h_t_sizes h_t_worths h_t_tape h_t_readWorths h_t_dues h_t_sums h_t_worthOf h_t_lies h_t_pairs h_t_row h_t_hands h_t_paidOn h_t_lates h_t_fixed h_t_lanes h_t_longs h_t_items h_t_hand h_t_used s_isKept s_taped res.1 s_at s_readMany s_readKind s_readCut s_rowSet s_bestSet s_w res.2.1 res.2.2.1 res.2.2.2)) args s 0 0 A) D A 6 0 0 174 [(0, .ref h_t), (1, .int v1)] [] (W_X11_lay k h_t h_t_w h_t_firsts h_t_sizes h_t_worths h_t_tape h_t_readWorths h_t_dues h_t_sums h_t_worthOf h_t_lies h_t_pairs h_t_row h_t_hands h_t_paidOn h_t_lates h_t_fixed h_t_lanes h_t_longs h_t_items h_t_hand h_t_used s_isKept s_taped t.2.1 s_at s_readMany s_readKind s_readCut s_rowSet s_bestSet s_w t.2.2.1 t.2.2.2.1 t.2.2.2.2)) (hr : ∀ t : Int32 × Int32 × (Nat → Int32) × (Nat → Int32) × (Nat → Int32), rec t = some res → GG p l e rm_X11_lay s m args below meth c (MQ below (cQv D w0 sz (W_X11_lay k h_t h_t_w h_t_firsts h_t_sizes h_t_worths h_t_tape h_t_readWorths h_t_dues h_t_sums h_t_worthOf h_t_lies h_t_pairs h_t_row h_t_hands h_t_paidOn h_t_lates h_t_fixed h_t_lanes h_t_longs h_t_items h_t_hand h_t_used s_isKept s_taped res.1 s_at s_readMany s_readKind s_readCut s_rowSet s_bestSet s_w res.2.1 res.2.2.1 res.2.2.2)) args s 0 0 A) D A 6 0 0 7 [(0, .ref h_t), (1, .int v1), (2, .int t.1)] [] (W_X11_lay k h_t h_t_w h_t_firsts h_t_sizes h_t_worths h_t_tape h_t_readWorths h_t_dues h_t_sums h_t_worthOf h_t_lies h_t_pairs h_t_row h_t_hands h_t_paidOn h_t_lates h_t_fixed h_t_lanes h_t_longs h_t_items h_t_hand h_t_used s_isKept s_taped t.2.1 s_at s_readMany s_readKind s_readCut s_rowSet s_bestSet s_w t.2.2.1 t.2.2.2.1 t.2.2.2.2))  (h : B_X11_lay_55 kx rec s_pieces s_w s_firsts s_sizes s_worths v1 v2 v3 = some res) : GG p l e rm_X11_lay s m args below meth c (MQ below (cQv D w0 sz (W_X11_lay k h_t h_t_w h_t_firsts h_t_sizes h_t_worths h_t_tape h_t_readWorths h_t_dues h_t_sums h_t_worthOf h_t_lies h_t_pairs h_t_row h_t_hands h_t_paidOn h_t_lates h_t_fixed h_t_lanes h_t_longs h_t_items h_t_hand h_t_used s_isKept s_taped res.1 s_at s_readMany s_readKind s_readCut s_rowSet s_bestSet s_w res.2.1 res.2.2.1 res.2.2.2)) args s 0 0 A) D A 6 0 0 55 [(0, .ref h_t), (1, .int v1), (2, .int v2), (3, .int v3)] [] (W_X11_lay k h_t h_t_w h_t_firsts h_t_sizes h_t_worths h_t_tape h_t_readWorths h_t_dues h_t_sums h_t_worthOf h_t_lies h_t_pairs h_t_row h_t_hands h_t_paidOn h_t_lates h_t_fixed h_t_lanes h_t_longs h_t_items h_t_hand h_t_used s_isKept s_taped s_pieces s_at s_readMany s_readKind s_readCut s_rowSet s_bestSet s_w s_firsts s_sizes s_worths) := by
  unfold B_X11_lay_55 at h
  refine g_iconst 55 C (1 : Int32) dX11_lay_55 (by decide) ?_
  refine g_goto 56 60 C dX11_lay_56 (by decide) ?_
  refine GG.sub (lv' := [(0, .ref h_t), (1, .int v1), (2, .int v2), (3, .int v3)]) [0, 1, 2, 3] rfl ?_
  exact ok_B_X11_lay_60 C hA hx hr h
set_option maxHeartbeats 4000000 in
set_option maxRecDepth 100000 in
theorem ok_B_X11_lay_40 {h_t : Nat} {h_t_w : Nat} {h_t_firsts : Nat} {h_t_sizes : Nat} {h_t_worths : Nat} {h_t_tape : Nat} {h_t_readWorths : Nat} {h_t_dues : Nat} {h_t_sums : Nat} {h_t_worthOf : Nat} {h_t_lies : Nat} {h_t_pairs : Nat} {h_t_row : Nat} {h_t_hands : Nat} {h_t_paidOn : Nat} {h_t_lates : Nat} {h_t_fixed : Nat} {h_t_lanes : Nat} {h_t_longs : Nat} {h_t_items : Nat} {h_t_hand : Nat} {h_t_used : Nat} {s_isKept : Int32} {s_taped : Int32} {s_pieces : Int32} {s_at : Int32} {s_readMany : Int32} {s_readKind : Int32} {s_readCut : Int32} {s_rowSet : Int32} {s_bestSet : Int32} {s_w : Nat → Int32} {s_firsts : Nat → Int32} {s_sizes : Nat → Int32} {s_worths : Nat → Int32} {v1 : Int32} {v2 : Int32} {x0 : Int32} {res : Int32 × (Nat → Int32) × (Nat → Int32) × (Nat → Int32)} {kx rec : Int32 × Int32 × (Nat → Int32) × (Nat → Int32) × (Nat → Int32) → Option (Int32 × (Nat → Int32) × (Nat → Int32) × (Nat → Int32))} (C : CX p s m args meth c cX11_lay wsX11_lay RX11 6 D k A none) (hA : A = va_A w0 sz) (hx : ∀ t : Int32 × Int32 × (Nat → Int32) × (Nat → Int32) × (Nat → Int32), kx t = some res → GG p l e rm_X11_lay s m args below meth c (MQ below (cQv D w0 sz (W_X11_lay k h_t h_t_w h_t_firsts h_t_sizes h_t_worths h_t_tape h_t_readWorths h_t_dues h_t_sums h_t_worthOf h_t_lies h_t_pairs h_t_row h_t_hands h_t_paidOn h_t_lates h_t_fixed h_t_lanes h_t_longs h_t_items h_t_hand h_t_used s_isKept s_taped res.1 s_at s_readMany s_readKind s_readCut s_rowSet s_bestSet s_w res.2.1 res.2.2.1 res.2.2.2)) args s 0 0 A) D A 6 0 0 174 [(0, .ref h_t), (1, .int v1)] [] (W_X11_lay k h_t h_t_w h_t_firsts h_t_sizes h_t_worths h_t_tape h_t_readWorths h_t_dues h_t_sums h_t_worthOf h_t_lies h_t_pairs h_t_row h_t_hands h_t_paidOn h_t_lates h_t_fixed h_t_lanes h_t_longs h_t_items h_t_hand h_t_used s_isKept s_taped t.2.1 s_at s_readMany s_readKind s_readCut s_rowSet s_bestSet s_w t.2.2.1 t.2.2.2.1 t.2.2.2.2)) (hr : ∀ t : Int32 × Int32 × (Nat → Int32) × (Nat → Int32) × (Nat → Int32), rec t = some res → GG p l e rm_X11_lay s m args below meth c (MQ below (cQv D w0 sz (W_X11_lay k h_t h_t_w h_t_firsts h_t_sizes h_t_worths h_t_tape h_t_readWorths h_t_dues h_t_sums h_t_worthOf h_t_lies h_t_pairs h_t_row h_t_hands h_t_paidOn h_t_lates h_t_fixed h_t_lanes h_t_longs h_t_items h_t_hand h_t_used s_isKept s_taped res.1 s_at s_readMany s_readKind s_readCut s_rowSet s_bestSet s_w res.2.1 res.2.2.1 res.2.2.2)) args s 0 0 A) D A 6 0 0 7 [(0, .ref h_t), (1, .int v1), (2, .int t.1)] [] (W_X11_lay k h_t h_t_w h_t_firsts h_t_sizes h_t_worths h_t_tape h_t_readWorths h_t_dues h_t_sums h_t_worthOf h_t_lies h_t_pairs h_t_row h_t_hands h_t_paidOn h_t_lates h_t_fixed h_t_lanes h_t_longs h_t_items h_t_hand h_t_used s_isKept s_taped t.2.1 s_at s_readMany s_readKind s_readCut s_rowSet s_bestSet s_w t.2.2.1 t.2.2.2.1 t.2.2.2.2))  (h : B_X11_lay_40 kx rec s_pieces s_w s_firsts s_sizes s_worths v1 v2 x0 = some res) : GG p l e rm_X11_lay s m args below meth c (MQ below (cQv D w0 sz (W_X11_lay k h_t h_t_w h_t_firsts h_t_sizes h_t_worths h_t_tape h_t_readWorths h_t_dues h_t_sums h_t_worthOf h_t_lies h_t_pairs h_t_row h_t_hands h_t_paidOn h_t_lates h_t_fixed h_t_lanes h_t_longs h_t_items h_t_hand h_t_used s_isKept s_taped res.1 s_at s_readMany s_readKind s_readCut s_rowSet s_bestSet s_w res.2.1 res.2.2.1 res.2.2.2)) args s 0 0 A) D A 6 0 0 40 [(0, .ref h_t), (1, .int v1), (2, .int v2)] [.int x0] (W_X11_lay k h_t h_t_w h_t_firsts h_t_sizes h_t_worths h_t_tape h_t_readWorths h_t_dues h_t_sums h_t_worthOf h_t_lies h_t_pairs h_t_row h_t_hands h_t_paidOn h_t_lates h_t_fixed h_t_lanes h_t_longs h_t_items h_t_hand h_t_used s_isKept s_taped s_pieces s_at s_readMany s_readKind s_readCut s_rowSet s_bestSet s_w s_firsts s_sizes s_worths) := by
  unfold B_X11_lay_40 at h
  refine g_istore_n 40 C [(3, .int x0), (0, .ref h_t), (1, .int v1), (2, .int v2)] dX11_lay_40 rfl (by decide) rfl ?_
  refine g_iload_n 41 C 3 dX11_lay_41 rfl rfl ?_
  refine g_if_eq 42 55 C dX11_lay_42 (by decide) (fun c => ?_) (fun c => ?_)
  · replace h := it_e c h
    refine GG.sub (lv' := [(0, .ref h_t), (1, .int v1), (2, .int v2), (3, .int x0)]) [1, 2, 3, 0] rfl ?_
    exact ok_B_X11_lay_55 C hA hx hr h
  · replace h := if_e c h
    refine g_iload_n 45 C 2 dX11_lay_45 rfl rfl ?_
    refine g_iload_n 46 C 3 dX11_lay_46 rfl rfl ?_
    refine g_iconst 47 C (1 : Int32) dX11_lay_47 (by decide) ?_
    refine g_isub 48 C dX11_lay_48 ?_
    obtain ⟨q15, e16, h⟩ := bi_e h
    refine g_callSi 49 C (As := [.int v1, .int (v2 - (1 : Int32))]) [] [0, 1, 2, 3, 4] [0, 1, 2, 3, 4] (W_X11_lay k h_t h_t_w h_t_firsts h_t_sizes h_t_worths h_t_tape h_t_readWorths h_t_dues h_t_sums h_t_worthOf h_t_lies h_t_pairs h_t_row h_t_hands h_t_paidOn h_t_lates h_t_fixed h_t_lanes h_t_longs h_t_items h_t_hand h_t_used s_isKept s_taped s_pieces s_at s_readMany s_readKind s_readCut s_rowSet s_bestSet s_w s_firsts s_sizes s_worths) (fun sz => k_X11_has v1 (v2 - (1 : Int32)) q15 e16 sz) gX11_lay_X11_has rfl pd_X11_has rfl ⟨rfl, rfl, Nat.le_of_ble_eq_true rfl, Nat.le_of_ble_eq_true rfl⟩ (Nat.le_of_ble_eq_true rfl) ⟨Nat.zero_le _, Nat.zero_le _⟩ ⟨rfl, rfl, rfl, rfl, rfl, by decide, rfl⟩ rfl dX11_lay_49 ?_
    refine g_if_eq 52 59 C dX11_lay_52 (by decide) (fun c => ?_) (fun c => ?_)
    · replace h := it_e c h
      refine g_iconst 59 C (0 : Int32) dX11_lay_59 (by decide) ?_
      refine GG.sub (lv' := [(0, .ref h_t), (1, .int v1), (2, .int v2), (3, .int x0)]) [1, 2, 3, 0] rfl ?_
      exact ok_B_X11_lay_60 C hA hx hr h
    · replace h := if_e c h
      refine GG.sub (lv' := [(0, .ref h_t), (1, .int v1), (2, .int v2), (3, .int x0)]) [1, 2, 3, 0] rfl ?_
      exact ok_B_X11_lay_55 C hA hx hr h
set_option maxHeartbeats 4000000 in
set_option maxRecDepth 100000 in
theorem ok_B_X11_lay_39 {h_t : Nat} {h_t_w : Nat} {h_t_firsts : Nat} {h_t_sizes : Nat} {h_t_worths : Nat} {h_t_tape : Nat} {h_t_readWorths : Nat} {h_t_dues : Nat} {h_t_sums : Nat} {h_t_worthOf : Nat} {h_t_lies : Nat} {h_t_pairs : Nat} {h_t_row : Nat} {h_t_hands : Nat} {h_t_paidOn : Nat} {h_t_lates : Nat} {h_t_fixed : Nat} {h_t_lanes : Nat} {h_t_longs : Nat} {h_t_items : Nat} {h_t_hand : Nat} {h_t_used : Nat} {s_isKept : Int32} {s_taped : Int32} {s_pieces : Int32} {s_at : Int32} {s_readMany : Int32} {s_readKind : Int32} {s_readCut : Int32} {s_rowSet : Int32} {s_bestSet : Int32} {s_w : Nat → Int32} {s_firsts : Nat → Int32} {s_sizes : Nat → Int32} {s_worths : Nat → Int32} {v1 : Int32} {v2 : Int32} {res : Int32 × (Nat → Int32) × (Nat → Int32) × (Nat → Int32)} {kx rec : Int32 × Int32 × (Nat → Int32) × (Nat → Int32) × (Nat → Int32) → Option (Int32 × (Nat → Int32) × (Nat → Int32) × (Nat → Int32))} (C : CX p s m args meth c cX11_lay wsX11_lay RX11 6 D k A none) (hA : A = va_A w0 sz) (hx : ∀ t : Int32 × Int32 × (Nat → Int32) × (Nat → Int32) × (Nat → Int32), kx t = some res → GG p l e rm_X11_lay s m args below meth c (MQ below (cQv D w0 sz (W_X11_lay k h_t h_t_w h_t_firsts h_t_sizes h_t_worths h_t_tape h_t_readWorths h_t_dues h_t_sums h_t_worthOf h_t_lies h_t_pairs h_t_row h_t_hands h_t_paidOn h_t_lates h_t_fixed h_t_lanes h_t_longs h_t_items h_t_hand h_t_used s_isKept s_taped res.1 s_at s_readMany s_readKind s_readCut s_rowSet s_bestSet s_w res.2.1 res.2.2.1 res.2.2.2)) args s 0 0 A) D A 6 0 0 174 [(0, .ref h_t), (1, .int v1)] [] (W_X11_lay k h_t h_t_w h_t_firsts h_t_sizes h_t_worths h_t_tape h_t_readWorths h_t_dues h_t_sums h_t_worthOf h_t_lies h_t_pairs h_t_row h_t_hands h_t_paidOn h_t_lates h_t_fixed h_t_lanes h_t_longs h_t_items h_t_hand h_t_used s_isKept s_taped t.2.1 s_at s_readMany s_readKind s_readCut s_rowSet s_bestSet s_w t.2.2.1 t.2.2.2.1 t.2.2.2.2)) (hr : ∀ t : Int32 × Int32 × (Nat → Int32) × (Nat → Int32) × (Nat → Int32), rec t = some res → GG p l e rm_X11_lay s m args below meth c (MQ below (cQv D w0 sz (W_X11_lay k h_t h_t_w h_t_firsts h_t_sizes h_t_worths h_t_tape h_t_readWorths h_t_dues h_t_sums h_t_worthOf h_t_lies h_t_pairs h_t_row h_t_hands h_t_paidOn h_t_lates h_t_fixed h_t_lanes h_t_longs h_t_items h_t_hand h_t_used s_isKept s_taped res.1 s_at s_readMany s_readKind s_readCut s_rowSet s_bestSet s_w res.2.1 res.2.2.1 res.2.2.2)) args s 0 0 A) D A 6 0 0 7 [(0, .ref h_t), (1, .int v1), (2, .int t.1)] [] (W_X11_lay k h_t h_t_w h_t_firsts h_t_sizes h_t_worths h_t_tape h_t_readWorths h_t_dues h_t_sums h_t_worthOf h_t_lies h_t_pairs h_t_row h_t_hands h_t_paidOn h_t_lates h_t_fixed h_t_lanes h_t_longs h_t_items h_t_hand h_t_used s_isKept s_taped t.2.1 s_at s_readMany s_readKind s_readCut s_rowSet s_bestSet s_w t.2.2.1 t.2.2.2.1 t.2.2.2.2))  (h : B_X11_lay_39 kx rec s_pieces s_w s_firsts s_sizes s_worths v1 v2 = some res) : GG p l e rm_X11_lay s m args below meth c (MQ below (cQv D w0 sz (W_X11_lay k h_t h_t_w h_t_firsts h_t_sizes h_t_worths h_t_tape h_t_readWorths h_t_dues h_t_sums h_t_worthOf h_t_lies h_t_pairs h_t_row h_t_hands h_t_paidOn h_t_lates h_t_fixed h_t_lanes h_t_longs h_t_items h_t_hand h_t_used s_isKept s_taped res.1 s_at s_readMany s_readKind s_readCut s_rowSet s_bestSet s_w res.2.1 res.2.2.1 res.2.2.2)) args s 0 0 A) D A 6 0 0 39 [(0, .ref h_t), (1, .int v1), (2, .int v2)] [] (W_X11_lay k h_t h_t_w h_t_firsts h_t_sizes h_t_worths h_t_tape h_t_readWorths h_t_dues h_t_sums h_t_worthOf h_t_lies h_t_pairs h_t_row h_t_hands h_t_paidOn h_t_lates h_t_fixed h_t_lanes h_t_longs h_t_items h_t_hand h_t_used s_isKept s_taped s_pieces s_at s_readMany s_readKind s_readCut s_rowSet s_bestSet s_w s_firsts s_sizes s_worths) := by
  unfold B_X11_lay_39 at h
  refine g_iconst 39 C (0 : Int32) dX11_lay_39 (by decide) ?_
  refine GG.sub (lv' := [(0, .ref h_t), (1, .int v1), (2, .int v2)]) [0, 1, 2] rfl ?_
  exact ok_B_X11_lay_40 C hA hx hr h
set_option maxHeartbeats 4000000 in
set_option maxRecDepth 100000 in
theorem ok_L_X11_lay_7 {h_t : Nat} {h_t_w : Nat} {h_t_firsts : Nat} {h_t_sizes : Nat} {h_t_worths : Nat} {h_t_tape : Nat} {h_t_readWorths : Nat} {h_t_dues : Nat} {h_t_sums : Nat} {h_t_worthOf : Nat} {h_t_lies : Nat} {h_t_pairs : Nat} {h_t_row : Nat} {h_t_hands : Nat} {h_t_paidOn : Nat} {h_t_lates : Nat} {h_t_fixed : Nat} {h_t_lanes : Nat} {h_t_longs : Nat} {h_t_items : Nat} {h_t_hand : Nat} {h_t_used : Nat} {s_isKept : Int32} {s_taped : Int32} {s_at : Int32} {s_readMany : Int32} {s_readKind : Int32} {s_readCut : Int32} {s_rowSet : Int32} {s_bestSet : Int32} {s_w : Nat → Int32} {v1 : Int32} {res : Int32 × (Nat → Int32) × (Nat → Int32) × (Nat → Int32)} (C : CX p s m args meth c cX11_lay wsX11_lay RX11 6 D k A none) (hA : A = va_A w0 sz) {kx : Int32 × Int32 × (Nat → Int32) × (Nat → Int32) × (Nat → Int32) → Option (Int32 × (Nat → Int32) × (Nat → Int32) × (Nat → Int32))} (hx : ∀ t : Int32 × Int32 × (Nat → Int32) × (Nat → Int32) × (Nat → Int32), kx t = some res → GG p l e rm_X11_lay s m args below meth c (MQ below (cQv D w0 sz (W_X11_lay k h_t h_t_w h_t_firsts h_t_sizes h_t_worths h_t_tape h_t_readWorths h_t_dues h_t_sums h_t_worthOf h_t_lies h_t_pairs h_t_row h_t_hands h_t_paidOn h_t_lates h_t_fixed h_t_lanes h_t_longs h_t_items h_t_hand h_t_used s_isKept s_taped res.1 s_at s_readMany s_readKind s_readCut s_rowSet s_bestSet s_w res.2.1 res.2.2.1 res.2.2.2)) args s 0 0 A) D A 6 0 0 174 [(0, .ref h_t), (1, .int v1)] [] (W_X11_lay k h_t h_t_w h_t_firsts h_t_sizes h_t_worths h_t_tape h_t_readWorths h_t_dues h_t_sums h_t_worthOf h_t_lies h_t_pairs h_t_row h_t_hands h_t_paidOn h_t_lates h_t_fixed h_t_lanes h_t_longs h_t_items h_t_hand h_t_used s_isKept s_taped t.2.1 s_at s_readMany s_readKind s_readCut s_rowSet s_bestSet s_w t.2.2.1 t.2.2.2.1 t.2.2.2.2)) : ∀ (n : Nat) (t : Int32 × Int32 × (Nat → Int32) × (Nat → Int32) × (Nat → Int32)), L_X11_lay_7 s_w v1 kx n t = some res → GG p l e rm_X11_lay s m args below meth c (MQ below (cQv D w0 sz (W_X11_lay k h_t h_t_w h_t_firsts h_t_sizes h_t_worths h_t_tape h_t_readWorths h_t_dues h_t_sums h_t_worthOf h_t_lies h_t_pairs h_t_row h_t_hands h_t_paidOn h_t_lates h_t_fixed h_t_lanes h_t_longs h_t_items h_t_hand h_t_used s_isKept s_taped res.1 s_at s_readMany s_readKind s_readCut s_rowSet s_bestSet s_w res.2.1 res.2.2.1 res.2.2.2)) args s 0 0 A) D A 6 0 0 7 [(0, .ref h_t), (1, .int v1), (2, .int t.1)] [] (W_X11_lay k h_t h_t_w h_t_firsts h_t_sizes h_t_worths h_t_tape h_t_readWorths h_t_dues h_t_sums h_t_worthOf h_t_lies h_t_pairs h_t_row h_t_hands h_t_paidOn h_t_lates h_t_fixed h_t_lanes h_t_longs h_t_items h_t_hand h_t_used s_isKept s_taped t.2.1 s_at s_readMany s_readKind s_readCut s_rowSet s_bestSet s_w t.2.2.1 t.2.2.2.1 t.2.2.2.2) := by
  intro n
  induction n with
  | zero => intro t h; cases h
  | succ n ih =>
    intro t h
    obtain ⟨v2, s_pieces, s_firsts, s_sizes, s_worths⟩ := t
    replace h : LB_X11_lay_7 s_w v1 kx (L_X11_lay_7 s_w v1 kx n) v2 s_pieces s_firsts s_sizes s_worths = some res := h
    have hr := ih
    unfold LB_X11_lay_7 at h
    refine g_iload_n 7 C 2 dX11_lay_7 rfl rfl ?_
    refine g_aload_n 8 C 0 dX11_lay_8 rfl rfl ?_
    refine g_get 9 C in_X11_lay_X11 0 0 rfl rfl (by decide) fl_X11_lay_7 rfl rfl dX11_lay_9 ?_
    refine g_iconst 12 C (1 : Int32) dX11_lay_12 (by decide) ?_
    obtain ⟨o1, h⟩ := ob_e h
    refine g_iald 13 C 1 rfl o1 dX11_lay_13 ?_
    refine g_icmp_ge 14 174 C dX11_lay_14 (by decide) (fun c => ?_) (fun c => ?_)
    · replace h := it_e c h
      refine GG.sub (lv' := [(0, .ref h_t), (1, .int v1)]) [0, 1] rfl ?_
      exact hx (v2, s_pieces, s_firsts, s_sizes, s_worths) h
    · replace h := if_e c h
      refine g_aload_n 17 C 0 dX11_lay_17 rfl rfl ?_
      refine g_get 18 C in_X11_lay_X11 0 0 rfl rfl (by decide) fl_X11_lay_7 rfl rfl dX11_lay_18 ?_
      refine g_iconst 21 C (0 : Int32) dX11_lay_21 (by decide) ?_
      obtain ⟨o2, h⟩ := ob_e h
      refine g_iald 22 C 1 rfl o2 dX11_lay_22 ?_
      refine g_iconst 23 C (2 : Int32) dX11_lay_23 (by decide) ?_
      refine g_icmp_ge 24 39 C dX11_lay_24 (by decide) (fun c => ?_) (fun c => ?_)
      · replace h := it_e c h
        refine GG.sub (lv' := [(0, .ref h_t), (1, .int v1), (2, .int v2)]) [0, 1, 2] rfl ?_
        exact ok_B_X11_lay_39 C hA hx hr h
      · replace h := if_e c h
        refine g_iload_n 27 C 1 dX11_lay_27 rfl rfl ?_
        refine g_iload_n 28 C 2 dX11_lay_28 rfl rfl ?_
        obtain ⟨q17, e18, h⟩ := bi_e h
        refine g_callSi 29 C (As := [.int v1, .int v2]) [] [0, 1, 2, 3, 4] [0, 1, 2, 3, 4] (W_X11_lay k h_t h_t_w h_t_firsts h_t_sizes h_t_worths h_t_tape h_t_readWorths h_t_dues h_t_sums h_t_worthOf h_t_lies h_t_pairs h_t_row h_t_hands h_t_paidOn h_t_lates h_t_fixed h_t_lanes h_t_longs h_t_items h_t_hand h_t_used s_isKept s_taped s_pieces s_at s_readMany s_readKind s_readCut s_rowSet s_bestSet s_w s_firsts s_sizes s_worths) (fun sz => k_X11_has v1 v2 q17 e18 sz) gX11_lay_X11_has rfl pd_X11_has rfl ⟨rfl, rfl, Nat.le_of_ble_eq_true rfl, Nat.le_of_ble_eq_true rfl⟩ (Nat.le_of_ble_eq_true rfl) ⟨Nat.zero_le _, Nat.zero_le _⟩ ⟨rfl, rfl, rfl, rfl, rfl, by decide, rfl⟩ rfl dX11_lay_29 ?_
        refine g_if_eq 32 39 C dX11_lay_32 (by decide) (fun c => ?_) (fun c => ?_)
        · replace h := it_e c h
          refine GG.sub (lv' := [(0, .ref h_t), (1, .int v1), (2, .int v2)]) [0, 1, 2] rfl ?_
          exact ok_B_X11_lay_39 C hA hx hr h
        · replace h := if_e c h
          refine g_iconst 35 C (1 : Int32) dX11_lay_35 (by decide) ?_
          refine g_goto 36 40 C dX11_lay_36 (by decide) ?_
          refine GG.sub (lv' := [(0, .ref h_t), (1, .int v1), (2, .int v2)]) [0, 1, 2] rfl ?_
          exact ok_B_X11_lay_40 C hA hx hr h
set_option maxHeartbeats 4000000 in
set_option maxRecDepth 100000 in
theorem ok_B_X11_lay_347 {h_t : Nat} {h_t_w : Nat} {h_t_firsts : Nat} {h_t_sizes : Nat} {h_t_worths : Nat} {h_t_tape : Nat} {h_t_readWorths : Nat} {h_t_dues : Nat} {h_t_sums : Nat} {h_t_worthOf : Nat} {h_t_lies : Nat} {h_t_pairs : Nat} {h_t_row : Nat} {h_t_hands : Nat} {h_t_paidOn : Nat} {h_t_lates : Nat} {h_t_fixed : Nat} {h_t_lanes : Nat} {h_t_longs : Nat} {h_t_items : Nat} {h_t_hand : Nat} {h_t_used : Nat} {s_isKept : Int32} {s_taped : Int32} {s_pieces : Int32} {s_at : Int32} {s_readMany : Int32} {s_readKind : Int32} {s_readCut : Int32} {s_rowSet : Int32} {s_bestSet : Int32} {s_w : Nat → Int32} {s_firsts : Nat → Int32} {s_sizes : Nat → Int32} {s_worths : Nat → Int32} {res : Int32 × (Nat → Int32) × (Nat → Int32) × (Nat → Int32)} (C : CX p s m args meth c cX11_lay wsX11_lay RX11 6 D k A none) (hA : A = va_A w0 sz)  (h : B_X11_lay_347 s_pieces s_firsts s_sizes s_worths = some res) : GG p l e rm_X11_lay s m args below meth c (MQ below (cQv D w0 sz (W_X11_lay k h_t h_t_w h_t_firsts h_t_sizes h_t_worths h_t_tape h_t_readWorths h_t_dues h_t_sums h_t_worthOf h_t_lies h_t_pairs h_t_row h_t_hands h_t_paidOn h_t_lates h_t_fixed h_t_lanes h_t_longs h_t_items h_t_hand h_t_used s_isKept s_taped res.1 s_at s_readMany s_readKind s_readCut s_rowSet s_bestSet s_w res.2.1 res.2.2.1 res.2.2.2)) args s 0 0 A) D A 6 0 0 347 [] [] (W_X11_lay k h_t h_t_w h_t_firsts h_t_sizes h_t_worths h_t_tape h_t_readWorths h_t_dues h_t_sums h_t_worthOf h_t_lies h_t_pairs h_t_row h_t_hands h_t_paidOn h_t_lates h_t_fixed h_t_lanes h_t_longs h_t_items h_t_hand h_t_used s_isKept s_taped s_pieces s_at s_readMany s_readKind s_readCut s_rowSet s_bestSet s_w s_firsts s_sizes s_worths) := by
  unfold B_X11_lay_347 at h
  obtain rfl := Option.some.inj h
  exact g_vret 347 C hA dX11_lay_347 rfl
set_option maxHeartbeats 4000000 in
set_option maxRecDepth 100000 in
theorem ok_L_X11_lay_253 {h_t : Nat} {h_t_w : Nat} {h_t_firsts : Nat} {h_t_sizes : Nat} {h_t_worths : Nat} {h_t_tape : Nat} {h_t_readWorths : Nat} {h_t_dues : Nat} {h_t_sums : Nat} {h_t_worthOf : Nat} {h_t_lies : Nat} {h_t_pairs : Nat} {h_t_row : Nat} {h_t_hands : Nat} {h_t_paidOn : Nat} {h_t_lates : Nat} {h_t_fixed : Nat} {h_t_lanes : Nat} {h_t_longs : Nat} {h_t_items : Nat} {h_t_hand : Nat} {h_t_used : Nat} {s_isKept : Int32} {s_taped : Int32} {s_pieces : Int32} {s_at : Int32} {s_readMany : Int32} {s_readKind : Int32} {s_readCut : Int32} {s_rowSet : Int32} {s_bestSet : Int32} {s_w : Nat → Int32} {v3 : Int32} {v4 : Int32} {res : Int32 × (Nat → Int32) × (Nat → Int32) × (Nat → Int32)} (C : CX p s m args meth c cX11_lay wsX11_lay RX11 6 D k A none) (hA : A = va_A w0 sz) {kx : Int32 × (Nat → Int32) × (Nat → Int32) × (Nat → Int32) → Option (Int32 × (Nat → Int32) × (Nat → Int32) × (Nat → Int32))} (hx : ∀ t : Int32 × (Nat → Int32) × (Nat → Int32) × (Nat → Int32), kx t = some res → GG p l e rm_X11_lay s m args below meth c (MQ below (cQv D w0 sz (W_X11_lay k h_t h_t_w h_t_firsts h_t_sizes h_t_worths h_t_tape h_t_readWorths h_t_dues h_t_sums h_t_worthOf h_t_lies h_t_pairs h_t_row h_t_hands h_t_paidOn h_t_lates h_t_fixed h_t_lanes h_t_longs h_t_items h_t_hand h_t_used s_isKept s_taped res.1 s_at s_readMany s_readKind s_readCut s_rowSet s_bestSet s_w res.2.1 res.2.2.1 res.2.2.2)) args s 0 0 A) D A 6 0 0 316 [(0, .ref h_t), (3, .int v3), (4, .int v4)] [] (W_X11_lay k h_t h_t_w h_t_firsts h_t_sizes h_t_worths h_t_tape h_t_readWorths h_t_dues h_t_sums h_t_worthOf h_t_lies h_t_pairs h_t_row h_t_hands h_t_paidOn h_t_lates h_t_fixed h_t_lanes h_t_longs h_t_items h_t_hand h_t_used s_isKept s_taped s_pieces s_at s_readMany s_readKind s_readCut s_rowSet s_bestSet s_w t.2.1 t.2.2.1 t.2.2.2)) : ∀ (n : Nat) (t : Int32 × (Nat → Int32) × (Nat → Int32) × (Nat → Int32)), L_X11_lay_253 s_pieces kx n t = some res → GG p l e rm_X11_lay s m args below meth c (MQ below (cQv D w0 sz (W_X11_lay k h_t h_t_w h_t_firsts h_t_sizes h_t_worths h_t_tape h_t_readWorths h_t_dues h_t_sums h_t_worthOf h_t_lies h_t_pairs h_t_row h_t_hands h_t_paidOn h_t_lates h_t_fixed h_t_lanes h_t_longs h_t_items h_t_hand h_t_used s_isKept s_taped res.1 s_at s_readMany s_readKind s_readCut s_rowSet s_bestSet s_w res.2.1 res.2.2.1 res.2.2.2)) args s 0 0 A) D A 6 0 0 253 [(0, .ref h_t), (3, .int v3), (4, .int v4), (5, .int t.1)] [] (W_X11_lay k h_t h_t_w h_t_firsts h_t_sizes h_t_worths h_t_tape h_t_readWorths h_t_dues h_t_sums h_t_worthOf h_t_lies h_t_pairs h_t_row h_t_hands h_t_paidOn h_t_lates h_t_fixed h_t_lanes h_t_longs h_t_items h_t_hand h_t_used s_isKept s_taped s_pieces s_at s_readMany s_readKind s_readCut s_rowSet s_bestSet s_w t.2.1 t.2.2.1 t.2.2.2) := by
  intro n
  induction n with
  | zero => intro t h; cases h
  | succ n ih =>
    intro t h
    obtain ⟨v5, s_firsts, s_sizes, s_worths⟩ := t
    replace h : LB_X11_lay_253 s_pieces kx (L_X11_lay_253 s_pieces kx n) v5 s_firsts s_sizes s_worths = some res := h
    have hr := ih
    unfold LB_X11_lay_253 at h
    refine g_iload 253 C 3 dX11_lay_253 rfl ?_
    refine g_aload_n 255 C 0 dX11_lay_255 rfl rfl ?_
    refine g_get 256 C in_X11_lay_X11 0 7 rfl rfl (by decide) fl_X11_lay_85 rfl rfl dX11_lay_256 ?_
    refine g_icmp_ge 259 316 C dX11_lay_259 (by decide) (fun c => ?_) (fun c => ?_)
    · replace h := it_e c h
      refine GG.sub (lv' := [(0, .ref h_t), (3, .int v3), (4, .int v4)]) [0, 1, 2] rfl ?_
      exact hx (v5, s_firsts, s_sizes, s_worths) h
    · replace h := if_e c h
      refine g_aload_n 262 C 0 dX11_lay_262 rfl rfl ?_
      refine g_get 263 C in_X11_lay_X11 0 4 rfl rfl (by decide) fl_X11_lay_16 rfl rfl dX11_lay_263 ?_
      refine g_iload 266 C 3 dX11_lay_266 rfl ?_
      refine g_aload_n 268 C 0 dX11_lay_268 rfl rfl ?_
      refine g_get 269 C in_X11_lay_X11 0 4 rfl rfl (by decide) fl_X11_lay_16 rfl rfl dX11_lay_269 ?_
      refine g_iload 272 C 3 dX11_lay_272 rfl ?_
      refine g_iconst 274 C (1 : Int32) dX11_lay_274 (by decide) ?_
      refine g_iadd 275 C dX11_lay_275 ?_
      obtain ⟨o22, h⟩ := ob_e h
      refine g_iald 276 C 2 rfl o22 dX11_lay_276 ?_
      obtain ⟨o23, h⟩ := ob_e h
      refine g_iast 277 C (W_X11_lay k h_t h_t_w h_t_firsts h_t_sizes h_t_worths h_t_tape h_t_readWorths h_t_dues h_t_sums h_t_worthOf h_t_lies h_t_pairs h_t_row h_t_hands h_t_paidOn h_t_lates h_t_fixed h_t_lanes h_t_longs h_t_items h_t_hand h_t_used s_isKept s_taped s_pieces s_at s_readMany s_readKind s_readCut s_rowSet s_bestSet s_w (upd s_firsts v5.toNatClampNeg (s_firsts (v5 + (1 : Int32)).toNatClampNeg)) s_sizes s_worths) 2 rfl o23 rfl dX11_lay_277 ?_
      refine g_aload_n 278 C 0 dX11_lay_278 rfl rfl ?_
      refine g_get 279 C in_X11_lay_X11 0 5 rfl rfl (by decide) fl_X11_lay_19 rfl rfl dX11_lay_279 ?_
      refine g_iload 282 C 3 dX11_lay_282 rfl ?_
      refine g_aload_n 284 C 0 dX11_lay_284 rfl rfl ?_
      refine g_get 285 C in_X11_lay_X11 0 5 rfl rfl (by decide) fl_X11_lay_19 rfl rfl dX11_lay_285 ?_
      refine g_iload 288 C 3 dX11_lay_288 rfl ?_
      refine g_iconst 290 C (1 : Int32) dX11_lay_290 (by decide) ?_
      refine g_iadd 291 C dX11_lay_291 ?_
      obtain ⟨o24, h⟩ := ob_e h
      refine g_iald 292 C 3 rfl o24 dX11_lay_292 ?_
      obtain ⟨o25, h⟩ := ob_e h
      refine g_iast 293 C (W_X11_lay k h_t h_t_w h_t_firsts h_t_sizes h_t_worths h_t_tape h_t_readWorths h_t_dues h_t_sums h_t_worthOf h_t_lies h_t_pairs h_t_row h_t_hands h_t_paidOn h_t_lates h_t_fixed h_t_lanes h_t_longs h_t_items h_t_hand h_t_used s_isKept s_taped s_pieces s_at s_readMany s_readKind s_readCut s_rowSet s_bestSet s_w (upd s_firsts v5.toNatClampNeg (s_firsts (v5 + (1 : Int32)).toNatClampNeg)) (upd s_sizes v5.toNatClampNeg (s_sizes (v5 + (1 : Int32)).toNatClampNeg)) s_worths) 3 rfl o25 rfl dX11_lay_293 ?_
      refine g_aload_n 294 C 0 dX11_lay_294 rfl rfl ?_
      refine g_get 295 C in_X11_lay_X11 0 6 rfl rfl (by decide) fl_X11_lay_22 rfl rfl dX11_lay_295 ?_
      refine g_iload 298 C 3 dX11_lay_298 rfl ?_
      refine g_aload_n 300 C 0 dX11_lay_300 rfl rfl ?_
      refine g_get 301 C in_X11_lay_X11 0 6 rfl rfl (by decide) fl_X11_lay_22 rfl rfl dX11_lay_301 ?_
      refine g_iload 304 C 3 dX11_lay_304 rfl ?_
      refine g_iconst 306 C (1 : Int32) dX11_lay_306 (by decide) ?_
      refine g_iadd 307 C dX11_lay_307 ?_
      obtain ⟨o26, h⟩ := ob_e h
      refine g_iald 308 C 4 rfl o26 dX11_lay_308 ?_
      obtain ⟨o27, h⟩ := ob_e h
      refine g_iast 309 C (W_X11_lay k h_t h_t_w h_t_firsts h_t_sizes h_t_worths h_t_tape h_t_readWorths h_t_dues h_t_sums h_t_worthOf h_t_lies h_t_pairs h_t_row h_t_hands h_t_paidOn h_t_lates h_t_fixed h_t_lanes h_t_longs h_t_items h_t_hand h_t_used s_isKept s_taped s_pieces s_at s_readMany s_readKind s_readCut s_rowSet s_bestSet s_w (upd s_firsts v5.toNatClampNeg (s_firsts (v5 + (1 : Int32)).toNatClampNeg)) (upd s_sizes v5.toNatClampNeg (s_sizes (v5 + (1 : Int32)).toNatClampNeg)) (upd s_worths v5.toNatClampNeg (s_worths (v5 + (1 : Int32)).toNatClampNeg))) 4 rfl o27 rfl dX11_lay_309 ?_
      refine g_iinc 310 C 3 (1 : Int32) [(5, .int (v5 + (1 : Int32))), (0, .ref h_t), (3, .int v3), (4, .int v4)] dX11_lay_310 rfl (by decide) (by decide) rfl ?_
      refine g_goto 313 253 C dX11_lay_313 (by decide) ?_
      refine GG.sub (lv' := [(0, .ref h_t), (3, .int v3), (4, .int v4), (5, .int (v5 + (1 : Int32)))]) [1, 2, 3, 0] rfl ?_
      exact hr ((v5 + (1 : Int32)), (upd s_firsts v5.toNatClampNeg (s_firsts (v5 + (1 : Int32)).toNatClampNeg)), (upd s_sizes v5.toNatClampNeg (s_sizes (v5 + (1 : Int32)).toNatClampNeg)), (upd s_worths v5.toNatClampNeg (s_worths (v5 + (1 : Int32)).toNatClampNeg))) h
set_option maxHeartbeats 4000000 in
set_option maxRecDepth 100000 in
theorem ok_B_X11_lay_316 {h_t : Nat} {h_t_w : Nat} {h_t_firsts : Nat} {h_t_sizes : Nat} {h_t_worths : Nat} {h_t_tape : Nat} {h_t_readWorths : Nat} {h_t_dues : Nat} {h_t_sums : Nat} {h_t_worthOf : Nat} {h_t_lies : Nat} {h_t_pairs : Nat} {h_t_row : Nat} {h_t_hands : Nat} {h_t_paidOn : Nat} {h_t_lates : Nat} {h_t_fixed : Nat} {h_t_lanes : Nat} {h_t_longs : Nat} {h_t_items : Nat} {h_t_hand : Nat} {h_t_used : Nat} {s_isKept : Int32} {s_taped : Int32} {s_pieces : Int32} {s_at : Int32} {s_readMany : Int32} {s_readKind : Int32} {s_readCut : Int32} {s_rowSet : Int32} {s_bestSet : Int32} {s_w : Nat → Int32} {s_firsts : Nat → Int32} {s_sizes : Nat → Int32} {s_worths : Nat → Int32} {v3 : Int32} {v4 : Int32} {res : Int32 × (Nat → Int32) × (Nat → Int32) × (Nat → Int32)} (C : CX p s m args meth c cX11_lay wsX11_lay RX11 6 D k A none) (hA : A = va_A w0 sz)  (h : B_X11_lay_316 s_pieces s_firsts s_sizes s_worths v3 v4 = some res) : GG p l e rm_X11_lay s m args below meth c (MQ below (cQv D w0 sz (W_X11_lay k h_t h_t_w h_t_firsts h_t_sizes h_t_worths h_t_tape h_t_readWorths h_t_dues h_t_sums h_t_worthOf h_t_lies h_t_pairs h_t_row h_t_hands h_t_paidOn h_t_lates h_t_fixed h_t_lanes h_t_longs h_t_items h_t_hand h_t_used s_isKept s_taped res.1 s_at s_readMany s_readKind s_readCut s_rowSet s_bestSet s_w res.2.1 res.2.2.1 res.2.2.2)) args s 0 0 A) D A 6 0 0 316 [(0, .ref h_t), (3, .int v3), (4, .int v4)] [] (W_X11_lay k h_t h_t_w h_t_firsts h_t_sizes h_t_worths h_t_tape h_t_readWorths h_t_dues h_t_sums h_t_worthOf h_t_lies h_t_pairs h_t_row h_t_hands h_t_paidOn h_t_lates h_t_fixed h_t_lanes h_t_longs h_t_items h_t_hand h_t_used s_isKept s_taped s_pieces s_at s_readMany s_readKind s_readCut s_rowSet s_bestSet s_w s_firsts s_sizes s_worths) := by
  unfold B_X11_lay_316 at h
  refine g_aload_n 316 C 0 dX11_lay_316 rfl rfl ?_
  refine g_get 317 C in_X11_lay_X11 0 5 rfl rfl (by decide) fl_X11_lay_19 rfl rfl dX11_lay_317 ?_
  refine g_aload_n 320 C 0 dX11_lay_320 rfl rfl ?_
  refine g_get 321 C in_X11_lay_X11 0 7 rfl rfl (by decide) fl_X11_lay_85 rfl rfl dX11_lay_321 ?_
  refine g_iconst 324 C (1 : Int32) dX11_lay_324 (by decide) ?_
  refine g_isub 325 C dX11_lay_325 ?_
  refine g_dup2 326 C dX11_lay_326 rfl rfl ?_
  obtain ⟨o28, h⟩ := ob_e h
  refine g_iald 327 C 3 rfl o28 dX11_lay_327 ?_
  refine g_iload_n 328 C 1 dX11_lay_328 rfl rfl ?_
  refine g_iadd 329 C dX11_lay_329 ?_
  obtain ⟨o29, h⟩ := ob_e h
  refine g_iast 330 C (W_X11_lay k h_t h_t_w h_t_firsts h_t_sizes h_t_worths h_t_tape h_t_readWorths h_t_dues h_t_sums h_t_worthOf h_t_lies h_t_pairs h_t_row h_t_hands h_t_paidOn h_t_lates h_t_fixed h_t_lanes h_t_longs h_t_items h_t_hand h_t_used s_isKept s_taped s_pieces s_at s_readMany s_readKind s_readCut s_rowSet s_bestSet s_w s_firsts (upd s_sizes (s_pieces - (1 : Int32)).toNatClampNeg ((s_sizes (s_pieces - (1 : Int32)).toNatClampNeg) + v3)) s_worths) 3 rfl o29 rfl dX11_lay_330 ?_
  refine g_aload_n 331 C 0 dX11_lay_331 rfl rfl ?_
  refine g_get 332 C in_X11_lay_X11 0 6 rfl rfl (by decide) fl_X11_lay_22 rfl rfl dX11_lay_332 ?_
  refine g_aload_n 335 C 0 dX11_lay_335 rfl rfl ?_
  refine g_get 336 C in_X11_lay_X11 0 7 rfl rfl (by decide) fl_X11_lay_85 rfl rfl dX11_lay_336 ?_
  refine g_iconst 339 C (1 : Int32) dX11_lay_339 (by decide) ?_
  refine g_isub 340 C dX11_lay_340 ?_
  refine g_dup2 341 C dX11_lay_341 rfl rfl ?_
  obtain ⟨o30, h⟩ := ob_e h
  refine g_iald 342 C 4 rfl o30 dX11_lay_342 ?_
  refine g_iload 343 C 2 dX11_lay_343 rfl ?_
  refine g_iadd 345 C dX11_lay_345 ?_
  obtain ⟨o31, h⟩ := ob_e h
  refine g_iast 346 C (W_X11_lay k h_t h_t_w h_t_firsts h_t_sizes h_t_worths h_t_tape h_t_readWorths h_t_dues h_t_sums h_t_worthOf h_t_lies h_t_pairs h_t_row h_t_hands h_t_paidOn h_t_lates h_t_fixed h_t_lanes h_t_longs h_t_items h_t_hand h_t_used s_isKept s_taped s_pieces s_at s_readMany s_readKind s_readCut s_rowSet s_bestSet s_w s_firsts (upd s_sizes (s_pieces - (1 : Int32)).toNatClampNeg ((s_sizes (s_pieces - (1 : Int32)).toNatClampNeg) + v3)) (upd s_worths (s_pieces - (1 : Int32)).toNatClampNeg ((s_worths (s_pieces - (1 : Int32)).toNatClampNeg) + v4))) 4 rfl o31 rfl dX11_lay_346 ?_
  refine GG.sub (lv' := []) [] rfl ?_
  exact ok_B_X11_lay_347 C hA h
set_option maxHeartbeats 4000000 in
set_option maxRecDepth 100000 in
theorem ok_B_X11_lay_220 {h_t : Nat} {h_t_w : Nat} {h_t_firsts : Nat} {h_t_sizes : Nat} {h_t_worths : Nat} {h_t_tape : Nat} {h_t_readWorths : Nat} {h_t_dues : Nat} {h_t_sums : Nat} {h_t_worthOf : Nat} {h_t_lies : Nat} {h_t_pairs : Nat} {h_t_row : Nat} {h_t_hands : Nat} {h_t_paidOn : Nat} {h_t_lates : Nat} {h_t_fixed : Nat} {h_t_lanes : Nat} {h_t_longs : Nat} {h_t_items : Nat} {h_t_hand : Nat} {h_t_used : Nat} {s_isKept : Int32} {s_taped : Int32} {s_pieces : Int32} {s_at : Int32} {s_readMany : Int32} {s_readKind : Int32} {s_readCut : Int32} {s_rowSet : Int32} {s_bestSet : Int32} {s_w : Nat → Int32} {s_firsts : Nat → Int32} {s_sizes : Nat → Int32} {s_worths : Nat → Int32} {x0 : Int32} {res : Int32 × (Nat → Int32) × (Nat → Int32) × (Nat → Int32)} (C : CX p s m args meth c cX11_lay wsX11_lay RX11 6 D k A none) (hA : A = va_A w0 sz)  (h : B_X11_lay_220 s_pieces s_firsts s_sizes s_worths x0 = some res) : GG p l e rm_X11_lay s m args below meth c (MQ below (cQv D w0 sz (W_X11_lay k h_t h_t_w h_t_firsts h_t_sizes h_t_worths h_t_tape h_t_readWorths h_t_dues h_t_sums h_t_worthOf h_t_lies h_t_pairs h_t_row h_t_hands h_t_paidOn h_t_lates h_t_fixed h_t_lanes h_t_longs h_t_items h_t_hand h_t_used s_isKept s_taped res.1 s_at s_readMany s_readKind s_readCut s_rowSet s_bestSet s_w res.2.1 res.2.2.1 res.2.2.2)) args s 0 0 A) D A 6 0 0 220 [(0, .ref h_t)] [.int x0] (W_X11_lay k h_t h_t_w h_t_firsts h_t_sizes h_t_worths h_t_tape h_t_readWorths h_t_dues h_t_sums h_t_worthOf h_t_lies h_t_pairs h_t_row h_t_hands h_t_paidOn h_t_lates h_t_fixed h_t_lanes h_t_longs h_t_items h_t_hand h_t_used s_isKept s_taped s_pieces s_at s_readMany s_readKind s_readCut s_rowSet s_bestSet s_w s_firsts s_sizes s_worths) := by
  unfold B_X11_lay_220 at h
  refine g_istore_n 220 C [(2, .int x0), (0, .ref h_t)] dX11_lay_220 rfl (by decide) rfl ?_
  refine g_iload_n 221 C 0 dX11_lay_221 rfl rfl ?_
  refine g_if_eq 222 347 C dX11_lay_222 (by decide) (fun c => ?_) (fun c => ?_)
  · replace h := it_e c h
    refine GG.sub (lv' := []) [] rfl ?_
    exact ok_B_X11_lay_347 C hA h
  · replace h := if_e c h
    refine g_aload_n 225 C 1 dX11_lay_225 rfl rfl ?_
    refine g_dup 226 C dX11_lay_226 rfl ?_
    refine g_get 227 C in_X11_lay_X11 0 7 rfl rfl (by decide) fl_X11_lay_85 rfl rfl dX11_lay_227 ?_
    refine g_iconst 230 C (1 : Int32) dX11_lay_230 (by decide) ?_
    refine g_isub 231 C dX11_lay_231 ?_
    refine g_put 232 C (W_X11_lay k h_t h_t_w h_t_firsts h_t_sizes h_t_worths h_t_tape h_t_readWorths h_t_dues h_t_sums h_t_worthOf h_t_lies h_t_pairs h_t_row h_t_hands h_t_paidOn h_t_lates h_t_fixed h_t_lanes h_t_longs h_t_items h_t_hand h_t_used s_isKept s_taped (s_pieces - (1 : Int32)) s_at s_readMany s_readKind s_readCut s_rowSet s_bestSet s_w s_firsts s_sizes s_worths) in_X11_lay_X11 tyX11 tyX11_ok nmX11 0 7 rfl rfl (by decide) fl_X11_lay_85 rfl rfl (tyX11_ok 7 (by decide)) rfl rfl (Nat.le_of_ble_eq_true rfl) rfl dX11_lay_232 ?_
    refine g_aload_n 235 C 1 dX11_lay_235 rfl rfl ?_
    refine g_get 236 C in_X11_lay_X11 0 5 rfl rfl (by decide) fl_X11_lay_19 rfl rfl dX11_lay_236 ?_
    refine g_iconst 239 C (0 : Int32) dX11_lay_239 (by decide) ?_
    obtain ⟨o20, h⟩ := ob_e h
    refine g_iald 240 C 3 rfl o20 dX11_lay_240 ?_
    refine g_istore_n 241 C [(3, .int (s_sizes (0 : Int32).toNatClampNeg)), (2, .int x0), (0, .ref h_t)] dX11_lay_241 rfl (by decide) rfl ?_
    refine g_aload_n 242 C 2 dX11_lay_242 rfl rfl ?_
    refine g_get 243 C in_X11_lay_X11 0 6 rfl rfl (by decide) fl_X11_lay_22 rfl rfl dX11_lay_243 ?_
    refine g_iconst 246 C (0 : Int32) dX11_lay_246 (by decide) ?_
    obtain ⟨o21, h⟩ := ob_e h
    refine g_iald 247 C 4 rfl o21 dX11_lay_247 ?_
    refine g_istore 248 C [(4, .int (s_worths (0 : Int32).toNatClampNeg)), (3, .int (s_sizes (0 : Int32).toNatClampNeg)), (2, .int x0), (0, .ref h_t)] dX11_lay_248 (by decide) rfl ?_
    refine g_iconst 250 C (0 : Int32) dX11_lay_250 (by decide) ?_
    refine g_istore 251 C [(5, .int (0 : Int32)), (4, .int (s_worths (0 : Int32).toNatClampNeg)), (3, .int (s_sizes (0 : Int32).toNatClampNeg)), (2, .int x0), (0, .ref h_t)] dX11_lay_251 (by decide) rfl ?_
    refine GG.sub (lv' := [(0, .ref h_t), (3, .int (s_sizes (0 : Int32).toNatClampNeg)), (4, .int (s_worths (0 : Int32).toNatClampNeg)), (5, .int (0 : Int32))]) [4, 2, 1, 0] rfl ?_
    exact ok_L_X11_lay_253 C hA (fun t h => by
      refine GG.sub (lv' := [(0, .ref h_t), (3, .int (s_sizes (0 : Int32).toNatClampNeg)), (4, .int (s_worths (0 : Int32).toNatClampNeg))]) [0, 1, 2] rfl ?_
      exact ok_B_X11_lay_316 C hA h) FUEL ((0 : Int32), s_firsts, s_sizes, s_worths) h
set_option maxHeartbeats 4000000 in
set_option maxRecDepth 100000 in
theorem ok_B_X11_lay_219 {h_t : Nat} {h_t_w : Nat} {h_t_firsts : Nat} {h_t_sizes : Nat} {h_t_worths : Nat} {h_t_tape : Nat} {h_t_readWorths : Nat} {h_t_dues : Nat} {h_t_sums : Nat} {h_t_worthOf : Nat} {h_t_lies : Nat} {h_t_pairs : Nat} {h_t_row : Nat} {h_t_hands : Nat} {h_t_paidOn : Nat} {h_t_lates : Nat} {h_t_fixed : Nat} {h_t_lanes : Nat} {h_t_longs : Nat} {h_t_items : Nat} {h_t_hand : Nat} {h_t_used : Nat} {s_isKept : Int32} {s_taped : Int32} {s_pieces : Int32} {s_at : Int32} {s_readMany : Int32} {s_readKind : Int32} {s_readCut : Int32} {s_rowSet : Int32} {s_bestSet : Int32} {s_w : Nat → Int32} {s_firsts : Nat → Int32} {s_sizes : Nat → Int32} {s_worths : Nat → Int32} {res : Int32 × (Nat → Int32) × (Nat → Int32) × (Nat → Int32)} (C : CX p s m args meth c cX11_lay wsX11_lay RX11 6 D k A none) (hA : A = va_A w0 sz)  (h : B_X11_lay_219 s_pieces s_firsts s_sizes s_worths = some res) : GG p l e rm_X11_lay s m args below meth c (MQ below (cQv D w0 sz (W_X11_lay k h_t h_t_w h_t_firsts h_t_sizes h_t_worths h_t_tape h_t_readWorths h_t_dues h_t_sums h_t_worthOf h_t_lies h_t_pairs h_t_row h_t_hands h_t_paidOn h_t_lates h_t_fixed h_t_lanes h_t_longs h_t_items h_t_hand h_t_used s_isKept s_taped res.1 s_at s_readMany s_readKind s_readCut s_rowSet s_bestSet s_w res.2.1 res.2.2.1 res.2.2.2)) args s 0 0 A) D A 6 0 0 219 [(0, .ref h_t)] [] (W_X11_lay k h_t h_t_w h_t_firsts h_t_sizes h_t_worths h_t_tape h_t_readWorths h_t_dues h_t_sums h_t_worthOf h_t_lies h_t_pairs h_t_row h_t_hands h_t_paidOn h_t_lates h_t_fixed h_t_lanes h_t_longs h_t_items h_t_hand h_t_used s_isKept s_taped s_pieces s_at s_readMany s_readKind s_readCut s_rowSet s_bestSet s_w s_firsts s_sizes s_worths) := by
  unfold B_X11_lay_219 at h
  refine g_iconst 219 C (0 : Int32) dX11_lay_219 (by decide) ?_
  refine GG.sub (lv' := [(0, .ref h_t)]) [0] rfl ?_
  exact ok_B_X11_lay_220 C hA h
set_option maxHeartbeats 4000000 in
set_option maxRecDepth 100000 in
theorem ok_B_X11_lay_174 {h_t : Nat} {h_t_w : Nat} {h_t_firsts : Nat} {h_t_sizes : Nat} {h_t_worths : Nat} {h_t_tape : Nat} {h_t_readWorths : Nat} {h_t_dues : Nat} {h_t_sums : Nat} {h_t_worthOf : Nat} {h_t_lies : Nat} {h_t_pairs : Nat} {h_t_row : Nat} {h_t_hands : Nat} {h_t_paidOn : Nat} {h_t_lates : Nat} {h_t_fixed : Nat} {h_t_lanes : Nat} {h_t_longs : Nat} {h_t_items : Nat} {h_t_hand : Nat} {h_t_used : Nat} {s_isKept : Int32} {s_taped : Int32} {s_pieces : Int32} {s_at : Int32} {s_readMany : Int32} {s_readKind : Int32} {s_readCut : Int32} {s_rowSet : Int32} {s_bestSet : Int32} {s_w : Nat → Int32} {s_firsts : Nat → Int32} {s_sizes : Nat → Int32} {s_worths : Nat → Int32} {v1 : Int32} {res : Int32 × (Nat → Int32) × (Nat → Int32) × (Nat → Int32)} (C : CX p s m args meth c cX11_lay wsX11_lay RX11 6 D k A none) (hA : A = va_A w0 sz)  (h : B_X11_lay_174 s_pieces s_w s_firsts s_sizes s_worths v1 = some res) : GG p l e rm_X11_lay s m args below meth c (MQ below (cQv D w0 sz (W_X11_lay k h_t h_t_w h_t_firsts h_t_sizes h_t_worths h_t_tape h_t_readWorths h_t_dues h_t_sums h_t_worthOf h_t_lies h_t_pairs h_t_row h_t_hands h_t_paidOn h_t_lates h_t_fixed h_t_lanes h_t_longs h_t_items h_t_hand h_t_used s_isKept s_taped res.1 s_at s_readMany s_readKind s_readCut s_rowSet s_bestSet s_w res.2.1 res.2.2.1 res.2.2.2)) args s 0 0 A) D A 6 0 0 174 [(0, .ref h_t), (1, .int v1)] [] (W_X11_lay k h_t h_t_w h_t_firsts h_t_sizes h_t_worths h_t_tape h_t_readWorths h_t_dues h_t_sums h_t_worthOf h_t_lies h_t_pairs h_t_row h_t_hands h_t_paidOn h_t_lates h_t_fixed h_t_lanes h_t_longs h_t_items h_t_hand h_t_used s_isKept s_taped s_pieces s_at s_readMany s_readKind s_readCut s_rowSet s_bestSet s_w s_firsts s_sizes s_worths) := by
  unfold B_X11_lay_174 at h
  refine g_aload_n 174 C 0 dX11_lay_174 rfl rfl ?_
  refine g_get 175 C in_X11_lay_X11 0 0 rfl rfl (by decide) fl_X11_lay_7 rfl rfl dX11_lay_175 ?_
  refine g_iconst 178 C (0 : Int32) dX11_lay_178 (by decide) ?_
  obtain ⟨o19, h⟩ := ob_e h
  refine g_iald 179 C 1 rfl o19 dX11_lay_179 ?_
  refine g_iconst 180 C (1 : Int32) dX11_lay_180 (by decide) ?_
  refine g_icmp_ne 181 219 C dX11_lay_181 (by decide) (fun c => ?_) (fun c => ?_)
  · replace h := if_e c h
    refine GG.sub (lv' := [(0, .ref h_t)]) [0] rfl ?_
    exact ok_B_X11_lay_219 C hA h
  · replace h := it_e c h
    refine g_aload_n 184 C 0 dX11_lay_184 rfl rfl ?_
    refine g_get 185 C in_X11_lay_X11 0 7 rfl rfl (by decide) fl_X11_lay_85 rfl rfl dX11_lay_185 ?_
    refine g_iconst 188 C (1 : Int32) dX11_lay_188 (by decide) ?_
    refine g_icmp_le 189 219 C dX11_lay_189 (by decide) (fun c => ?_) (fun c => ?_)
    · replace h := it_e c h
      refine GG.sub (lv' := [(0, .ref h_t)]) [0] rfl ?_
      exact ok_B_X11_lay_219 C hA h
    · replace h := if_e c h
      refine g_iload_n 192 C 1 dX11_lay_192 rfl rfl ?_
      refine g_iconst 193 C (0 : Int32) dX11_lay_193 (by decide) ?_
      obtain ⟨q32, e33, h⟩ := bi_e h
      refine g_callSi 194 C (As := [.int v1, .int (0 : Int32)]) [] [0, 1, 2, 3, 4] [0, 1, 2, 3, 4] (W_X11_lay k h_t h_t_w h_t_firsts h_t_sizes h_t_worths h_t_tape h_t_readWorths h_t_dues h_t_sums h_t_worthOf h_t_lies h_t_pairs h_t_row h_t_hands h_t_paidOn h_t_lates h_t_fixed h_t_lanes h_t_longs h_t_items h_t_hand h_t_used s_isKept s_taped s_pieces s_at s_readMany s_readKind s_readCut s_rowSet s_bestSet s_w s_firsts s_sizes s_worths) (fun sz => k_X11_has v1 (0 : Int32) q32 e33 sz) gX11_lay_X11_has rfl pd_X11_has rfl ⟨rfl, rfl, Nat.le_of_ble_eq_true rfl, Nat.le_of_ble_eq_true rfl⟩ (Nat.le_of_ble_eq_true rfl) ⟨Nat.zero_le _, Nat.zero_le _⟩ ⟨rfl, rfl, rfl, rfl, rfl, by decide, rfl⟩ rfl dX11_lay_194 ?_
      refine g_if_ne 197 219 C dX11_lay_197 (by decide) (fun c => ?_) (fun c => ?_)
      · replace h := if_e c h
        refine GG.sub (lv' := [(0, .ref h_t)]) [0] rfl ?_
        exact ok_B_X11_lay_219 C hA h
      · replace h := it_e c h
        refine g_iload_n 200 C 1 dX11_lay_200 rfl rfl ?_
        refine g_aload_n 201 C 0 dX11_lay_201 rfl rfl ?_
        refine g_get 202 C in_X11_lay_X11 0 0 rfl rfl (by decide) fl_X11_lay_7 rfl rfl dX11_lay_202 ?_
        refine g_iconst 205 C (1 : Int32) dX11_lay_205 (by decide) ?_
        obtain ⟨o34, h⟩ := ob_e h
        refine g_iald 206 C 1 rfl o34 dX11_lay_206 ?_
        refine g_iconst 207 C (1 : Int32) dX11_lay_207 (by decide) ?_
        refine g_isub 208 C dX11_lay_208 ?_
        obtain ⟨q35, e36, h⟩ := bi_e h
        refine g_callSi 209 C (As := [.int v1, .int ((s_w (1 : Int32).toNatClampNeg) - (1 : Int32))]) [] [0, 1, 2, 3, 4] [0, 1, 2, 3, 4] (W_X11_lay k h_t h_t_w h_t_firsts h_t_sizes h_t_worths h_t_tape h_t_readWorths h_t_dues h_t_sums h_t_worthOf h_t_lies h_t_pairs h_t_row h_t_hands h_t_paidOn h_t_lates h_t_fixed h_t_lanes h_t_longs h_t_items h_t_hand h_t_used s_isKept s_taped s_pieces s_at s_readMany s_readKind s_readCut s_rowSet s_bestSet s_w s_firsts s_sizes s_worths) (fun sz => k_X11_has v1 ((s_w (1 : Int32).toNatClampNeg) - (1 : Int32)) q35 e36 sz) gX11_lay_X11_has rfl pd_X11_has rfl ⟨rfl, rfl, Nat.le_of_ble_eq_true rfl, Nat.le_of_ble_eq_true rfl⟩ (Nat.le_of_ble_eq_true rfl) ⟨Nat.zero_le _, Nat.zero_le _⟩ ⟨rfl, rfl, rfl, rfl, rfl, by decide, rfl⟩ rfl dX11_lay_209 ?_
        refine g_if_ne 212 219 C dX11_lay_212 (by decide) (fun c => ?_) (fun c => ?_)
        · replace h := if_e c h
          refine GG.sub (lv' := [(0, .ref h_t)]) [0] rfl ?_
          exact ok_B_X11_lay_219 C hA h
        · replace h := it_e c h
          refine g_iconst 215 C (1 : Int32) dX11_lay_215 (by decide) ?_
          refine g_goto 216 220 C dX11_lay_216 (by decide) ?_
          refine GG.sub (lv' := [(0, .ref h_t)]) [0] rfl ?_
          exact ok_B_X11_lay_220 C hA h
set_option maxHeartbeats 4000000 in
set_option maxRecDepth 100000 in
theorem k_X11_lay {l : Launch} {D : va_G} {k : Nat → ClassId} (h_t : Nat) (h_t_w : Nat) (h_t_firsts : Nat) (h_t_sizes : Nat) (h_t_worths : Nat) (h_t_tape : Nat) (h_t_readWorths : Nat) (h_t_dues : Nat) (h_t_sums : Nat) (h_t_worthOf : Nat) (h_t_lies : Nat) (h_t_pairs : Nat) (h_t_row : Nat) (h_t_hands : Nat) (h_t_paidOn : Nat) (h_t_lates : Nat) (h_t_fixed : Nat) (h_t_lanes : Nat) (h_t_longs : Nat) (h_t_items : Nat) (h_t_hand : Nat) (h_t_used : Nat) (s_isKept : Int32) (s_taped : Int32) (s_pieces : Int32) (s_at : Int32) (s_readMany : Int32) (s_readKind : Int32) (s_readCut : Int32) (s_rowSet : Int32) (s_bestSet : Int32) (s_w : Nat → Int32) (s_firsts : Nat → Int32) (s_sizes : Nat → Int32) (s_worths : Nat → Int32) (v1 : Int32) (res : Int32 × (Nat → Int32) × (Nat → Int32) × (Nat → Int32)) (h : f_X11_lay s_w s_firsts s_sizes s_worths v1 = some res) (sz : Nat) : Met l yX11_lay wsX11_lay rm_X11_lay (cPre D k [.ref h_t, .int v1] (W_X11_lay k h_t h_t_w h_t_firsts h_t_sizes h_t_worths h_t_tape h_t_readWorths h_t_dues h_t_sums h_t_worthOf h_t_lies h_t_pairs h_t_row h_t_hands h_t_paidOn h_t_lates h_t_fixed h_t_lanes h_t_longs h_t_items h_t_hand h_t_used s_isKept s_taped s_pieces s_at s_readMany s_readKind s_readCut s_rowSet s_bestSet s_w s_firsts s_sizes s_worths) sz) (cQv D (W_X11_lay k h_t h_t_w h_t_firsts h_t_sizes h_t_worths h_t_tape h_t_readWorths h_t_dues h_t_sums h_t_worthOf h_t_lies h_t_pairs h_t_row h_t_hands h_t_paidOn h_t_lates h_t_fixed h_t_lanes h_t_longs h_t_items h_t_hand h_t_used s_isKept s_taped s_pieces s_at s_readMany s_readKind s_readCut s_rowSet s_bestSet s_w s_firsts s_sizes s_worths) sz (W_X11_lay k h_t h_t_w h_t_firsts h_t_sizes h_t_worths h_t_tape h_t_readWorths h_t_dues h_t_sums h_t_worthOf h_t_lies h_t_pairs h_t_row h_t_hands h_t_paidOn h_t_lates h_t_fixed h_t_lanes h_t_longs h_t_items h_t_hand h_t_used s_isKept s_taped res.1 s_at s_readMany s_readKind s_readCut s_rowSet s_bestSet s_w res.2.1 res.2.2.1 res.2.2.2)) 0 0 (va_A (W_X11_lay k h_t h_t_w h_t_firsts h_t_sizes h_t_worths h_t_tape h_t_readWorths h_t_dues h_t_sums h_t_worthOf h_t_lies h_t_pairs h_t_row h_t_hands h_t_paidOn h_t_lates h_t_fixed h_t_lanes h_t_longs h_t_items h_t_hand h_t_used s_isKept s_taped s_pieces s_at s_readMany s_readKind s_readCut s_rowSet s_bestSet s_w s_firsts s_sizes s_worths) sz) := by
  refine met_of [(0, .ref h_t), (1, .int v1)] (by decide) rfl rfl (Nat.le_of_ble_eq_true rfl) rfl ?_
  intro p e s m args below meth c A hA hsz C
  unfold f_X11_lay at h
  refine g_aload_n 0 C 0 dX11_lay_0 rfl rfl ?_
  refine g_iconst 1 C (0 : Int32) dX11_lay_1 (by decide) ?_
  refine g_put 2 C (W_X11_lay k h_t h_t_w h_t_firsts h_t_sizes h_t_worths h_t_tape h_t_readWorths h_t_dues h_t_sums h_t_worthOf h_t_lies h_t_pairs h_t_row h_t_hands h_t_paidOn h_t_lates h_t_fixed h_t_lanes h_t_longs h_t_items h_t_hand h_t_used s_isKept s_taped (0 : Int32) s_at s_readMany s_readKind s_readCut s_rowSet s_bestSet s_w s_firsts s_sizes s_worths) in_X11_lay_X11 tyX11 tyX11_ok nmX11 0 7 rfl rfl (by decide) fl_X11_lay_85 rfl rfl (tyX11_ok 7 (by decide)) rfl rfl (Nat.le_of_ble_eq_true rfl) rfl dX11_lay_2 ?_
  refine g_iconst 5 C (0 : Int32) dX11_lay_5 (by decide) ?_
  refine g_istore_n 6 C [(2, .int (0 : Int32)), (0, .ref h_t), (1, .int v1)] dX11_lay_6 rfl (by decide) rfl ?_
  refine GG.sub (lv' := [(0, .ref h_t), (1, .int v1), (2, .int (0 : Int32))]) [1, 2, 0] rfl ?_
  exact ok_L_X11_lay_7 C hA (fun t h => by
    refine GG.sub (lv' := [(0, .ref h_t), (1, .int v1)]) [0, 1] rfl ?_
    exact ok_B_X11_lay_174 C hA h) FUEL ((0 : Int32), (0 : Int32), s_firsts, s_sizes, s_worths) h
end

/-! X11_layNow -/
abbrev W_X11_layNow (k : Nat → ClassId) (h_t : Nat) (h_t_w : Nat) (h_t_firsts : Nat) (h_t_sizes : Nat) (h_t_worths : Nat) (h_t_tape : Nat) (h_t_readWorths : Nat) (h_t_dues : Nat) (h_t_sums : Nat) (h_t_worthOf : Nat) (h_t_lies : Nat) (h_t_pairs : Nat) (h_t_row : Nat) (h_t_hands : Nat) (h_t_paidOn : Nat) (h_t_lates : Nat) (h_t_fixed : Nat) (h_t_lanes : Nat) (h_t_longs : Nat) (h_t_items : Nat) (h_t_hand : Nat) (h_t_used : Nat) (s_isKept : Int32) (s_taped : Int32) (s_pieces : Int32) (s_at : Int32) (s_readMany : Int32) (s_readKind : Int32) (s_readCut : Int32) (s_rowSet : Int32) (s_bestSet : Int32) (s_w : Nat → Int32) (s_firsts : Nat → Int32) (s_sizes : Nat → Int32) (s_worths : Nat → Int32) : va_W := [(h_t, .inr (11, [.ref h_t_w, .int s_isKept, .ref h_t_tape, .int s_taped, .ref h_t_firsts, .ref h_t_sizes, .ref h_t_worths, .int s_pieces, .int s_at, .ref h_t_readWorths, .int s_readMany, .int s_readKind, .int s_readCut, .ref h_t_dues, .ref h_t_sums, .ref h_t_worthOf, .ref h_t_lies, .ref h_t_pairs, .ref h_t_row, .int s_rowSet, .int s_bestSet, .ref h_t_hands, .ref h_t_paidOn, .ref h_t_lates, .ref h_t_fixed, .ref h_t_lanes, .ref h_t_longs, .ref h_t_items, .ref h_t_hand, .ref h_t_used])), (h_t_w, .inl (k 0, 60, .inl s_w)), (h_t_firsts, .inl (k 0, 24, .inl s_firsts)), (h_t_sizes, .inl (k 0, 24, .inl s_sizes)), (h_t_worths, .inl (k 0, 24, .inl s_worths))]
def rm_X11_layNow : Room := { frames := 2, cells := 0, slots := 0, locals := 46 }
theorem in_X11_layNow_X11 : ∀ w ∈ u_ws RX11 TX11 30, w ∈ wsX11_layNow := by decide +kernel
theorem fl_X11_layNow_7 : Cond.fieldLink RX11 7 "LinkDaysModel" "w" "[I" ∈ wsX11_layNow := by decide +kernel
theorem pd_X11_layNow : yX11_layNow.cls = RX11 ∧ yX11_layNow.cls ≠ "java/lang/invoke/MethodHandle" ∧ yX11_layNow.cls ≠ "java/lang/invoke/VarHandle" ∧ (parseMethodDescriptor yX11_layNow.desc).map (fun d => d.parameters.length) = some 0 := by decide +kernel
section
variable {p : Program} {l : Launch} {e : Env} {s : State} {m : MethodId} {args : Array Value} {below : List Frame} {meth : Method} {c : Code} {D : va_G} {k : Nat → ClassId} {A : Nat → Prop} {w0 : va_W} {sz : Nat}
set_option maxHeartbeats 4000000 in
set_option maxRecDepth 100000 in
theorem k_X11_layNow {l : Launch} {D : va_G} {k : Nat → ClassId} (h_t : Nat) (h_t_w : Nat) (h_t_firsts : Nat) (h_t_sizes : Nat) (h_t_worths : Nat) (h_t_tape : Nat) (h_t_readWorths : Nat) (h_t_dues : Nat) (h_t_sums : Nat) (h_t_worthOf : Nat) (h_t_lies : Nat) (h_t_pairs : Nat) (h_t_row : Nat) (h_t_hands : Nat) (h_t_paidOn : Nat) (h_t_lates : Nat) (h_t_fixed : Nat) (h_t_lanes : Nat) (h_t_longs : Nat) (h_t_items : Nat) (h_t_hand : Nat) (h_t_used : Nat) (s_isKept : Int32) (s_taped : Int32) (s_pieces : Int32) (s_at : Int32) (s_readMany : Int32) (s_readKind : Int32) (s_readCut : Int32) (s_rowSet : Int32) (s_bestSet : Int32) (s_w : Nat → Int32) (s_firsts : Nat → Int32) (s_sizes : Nat → Int32) (s_worths : Nat → Int32) (res : Int32 × (Nat → Int32) × (Nat → Int32) × (Nat → Int32)) (h : f_X11_layNow s_w s_firsts s_sizes s_worths = some res) (sz : Nat) : Met l yX11_layNow wsX11_layNow rm_X11_layNow (cPre D k [.ref h_t] (W_X11_layNow k h_t h_t_w h_t_firsts h_t_sizes h_t_worths h_t_tape h_t_readWorths h_t_dues h_t_sums h_t_worthOf h_t_lies h_t_pairs h_t_row h_t_hands h_t_paidOn h_t_lates h_t_fixed h_t_lanes h_t_longs h_t_items h_t_hand h_t_used s_isKept s_taped s_pieces s_at s_readMany s_readKind s_readCut s_rowSet s_bestSet s_w s_firsts s_sizes s_worths) sz) (cQv D (W_X11_layNow k h_t h_t_w h_t_firsts h_t_sizes h_t_worths h_t_tape h_t_readWorths h_t_dues h_t_sums h_t_worthOf h_t_lies h_t_pairs h_t_row h_t_hands h_t_paidOn h_t_lates h_t_fixed h_t_lanes h_t_longs h_t_items h_t_hand h_t_used s_isKept s_taped s_pieces s_at s_readMany s_readKind s_readCut s_rowSet s_bestSet s_w s_firsts s_sizes s_worths) sz (W_X11_layNow k h_t h_t_w h_t_firsts h_t_sizes h_t_worths h_t_tape h_t_readWorths h_t_dues h_t_sums h_t_worthOf h_t_lies h_t_pairs h_t_row h_t_hands h_t_paidOn h_t_lates h_t_fixed h_t_lanes h_t_longs h_t_items h_t_hand h_t_used s_isKept s_taped res.1 s_at s_readMany s_readKind s_readCut s_rowSet s_bestSet s_w res.2.1 res.2.2.1 res.2.2.2)) 0 0 (va_A (W_X11_layNow k h_t h_t_w h_t_firsts h_t_sizes h_t_worths h_t_tape h_t_readWorths h_t_dues h_t_sums h_t_worthOf h_t_lies h_t_pairs h_t_row h_t_hands h_t_paidOn h_t_lates h_t_fixed h_t_lanes h_t_longs h_t_items h_t_hand h_t_used s_isKept s_taped s_pieces s_at s_readMany s_readKind s_readCut s_rowSet s_bestSet s_w s_firsts s_sizes s_worths) sz) := by
  refine met_of [(0, .ref h_t)] (by decide) rfl rfl (Nat.le_of_ble_eq_true rfl) rfl ?_
  intro p e s m args below meth c A hA hsz C
  unfold f_X11_layNow at h
  refine g_aload_n 0 C 0 dX11_layNow_0 rfl rfl ?_
  refine g_aload_n 1 C 0 dX11_layNow_1 rfl rfl ?_
  refine g_get 2 C in_X11_layNow_X11 0 0 rfl rfl (by decide) fl_X11_layNow_7 rfl rfl dX11_layNow_2 ?_
  refine g_bipush 5 C (26 : Int32) dX11_layNow_5 (by decide) ?_
  obtain ⟨o1, h⟩ := ob_e h
  refine g_iald 7 C 1 rfl o1 dX11_layNow_7 ?_
  obtain ⟨q2, e3, h⟩ := bi_e h
  refine g_callVv 8 C (As := [.int (s_w (26 : Int32).toNatClampNeg)]) [0, 1, 2, 3, 4] [] [0, 1, 2, 3, 4] (W_X11_layNow k h_t h_t_w h_t_firsts h_t_sizes h_t_worths h_t_tape h_t_readWorths h_t_dues h_t_sums h_t_worthOf h_t_lies h_t_pairs h_t_row h_t_hands h_t_paidOn h_t_lates h_t_fixed h_t_lanes h_t_longs h_t_items h_t_hand h_t_used s_isKept s_taped q2.1 s_at s_readMany s_readKind s_readCut s_rowSet s_bestSet s_w q2.2.1 q2.2.2.1 q2.2.2.2) 0 (fun sz => k_X11_lay h_t h_t_w h_t_firsts h_t_sizes h_t_worths h_t_tape h_t_readWorths h_t_dues h_t_sums h_t_worthOf h_t_lies h_t_pairs h_t_row h_t_hands h_t_paidOn h_t_lates h_t_fixed h_t_lanes h_t_longs h_t_items h_t_hand h_t_used s_isKept s_taped s_pieces s_at s_readMany s_readKind s_readCut s_rowSet s_bestSet s_w s_firsts s_sizes s_worths (s_w (26 : Int32).toNatClampNeg) q2 e3 sz) gX11_layNow_X11_lay rfl pd_X11_lay rfl rfl rfl ⟨rfl, rfl, Nat.le_of_ble_eq_true rfl, Nat.le_of_ble_eq_true rfl⟩ (Nat.le_of_ble_eq_true rfl) ⟨Nat.zero_le _, Nat.zero_le _⟩ ⟨rfl, rfl, rfl, rfl, rfl, by decide, rfl⟩ rfl dX11_layNow_8 ?_
  obtain rfl := Option.some.inj h
  exact g_vret 11 C hA dX11_layNow_11 rfl
end

/-! X11_kind -/
abbrev W_X11_kind (k : Nat → ClassId) (h_t : Nat) (h_t_w : Nat) (h_t_tape : Nat) (h_t_firsts : Nat) (h_t_sizes : Nat) (h_t_worths : Nat) (h_t_readWorths : Nat) (h_t_dues : Nat) (h_t_sums : Nat) (h_t_worthOf : Nat) (h_t_lies : Nat) (h_t_pairs : Nat) (h_t_row : Nat) (h_t_hands : Nat) (h_t_paidOn : Nat) (h_t_lates : Nat) (h_t_fixed : Nat) (h_t_lanes : Nat) (h_t_longs : Nat) (h_t_items : Nat) (h_t_hand : Nat) (h_t_used : Nat) (s_isKept : Int32) (s_taped : Int32) (s_pieces : Int32) (s_at : Int32) (s_readMany : Int32) (s_readKind : Int32) (s_readCut : Int32) (s_rowSet : Int32) (s_bestSet : Int32) (s_w : Nat → Int32) : va_W := [(h_t, .inr (11, [.ref h_t_w, .int s_isKept, .ref h_t_tape, .int s_taped, .ref h_t_firsts, .ref h_t_sizes, .ref h_t_worths, .int s_pieces, .int s_at, .ref h_t_readWorths, .int s_readMany, .int s_readKind, .int s_readCut, .ref h_t_dues, .ref h_t_sums, .ref h_t_worthOf, .ref h_t_lies, .ref h_t_pairs, .ref h_t_row, .int s_rowSet, .int s_bestSet, .ref h_t_hands, .ref h_t_paidOn, .ref h_t_lates, .ref h_t_fixed, .ref h_t_lanes, .ref h_t_longs, .ref h_t_items, .ref h_t_hand, .ref h_t_used])), (h_t_w, .inl (k 0, 60, .inl s_w))]
def rm_X11_kind : Room := { frames := 1, cells := 0, slots := 0, locals := 25 }
theorem in_X11_kind_X11 : ∀ w ∈ u_ws RX11 TX11 30, w ∈ wsX11_kind := by decide +kernel
theorem ct_X11_kind_100 : Cond.constantLong RX11 100 (3 : Int64) ∈ wsX11_kind := by decide +kernel
theorem fl_X11_kind_7 : Cond.fieldLink RX11 7 "LinkDaysModel" "w" "[I" ∈ wsX11_kind := by decide +kernel
theorem pd_X11_kind : yX11_kind.cls = RX11 ∧ yX11_kind.cls ≠ "java/lang/invoke/MethodHandle" ∧ yX11_kind.cls ≠ "java/lang/invoke/VarHandle" ∧ (parseMethodDescriptor yX11_kind.desc).map (fun d => d.parameters.length) = some 1 := by decide +kernel
section
variable {p : Program} {l : Launch} {e : Env} {s : State} {m : MethodId} {args : Array Value} {below : List Frame} {meth : Method} {c : Code} {D : va_G} {k : Nat → ClassId} {A : Nat → Prop} {w0 : va_W} {sz : Nat}
set_option maxHeartbeats 4000000 in
set_option maxRecDepth 100000 in
theorem k_X11_kind {l : Launch} {D : va_G} {k : Nat → ClassId} (h_t : Nat) (h_t_w : Nat) (h_t_tape : Nat) (h_t_firsts : Nat) (h_t_sizes : Nat) (h_t_worths : Nat) (h_t_readWorths : Nat) (h_t_dues : Nat) (h_t_sums : Nat) (h_t_worthOf : Nat) (h_t_lies : Nat) (h_t_pairs : Nat) (h_t_row : Nat) (h_t_hands : Nat) (h_t_paidOn : Nat) (h_t_lates : Nat) (h_t_fixed : Nat) (h_t_lanes : Nat) (h_t_longs : Nat) (h_t_items : Nat) (h_t_hand : Nat) (h_t_used : Nat) (s_isKept : Int32) (s_taped : Int32) (s_pieces : Int32) (s_at : Int32) (s_readMany : Int32) (s_readKind : Int32) (s_readCut : Int32) (s_rowSet : Int32) (s_bestSet : Int32) (s_w : Nat → Int32) (v1 : Int32) (res : Int32 × (Nat → Int32)) (h : f_X11_kind s_w v1 = some res) (sz : Nat) : Met l yX11_kind wsX11_kind rm_X11_kind (cPre D k [.ref h_t, .int v1] (W_X11_kind k h_t h_t_w h_t_tape h_t_firsts h_t_sizes h_t_worths h_t_readWorths h_t_dues h_t_sums h_t_worthOf h_t_lies h_t_pairs h_t_row h_t_hands h_t_paidOn h_t_lates h_t_fixed h_t_lanes h_t_longs h_t_items h_t_hand h_t_used s_isKept s_taped s_pieces s_at s_readMany s_readKind s_readCut s_rowSet s_bestSet s_w) sz) (cQi D (W_X11_kind k h_t h_t_w h_t_tape h_t_firsts h_t_sizes h_t_worths h_t_readWorths h_t_dues h_t_sums h_t_worthOf h_t_lies h_t_pairs h_t_row h_t_hands h_t_paidOn h_t_lates h_t_fixed h_t_lanes h_t_longs h_t_items h_t_hand h_t_used s_isKept s_taped s_pieces s_at s_readMany s_readKind s_readCut s_rowSet s_bestSet s_w) sz res.1 (W_X11_kind k h_t h_t_w h_t_tape h_t_firsts h_t_sizes h_t_worths h_t_readWorths h_t_dues h_t_sums h_t_worthOf h_t_lies h_t_pairs h_t_row h_t_hands h_t_paidOn h_t_lates h_t_fixed h_t_lanes h_t_longs h_t_items h_t_hand h_t_used s_isKept s_taped s_pieces s_at s_readMany s_readKind s_readCut s_rowSet s_bestSet res.2)) 0 0 (va_A (W_X11_kind k h_t h_t_w h_t_tape h_t_firsts h_t_sizes h_t_worths h_t_readWorths h_t_dues h_t_sums h_t_worthOf h_t_lies h_t_pairs h_t_row h_t_hands h_t_paidOn h_t_lates h_t_fixed h_t_lanes h_t_longs h_t_items h_t_hand h_t_used s_isKept s_taped s_pieces s_at s_readMany s_readKind s_readCut s_rowSet s_bestSet s_w) sz) := by
  refine met_of [(0, .ref h_t), (1, .int v1)] (by decide) rfl rfl (Nat.le_of_ble_eq_true rfl) rfl ?_
  intro p e s m args below meth c A hA hsz C
  unfold f_X11_kind at h
  refine g_iload_n 0 C 1 dX11_kind_0 rfl rfl ?_
  refine g_i2l 1 C dX11_kind_1 ?_
  refine g_lconst 2 C (0 : Int64) dX11_kind_2 (by decide) ?_
  refine g_ldc2 3 C (3 : Int64) dX11_kind_3 ct_X11_kind_100 ?_
  obtain ⟨q1, e2, h⟩ := bi_e h
  refine g_callSi 6 C (As := [.long v1.toInt64, .long (0 : Int64), .long (3 : Int64)]) [] [0, 1] [0, 1] (W_X11_kind k h_t h_t_w h_t_tape h_t_firsts h_t_sizes h_t_worths h_t_readWorths h_t_dues h_t_sums h_t_worthOf h_t_lies h_t_pairs h_t_row h_t_hands h_t_paidOn h_t_lates h_t_fixed h_t_lanes h_t_longs h_t_items h_t_hand h_t_used s_isKept s_taped s_pieces s_at s_readMany s_readKind s_readCut s_rowSet s_bestSet s_w) (fun sz => k_X11_in v1.toInt64 (0 : Int64) (3 : Int64) q1 e2 sz) gX11_kind_X11_in rfl pd_X11_in rfl ⟨rfl, rfl, Nat.le_of_ble_eq_true rfl, Nat.le_of_ble_eq_true rfl⟩ (Nat.le_of_ble_eq_true rfl) ⟨Nat.zero_le _, Nat.zero_le _⟩ ⟨rfl, rfl, rfl, rfl, rfl, by decide, rfl⟩ rfl dX11_kind_6 ?_
  refine g_if_ne 9 14 C dX11_kind_9 (by decide) (fun c => ?_) (fun c => ?_)
  · replace h := if_e c h
    refine g_aload_n 14 C 0 dX11_kind_14 rfl rfl ?_
    refine g_get 15 C in_X11_kind_X11 0 0 rfl rfl (by decide) fl_X11_kind_7 rfl rfl dX11_kind_15 ?_
    refine g_iconst 18 C (0 : Int32) dX11_kind_18 (by decide) ?_
    obtain ⟨o3, h⟩ := ob_e h
    refine g_iald 19 C 1 rfl o3 dX11_kind_19 ?_
    refine g_istore_n 20 C [(2, .int (s_w (0 : Int32).toNatClampNeg)), (0, .ref h_t), (1, .int v1)] dX11_kind_20 rfl (by decide) rfl ?_
    refine g_aload_n 21 C 1 dX11_kind_21 rfl rfl ?_
    refine g_get 22 C in_X11_kind_X11 0 0 rfl rfl (by decide) fl_X11_kind_7 rfl rfl dX11_kind_22 ?_
    refine g_iconst 25 C (0 : Int32) dX11_kind_25 (by decide) ?_
    refine g_iload_n 26 C 2 dX11_kind_26 rfl rfl ?_
    obtain ⟨o4, h⟩ := ob_e h
    refine g_iast 27 C (W_X11_kind k h_t h_t_w h_t_tape h_t_firsts h_t_sizes h_t_worths h_t_readWorths h_t_dues h_t_sums h_t_worthOf h_t_lies h_t_pairs h_t_row h_t_hands h_t_paidOn h_t_lates h_t_fixed h_t_lanes h_t_longs h_t_items h_t_hand h_t_used s_isKept s_taped s_pieces s_at s_readMany s_readKind s_readCut s_rowSet s_bestSet (upd s_w (0 : Int32).toNatClampNeg v1)) 1 rfl o4 rfl dX11_kind_27 ?_
    refine g_aload_n 28 C 1 dX11_kind_28 rfl rfl ?_
    refine g_get 29 C in_X11_kind_X11 0 0 rfl rfl (by decide) fl_X11_kind_7 rfl rfl dX11_kind_29 ?_
    refine g_bipush 32 C (26 : Int32) dX11_kind_32 (by decide) ?_
    refine g_iconst 34 C (0 : Int32) dX11_kind_34 (by decide) ?_
    obtain ⟨o5, h⟩ := ob_e h
    refine g_iast 35 C (W_X11_kind k h_t h_t_w h_t_tape h_t_firsts h_t_sizes h_t_worths h_t_readWorths h_t_dues h_t_sums h_t_worthOf h_t_lies h_t_pairs h_t_row h_t_hands h_t_paidOn h_t_lates h_t_fixed h_t_lanes h_t_longs h_t_items h_t_hand h_t_used s_isKept s_taped s_pieces s_at s_readMany s_readKind s_readCut s_rowSet s_bestSet (upd (upd s_w (0 : Int32).toNatClampNeg v1) (26 : Int32).toNatClampNeg (0 : Int32))) 1 rfl o5 rfl dX11_kind_35 ?_
    refine g_iload_n 36 C 0 dX11_kind_36 rfl rfl ?_
    obtain rfl := Option.some.inj h
    exact g_iret 37 C hA rfl dX11_kind_37 rfl
  · replace h := it_e c h
    refine g_iconst 12 C (-1 : Int32) dX11_kind_12 (by decide) ?_
    obtain rfl := Option.some.inj h
    exact g_iret 13 C hA rfl dX11_kind_13 rfl
end

/-! X11_link -/
abbrev W_X11_link (k : Nat → ClassId) (h_t : Nat) (h_t_w : Nat) (h_t_tape : Nat) (h_t_firsts : Nat) (h_t_sizes : Nat) (h_t_worths : Nat) (h_t_readWorths : Nat) (h_t_dues : Nat) (h_t_sums : Nat) (h_t_worthOf : Nat) (h_t_lies : Nat) (h_t_pairs : Nat) (h_t_row : Nat) (h_t_hands : Nat) (h_t_paidOn : Nat) (h_t_lates : Nat) (h_t_fixed : Nat) (h_t_lanes : Nat) (h_t_longs : Nat) (h_t_items : Nat) (h_t_hand : Nat) (h_t_used : Nat) (s_isKept : Int32) (s_taped : Int32) (s_pieces : Int32) (s_at : Int32) (s_readMany : Int32) (s_readKind : Int32) (s_readCut : Int32) (s_rowSet : Int32) (s_bestSet : Int32) (s_w : Nat → Int32) : va_W := [(h_t, .inr (11, [.ref h_t_w, .int s_isKept, .ref h_t_tape, .int s_taped, .ref h_t_firsts, .ref h_t_sizes, .ref h_t_worths, .int s_pieces, .int s_at, .ref h_t_readWorths, .int s_readMany, .int s_readKind, .int s_readCut, .ref h_t_dues, .ref h_t_sums, .ref h_t_worthOf, .ref h_t_lies, .ref h_t_pairs, .ref h_t_row, .int s_rowSet, .int s_bestSet, .ref h_t_hands, .ref h_t_paidOn, .ref h_t_lates, .ref h_t_fixed, .ref h_t_lanes, .ref h_t_longs, .ref h_t_items, .ref h_t_hand, .ref h_t_used])), (h_t_w, .inl (k 0, 60, .inl s_w))]
def rm_X11_link : Room := { frames := 1, cells := 0, slots := 0, locals := 25 }
theorem in_X11_link_X11 : ∀ w ∈ u_ws RX11 TX11 30, w ∈ wsX11_link := by decide +kernel
theorem ct_X11_link_102 : Cond.constantLong RX11 102 (9 : Int64) ∈ wsX11_link := by decide +kernel
theorem fl_X11_link_7 : Cond.fieldLink RX11 7 "LinkDaysModel" "w" "[I" ∈ wsX11_link := by decide +kernel
theorem pd_X11_link : yX11_link.cls = RX11 ∧ yX11_link.cls ≠ "java/lang/invoke/MethodHandle" ∧ yX11_link.cls ≠ "java/lang/invoke/VarHandle" ∧ (parseMethodDescriptor yX11_link.desc).map (fun d => d.parameters.length) = some 1 := by decide +kernel
section
variable {p : Program} {l : Launch} {e : Env} {s : State} {m : MethodId} {args : Array Value} {below : List Frame} {meth : Method} {c : Code} {D : va_G} {k : Nat → ClassId} {A : Nat → Prop} {w0 : va_W} {sz : Nat}
set_option maxHeartbeats 4000000 in
set_option maxRecDepth 100000 in
theorem k_X11_link {l : Launch} {D : va_G} {k : Nat → ClassId} (h_t : Nat) (h_t_w : Nat) (h_t_tape : Nat) (h_t_firsts : Nat) (h_t_sizes : Nat) (h_t_worths : Nat) (h_t_readWorths : Nat) (h_t_dues : Nat) (h_t_sums : Nat) (h_t_worthOf : Nat) (h_t_lies : Nat) (h_t_pairs : Nat) (h_t_row : Nat) (h_t_hands : Nat) (h_t_paidOn : Nat) (h_t_lates : Nat) (h_t_fixed : Nat) (h_t_lanes : Nat) (h_t_longs : Nat) (h_t_items : Nat) (h_t_hand : Nat) (h_t_used : Nat) (s_isKept : Int32) (s_taped : Int32) (s_pieces : Int32) (s_at : Int32) (s_readMany : Int32) (s_readKind : Int32) (s_readCut : Int32) (s_rowSet : Int32) (s_bestSet : Int32) (s_w : Nat → Int32) (v1 : Int32) (res : Int32 × (Nat → Int32)) (h : f_X11_link s_w v1 = some res) (sz : Nat) : Met l yX11_link wsX11_link rm_X11_link (cPre D k [.ref h_t, .int v1] (W_X11_link k h_t h_t_w h_t_tape h_t_firsts h_t_sizes h_t_worths h_t_readWorths h_t_dues h_t_sums h_t_worthOf h_t_lies h_t_pairs h_t_row h_t_hands h_t_paidOn h_t_lates h_t_fixed h_t_lanes h_t_longs h_t_items h_t_hand h_t_used s_isKept s_taped s_pieces s_at s_readMany s_readKind s_readCut s_rowSet s_bestSet s_w) sz) (cQi D (W_X11_link k h_t h_t_w h_t_tape h_t_firsts h_t_sizes h_t_worths h_t_readWorths h_t_dues h_t_sums h_t_worthOf h_t_lies h_t_pairs h_t_row h_t_hands h_t_paidOn h_t_lates h_t_fixed h_t_lanes h_t_longs h_t_items h_t_hand h_t_used s_isKept s_taped s_pieces s_at s_readMany s_readKind s_readCut s_rowSet s_bestSet s_w) sz res.1 (W_X11_link k h_t h_t_w h_t_tape h_t_firsts h_t_sizes h_t_worths h_t_readWorths h_t_dues h_t_sums h_t_worthOf h_t_lies h_t_pairs h_t_row h_t_hands h_t_paidOn h_t_lates h_t_fixed h_t_lanes h_t_longs h_t_items h_t_hand h_t_used s_isKept s_taped s_pieces s_at s_readMany s_readKind s_readCut s_rowSet s_bestSet res.2)) 0 0 (va_A (W_X11_link k h_t h_t_w h_t_tape h_t_firsts h_t_sizes h_t_worths h_t_readWorths h_t_dues h_t_sums h_t_worthOf h_t_lies h_t_pairs h_t_row h_t_hands h_t_paidOn h_t_lates h_t_fixed h_t_lanes h_t_longs h_t_items h_t_hand h_t_used s_isKept s_taped s_pieces s_at s_readMany s_readKind s_readCut s_rowSet s_bestSet s_w) sz) := by
  refine met_of [(0, .ref h_t), (1, .int v1)] (by decide) rfl rfl (Nat.le_of_ble_eq_true rfl) rfl ?_
  intro p e s m args below meth c A hA hsz C
  unfold f_X11_link at h
  refine g_iload_n 0 C 1 dX11_link_0 rfl rfl ?_
  refine g_i2l 1 C dX11_link_1 ?_
  refine g_lconst 2 C (1 : Int64) dX11_link_2 (by decide) ?_
  refine g_ldc2 3 C (9 : Int64) dX11_link_3 ct_X11_link_102 ?_
  obtain ⟨q1, e2, h⟩ := bi_e h
  refine g_callSi 6 C (As := [.long v1.toInt64, .long (1 : Int64), .long (9 : Int64)]) [] [0, 1] [0, 1] (W_X11_link k h_t h_t_w h_t_tape h_t_firsts h_t_sizes h_t_worths h_t_readWorths h_t_dues h_t_sums h_t_worthOf h_t_lies h_t_pairs h_t_row h_t_hands h_t_paidOn h_t_lates h_t_fixed h_t_lanes h_t_longs h_t_items h_t_hand h_t_used s_isKept s_taped s_pieces s_at s_readMany s_readKind s_readCut s_rowSet s_bestSet s_w) (fun sz => k_X11_in v1.toInt64 (1 : Int64) (9 : Int64) q1 e2 sz) gX11_link_X11_in rfl pd_X11_in rfl ⟨rfl, rfl, Nat.le_of_ble_eq_true rfl, Nat.le_of_ble_eq_true rfl⟩ (Nat.le_of_ble_eq_true rfl) ⟨Nat.zero_le _, Nat.zero_le _⟩ ⟨rfl, rfl, rfl, rfl, rfl, by decide, rfl⟩ rfl dX11_link_6 ?_
  refine g_if_ne 9 14 C dX11_link_9 (by decide) (fun c => ?_) (fun c => ?_)
  · replace h := if_e c h
    refine g_aload_n 14 C 0 dX11_link_14 rfl rfl ?_
    refine g_get 15 C in_X11_link_X11 0 0 rfl rfl (by decide) fl_X11_link_7 rfl rfl dX11_link_15 ?_
    refine g_iconst 18 C (1 : Int32) dX11_link_18 (by decide) ?_
    obtain ⟨o3, h⟩ := ob_e h
    refine g_iald 19 C 1 rfl o3 dX11_link_19 ?_
    refine g_bipush 20 C (24 : Int32) dX11_link_20 (by decide) ?_
    refine g_icmp_ne 22 28 C dX11_link_22 (by decide) (fun c => ?_) (fun c => ?_)
    · replace h := if_e c h
      refine g_aload_n 28 C 0 dX11_link_28 rfl rfl ?_
      refine g_get 29 C in_X11_link_X11 0 0 rfl rfl (by decide) fl_X11_link_7 rfl rfl dX11_link_29 ?_
      refine g_iconst 32 C (2 : Int32) dX11_link_32 (by decide) ?_
      refine g_aload_n 33 C 0 dX11_link_33 rfl rfl ?_
      refine g_get 34 C in_X11_link_X11 0 0 rfl rfl (by decide) fl_X11_link_7 rfl rfl dX11_link_34 ?_
      refine g_iconst 37 C (1 : Int32) dX11_link_37 (by decide) ?_
      obtain ⟨o4, h⟩ := ob_e h
      refine g_iald 38 C 1 rfl o4 dX11_link_38 ?_
      refine g_iadd 39 C dX11_link_39 ?_
      refine g_iload_n 40 C 1 dX11_link_40 rfl rfl ?_
      obtain ⟨o5, h⟩ := ob_e h
      refine g_iast 41 C (W_X11_link k h_t h_t_w h_t_tape h_t_firsts h_t_sizes h_t_worths h_t_readWorths h_t_dues h_t_sums h_t_worthOf h_t_lies h_t_pairs h_t_row h_t_hands h_t_paidOn h_t_lates h_t_fixed h_t_lanes h_t_longs h_t_items h_t_hand h_t_used s_isKept s_taped s_pieces s_at s_readMany s_readKind s_readCut s_rowSet s_bestSet (upd s_w ((2 : Int32) + (s_w (1 : Int32).toNatClampNeg)).toNatClampNeg v1)) 1 rfl o5 rfl dX11_link_41 ?_
      refine g_aload_n 42 C 0 dX11_link_42 rfl rfl ?_
      refine g_get 43 C in_X11_link_X11 0 0 rfl rfl (by decide) fl_X11_link_7 rfl rfl dX11_link_43 ?_
      refine g_iconst 46 C (1 : Int32) dX11_link_46 (by decide) ?_
      refine g_dup2 47 C dX11_link_47 rfl rfl ?_
      obtain ⟨o6, h⟩ := ob_e h
      refine g_iald 48 C 1 rfl o6 dX11_link_48 ?_
      refine g_iconst 49 C (1 : Int32) dX11_link_49 (by decide) ?_
      refine g_iadd 50 C dX11_link_50 ?_
      obtain ⟨o7, h⟩ := ob_e h
      refine g_iast 51 C (W_X11_link k h_t h_t_w h_t_tape h_t_firsts h_t_sizes h_t_worths h_t_readWorths h_t_dues h_t_sums h_t_worthOf h_t_lies h_t_pairs h_t_row h_t_hands h_t_paidOn h_t_lates h_t_fixed h_t_lanes h_t_longs h_t_items h_t_hand h_t_used s_isKept s_taped s_pieces s_at s_readMany s_readKind s_readCut s_rowSet s_bestSet (upd (upd s_w ((2 : Int32) + (s_w (1 : Int32).toNatClampNeg)).toNatClampNeg v1) (1 : Int32).toNatClampNeg (((upd s_w ((2 : Int32) + (s_w (1 : Int32).toNatClampNeg)).toNatClampNeg v1) (1 : Int32).toNatClampNeg) + (1 : Int32)))) 1 rfl o7 rfl dX11_link_51 ?_
      refine g_aload_n 52 C 0 dX11_link_52 rfl rfl ?_
      refine g_get 53 C in_X11_link_X11 0 0 rfl rfl (by decide) fl_X11_link_7 rfl rfl dX11_link_53 ?_
      refine g_iconst 56 C (1 : Int32) dX11_link_56 (by decide) ?_
      obtain ⟨o8, h⟩ := ob_e h
      refine g_iald 57 C 1 rfl o8 dX11_link_57 ?_
      obtain rfl := Option.some.inj h
      exact g_iret 58 C hA rfl dX11_link_58 rfl
    · replace h := it_e c h
      refine g_bipush 25 C (-3 : Int32) dX11_link_25 (by decide) ?_
      obtain rfl := Option.some.inj h
      exact g_iret 27 C hA rfl dX11_link_27 rfl
  · replace h := it_e c h
    refine g_iconst 12 C (-1 : Int32) dX11_link_12 (by decide) ?_
    obtain rfl := Option.some.inj h
    exact g_iret 13 C hA rfl dX11_link_13 rfl
end

/-! X11_worth -/
abbrev W_X11_worth (k : Nat → ClassId) (h_t : Nat) (h_t_w : Nat) (h_t_tape : Nat) (h_t_firsts : Nat) (h_t_sizes : Nat) (h_t_worths : Nat) (h_t_readWorths : Nat) (h_t_dues : Nat) (h_t_sums : Nat) (h_t_worthOf : Nat) (h_t_lies : Nat) (h_t_pairs : Nat) (h_t_row : Nat) (h_t_hands : Nat) (h_t_paidOn : Nat) (h_t_lates : Nat) (h_t_fixed : Nat) (h_t_lanes : Nat) (h_t_longs : Nat) (h_t_items : Nat) (h_t_hand : Nat) (h_t_used : Nat) (s_isKept : Int32) (s_taped : Int32) (s_pieces : Int32) (s_at : Int32) (s_readMany : Int32) (s_readKind : Int32) (s_readCut : Int32) (s_rowSet : Int32) (s_bestSet : Int32) (s_w : Nat → Int32) : va_W := [(h_t, .inr (11, [.ref h_t_w, .int s_isKept, .ref h_t_tape, .int s_taped, .ref h_t_firsts, .ref h_t_sizes, .ref h_t_worths, .int s_pieces, .int s_at, .ref h_t_readWorths, .int s_readMany, .int s_readKind, .int s_readCut, .ref h_t_dues, .ref h_t_sums, .ref h_t_worthOf, .ref h_t_lies, .ref h_t_pairs, .ref h_t_row, .int s_rowSet, .int s_bestSet, .ref h_t_hands, .ref h_t_paidOn, .ref h_t_lates, .ref h_t_fixed, .ref h_t_lanes, .ref h_t_longs, .ref h_t_items, .ref h_t_hand, .ref h_t_used])), (h_t_w, .inl (k 0, 60, .inl s_w))]
def rm_X11_worth : Room := { frames := 1, cells := 0, slots := 0, locals := 25 }
theorem in_X11_worth_X11 : ∀ w ∈ u_ws RX11 TX11 30, w ∈ wsX11_worth := by decide +kernel
theorem ct_X11_worth_102 : Cond.constantLong RX11 102 (9 : Int64) ∈ wsX11_worth := by decide +kernel
theorem fl_X11_worth_7 : Cond.fieldLink RX11 7 "LinkDaysModel" "w" "[I" ∈ wsX11_worth := by decide +kernel
theorem pd_X11_worth : yX11_worth.cls = RX11 ∧ yX11_worth.cls ≠ "java/lang/invoke/MethodHandle" ∧ yX11_worth.cls ≠ "java/lang/invoke/VarHandle" ∧ (parseMethodDescriptor yX11_worth.desc).map (fun d => d.parameters.length) = some 2 := by decide +kernel
section
variable {p : Program} {l : Launch} {e : Env} {s : State} {m : MethodId} {args : Array Value} {below : List Frame} {meth : Method} {c : Code} {D : va_G} {k : Nat → ClassId} {A : Nat → Prop} {w0 : va_W} {sz : Nat}
set_option maxHeartbeats 4000000 in
set_option maxRecDepth 100000 in
theorem ok_B_X11_worth_30 {h_t : Nat} {h_t_w : Nat} {h_t_tape : Nat} {h_t_firsts : Nat} {h_t_sizes : Nat} {h_t_worths : Nat} {h_t_readWorths : Nat} {h_t_dues : Nat} {h_t_sums : Nat} {h_t_worthOf : Nat} {h_t_lies : Nat} {h_t_pairs : Nat} {h_t_row : Nat} {h_t_hands : Nat} {h_t_paidOn : Nat} {h_t_lates : Nat} {h_t_fixed : Nat} {h_t_lanes : Nat} {h_t_longs : Nat} {h_t_items : Nat} {h_t_hand : Nat} {h_t_used : Nat} {s_isKept : Int32} {s_taped : Int32} {s_pieces : Int32} {s_at : Int32} {s_readMany : Int32} {s_readKind : Int32} {s_readCut : Int32} {s_rowSet : Int32} {s_bestSet : Int32} {s_w : Nat → Int32} {res : Int32 × (Nat → Int32)} (C : CX p s m args meth c cX11_worth wsX11_worth RX11 4 D k A (some .int)) (hA : A = va_A w0 sz)  (h : B_X11_worth_30 s_w = some res) : GG p l e rm_X11_worth s m args below meth c (MQ below (cQi D w0 sz res.1 (W_X11_worth k h_t h_t_w h_t_tape h_t_firsts h_t_sizes h_t_worths h_t_readWorths h_t_dues h_t_sums h_t_worthOf h_t_lies h_t_pairs h_t_row h_t_hands h_t_paidOn h_t_lates h_t_fixed h_t_lanes h_t_longs h_t_items h_t_hand h_t_used s_isKept s_taped s_pieces s_at s_readMany s_readKind s_readCut s_rowSet s_bestSet res.2)) args s 0 0 A) D A 4 0 0 30 [] [] (W_X11_worth k h_t h_t_w h_t_tape h_t_firsts h_t_sizes h_t_worths h_t_readWorths h_t_dues h_t_sums h_t_worthOf h_t_lies h_t_pairs h_t_row h_t_hands h_t_paidOn h_t_lates h_t_fixed h_t_lanes h_t_longs h_t_items h_t_hand h_t_used s_isKept s_taped s_pieces s_at s_readMany s_readKind s_readCut s_rowSet s_bestSet s_w) := by
  unfold B_X11_worth_30 at h
  refine g_iconst 30 C (-1 : Int32) dX11_worth_30 (by decide) ?_
  obtain rfl := Option.some.inj h
  exact g_iret 31 C hA rfl dX11_worth_31 rfl
set_option maxHeartbeats 4000000 in
set_option maxRecDepth 100000 in
theorem k_X11_worth {l : Launch} {D : va_G} {k : Nat → ClassId} (h_t : Nat) (h_t_w : Nat) (h_t_tape : Nat) (h_t_firsts : Nat) (h_t_sizes : Nat) (h_t_worths : Nat) (h_t_readWorths : Nat) (h_t_dues : Nat) (h_t_sums : Nat) (h_t_worthOf : Nat) (h_t_lies : Nat) (h_t_pairs : Nat) (h_t_row : Nat) (h_t_hands : Nat) (h_t_paidOn : Nat) (h_t_lates : Nat) (h_t_fixed : Nat) (h_t_lanes : Nat) (h_t_longs : Nat) (h_t_items : Nat) (h_t_hand : Nat) (h_t_used : Nat) (s_isKept : Int32) (s_taped : Int32) (s_pieces : Int32) (s_at : Int32) (s_readMany : Int32) (s_readKind : Int32) (s_readCut : Int32) (s_rowSet : Int32) (s_bestSet : Int32) (s_w : Nat → Int32) (v1 : Int32) (v2 : Int32) (res : Int32 × (Nat → Int32)) (h : f_X11_worth s_w v1 v2 = some res) (sz : Nat) : Met l yX11_worth wsX11_worth rm_X11_worth (cPre D k [.ref h_t, .int v1, .int v2] (W_X11_worth k h_t h_t_w h_t_tape h_t_firsts h_t_sizes h_t_worths h_t_readWorths h_t_dues h_t_sums h_t_worthOf h_t_lies h_t_pairs h_t_row h_t_hands h_t_paidOn h_t_lates h_t_fixed h_t_lanes h_t_longs h_t_items h_t_hand h_t_used s_isKept s_taped s_pieces s_at s_readMany s_readKind s_readCut s_rowSet s_bestSet s_w) sz) (cQi D (W_X11_worth k h_t h_t_w h_t_tape h_t_firsts h_t_sizes h_t_worths h_t_readWorths h_t_dues h_t_sums h_t_worthOf h_t_lies h_t_pairs h_t_row h_t_hands h_t_paidOn h_t_lates h_t_fixed h_t_lanes h_t_longs h_t_items h_t_hand h_t_used s_isKept s_taped s_pieces s_at s_readMany s_readKind s_readCut s_rowSet s_bestSet s_w) sz res.1 (W_X11_worth k h_t h_t_w h_t_tape h_t_firsts h_t_sizes h_t_worths h_t_readWorths h_t_dues h_t_sums h_t_worthOf h_t_lies h_t_pairs h_t_row h_t_hands h_t_paidOn h_t_lates h_t_fixed h_t_lanes h_t_longs h_t_items h_t_hand h_t_used s_isKept s_taped s_pieces s_at s_readMany s_readKind s_readCut s_rowSet s_bestSet res.2)) 0 0 (va_A (W_X11_worth k h_t h_t_w h_t_tape h_t_firsts h_t_sizes h_t_worths h_t_readWorths h_t_dues h_t_sums h_t_worthOf h_t_lies h_t_pairs h_t_row h_t_hands h_t_paidOn h_t_lates h_t_fixed h_t_lanes h_t_longs h_t_items h_t_hand h_t_used s_isKept s_taped s_pieces s_at s_readMany s_readKind s_readCut s_rowSet s_bestSet s_w) sz) := by
  refine met_of [(0, .ref h_t), (1, .int v1), (2, .int v2)] (by decide) rfl rfl (Nat.le_of_ble_eq_true rfl) rfl ?_
  intro p e s m args below meth c A hA hsz C
  unfold f_X11_worth at h
  refine g_iload_n 0 C 1 dX11_worth_0 rfl rfl ?_
  refine g_i2l 1 C dX11_worth_1 ?_
  refine g_lconst 2 C (0 : Int64) dX11_worth_2 (by decide) ?_
  refine g_aload_n 3 C 0 dX11_worth_3 rfl rfl ?_
  refine g_get 4 C in_X11_worth_X11 0 0 rfl rfl (by decide) fl_X11_worth_7 rfl rfl dX11_worth_4 ?_
  refine g_iconst 7 C (1 : Int32) dX11_worth_7 (by decide) ?_
  obtain ⟨o1, h⟩ := ob_e h
  refine g_iald 8 C 1 rfl o1 dX11_worth_8 ?_
  refine g_iconst 9 C (1 : Int32) dX11_worth_9 (by decide) ?_
  refine g_isub 10 C dX11_worth_10 ?_
  refine g_i2l 11 C dX11_worth_11 ?_
  obtain ⟨q2, e3, h⟩ := bi_e h
  refine g_callSi 12 C (As := [.long v1.toInt64, .long (0 : Int64), .long (((s_w (1 : Int32).toNatClampNeg) - (1 : Int32)).toInt64)]) [] [0, 1] [0, 1] (W_X11_worth k h_t h_t_w h_t_tape h_t_firsts h_t_sizes h_t_worths h_t_readWorths h_t_dues h_t_sums h_t_worthOf h_t_lies h_t_pairs h_t_row h_t_hands h_t_paidOn h_t_lates h_t_fixed h_t_lanes h_t_longs h_t_items h_t_hand h_t_used s_isKept s_taped s_pieces s_at s_readMany s_readKind s_readCut s_rowSet s_bestSet s_w) (fun sz => k_X11_in v1.toInt64 (0 : Int64) (((s_w (1 : Int32).toNatClampNeg) - (1 : Int32)).toInt64) q2 e3 sz) gX11_worth_X11_in rfl pd_X11_in rfl ⟨rfl, rfl, Nat.le_of_ble_eq_true rfl, Nat.le_of_ble_eq_true rfl⟩ (Nat.le_of_ble_eq_true rfl) ⟨Nat.zero_le _, Nat.zero_le _⟩ ⟨rfl, rfl, rfl, rfl, rfl, by decide, rfl⟩ rfl dX11_worth_12 ?_
  refine g_if_eq 15 30 C dX11_worth_15 (by decide) (fun c => ?_) (fun c => ?_)
  · replace h := it_e c h
    refine GG.sub (lv' := []) [] rfl ?_
    exact ok_B_X11_worth_30 C hA h
  · replace h := if_e c h
    refine g_iload_n 18 C 2 dX11_worth_18 rfl rfl ?_
    refine g_i2l 19 C dX11_worth_19 ?_
    refine g_lconst 20 C (1 : Int64) dX11_worth_20 (by decide) ?_
    refine g_ldc2 21 C (9 : Int64) dX11_worth_21 ct_X11_worth_102 ?_
    obtain ⟨q4, e5, h⟩ := bi_e h
    refine g_callSi 24 C (As := [.long v2.toInt64, .long (1 : Int64), .long (9 : Int64)]) [] [0, 1] [0, 1] (W_X11_worth k h_t h_t_w h_t_tape h_t_firsts h_t_sizes h_t_worths h_t_readWorths h_t_dues h_t_sums h_t_worthOf h_t_lies h_t_pairs h_t_row h_t_hands h_t_paidOn h_t_lates h_t_fixed h_t_lanes h_t_longs h_t_items h_t_hand h_t_used s_isKept s_taped s_pieces s_at s_readMany s_readKind s_readCut s_rowSet s_bestSet s_w) (fun sz => k_X11_in v2.toInt64 (1 : Int64) (9 : Int64) q4 e5 sz) gX11_worth_X11_in rfl pd_X11_in rfl ⟨rfl, rfl, Nat.le_of_ble_eq_true rfl, Nat.le_of_ble_eq_true rfl⟩ (Nat.le_of_ble_eq_true rfl) ⟨Nat.zero_le _, Nat.zero_le _⟩ ⟨rfl, rfl, rfl, rfl, rfl, by decide, rfl⟩ rfl dX11_worth_24 ?_
    refine g_if_ne 27 32 C dX11_worth_27 (by decide) (fun c => ?_) (fun c => ?_)
    · replace h := if_e c h
      refine g_aload_n 32 C 0 dX11_worth_32 rfl rfl ?_
      refine g_get 33 C in_X11_worth_X11 0 0 rfl rfl (by decide) fl_X11_worth_7 rfl rfl dX11_worth_33 ?_
      refine g_iconst 36 C (2 : Int32) dX11_worth_36 (by decide) ?_
      refine g_iload_n 37 C 1 dX11_worth_37 rfl rfl ?_
      refine g_iadd 38 C dX11_worth_38 ?_
      obtain ⟨o6, h⟩ := ob_e h
      refine g_iald 39 C 1 rfl o6 dX11_worth_39 ?_
      refine g_istore_n 40 C [(3, .int (s_w ((2 : Int32) + v1).toNatClampNeg)), (0, .ref h_t), (1, .int v1), (2, .int v2)] dX11_worth_40 rfl (by decide) rfl ?_
      refine g_aload_n 41 C 1 dX11_worth_41 rfl rfl ?_
      refine g_get 42 C in_X11_worth_X11 0 0 rfl rfl (by decide) fl_X11_worth_7 rfl rfl dX11_worth_42 ?_
      refine g_iconst 45 C (2 : Int32) dX11_worth_45 (by decide) ?_
      refine g_iload_n 46 C 2 dX11_worth_46 rfl rfl ?_
      refine g_iadd 47 C dX11_worth_47 ?_
      refine g_iload_n 48 C 3 dX11_worth_48 rfl rfl ?_
      obtain ⟨o7, h⟩ := ob_e h
      refine g_iast 49 C (W_X11_worth k h_t h_t_w h_t_tape h_t_firsts h_t_sizes h_t_worths h_t_readWorths h_t_dues h_t_sums h_t_worthOf h_t_lies h_t_pairs h_t_row h_t_hands h_t_paidOn h_t_lates h_t_fixed h_t_lanes h_t_longs h_t_items h_t_hand h_t_used s_isKept s_taped s_pieces s_at s_readMany s_readKind s_readCut s_rowSet s_bestSet (upd s_w ((2 : Int32) + v1).toNatClampNeg v2)) 1 rfl o7 rfl dX11_worth_49 ?_
      refine g_iload_n 50 C 0 dX11_worth_50 rfl rfl ?_
      obtain rfl := Option.some.inj h
      exact g_iret 51 C hA rfl dX11_worth_51 rfl
    · replace h := it_e c h
      refine GG.sub (lv' := []) [] rfl ?_
      exact ok_B_X11_worth_30 C hA h
end

/-! X11_cut -/
abbrev W_X11_cut (k : Nat → ClassId) (h_t : Nat) (h_t_w : Nat) (h_t_tape : Nat) (h_t_firsts : Nat) (h_t_sizes : Nat) (h_t_worths : Nat) (h_t_readWorths : Nat) (h_t_dues : Nat) (h_t_sums : Nat) (h_t_worthOf : Nat) (h_t_lies : Nat) (h_t_pairs : Nat) (h_t_row : Nat) (h_t_hands : Nat) (h_t_paidOn : Nat) (h_t_lates : Nat) (h_t_fixed : Nat) (h_t_lanes : Nat) (h_t_longs : Nat) (h_t_items : Nat) (h_t_hand : Nat) (h_t_used : Nat) (s_isKept : Int32) (s_taped : Int32) (s_pieces : Int32) (s_at : Int32) (s_readMany : Int32) (s_readKind : Int32) (s_readCut : Int32) (s_rowSet : Int32) (s_bestSet : Int32) (s_w : Nat → Int32) : va_W := [(h_t, .inr (11, [.ref h_t_w, .int s_isKept, .ref h_t_tape, .int s_taped, .ref h_t_firsts, .ref h_t_sizes, .ref h_t_worths, .int s_pieces, .int s_at, .ref h_t_readWorths, .int s_readMany, .int s_readKind, .int s_readCut, .ref h_t_dues, .ref h_t_sums, .ref h_t_worthOf, .ref h_t_lies, .ref h_t_pairs, .ref h_t_row, .int s_rowSet, .int s_bestSet, .ref h_t_hands, .ref h_t_paidOn, .ref h_t_lates, .ref h_t_fixed, .ref h_t_lanes, .ref h_t_longs, .ref h_t_items, .ref h_t_hand, .ref h_t_used])), (h_t_w, .inl (k 0, 60, .inl s_w))]
def rm_X11_cut : Room := { frames := 2, cells := 0, slots := 0, locals := 46 }
theorem in_X11_cut_X11 : ∀ w ∈ u_ws RX11 TX11 30, w ∈ wsX11_cut := by decide +kernel
theorem fl_X11_cut_7 : Cond.fieldLink RX11 7 "LinkDaysModel" "w" "[I" ∈ wsX11_cut := by decide +kernel
theorem pd_X11_cut : yX11_cut.cls = RX11 ∧ yX11_cut.cls ≠ "java/lang/invoke/MethodHandle" ∧ yX11_cut.cls ≠ "java/lang/invoke/VarHandle" ∧ (parseMethodDescriptor yX11_cut.desc).map (fun d => d.parameters.length) = some 1 := by decide +kernel
section
variable {p : Program} {l : Launch} {e : Env} {s : State} {m : MethodId} {args : Array Value} {below : List Frame} {meth : Method} {c : Code} {D : va_G} {k : Nat → ClassId} {A : Nat → Prop} {w0 : va_W} {sz : Nat}
set_option maxHeartbeats 4000000 in
set_option maxRecDepth 100000 in
theorem k_X11_cut {l : Launch} {D : va_G} {k : Nat → ClassId} (h_t : Nat) (h_t_w : Nat) (h_t_tape : Nat) (h_t_firsts : Nat) (h_t_sizes : Nat) (h_t_worths : Nat) (h_t_readWorths : Nat) (h_t_dues : Nat) (h_t_sums : Nat) (h_t_worthOf : Nat) (h_t_lies : Nat) (h_t_pairs : Nat) (h_t_row : Nat) (h_t_hands : Nat) (h_t_paidOn : Nat) (h_t_lates : Nat) (h_t_fixed : Nat) (h_t_lanes : Nat) (h_t_longs : Nat) (h_t_items : Nat) (h_t_hand : Nat) (h_t_used : Nat) (s_isKept : Int32) (s_taped : Int32) (s_pieces : Int32) (s_at : Int32) (s_readMany : Int32) (s_readKind : Int32) (s_readCut : Int32) (s_rowSet : Int32) (s_bestSet : Int32) (s_w : Nat → Int32) (v1 : Int32) (res : Int32 × (Nat → Int32)) (h : f_X11_cut s_w v1 = some res) (sz : Nat) : Met l yX11_cut wsX11_cut rm_X11_cut (cPre D k [.ref h_t, .int v1] (W_X11_cut k h_t h_t_w h_t_tape h_t_firsts h_t_sizes h_t_worths h_t_readWorths h_t_dues h_t_sums h_t_worthOf h_t_lies h_t_pairs h_t_row h_t_hands h_t_paidOn h_t_lates h_t_fixed h_t_lanes h_t_longs h_t_items h_t_hand h_t_used s_isKept s_taped s_pieces s_at s_readMany s_readKind s_readCut s_rowSet s_bestSet s_w) sz) (cQi D (W_X11_cut k h_t h_t_w h_t_tape h_t_firsts h_t_sizes h_t_worths h_t_readWorths h_t_dues h_t_sums h_t_worthOf h_t_lies h_t_pairs h_t_row h_t_hands h_t_paidOn h_t_lates h_t_fixed h_t_lanes h_t_longs h_t_items h_t_hand h_t_used s_isKept s_taped s_pieces s_at s_readMany s_readKind s_readCut s_rowSet s_bestSet s_w) sz res.1 (W_X11_cut k h_t h_t_w h_t_tape h_t_firsts h_t_sizes h_t_worths h_t_readWorths h_t_dues h_t_sums h_t_worthOf h_t_lies h_t_pairs h_t_row h_t_hands h_t_paidOn h_t_lates h_t_fixed h_t_lanes h_t_longs h_t_items h_t_hand h_t_used s_isKept s_taped s_pieces s_at s_readMany s_readKind s_readCut s_rowSet s_bestSet res.2)) 0 0 (va_A (W_X11_cut k h_t h_t_w h_t_tape h_t_firsts h_t_sizes h_t_worths h_t_readWorths h_t_dues h_t_sums h_t_worthOf h_t_lies h_t_pairs h_t_row h_t_hands h_t_paidOn h_t_lates h_t_fixed h_t_lanes h_t_longs h_t_items h_t_hand h_t_used s_isKept s_taped s_pieces s_at s_readMany s_readKind s_readCut s_rowSet s_bestSet s_w) sz) := by
  refine met_of [(0, .ref h_t), (1, .int v1)] (by decide) rfl rfl (Nat.le_of_ble_eq_true rfl) rfl ?_
  intro p e s m args below meth c A hA hsz C
  unfold f_X11_cut at h
  refine g_aload_n 0 C 0 dX11_cut_0 rfl rfl ?_
  refine g_iload_n 1 C 1 dX11_cut_1 rfl rfl ?_
  obtain ⟨q1, e2, h⟩ := bi_e h
  refine g_callVi 2 C (As := [.int v1]) [0, 1] [] [0, 1] (W_X11_cut k h_t h_t_w h_t_tape h_t_firsts h_t_sizes h_t_worths h_t_readWorths h_t_dues h_t_sums h_t_worthOf h_t_lies h_t_pairs h_t_row h_t_hands h_t_paidOn h_t_lates h_t_fixed h_t_lanes h_t_longs h_t_items h_t_hand h_t_used s_isKept s_taped s_pieces s_at s_readMany s_readKind s_readCut s_rowSet s_bestSet s_w) 0 (fun sz => k_X11_isNotch h_t h_t_w h_t_tape h_t_firsts h_t_sizes h_t_worths h_t_readWorths h_t_dues h_t_sums h_t_worthOf h_t_lies h_t_pairs h_t_row h_t_hands h_t_paidOn h_t_lates h_t_fixed h_t_lanes h_t_longs h_t_items h_t_hand h_t_used s_isKept s_taped s_pieces s_at s_readMany s_readKind s_readCut s_rowSet s_bestSet s_w v1 q1 e2 sz) gX11_cut_X11_isNotch rfl pd_X11_isNotch rfl rfl rfl ⟨rfl, rfl, Nat.le_of_ble_eq_true rfl, Nat.le_of_ble_eq_true rfl⟩ (Nat.le_of_ble_eq_true rfl) ⟨Nat.zero_le _, Nat.zero_le _⟩ ⟨rfl, rfl, rfl, rfl, rfl, by decide, rfl⟩ rfl dX11_cut_2 ?_
  refine g_if_ne 5 10 C dX11_cut_5 (by decide) (fun c => ?_) (fun c => ?_)
  · replace h := if_e c h
    refine g_aload_n 10 C 0 dX11_cut_10 rfl rfl ?_
    refine g_get 11 C in_X11_cut_X11 0 0 rfl rfl (by decide) fl_X11_cut_7 rfl rfl dX11_cut_11 ?_
    refine g_bipush 14 C (26 : Int32) dX11_cut_14 (by decide) ?_
    obtain ⟨o3, h⟩ := ob_e h
    refine g_iald 16 C 1 rfl o3 dX11_cut_16 ?_
    refine g_iload_n 17 C 1 dX11_cut_17 rfl rfl ?_
    obtain ⟨q4, e5, h⟩ := bi_e h
    refine g_callSi 18 C (As := [.int (s_w (26 : Int32).toNatClampNeg), .int v1]) [] [0, 1] [0, 1] (W_X11_cut k h_t h_t_w h_t_tape h_t_firsts h_t_sizes h_t_worths h_t_readWorths h_t_dues h_t_sums h_t_worthOf h_t_lies h_t_pairs h_t_row h_t_hands h_t_paidOn h_t_lates h_t_fixed h_t_lanes h_t_longs h_t_items h_t_hand h_t_used s_isKept s_taped s_pieces s_at s_readMany s_readKind s_readCut s_rowSet s_bestSet s_w) (fun sz => k_X11_has (s_w (26 : Int32).toNatClampNeg) v1 q4 e5 sz) gX11_cut_X11_has rfl pd_X11_has rfl ⟨rfl, rfl, Nat.le_of_ble_eq_true rfl, Nat.le_of_ble_eq_true rfl⟩ (Nat.le_of_ble_eq_true rfl) ⟨Nat.zero_le _, Nat.zero_le _⟩ ⟨rfl, rfl, rfl, rfl, rfl, by decide, rfl⟩ rfl dX11_cut_18 ?_
    refine g_if_eq 21 27 C dX11_cut_21 (by decide) (fun c => ?_) (fun c => ?_)
    · replace h := it_e c h
      refine g_aload_n 27 C 0 dX11_cut_27 rfl rfl ?_
      refine g_get 28 C in_X11_cut_X11 0 0 rfl rfl (by decide) fl_X11_cut_7 rfl rfl dX11_cut_28 ?_
      refine g_bipush 31 C (26 : Int32) dX11_cut_31 (by decide) ?_
      obtain ⟨o6, h⟩ := ob_e h
      refine g_iald 33 C 1 rfl o6 dX11_cut_33 ?_
      obtain ⟨q7, e8, h⟩ := bi_e h
      refine g_callSi 34 C (As := [.int (s_w (26 : Int32).toNatClampNeg)]) [] [0, 1] [0, 1] (W_X11_cut k h_t h_t_w h_t_tape h_t_firsts h_t_sizes h_t_worths h_t_readWorths h_t_dues h_t_sums h_t_worthOf h_t_lies h_t_pairs h_t_row h_t_hands h_t_paidOn h_t_lates h_t_fixed h_t_lanes h_t_longs h_t_items h_t_hand h_t_used s_isKept s_taped s_pieces s_at s_readMany s_readKind s_readCut s_rowSet s_bestSet s_w) (fun sz => k_X11_ones (s_w (26 : Int32).toNatClampNeg) q7 e8 sz) gX11_cut_X11_ones rfl pd_X11_ones rfl ⟨rfl, rfl, Nat.le_of_ble_eq_true rfl, Nat.le_of_ble_eq_true rfl⟩ (Nat.le_of_ble_eq_true rfl) ⟨Nat.zero_le _, Nat.zero_le _⟩ ⟨rfl, rfl, rfl, rfl, rfl, by decide, rfl⟩ rfl dX11_cut_34 ?_
      refine g_iconst 37 C (5 : Int32) dX11_cut_37 (by decide) ?_
      refine g_icmp_ne 38 44 C dX11_cut_38 (by decide) (fun c => ?_) (fun c => ?_)
      · replace h := if_e c h
        refine g_aload_n 44 C 0 dX11_cut_44 rfl rfl ?_
        refine g_get 45 C in_X11_cut_X11 0 0 rfl rfl (by decide) fl_X11_cut_7 rfl rfl dX11_cut_45 ?_
        refine g_bipush 48 C (26 : Int32) dX11_cut_48 (by decide) ?_
        refine g_dup2 50 C dX11_cut_50 rfl rfl ?_
        obtain ⟨o9, h⟩ := ob_e h
        refine g_iald 51 C 1 rfl o9 dX11_cut_51 ?_
        refine g_iconst 52 C (1 : Int32) dX11_cut_52 (by decide) ?_
        refine g_iload_n 53 C 1 dX11_cut_53 rfl rfl ?_
        refine g_ishl 54 C dX11_cut_54 ?_
        refine g_ior 55 C dX11_cut_55 ?_
        obtain ⟨o10, h⟩ := ob_e h
        refine g_iast 56 C (W_X11_cut k h_t h_t_w h_t_tape h_t_firsts h_t_sizes h_t_worths h_t_readWorths h_t_dues h_t_sums h_t_worthOf h_t_lies h_t_pairs h_t_row h_t_hands h_t_paidOn h_t_lates h_t_fixed h_t_lanes h_t_longs h_t_items h_t_hand h_t_used s_isKept s_taped s_pieces s_at s_readMany s_readKind s_readCut s_rowSet s_bestSet (upd s_w (26 : Int32).toNatClampNeg ((s_w (26 : Int32).toNatClampNeg) ||| ((1 : Int32) <<< (v1 &&& 31))))) 1 rfl o10 rfl dX11_cut_56 ?_
        refine g_aload_n 57 C 0 dX11_cut_57 rfl rfl ?_
        refine g_get 58 C in_X11_cut_X11 0 0 rfl rfl (by decide) fl_X11_cut_7 rfl rfl dX11_cut_58 ?_
        refine g_bipush 61 C (26 : Int32) dX11_cut_61 (by decide) ?_
        obtain ⟨o11, h⟩ := ob_e h
        refine g_iald 63 C 1 rfl o11 dX11_cut_63 ?_
        obtain ⟨q12, e13, h⟩ := bi_e h
        refine g_callSi 64 C (As := [.int ((upd s_w (26 : Int32).toNatClampNeg ((s_w (26 : Int32).toNatClampNeg) ||| ((1 : Int32) <<< (v1 &&& 31)))) (26 : Int32).toNatClampNeg)]) [] [0, 1] [0, 1] (W_X11_cut k h_t h_t_w h_t_tape h_t_firsts h_t_sizes h_t_worths h_t_readWorths h_t_dues h_t_sums h_t_worthOf h_t_lies h_t_pairs h_t_row h_t_hands h_t_paidOn h_t_lates h_t_fixed h_t_lanes h_t_longs h_t_items h_t_hand h_t_used s_isKept s_taped s_pieces s_at s_readMany s_readKind s_readCut s_rowSet s_bestSet (upd s_w (26 : Int32).toNatClampNeg ((s_w (26 : Int32).toNatClampNeg) ||| ((1 : Int32) <<< (v1 &&& 31))))) (fun sz => k_X11_ones ((upd s_w (26 : Int32).toNatClampNeg ((s_w (26 : Int32).toNatClampNeg) ||| ((1 : Int32) <<< (v1 &&& 31)))) (26 : Int32).toNatClampNeg) q12 e13 sz) gX11_cut_X11_ones rfl pd_X11_ones rfl ⟨rfl, rfl, Nat.le_of_ble_eq_true rfl, Nat.le_of_ble_eq_true rfl⟩ (Nat.le_of_ble_eq_true rfl) ⟨Nat.zero_le _, Nat.zero_le _⟩ ⟨rfl, rfl, rfl, rfl, rfl, by decide, rfl⟩ rfl dX11_cut_64 ?_
        obtain rfl := Option.some.inj h
        exact g_iret 67 C hA rfl dX11_cut_67 rfl
      · replace h := it_e c h
        refine g_bipush 41 C (-3 : Int32) dX11_cut_41 (by decide) ?_
        obtain rfl := Option.some.inj h
        exact g_iret 43 C hA rfl dX11_cut_43 rfl
    · replace h := if_e c h
      refine g_bipush 24 C (-2 : Int32) dX11_cut_24 (by decide) ?_
      obtain rfl := Option.some.inj h
      exact g_iret 26 C hA rfl dX11_cut_26 rfl
  · replace h := it_e c h
    refine g_iconst 8 C (-1 : Int32) dX11_cut_8 (by decide) ?_
    obtain rfl := Option.some.inj h
    exact g_iret 9 C hA rfl dX11_cut_9 rfl
end

/-! X11_mend -/
abbrev W_X11_mend (k : Nat → ClassId) (h_t : Nat) (h_t_w : Nat) (h_t_tape : Nat) (h_t_firsts : Nat) (h_t_sizes : Nat) (h_t_worths : Nat) (h_t_readWorths : Nat) (h_t_dues : Nat) (h_t_sums : Nat) (h_t_worthOf : Nat) (h_t_lies : Nat) (h_t_pairs : Nat) (h_t_row : Nat) (h_t_hands : Nat) (h_t_paidOn : Nat) (h_t_lates : Nat) (h_t_fixed : Nat) (h_t_lanes : Nat) (h_t_longs : Nat) (h_t_items : Nat) (h_t_hand : Nat) (h_t_used : Nat) (s_isKept : Int32) (s_taped : Int32) (s_pieces : Int32) (s_at : Int32) (s_readMany : Int32) (s_readKind : Int32) (s_readCut : Int32) (s_rowSet : Int32) (s_bestSet : Int32) (s_w : Nat → Int32) : va_W := [(h_t, .inr (11, [.ref h_t_w, .int s_isKept, .ref h_t_tape, .int s_taped, .ref h_t_firsts, .ref h_t_sizes, .ref h_t_worths, .int s_pieces, .int s_at, .ref h_t_readWorths, .int s_readMany, .int s_readKind, .int s_readCut, .ref h_t_dues, .ref h_t_sums, .ref h_t_worthOf, .ref h_t_lies, .ref h_t_pairs, .ref h_t_row, .int s_rowSet, .int s_bestSet, .ref h_t_hands, .ref h_t_paidOn, .ref h_t_lates, .ref h_t_fixed, .ref h_t_lanes, .ref h_t_longs, .ref h_t_items, .ref h_t_hand, .ref h_t_used])), (h_t_w, .inl (k 0, 60, .inl s_w))]
def rm_X11_mend : Room := { frames := 2, cells := 0, slots := 0, locals := 46 }
theorem in_X11_mend_X11 : ∀ w ∈ u_ws RX11 TX11 30, w ∈ wsX11_mend := by decide +kernel
theorem fl_X11_mend_7 : Cond.fieldLink RX11 7 "LinkDaysModel" "w" "[I" ∈ wsX11_mend := by decide +kernel
theorem pd_X11_mend : yX11_mend.cls = RX11 ∧ yX11_mend.cls ≠ "java/lang/invoke/MethodHandle" ∧ yX11_mend.cls ≠ "java/lang/invoke/VarHandle" ∧ (parseMethodDescriptor yX11_mend.desc).map (fun d => d.parameters.length) = some 1 := by decide +kernel
section
variable {p : Program} {l : Launch} {e : Env} {s : State} {m : MethodId} {args : Array Value} {below : List Frame} {meth : Method} {c : Code} {D : va_G} {k : Nat → ClassId} {A : Nat → Prop} {w0 : va_W} {sz : Nat}
set_option maxHeartbeats 4000000 in
set_option maxRecDepth 100000 in
theorem k_X11_mend {l : Launch} {D : va_G} {k : Nat → ClassId} (h_t : Nat) (h_t_w : Nat) (h_t_tape : Nat) (h_t_firsts : Nat) (h_t_sizes : Nat) (h_t_worths : Nat) (h_t_readWorths : Nat) (h_t_dues : Nat) (h_t_sums : Nat) (h_t_worthOf : Nat) (h_t_lies : Nat) (h_t_pairs : Nat) (h_t_row : Nat) (h_t_hands : Nat) (h_t_paidOn : Nat) (h_t_lates : Nat) (h_t_fixed : Nat) (h_t_lanes : Nat) (h_t_longs : Nat) (h_t_items : Nat) (h_t_hand : Nat) (h_t_used : Nat) (s_isKept : Int32) (s_taped : Int32) (s_pieces : Int32) (s_at : Int32) (s_readMany : Int32) (s_readKind : Int32) (s_readCut : Int32) (s_rowSet : Int32) (s_bestSet : Int32) (s_w : Nat → Int32) (v1 : Int32) (res : Int32 × (Nat → Int32)) (h : f_X11_mend s_w v1 = some res) (sz : Nat) : Met l yX11_mend wsX11_mend rm_X11_mend (cPre D k [.ref h_t, .int v1] (W_X11_mend k h_t h_t_w h_t_tape h_t_firsts h_t_sizes h_t_worths h_t_readWorths h_t_dues h_t_sums h_t_worthOf h_t_lies h_t_pairs h_t_row h_t_hands h_t_paidOn h_t_lates h_t_fixed h_t_lanes h_t_longs h_t_items h_t_hand h_t_used s_isKept s_taped s_pieces s_at s_readMany s_readKind s_readCut s_rowSet s_bestSet s_w) sz) (cQi D (W_X11_mend k h_t h_t_w h_t_tape h_t_firsts h_t_sizes h_t_worths h_t_readWorths h_t_dues h_t_sums h_t_worthOf h_t_lies h_t_pairs h_t_row h_t_hands h_t_paidOn h_t_lates h_t_fixed h_t_lanes h_t_longs h_t_items h_t_hand h_t_used s_isKept s_taped s_pieces s_at s_readMany s_readKind s_readCut s_rowSet s_bestSet s_w) sz res.1 (W_X11_mend k h_t h_t_w h_t_tape h_t_firsts h_t_sizes h_t_worths h_t_readWorths h_t_dues h_t_sums h_t_worthOf h_t_lies h_t_pairs h_t_row h_t_hands h_t_paidOn h_t_lates h_t_fixed h_t_lanes h_t_longs h_t_items h_t_hand h_t_used s_isKept s_taped s_pieces s_at s_readMany s_readKind s_readCut s_rowSet s_bestSet res.2)) 0 0 (va_A (W_X11_mend k h_t h_t_w h_t_tape h_t_firsts h_t_sizes h_t_worths h_t_readWorths h_t_dues h_t_sums h_t_worthOf h_t_lies h_t_pairs h_t_row h_t_hands h_t_paidOn h_t_lates h_t_fixed h_t_lanes h_t_longs h_t_items h_t_hand h_t_used s_isKept s_taped s_pieces s_at s_readMany s_readKind s_readCut s_rowSet s_bestSet s_w) sz) := by
  refine met_of [(0, .ref h_t), (1, .int v1)] (by decide) rfl rfl (Nat.le_of_ble_eq_true rfl) rfl ?_
  intro p e s m args below meth c A hA hsz C
  unfold f_X11_mend at h
  refine g_aload_n 0 C 0 dX11_mend_0 rfl rfl ?_
  refine g_iload_n 1 C 1 dX11_mend_1 rfl rfl ?_
  obtain ⟨q1, e2, h⟩ := bi_e h
  refine g_callVi 2 C (As := [.int v1]) [0, 1] [] [0, 1] (W_X11_mend k h_t h_t_w h_t_tape h_t_firsts h_t_sizes h_t_worths h_t_readWorths h_t_dues h_t_sums h_t_worthOf h_t_lies h_t_pairs h_t_row h_t_hands h_t_paidOn h_t_lates h_t_fixed h_t_lanes h_t_longs h_t_items h_t_hand h_t_used s_isKept s_taped s_pieces s_at s_readMany s_readKind s_readCut s_rowSet s_bestSet s_w) 0 (fun sz => k_X11_isNotch h_t h_t_w h_t_tape h_t_firsts h_t_sizes h_t_worths h_t_readWorths h_t_dues h_t_sums h_t_worthOf h_t_lies h_t_pairs h_t_row h_t_hands h_t_paidOn h_t_lates h_t_fixed h_t_lanes h_t_longs h_t_items h_t_hand h_t_used s_isKept s_taped s_pieces s_at s_readMany s_readKind s_readCut s_rowSet s_bestSet s_w v1 q1 e2 sz) gX11_mend_X11_isNotch rfl pd_X11_isNotch rfl rfl rfl ⟨rfl, rfl, Nat.le_of_ble_eq_true rfl, Nat.le_of_ble_eq_true rfl⟩ (Nat.le_of_ble_eq_true rfl) ⟨Nat.zero_le _, Nat.zero_le _⟩ ⟨rfl, rfl, rfl, rfl, rfl, by decide, rfl⟩ rfl dX11_mend_2 ?_
  refine g_if_ne 5 10 C dX11_mend_5 (by decide) (fun c => ?_) (fun c => ?_)
  · replace h := if_e c h
    refine g_aload_n 10 C 0 dX11_mend_10 rfl rfl ?_
    refine g_get 11 C in_X11_mend_X11 0 0 rfl rfl (by decide) fl_X11_mend_7 rfl rfl dX11_mend_11 ?_
    refine g_bipush 14 C (26 : Int32) dX11_mend_14 (by decide) ?_
    obtain ⟨o3, h⟩ := ob_e h
    refine g_iald 16 C 1 rfl o3 dX11_mend_16 ?_
    refine g_iload_n 17 C 1 dX11_mend_17 rfl rfl ?_
    obtain ⟨q4, e5, h⟩ := bi_e h
    refine g_callSi 18 C (As := [.int (s_w (26 : Int32).toNatClampNeg), .int v1]) [] [0, 1] [0, 1] (W_X11_mend k h_t h_t_w h_t_tape h_t_firsts h_t_sizes h_t_worths h_t_readWorths h_t_dues h_t_sums h_t_worthOf h_t_lies h_t_pairs h_t_row h_t_hands h_t_paidOn h_t_lates h_t_fixed h_t_lanes h_t_longs h_t_items h_t_hand h_t_used s_isKept s_taped s_pieces s_at s_readMany s_readKind s_readCut s_rowSet s_bestSet s_w) (fun sz => k_X11_has (s_w (26 : Int32).toNatClampNeg) v1 q4 e5 sz) gX11_mend_X11_has rfl pd_X11_has rfl ⟨rfl, rfl, Nat.le_of_ble_eq_true rfl, Nat.le_of_ble_eq_true rfl⟩ (Nat.le_of_ble_eq_true rfl) ⟨Nat.zero_le _, Nat.zero_le _⟩ ⟨rfl, rfl, rfl, rfl, rfl, by decide, rfl⟩ rfl dX11_mend_18 ?_
    refine g_if_ne 21 27 C dX11_mend_21 (by decide) (fun c => ?_) (fun c => ?_)
    · replace h := if_e c h
      refine g_aload_n 27 C 0 dX11_mend_27 rfl rfl ?_
      refine g_get 28 C in_X11_mend_X11 0 0 rfl rfl (by decide) fl_X11_mend_7 rfl rfl dX11_mend_28 ?_
      refine g_bipush 31 C (26 : Int32) dX11_mend_31 (by decide) ?_
      refine g_dup2 33 C dX11_mend_33 rfl rfl ?_
      obtain ⟨o6, h⟩ := ob_e h
      refine g_iald 34 C 1 rfl o6 dX11_mend_34 ?_
      refine g_iconst 35 C (1 : Int32) dX11_mend_35 (by decide) ?_
      refine g_iload_n 36 C 1 dX11_mend_36 rfl rfl ?_
      refine g_ishl 37 C dX11_mend_37 ?_
      refine g_iconst 38 C (-1 : Int32) dX11_mend_38 (by decide) ?_
      refine g_ixor 39 C dX11_mend_39 ?_
      refine g_iand 40 C dX11_mend_40 ?_
      obtain ⟨o7, h⟩ := ob_e h
      refine g_iast 41 C (W_X11_mend k h_t h_t_w h_t_tape h_t_firsts h_t_sizes h_t_worths h_t_readWorths h_t_dues h_t_sums h_t_worthOf h_t_lies h_t_pairs h_t_row h_t_hands h_t_paidOn h_t_lates h_t_fixed h_t_lanes h_t_longs h_t_items h_t_hand h_t_used s_isKept s_taped s_pieces s_at s_readMany s_readKind s_readCut s_rowSet s_bestSet (upd s_w (26 : Int32).toNatClampNeg ((s_w (26 : Int32).toNatClampNeg) &&& (((1 : Int32) <<< (v1 &&& 31)) ^^^ (-1 : Int32))))) 1 rfl o7 rfl dX11_mend_41 ?_
      refine g_aload_n 42 C 0 dX11_mend_42 rfl rfl ?_
      refine g_get 43 C in_X11_mend_X11 0 0 rfl rfl (by decide) fl_X11_mend_7 rfl rfl dX11_mend_43 ?_
      refine g_bipush 46 C (26 : Int32) dX11_mend_46 (by decide) ?_
      obtain ⟨o8, h⟩ := ob_e h
      refine g_iald 48 C 1 rfl o8 dX11_mend_48 ?_
      obtain ⟨q9, e10, h⟩ := bi_e h
      refine g_callSi 49 C (As := [.int ((upd s_w (26 : Int32).toNatClampNeg ((s_w (26 : Int32).toNatClampNeg) &&& (((1 : Int32) <<< (v1 &&& 31)) ^^^ (-1 : Int32)))) (26 : Int32).toNatClampNeg)]) [] [0, 1] [0, 1] (W_X11_mend k h_t h_t_w h_t_tape h_t_firsts h_t_sizes h_t_worths h_t_readWorths h_t_dues h_t_sums h_t_worthOf h_t_lies h_t_pairs h_t_row h_t_hands h_t_paidOn h_t_lates h_t_fixed h_t_lanes h_t_longs h_t_items h_t_hand h_t_used s_isKept s_taped s_pieces s_at s_readMany s_readKind s_readCut s_rowSet s_bestSet (upd s_w (26 : Int32).toNatClampNeg ((s_w (26 : Int32).toNatClampNeg) &&& (((1 : Int32) <<< (v1 &&& 31)) ^^^ (-1 : Int32))))) (fun sz => k_X11_ones ((upd s_w (26 : Int32).toNatClampNeg ((s_w (26 : Int32).toNatClampNeg) &&& (((1 : Int32) <<< (v1 &&& 31)) ^^^ (-1 : Int32)))) (26 : Int32).toNatClampNeg) q9 e10 sz) gX11_mend_X11_ones rfl pd_X11_ones rfl ⟨rfl, rfl, Nat.le_of_ble_eq_true rfl, Nat.le_of_ble_eq_true rfl⟩ (Nat.le_of_ble_eq_true rfl) ⟨Nat.zero_le _, Nat.zero_le _⟩ ⟨rfl, rfl, rfl, rfl, rfl, by decide, rfl⟩ rfl dX11_mend_49 ?_
      obtain rfl := Option.some.inj h
      exact g_iret 52 C hA rfl dX11_mend_52 rfl
    · replace h := it_e c h
      refine g_bipush 24 C (-2 : Int32) dX11_mend_24 (by decide) ?_
      obtain rfl := Option.some.inj h
      exact g_iret 26 C hA rfl dX11_mend_26 rfl
  · replace h := it_e c h
    refine g_iconst 8 C (-1 : Int32) dX11_mend_8 (by decide) ?_
    obtain rfl := Option.some.inj h
    exact g_iret 9 C hA rfl dX11_mend_9 rfl
end

/-! X11_type -/
abbrev W_X11_type (k : Nat → ClassId) (h_t : Nat) (h_t_tape : Nat) (h_t_w : Nat) (h_t_firsts : Nat) (h_t_sizes : Nat) (h_t_worths : Nat) (h_t_readWorths : Nat) (h_t_dues : Nat) (h_t_sums : Nat) (h_t_worthOf : Nat) (h_t_lies : Nat) (h_t_pairs : Nat) (h_t_row : Nat) (h_t_hands : Nat) (h_t_paidOn : Nat) (h_t_lates : Nat) (h_t_fixed : Nat) (h_t_lanes : Nat) (h_t_longs : Nat) (h_t_items : Nat) (h_t_hand : Nat) (h_t_used : Nat) (s_isKept : Int32) (s_taped : Int32) (s_pieces : Int32) (s_at : Int32) (s_readMany : Int32) (s_readKind : Int32) (s_readCut : Int32) (s_rowSet : Int32) (s_bestSet : Int32) (s_tape : Nat → Int32) : va_W := [(h_t, .inr (11, [.ref h_t_w, .int s_isKept, .ref h_t_tape, .int s_taped, .ref h_t_firsts, .ref h_t_sizes, .ref h_t_worths, .int s_pieces, .int s_at, .ref h_t_readWorths, .int s_readMany, .int s_readKind, .int s_readCut, .ref h_t_dues, .ref h_t_sums, .ref h_t_worthOf, .ref h_t_lies, .ref h_t_pairs, .ref h_t_row, .int s_rowSet, .int s_bestSet, .ref h_t_hands, .ref h_t_paidOn, .ref h_t_lates, .ref h_t_fixed, .ref h_t_lanes, .ref h_t_longs, .ref h_t_items, .ref h_t_hand, .ref h_t_used])), (h_t_tape, .inl (k 0, 60, .inl s_tape))]
def rm_X11_type : Room := { frames := 1, cells := 0, slots := 0, locals := 25 }
theorem in_X11_type_X11 : ∀ w ∈ u_ws RX11 TX11 30, w ∈ wsX11_type := by decide +kernel
theorem ct_X11_type_112 : Cond.constantLong RX11 112 (8 : Int64) ∈ wsX11_type := by decide +kernel
theorem ct_X11_type_114 : Cond.constantLong RX11 114 (255 : Int64) ∈ wsX11_type := by decide +kernel
theorem ct_X11_type_116 : Cond.constantLong RX11 116 (32 : Int64) ∈ wsX11_type := by decide +kernel
theorem ct_X11_type_118 : Cond.constantLong RX11 118 (126 : Int64) ∈ wsX11_type := by decide +kernel
theorem fl_X11_type_120 : Cond.fieldLink RX11 120 "LinkDaysModel" "taped" "I" ∈ wsX11_type := by decide +kernel
theorem fl_X11_type_13 : Cond.fieldLink RX11 13 "LinkDaysModel" "tape" "[I" ∈ wsX11_type := by decide +kernel
theorem pd_X11_type : yX11_type.cls = RX11 ∧ yX11_type.cls ≠ "java/lang/invoke/MethodHandle" ∧ yX11_type.cls ≠ "java/lang/invoke/VarHandle" ∧ (parseMethodDescriptor yX11_type.desc).map (fun d => d.parameters.length) = some 2 := by decide +kernel
section
variable {p : Program} {l : Launch} {e : Env} {s : State} {m : MethodId} {args : Array Value} {below : List Frame} {meth : Method} {c : Code} {D : va_G} {k : Nat → ClassId} {A : Nat → Prop} {w0 : va_W} {sz : Nat}
set_option maxHeartbeats 4000000 in
set_option maxRecDepth 100000 in
theorem ok_L_X11_type_17 {h_t : Nat} {h_t_tape : Nat} {h_t_w : Nat} {h_t_firsts : Nat} {h_t_sizes : Nat} {h_t_worths : Nat} {h_t_readWorths : Nat} {h_t_dues : Nat} {h_t_sums : Nat} {h_t_worthOf : Nat} {h_t_lies : Nat} {h_t_pairs : Nat} {h_t_row : Nat} {h_t_hands : Nat} {h_t_paidOn : Nat} {h_t_lates : Nat} {h_t_fixed : Nat} {h_t_lanes : Nat} {h_t_longs : Nat} {h_t_items : Nat} {h_t_hand : Nat} {h_t_used : Nat} {s_isKept : Int32} {s_taped : Int32} {s_pieces : Int32} {s_at : Int32} {s_readMany : Int32} {s_readKind : Int32} {s_readCut : Int32} {s_rowSet : Int32} {s_bestSet : Int32} {s_tape : Nat → Int32} {v1 : Int64} {v3 : Int32} {res : Int32 × Int32 × (Nat → Int32)} (C : CX p s m args meth c cX11_type wsX11_type RX11 5 D k A (some .int)) (hA : A = va_A w0 sz) {kx : Int32 → Option (Int32 × Int32 × (Nat → Int32))} (hx : ∀ t : Int32, kx t = some res → GG p l e rm_X11_type s m args below meth c (MQ below (cQi D w0 sz res.1 (W_X11_type k h_t h_t_tape h_t_w h_t_firsts h_t_sizes h_t_worths h_t_readWorths h_t_dues h_t_sums h_t_worthOf h_t_lies h_t_pairs h_t_row h_t_hands h_t_paidOn h_t_lates h_t_fixed h_t_lanes h_t_longs h_t_items h_t_hand h_t_used s_isKept res.2.1 s_pieces s_at s_readMany s_readKind s_readCut s_rowSet s_bestSet res.2.2)) args s 0 0 A) D A 5 0 0 54 [(0, .ref h_t), (1, .long v1), (3, .int v3)] [] (W_X11_type k h_t h_t_tape h_t_w h_t_firsts h_t_sizes h_t_worths h_t_readWorths h_t_dues h_t_sums h_t_worthOf h_t_lies h_t_pairs h_t_row h_t_hands h_t_paidOn h_t_lates h_t_fixed h_t_lanes h_t_longs h_t_items h_t_hand h_t_used s_isKept s_taped s_pieces s_at s_readMany s_readKind s_readCut s_rowSet s_bestSet s_tape)) : ∀ (n : Nat) (t : Int32), L_X11_type_17 s_taped s_tape v1 v3 kx n t = some res → GG p l e rm_X11_type s m args below meth c (MQ below (cQi D w0 sz res.1 (W_X11_type k h_t h_t_tape h_t_w h_t_firsts h_t_sizes h_t_worths h_t_readWorths h_t_dues h_t_sums h_t_worthOf h_t_lies h_t_pairs h_t_row h_t_hands h_t_paidOn h_t_lates h_t_fixed h_t_lanes h_t_longs h_t_items h_t_hand h_t_used s_isKept res.2.1 s_pieces s_at s_readMany s_readKind s_readCut s_rowSet s_bestSet res.2.2)) args s 0 0 A) D A 5 0 0 17 [(0, .ref h_t), (1, .long v1), (3, .int v3), (4, .int t)] [] (W_X11_type k h_t h_t_tape h_t_w h_t_firsts h_t_sizes h_t_worths h_t_readWorths h_t_dues h_t_sums h_t_worthOf h_t_lies h_t_pairs h_t_row h_t_hands h_t_paidOn h_t_lates h_t_fixed h_t_lanes h_t_longs h_t_items h_t_hand h_t_used s_isKept s_taped s_pieces s_at s_readMany s_readKind s_readCut s_rowSet s_bestSet s_tape) := by
  intro n
  induction n with
  | zero => intro t h; cases h
  | succ n ih =>
    intro t h
    obtain ⟨v4, rfl⟩ : ∃ z, z = t := ⟨_, rfl⟩
    replace h : LB_X11_type_17 s_taped s_tape v1 v3 kx (L_X11_type_17 s_taped s_tape v1 v3 kx n) v4 = some res := h
    have hr := ih
    unfold LB_X11_type_17 at h
    refine g_iload 17 C 3 dX11_type_17 rfl ?_
    refine g_iload_n 19 C 2 dX11_type_19 rfl rfl ?_
    refine g_icmp_ge 20 54 C dX11_type_20 (by decide) (fun c => ?_) (fun c => ?_)
    · replace h := it_e c h
      refine GG.sub (lv' := [(0, .ref h_t), (1, .long v1), (3, .int v3)]) [0, 1, 2] rfl ?_
      exact hx v4 h
    · replace h := if_e c h
      refine g_lload_n 23 C 1 dX11_type_23 rfl rfl ?_
      refine g_bipush 24 C (8 : Int32) dX11_type_24 (by decide) ?_
      refine g_iload 26 C 3 dX11_type_26 rfl ?_
      refine g_imul 28 C dX11_type_28 ?_
      refine g_lshr 29 C dX11_type_29 ?_
      refine g_ldc2 30 C (255 : Int64) dX11_type_30 ct_X11_type_114 ?_
      refine g_land 33 C dX11_type_33 ?_
      refine g_ldc2 34 C (32 : Int64) dX11_type_34 ct_X11_type_116 ?_
      refine g_ldc2 37 C (126 : Int64) dX11_type_37 ct_X11_type_118 ?_
      obtain ⟨q3, e4, h⟩ := bi_e h
      refine g_callSi 40 C (As := [.long ((v1 >>> (((8 : Int32) * v4).toInt64 &&& 63)) &&& (255 : Int64)), .long (32 : Int64), .long (126 : Int64)]) [] [0, 1] [0, 1] (W_X11_type k h_t h_t_tape h_t_w h_t_firsts h_t_sizes h_t_worths h_t_readWorths h_t_dues h_t_sums h_t_worthOf h_t_lies h_t_pairs h_t_row h_t_hands h_t_paidOn h_t_lates h_t_fixed h_t_lanes h_t_longs h_t_items h_t_hand h_t_used s_isKept s_taped s_pieces s_at s_readMany s_readKind s_readCut s_rowSet s_bestSet s_tape) (fun sz => k_X11_in ((v1 >>> (((8 : Int32) * v4).toInt64 &&& 63)) &&& (255 : Int64)) (32 : Int64) (126 : Int64) q3 e4 sz) gX11_type_X11_in rfl pd_X11_in rfl ⟨rfl, rfl, Nat.le_of_ble_eq_true rfl, Nat.le_of_ble_eq_true rfl⟩ (Nat.le_of_ble_eq_true rfl) ⟨Nat.zero_le _, Nat.zero_le _⟩ ⟨rfl, rfl, rfl, rfl, rfl, by decide, rfl⟩ rfl dX11_type_40 ?_
      refine g_if_ne 43 48 C dX11_type_43 (by decide) (fun c => ?_) (fun c => ?_)
      · replace h := if_e c h
        refine g_iinc 48 C 3 (1 : Int32) [(4, .int (v4 + (1 : Int32))), (0, .ref h_t), (1, .long v1), (3, .int v3)] dX11_type_48 rfl (by decide) (by decide) rfl ?_
        refine g_goto 51 17 C dX11_type_51 (by decide) ?_
        refine GG.sub (lv' := [(0, .ref h_t), (1, .long v1), (3, .int v3), (4, .int (v4 + (1 : Int32)))]) [1, 2, 3, 0] rfl ?_
        exact hr (v4 + (1 : Int32)) h
      · replace h := it_e c h
        refine g_iconst 46 C (-1 : Int32) dX11_type_46 (by decide) ?_
        obtain rfl := Option.some.inj h
        exact g_iret 47 C hA rfl dX11_type_47 rfl
set_option maxHeartbeats 4000000 in
set_option maxRecDepth 100000 in
theorem ok_L_X11_type_73 {h_t : Nat} {h_t_tape : Nat} {h_t_w : Nat} {h_t_firsts : Nat} {h_t_sizes : Nat} {h_t_worths : Nat} {h_t_readWorths : Nat} {h_t_dues : Nat} {h_t_sums : Nat} {h_t_worthOf : Nat} {h_t_lies : Nat} {h_t_pairs : Nat} {h_t_row : Nat} {h_t_hands : Nat} {h_t_paidOn : Nat} {h_t_lates : Nat} {h_t_fixed : Nat} {h_t_lanes : Nat} {h_t_longs : Nat} {h_t_items : Nat} {h_t_hand : Nat} {h_t_used : Nat} {s_isKept : Int32} {s_pieces : Int32} {s_at : Int32} {s_readMany : Int32} {s_readKind : Int32} {s_readCut : Int32} {s_rowSet : Int32} {s_bestSet : Int32} {v1 : Int64} {res : Int32 × Int32 × (Nat → Int32)} (C : CX p s m args meth c cX11_type wsX11_type RX11 5 D k A (some .int)) (hA : A = va_A w0 sz) {kx : Int32 × Int32 × (Nat → Int32) → Option (Int32 × Int32 × (Nat → Int32))} (hx : ∀ t : Int32 × Int32 × (Nat → Int32), kx t = some res → GG p l e rm_X11_type s m args below meth c (MQ below (cQi D w0 sz res.1 (W_X11_type k h_t h_t_tape h_t_w h_t_firsts h_t_sizes h_t_worths h_t_readWorths h_t_dues h_t_sums h_t_worthOf h_t_lies h_t_pairs h_t_row h_t_hands h_t_paidOn h_t_lates h_t_fixed h_t_lanes h_t_longs h_t_items h_t_hand h_t_used s_isKept res.2.1 s_pieces s_at s_readMany s_readKind s_readCut s_rowSet s_bestSet res.2.2)) args s 0 0 A) D A 5 0 0 115 [(0, .ref h_t)] [] (W_X11_type k h_t h_t_tape h_t_w h_t_firsts h_t_sizes h_t_worths h_t_readWorths h_t_dues h_t_sums h_t_worthOf h_t_lies h_t_pairs h_t_row h_t_hands h_t_paidOn h_t_lates h_t_fixed h_t_lanes h_t_longs h_t_items h_t_hand h_t_used s_isKept t.2.1 s_pieces s_at s_readMany s_readKind s_readCut s_rowSet s_bestSet t.2.2)) : ∀ (n : Nat) (t : Int32 × Int32 × (Nat → Int32)), L_X11_type_73 v1 kx n t = some res → GG p l e rm_X11_type s m args below meth c (MQ below (cQi D w0 sz res.1 (W_X11_type k h_t h_t_tape h_t_w h_t_firsts h_t_sizes h_t_worths h_t_readWorths h_t_dues h_t_sums h_t_worthOf h_t_lies h_t_pairs h_t_row h_t_hands h_t_paidOn h_t_lates h_t_fixed h_t_lanes h_t_longs h_t_items h_t_hand h_t_used s_isKept res.2.1 s_pieces s_at s_readMany s_readKind s_readCut s_rowSet s_bestSet res.2.2)) args s 0 0 A) D A 5 0 0 73 [(0, .ref h_t), (1, .long v1), (4, .int t.1)] [] (W_X11_type k h_t h_t_tape h_t_w h_t_firsts h_t_sizes h_t_worths h_t_readWorths h_t_dues h_t_sums h_t_worthOf h_t_lies h_t_pairs h_t_row h_t_hands h_t_paidOn h_t_lates h_t_fixed h_t_lanes h_t_longs h_t_items h_t_hand h_t_used s_isKept t.2.1 s_pieces s_at s_readMany s_readKind s_readCut s_rowSet s_bestSet t.2.2) := by
  intro n
  induction n with
  | zero => intro t h; cases h
  | succ n ih =>
    intro t h
    obtain ⟨v4, s_taped, s_tape⟩ := t
    replace h : LB_X11_type_73 v1 kx (L_X11_type_73 v1 kx n) v4 s_taped s_tape = some res := h
    have hr := ih
    unfold LB_X11_type_73 at h
    refine g_iload 73 C 2 dX11_type_73 rfl ?_
    refine g_if_lt 75 115 C dX11_type_75 (by decide) (fun c => ?_) (fun c => ?_)
    · replace h := it_e c h
      refine GG.sub (lv' := [(0, .ref h_t)]) [0] rfl ?_
      exact hx (v4, s_taped, s_tape) h
    · replace h := if_e c h
      refine g_aload_n 78 C 0 dX11_type_78 rfl rfl ?_
      refine g_get 79 C in_X11_type_X11 0 2 rfl rfl (by decide) fl_X11_type_13 rfl rfl dX11_type_79 ?_
      refine g_aload_n 82 C 0 dX11_type_82 rfl rfl ?_
      refine g_get 83 C in_X11_type_X11 0 3 rfl rfl (by decide) fl_X11_type_120 rfl rfl dX11_type_83 ?_
      refine g_lload_n 86 C 1 dX11_type_86 rfl rfl ?_
      refine g_bipush 87 C (8 : Int32) dX11_type_87 (by decide) ?_
      refine g_iload 89 C 2 dX11_type_89 rfl ?_
      refine g_imul 91 C dX11_type_91 ?_
      refine g_lshr 92 C dX11_type_92 ?_
      refine g_ldc2 93 C (255 : Int64) dX11_type_93 ct_X11_type_114 ?_
      refine g_land 96 C dX11_type_96 ?_
      refine g_l2i 97 C dX11_type_97 ?_
      obtain ⟨o5, h⟩ := ob_e h
      refine g_iast 98 C (W_X11_type k h_t h_t_tape h_t_w h_t_firsts h_t_sizes h_t_worths h_t_readWorths h_t_dues h_t_sums h_t_worthOf h_t_lies h_t_pairs h_t_row h_t_hands h_t_paidOn h_t_lates h_t_fixed h_t_lanes h_t_longs h_t_items h_t_hand h_t_used s_isKept s_taped s_pieces s_at s_readMany s_readKind s_readCut s_rowSet s_bestSet (upd s_tape s_taped.toNatClampNeg (((v1 >>> (((8 : Int32) * v4).toInt64 &&& 63)) &&& (255 : Int64)).toInt32))) 1 rfl o5 rfl dX11_type_98 ?_
      refine g_aload_n 99 C 0 dX11_type_99 rfl rfl ?_
      refine g_dup 100 C dX11_type_100 rfl ?_
      refine g_get 101 C in_X11_type_X11 0 3 rfl rfl (by decide) fl_X11_type_120 rfl rfl dX11_type_101 ?_
      refine g_iconst 104 C (1 : Int32) dX11_type_104 (by decide) ?_
      refine g_iadd 105 C dX11_type_105 ?_
      refine g_put 106 C (W_X11_type k h_t h_t_tape h_t_w h_t_firsts h_t_sizes h_t_worths h_t_readWorths h_t_dues h_t_sums h_t_worthOf h_t_lies h_t_pairs h_t_row h_t_hands h_t_paidOn h_t_lates h_t_fixed h_t_lanes h_t_longs h_t_items h_t_hand h_t_used s_isKept (s_taped + (1 : Int32)) s_pieces s_at s_readMany s_readKind s_readCut s_rowSet s_bestSet (upd s_tape s_taped.toNatClampNeg (((v1 >>> (((8 : Int32) * v4).toInt64 &&& 63)) &&& (255 : Int64)).toInt32))) in_X11_type_X11 tyX11 tyX11_ok nmX11 0 3 rfl rfl (by decide) fl_X11_type_120 rfl rfl (tyX11_ok 3 (by decide)) rfl rfl (Nat.le_of_ble_eq_true rfl) rfl dX11_type_106 ?_
      refine g_iinc 109 C 2 (-1 : Int32) [(4, .int (v4 + (-1 : Int32))), (0, .ref h_t), (1, .long v1)] dX11_type_109 rfl (by decide) (by decide) rfl ?_
      refine g_goto 112 73 C dX11_type_112 (by decide) ?_
      refine GG.sub (lv' := [(0, .ref h_t), (1, .long v1), (4, .int (v4 + (-1 : Int32)))]) [1, 2, 0] rfl ?_
      exact hr ((v4 + (-1 : Int32)), (s_taped + (1 : Int32)), (upd s_tape s_taped.toNatClampNeg (((v1 >>> (((8 : Int32) * v4).toInt64 &&& 63)) &&& (255 : Int64)).toInt32))) h
set_option maxHeartbeats 4000000 in
set_option maxRecDepth 100000 in
theorem ok_B_X11_type_115 {h_t : Nat} {h_t_tape : Nat} {h_t_w : Nat} {h_t_firsts : Nat} {h_t_sizes : Nat} {h_t_worths : Nat} {h_t_readWorths : Nat} {h_t_dues : Nat} {h_t_sums : Nat} {h_t_worthOf : Nat} {h_t_lies : Nat} {h_t_pairs : Nat} {h_t_row : Nat} {h_t_hands : Nat} {h_t_paidOn : Nat} {h_t_lates : Nat} {h_t_fixed : Nat} {h_t_lanes : Nat} {h_t_longs : Nat} {h_t_items : Nat} {h_t_hand : Nat} {h_t_used : Nat} {s_isKept : Int32} {s_taped : Int32} {s_pieces : Int32} {s_at : Int32} {s_readMany : Int32} {s_readKind : Int32} {s_readCut : Int32} {s_rowSet : Int32} {s_bestSet : Int32} {s_tape : Nat → Int32} {res : Int32 × Int32 × (Nat → Int32)} (C : CX p s m args meth c cX11_type wsX11_type RX11 5 D k A (some .int)) (hA : A = va_A w0 sz)  (h : B_X11_type_115 s_taped s_tape = some res) : GG p l e rm_X11_type s m args below meth c (MQ below (cQi D w0 sz res.1 (W_X11_type k h_t h_t_tape h_t_w h_t_firsts h_t_sizes h_t_worths h_t_readWorths h_t_dues h_t_sums h_t_worthOf h_t_lies h_t_pairs h_t_row h_t_hands h_t_paidOn h_t_lates h_t_fixed h_t_lanes h_t_longs h_t_items h_t_hand h_t_used s_isKept res.2.1 s_pieces s_at s_readMany s_readKind s_readCut s_rowSet s_bestSet res.2.2)) args s 0 0 A) D A 5 0 0 115 [(0, .ref h_t)] [] (W_X11_type k h_t h_t_tape h_t_w h_t_firsts h_t_sizes h_t_worths h_t_readWorths h_t_dues h_t_sums h_t_worthOf h_t_lies h_t_pairs h_t_row h_t_hands h_t_paidOn h_t_lates h_t_fixed h_t_lanes h_t_longs h_t_items h_t_hand h_t_used s_isKept s_taped s_pieces s_at s_readMany s_readKind s_readCut s_rowSet s_bestSet s_tape) := by
  unfold B_X11_type_115 at h
  refine g_aload_n 115 C 0 dX11_type_115 rfl rfl ?_
  refine g_get 116 C in_X11_type_X11 0 3 rfl rfl (by decide) fl_X11_type_120 rfl rfl dX11_type_116 ?_
  obtain rfl := Option.some.inj h
  exact g_iret 119 C hA rfl dX11_type_119 rfl
set_option maxHeartbeats 4000000 in
set_option maxRecDepth 100000 in
theorem ok_B_X11_type_54 {h_t : Nat} {h_t_tape : Nat} {h_t_w : Nat} {h_t_firsts : Nat} {h_t_sizes : Nat} {h_t_worths : Nat} {h_t_readWorths : Nat} {h_t_dues : Nat} {h_t_sums : Nat} {h_t_worthOf : Nat} {h_t_lies : Nat} {h_t_pairs : Nat} {h_t_row : Nat} {h_t_hands : Nat} {h_t_paidOn : Nat} {h_t_lates : Nat} {h_t_fixed : Nat} {h_t_lanes : Nat} {h_t_longs : Nat} {h_t_items : Nat} {h_t_hand : Nat} {h_t_used : Nat} {s_isKept : Int32} {s_taped : Int32} {s_pieces : Int32} {s_at : Int32} {s_readMany : Int32} {s_readKind : Int32} {s_readCut : Int32} {s_rowSet : Int32} {s_bestSet : Int32} {s_tape : Nat → Int32} {v1 : Int64} {v3 : Int32} {res : Int32 × Int32 × (Nat → Int32)} (C : CX p s m args meth c cX11_type wsX11_type RX11 5 D k A (some .int)) (hA : A = va_A w0 sz)  (h : B_X11_type_54 s_taped s_tape v1 v3 = some res) : GG p l e rm_X11_type s m args below meth c (MQ below (cQi D w0 sz res.1 (W_X11_type k h_t h_t_tape h_t_w h_t_firsts h_t_sizes h_t_worths h_t_readWorths h_t_dues h_t_sums h_t_worthOf h_t_lies h_t_pairs h_t_row h_t_hands h_t_paidOn h_t_lates h_t_fixed h_t_lanes h_t_longs h_t_items h_t_hand h_t_used s_isKept res.2.1 s_pieces s_at s_readMany s_readKind s_readCut s_rowSet s_bestSet res.2.2)) args s 0 0 A) D A 5 0 0 54 [(0, .ref h_t), (1, .long v1), (3, .int v3)] [] (W_X11_type k h_t h_t_tape h_t_w h_t_firsts h_t_sizes h_t_worths h_t_readWorths h_t_dues h_t_sums h_t_worthOf h_t_lies h_t_pairs h_t_row h_t_hands h_t_paidOn h_t_lates h_t_fixed h_t_lanes h_t_longs h_t_items h_t_hand h_t_used s_isKept s_taped s_pieces s_at s_readMany s_readKind s_readCut s_rowSet s_bestSet s_tape) := by
  unfold B_X11_type_54 at h
  refine g_aload_n 54 C 0 dX11_type_54 rfl rfl ?_
  refine g_get 55 C in_X11_type_X11 0 3 rfl rfl (by decide) fl_X11_type_120 rfl rfl dX11_type_55 ?_
  refine g_iload_n 58 C 2 dX11_type_58 rfl rfl ?_
  refine g_iadd 59 C dX11_type_59 ?_
  refine g_bipush 60 C (60 : Int32) dX11_type_60 (by decide) ?_
  refine g_icmp_le 62 68 C dX11_type_62 (by decide) (fun c => ?_) (fun c => ?_)
  · replace h := it_e c h
    refine g_iload_n 68 C 2 dX11_type_68 rfl rfl ?_
    refine g_iconst 69 C (1 : Int32) dX11_type_69 (by decide) ?_
    refine g_isub 70 C dX11_type_70 ?_
    refine g_istore 71 C [(4, .int (v3 - (1 : Int32))), (0, .ref h_t), (1, .long v1), (3, .int v3)] dX11_type_71 (by decide) rfl ?_
    refine GG.sub (lv' := [(0, .ref h_t), (1, .long v1), (4, .int (v3 - (1 : Int32)))]) [1, 2, 0] rfl ?_
    exact ok_L_X11_type_73 C hA (fun t h => by
      refine GG.sub (lv' := [(0, .ref h_t)]) [0] rfl ?_
      exact ok_B_X11_type_115 C hA h) FUEL ((v3 - (1 : Int32)), s_taped, s_tape) h
  · replace h := if_e c h
    refine g_bipush 65 C (-3 : Int32) dX11_type_65 (by decide) ?_
    obtain rfl := Option.some.inj h
    exact g_iret 67 C hA rfl dX11_type_67 rfl
set_option maxHeartbeats 4000000 in
set_option maxRecDepth 100000 in
theorem k_X11_type {l : Launch} {D : va_G} {k : Nat → ClassId} (h_t : Nat) (h_t_tape : Nat) (h_t_w : Nat) (h_t_firsts : Nat) (h_t_sizes : Nat) (h_t_worths : Nat) (h_t_readWorths : Nat) (h_t_dues : Nat) (h_t_sums : Nat) (h_t_worthOf : Nat) (h_t_lies : Nat) (h_t_pairs : Nat) (h_t_row : Nat) (h_t_hands : Nat) (h_t_paidOn : Nat) (h_t_lates : Nat) (h_t_fixed : Nat) (h_t_lanes : Nat) (h_t_longs : Nat) (h_t_items : Nat) (h_t_hand : Nat) (h_t_used : Nat) (s_isKept : Int32) (s_taped : Int32) (s_pieces : Int32) (s_at : Int32) (s_readMany : Int32) (s_readKind : Int32) (s_readCut : Int32) (s_rowSet : Int32) (s_bestSet : Int32) (s_tape : Nat → Int32) (v1 : Int64) (v3 : Int32) (res : Int32 × Int32 × (Nat → Int32)) (h : f_X11_type s_taped s_tape v1 v3 = some res) (sz : Nat) : Met l yX11_type wsX11_type rm_X11_type (cPre D k [.ref h_t, .long v1, .int v3] (W_X11_type k h_t h_t_tape h_t_w h_t_firsts h_t_sizes h_t_worths h_t_readWorths h_t_dues h_t_sums h_t_worthOf h_t_lies h_t_pairs h_t_row h_t_hands h_t_paidOn h_t_lates h_t_fixed h_t_lanes h_t_longs h_t_items h_t_hand h_t_used s_isKept s_taped s_pieces s_at s_readMany s_readKind s_readCut s_rowSet s_bestSet s_tape) sz) (cQi D (W_X11_type k h_t h_t_tape h_t_w h_t_firsts h_t_sizes h_t_worths h_t_readWorths h_t_dues h_t_sums h_t_worthOf h_t_lies h_t_pairs h_t_row h_t_hands h_t_paidOn h_t_lates h_t_fixed h_t_lanes h_t_longs h_t_items h_t_hand h_t_used s_isKept s_taped s_pieces s_at s_readMany s_readKind s_readCut s_rowSet s_bestSet s_tape) sz res.1 (W_X11_type k h_t h_t_tape h_t_w h_t_firsts h_t_sizes h_t_worths h_t_readWorths h_t_dues h_t_sums h_t_worthOf h_t_lies h_t_pairs h_t_row h_t_hands h_t_paidOn h_t_lates h_t_fixed h_t_lanes h_t_longs h_t_items h_t_hand h_t_used s_isKept res.2.1 s_pieces s_at s_readMany s_readKind s_readCut s_rowSet s_bestSet res.2.2)) 0 0 (va_A (W_X11_type k h_t h_t_tape h_t_w h_t_firsts h_t_sizes h_t_worths h_t_readWorths h_t_dues h_t_sums h_t_worthOf h_t_lies h_t_pairs h_t_row h_t_hands h_t_paidOn h_t_lates h_t_fixed h_t_lanes h_t_longs h_t_items h_t_hand h_t_used s_isKept s_taped s_pieces s_at s_readMany s_readKind s_readCut s_rowSet s_bestSet s_tape) sz) := by
  refine met_of [(0, .ref h_t), (1, .long v1), (3, .int v3)] (by decide) rfl rfl (Nat.le_of_ble_eq_true rfl) rfl ?_
  intro p e s m args below meth c A hA hsz C
  unfold f_X11_type at h
  refine g_iload_n 0 C 2 dX11_type_0 rfl rfl ?_
  refine g_i2l 1 C dX11_type_1 ?_
  refine g_lconst 2 C (1 : Int64) dX11_type_2 (by decide) ?_
  refine g_ldc2 3 C (8 : Int64) dX11_type_3 ct_X11_type_112 ?_
  obtain ⟨q1, e2, h⟩ := bi_e h
  refine g_callSi 6 C (As := [.long v3.toInt64, .long (1 : Int64), .long (8 : Int64)]) [] [0, 1] [0, 1] (W_X11_type k h_t h_t_tape h_t_w h_t_firsts h_t_sizes h_t_worths h_t_readWorths h_t_dues h_t_sums h_t_worthOf h_t_lies h_t_pairs h_t_row h_t_hands h_t_paidOn h_t_lates h_t_fixed h_t_lanes h_t_longs h_t_items h_t_hand h_t_used s_isKept s_taped s_pieces s_at s_readMany s_readKind s_readCut s_rowSet s_bestSet s_tape) (fun sz => k_X11_in v3.toInt64 (1 : Int64) (8 : Int64) q1 e2 sz) gX11_type_X11_in rfl pd_X11_in rfl ⟨rfl, rfl, Nat.le_of_ble_eq_true rfl, Nat.le_of_ble_eq_true rfl⟩ (Nat.le_of_ble_eq_true rfl) ⟨Nat.zero_le _, Nat.zero_le _⟩ ⟨rfl, rfl, rfl, rfl, rfl, by decide, rfl⟩ rfl dX11_type_6 ?_
  refine g_if_ne 9 14 C dX11_type_9 (by decide) (fun c => ?_) (fun c => ?_)
  · replace h := if_e c h
    refine g_iconst 14 C (0 : Int32) dX11_type_14 (by decide) ?_
    refine g_istore 15 C [(4, .int (0 : Int32)), (0, .ref h_t), (1, .long v1), (3, .int v3)] dX11_type_15 (by decide) rfl ?_
    refine GG.sub (lv' := [(0, .ref h_t), (1, .long v1), (3, .int v3), (4, .int (0 : Int32))]) [1, 2, 3, 0] rfl ?_
    exact ok_L_X11_type_17 C hA (fun t h => by
      refine GG.sub (lv' := [(0, .ref h_t), (1, .long v1), (3, .int v3)]) [0, 1, 2] rfl ?_
      exact ok_B_X11_type_54 C hA h) FUEL (0 : Int32) h
  · replace h := it_e c h
    refine g_iconst 12 C (-1 : Int32) dX11_type_12 (by decide) ?_
    obtain rfl := Option.some.inj h
    exact g_iret 13 C hA rfl dX11_type_13 rfl
end

/-! X11_ahead -/
abbrev W_X11_ahead (k : Nat → ClassId) (h_t : Nat) (h_t_tape : Nat) (h_t_w : Nat) (h_t_firsts : Nat) (h_t_sizes : Nat) (h_t_worths : Nat) (h_t_readWorths : Nat) (h_t_dues : Nat) (h_t_sums : Nat) (h_t_worthOf : Nat) (h_t_lies : Nat) (h_t_pairs : Nat) (h_t_row : Nat) (h_t_hands : Nat) (h_t_paidOn : Nat) (h_t_lates : Nat) (h_t_fixed : Nat) (h_t_lanes : Nat) (h_t_longs : Nat) (h_t_items : Nat) (h_t_hand : Nat) (h_t_used : Nat) (s_isKept : Int32) (s_taped : Int32) (s_pieces : Int32) (s_at : Int32) (s_readMany : Int32) (s_readKind : Int32) (s_readCut : Int32) (s_rowSet : Int32) (s_bestSet : Int32) (s_tape : Nat → Int32) : va_W := [(h_t, .inr (11, [.ref h_t_w, .int s_isKept, .ref h_t_tape, .int s_taped, .ref h_t_firsts, .ref h_t_sizes, .ref h_t_worths, .int s_pieces, .int s_at, .ref h_t_readWorths, .int s_readMany, .int s_readKind, .int s_readCut, .ref h_t_dues, .ref h_t_sums, .ref h_t_worthOf, .ref h_t_lies, .ref h_t_pairs, .ref h_t_row, .int s_rowSet, .int s_bestSet, .ref h_t_hands, .ref h_t_paidOn, .ref h_t_lates, .ref h_t_fixed, .ref h_t_lanes, .ref h_t_longs, .ref h_t_items, .ref h_t_hand, .ref h_t_used])), (h_t_tape, .inl (k 0, 60, .inl s_tape))]
def rm_X11_ahead : Room := { frames := 0, cells := 0, slots := 0, locals := 0 }
theorem in_X11_ahead_X11 : ∀ w ∈ u_ws RX11 TX11 30, w ∈ wsX11_ahead := by decide +kernel
theorem fl_X11_ahead_120 : Cond.fieldLink RX11 120 "LinkDaysModel" "taped" "I" ∈ wsX11_ahead := by decide +kernel
theorem fl_X11_ahead_123 : Cond.fieldLink RX11 123 "LinkDaysModel" "at" "I" ∈ wsX11_ahead := by decide +kernel
theorem fl_X11_ahead_13 : Cond.fieldLink RX11 13 "LinkDaysModel" "tape" "[I" ∈ wsX11_ahead := by decide +kernel
theorem pd_X11_ahead : yX11_ahead.cls = RX11 ∧ yX11_ahead.cls ≠ "java/lang/invoke/MethodHandle" ∧ yX11_ahead.cls ≠ "java/lang/invoke/VarHandle" ∧ (parseMethodDescriptor yX11_ahead.desc).map (fun d => d.parameters.length) = some 0 := by decide +kernel
section
variable {p : Program} {l : Launch} {e : Env} {s : State} {m : MethodId} {args : Array Value} {below : List Frame} {meth : Method} {c : Code} {D : va_G} {k : Nat → ClassId} {A : Nat → Prop} {w0 : va_W} {sz : Nat}
set_option maxHeartbeats 4000000 in
set_option maxRecDepth 100000 in
theorem ok_L_X11_ahead_0 {h_t : Nat} {h_t_tape : Nat} {h_t_w : Nat} {h_t_firsts : Nat} {h_t_sizes : Nat} {h_t_worths : Nat} {h_t_readWorths : Nat} {h_t_dues : Nat} {h_t_sums : Nat} {h_t_worthOf : Nat} {h_t_lies : Nat} {h_t_pairs : Nat} {h_t_row : Nat} {h_t_hands : Nat} {h_t_paidOn : Nat} {h_t_lates : Nat} {h_t_fixed : Nat} {h_t_lanes : Nat} {h_t_longs : Nat} {h_t_items : Nat} {h_t_hand : Nat} {h_t_used : Nat} {s_isKept : Int32} {s_taped : Int32} {s_pieces : Int32} {s_readMany : Int32} {s_readKind : Int32} {s_readCut : Int32} {s_rowSet : Int32} {s_bestSet : Int32} {s_tape : Nat → Int32} {res : Int32 × Int32} (C : CX p s m args meth c cX11_ahead wsX11_ahead RX11 1 D k A (some .int)) (hA : A = va_A w0 sz) {kx : Int32 → Option (Int32 × Int32)} (hx : ∀ t : Int32, kx t = some res → GG p l e rm_X11_ahead s m args below meth c (MQ below (cQi D w0 sz res.1 (W_X11_ahead k h_t h_t_tape h_t_w h_t_firsts h_t_sizes h_t_worths h_t_readWorths h_t_dues h_t_sums h_t_worthOf h_t_lies h_t_pairs h_t_row h_t_hands h_t_paidOn h_t_lates h_t_fixed h_t_lanes h_t_longs h_t_items h_t_hand h_t_used s_isKept s_taped s_pieces res.2 s_readMany s_readKind s_readCut s_rowSet s_bestSet s_tape)) args s 0 0 A) D A 1 0 0 38 [(0, .ref h_t)] [] (W_X11_ahead k h_t h_t_tape h_t_w h_t_firsts h_t_sizes h_t_worths h_t_readWorths h_t_dues h_t_sums h_t_worthOf h_t_lies h_t_pairs h_t_row h_t_hands h_t_paidOn h_t_lates h_t_fixed h_t_lanes h_t_longs h_t_items h_t_hand h_t_used s_isKept s_taped s_pieces t s_readMany s_readKind s_readCut s_rowSet s_bestSet s_tape)) : ∀ (n : Nat) (t : Int32), L_X11_ahead_0 s_taped s_tape kx n t = some res → GG p l e rm_X11_ahead s m args below meth c (MQ below (cQi D w0 sz res.1 (W_X11_ahead k h_t h_t_tape h_t_w h_t_firsts h_t_sizes h_t_worths h_t_readWorths h_t_dues h_t_sums h_t_worthOf h_t_lies h_t_pairs h_t_row h_t_hands h_t_paidOn h_t_lates h_t_fixed h_t_lanes h_t_longs h_t_items h_t_hand h_t_used s_isKept s_taped s_pieces res.2 s_readMany s_readKind s_readCut s_rowSet s_bestSet s_tape)) args s 0 0 A) D A 1 0 0 0 [(0, .ref h_t)] [] (W_X11_ahead k h_t h_t_tape h_t_w h_t_firsts h_t_sizes h_t_worths h_t_readWorths h_t_dues h_t_sums h_t_worthOf h_t_lies h_t_pairs h_t_row h_t_hands h_t_paidOn h_t_lates h_t_fixed h_t_lanes h_t_longs h_t_items h_t_hand h_t_used s_isKept s_taped s_pieces t s_readMany s_readKind s_readCut s_rowSet s_bestSet s_tape) := by
  intro n
  induction n with
  | zero => intro t h; cases h
  | succ n ih =>
    intro t h
    obtain ⟨s_at, rfl⟩ : ∃ z, z = t := ⟨_, rfl⟩
    replace h : LB_X11_ahead_0 s_taped s_tape kx (L_X11_ahead_0 s_taped s_tape kx n) s_at = some res := h
    have hr := ih
    unfold LB_X11_ahead_0 at h
    refine g_aload_n 0 C 0 dX11_ahead_0 rfl rfl ?_
    refine g_get 1 C in_X11_ahead_X11 0 8 rfl rfl (by decide) fl_X11_ahead_123 rfl rfl dX11_ahead_1 ?_
    refine g_aload_n 4 C 0 dX11_ahead_4 rfl rfl ?_
    refine g_get 5 C in_X11_ahead_X11 0 3 rfl rfl (by decide) fl_X11_ahead_120 rfl rfl dX11_ahead_5 ?_
    refine g_icmp_ge 8 38 C dX11_ahead_8 (by decide) (fun c => ?_) (fun c => ?_)
    · replace h := it_e c h
      refine GG.sub (lv' := [(0, .ref h_t)]) [0] rfl ?_
      exact hx s_at h
    · replace h := if_e c h
      refine g_aload_n 11 C 0 dX11_ahead_11 rfl rfl ?_
      refine g_get 12 C in_X11_ahead_X11 0 2 rfl rfl (by decide) fl_X11_ahead_13 rfl rfl dX11_ahead_12 ?_
      refine g_aload_n 15 C 0 dX11_ahead_15 rfl rfl ?_
      refine g_get 16 C in_X11_ahead_X11 0 8 rfl rfl (by decide) fl_X11_ahead_123 rfl rfl dX11_ahead_16 ?_
      obtain ⟨o1, h⟩ := ob_e h
      refine g_iald 19 C 1 rfl o1 dX11_ahead_19 ?_
      refine g_bipush 20 C (32 : Int32) dX11_ahead_20 (by decide) ?_
      refine g_icmp_ne 22 38 C dX11_ahead_22 (by decide) (fun c => ?_) (fun c => ?_)
      · replace h := if_e c h
        refine GG.sub (lv' := [(0, .ref h_t)]) [0] rfl ?_
        exact hx s_at h
      · replace h := it_e c h
        refine g_aload_n 25 C 0 dX11_ahead_25 rfl rfl ?_
        refine g_dup 26 C dX11_ahead_26 rfl ?_
        refine g_get 27 C in_X11_ahead_X11 0 8 rfl rfl (by decide) fl_X11_ahead_123 rfl rfl dX11_ahead_27 ?_
        refine g_iconst 30 C (1 : Int32) dX11_ahead_30 (by decide) ?_
        refine g_iadd 31 C dX11_ahead_31 ?_
        refine g_put 32 C (W_X11_ahead k h_t h_t_tape h_t_w h_t_firsts h_t_sizes h_t_worths h_t_readWorths h_t_dues h_t_sums h_t_worthOf h_t_lies h_t_pairs h_t_row h_t_hands h_t_paidOn h_t_lates h_t_fixed h_t_lanes h_t_longs h_t_items h_t_hand h_t_used s_isKept s_taped s_pieces (s_at + (1 : Int32)) s_readMany s_readKind s_readCut s_rowSet s_bestSet s_tape) in_X11_ahead_X11 tyX11 tyX11_ok nmX11 0 8 rfl rfl (by decide) fl_X11_ahead_123 rfl rfl (tyX11_ok 8 (by decide)) rfl rfl (Nat.le_of_ble_eq_true rfl) rfl dX11_ahead_32 ?_
        refine g_goto 35 0 C dX11_ahead_35 (by decide) ?_
        refine GG.sub (lv' := [(0, .ref h_t)]) [0] rfl ?_
        exact hr (s_at + (1 : Int32)) h
set_option maxHeartbeats 4000000 in
set_option maxRecDepth 100000 in
theorem ok_B_X11_ahead_62 {h_t : Nat} {h_t_tape : Nat} {h_t_w : Nat} {h_t_firsts : Nat} {h_t_sizes : Nat} {h_t_worths : Nat} {h_t_readWorths : Nat} {h_t_dues : Nat} {h_t_sums : Nat} {h_t_worthOf : Nat} {h_t_lies : Nat} {h_t_pairs : Nat} {h_t_row : Nat} {h_t_hands : Nat} {h_t_paidOn : Nat} {h_t_lates : Nat} {h_t_fixed : Nat} {h_t_lanes : Nat} {h_t_longs : Nat} {h_t_items : Nat} {h_t_hand : Nat} {h_t_used : Nat} {s_isKept : Int32} {s_taped : Int32} {s_pieces : Int32} {s_at : Int32} {s_readMany : Int32} {s_readKind : Int32} {s_readCut : Int32} {s_rowSet : Int32} {s_bestSet : Int32} {s_tape : Nat → Int32} {x0 : Int32} {res : Int32 × Int32} (C : CX p s m args meth c cX11_ahead wsX11_ahead RX11 1 D k A (some .int)) (hA : A = va_A w0 sz)  (h : B_X11_ahead_62 s_at x0 = some res) : GG p l e rm_X11_ahead s m args below meth c (MQ below (cQi D w0 sz res.1 (W_X11_ahead k h_t h_t_tape h_t_w h_t_firsts h_t_sizes h_t_worths h_t_readWorths h_t_dues h_t_sums h_t_worthOf h_t_lies h_t_pairs h_t_row h_t_hands h_t_paidOn h_t_lates h_t_fixed h_t_lanes h_t_longs h_t_items h_t_hand h_t_used s_isKept s_taped s_pieces res.2 s_readMany s_readKind s_readCut s_rowSet s_bestSet s_tape)) args s 0 0 A) D A 1 0 0 62 [] [.int x0] (W_X11_ahead k h_t h_t_tape h_t_w h_t_firsts h_t_sizes h_t_worths h_t_readWorths h_t_dues h_t_sums h_t_worthOf h_t_lies h_t_pairs h_t_row h_t_hands h_t_paidOn h_t_lates h_t_fixed h_t_lanes h_t_longs h_t_items h_t_hand h_t_used s_isKept s_taped s_pieces s_at s_readMany s_readKind s_readCut s_rowSet s_bestSet s_tape) := by
  unfold B_X11_ahead_62 at h
  obtain rfl := Option.some.inj h
  exact g_iret 62 C hA rfl dX11_ahead_62 rfl
set_option maxHeartbeats 4000000 in
set_option maxRecDepth 100000 in
theorem ok_B_X11_ahead_38 {h_t : Nat} {h_t_tape : Nat} {h_t_w : Nat} {h_t_firsts : Nat} {h_t_sizes : Nat} {h_t_worths : Nat} {h_t_readWorths : Nat} {h_t_dues : Nat} {h_t_sums : Nat} {h_t_worthOf : Nat} {h_t_lies : Nat} {h_t_pairs : Nat} {h_t_row : Nat} {h_t_hands : Nat} {h_t_paidOn : Nat} {h_t_lates : Nat} {h_t_fixed : Nat} {h_t_lanes : Nat} {h_t_longs : Nat} {h_t_items : Nat} {h_t_hand : Nat} {h_t_used : Nat} {s_isKept : Int32} {s_taped : Int32} {s_pieces : Int32} {s_at : Int32} {s_readMany : Int32} {s_readKind : Int32} {s_readCut : Int32} {s_rowSet : Int32} {s_bestSet : Int32} {s_tape : Nat → Int32} {res : Int32 × Int32} (C : CX p s m args meth c cX11_ahead wsX11_ahead RX11 1 D k A (some .int)) (hA : A = va_A w0 sz)  (h : B_X11_ahead_38 s_taped s_at s_tape = some res) : GG p l e rm_X11_ahead s m args below meth c (MQ below (cQi D w0 sz res.1 (W_X11_ahead k h_t h_t_tape h_t_w h_t_firsts h_t_sizes h_t_worths h_t_readWorths h_t_dues h_t_sums h_t_worthOf h_t_lies h_t_pairs h_t_row h_t_hands h_t_paidOn h_t_lates h_t_fixed h_t_lanes h_t_longs h_t_items h_t_hand h_t_used s_isKept s_taped s_pieces res.2 s_readMany s_readKind s_readCut s_rowSet s_bestSet s_tape)) args s 0 0 A) D A 1 0 0 38 [(0, .ref h_t)] [] (W_X11_ahead k h_t h_t_tape h_t_w h_t_firsts h_t_sizes h_t_worths h_t_readWorths h_t_dues h_t_sums h_t_worthOf h_t_lies h_t_pairs h_t_row h_t_hands h_t_paidOn h_t_lates h_t_fixed h_t_lanes h_t_longs h_t_items h_t_hand h_t_used s_isKept s_taped s_pieces s_at s_readMany s_readKind s_readCut s_rowSet s_bestSet s_tape) := by
  unfold B_X11_ahead_38 at h
  refine g_aload_n 38 C 0 dX11_ahead_38 rfl rfl ?_
  refine g_get 39 C in_X11_ahead_X11 0 8 rfl rfl (by decide) fl_X11_ahead_123 rfl rfl dX11_ahead_39 ?_
  refine g_aload_n 42 C 0 dX11_ahead_42 rfl rfl ?_
  refine g_get 43 C in_X11_ahead_X11 0 3 rfl rfl (by decide) fl_X11_ahead_120 rfl rfl dX11_ahead_43 ?_
  refine g_icmp_ge 46 61 C dX11_ahead_46 (by decide) (fun c => ?_) (fun c => ?_)
  · replace h := it_e c h
    refine g_iconst 61 C (-1 : Int32) dX11_ahead_61 (by decide) ?_
    refine GG.sub (lv' := []) [] rfl ?_
    exact ok_B_X11_ahead_62 C hA h
  · replace h := if_e c h
    refine g_aload_n 49 C 0 dX11_ahead_49 rfl rfl ?_
    refine g_get 50 C in_X11_ahead_X11 0 2 rfl rfl (by decide) fl_X11_ahead_13 rfl rfl dX11_ahead_50 ?_
    refine g_aload_n 53 C 0 dX11_ahead_53 rfl rfl ?_
    refine g_get 54 C in_X11_ahead_X11 0 8 rfl rfl (by decide) fl_X11_ahead_123 rfl rfl dX11_ahead_54 ?_
    obtain ⟨o2, h⟩ := ob_e h
    refine g_iald 57 C 1 rfl o2 dX11_ahead_57 ?_
    refine g_goto 58 62 C dX11_ahead_58 (by decide) ?_
    refine GG.sub (lv' := []) [] rfl ?_
    exact ok_B_X11_ahead_62 C hA h
set_option maxHeartbeats 4000000 in
set_option maxRecDepth 100000 in
theorem k_X11_ahead {l : Launch} {D : va_G} {k : Nat → ClassId} (h_t : Nat) (h_t_tape : Nat) (h_t_w : Nat) (h_t_firsts : Nat) (h_t_sizes : Nat) (h_t_worths : Nat) (h_t_readWorths : Nat) (h_t_dues : Nat) (h_t_sums : Nat) (h_t_worthOf : Nat) (h_t_lies : Nat) (h_t_pairs : Nat) (h_t_row : Nat) (h_t_hands : Nat) (h_t_paidOn : Nat) (h_t_lates : Nat) (h_t_fixed : Nat) (h_t_lanes : Nat) (h_t_longs : Nat) (h_t_items : Nat) (h_t_hand : Nat) (h_t_used : Nat) (s_isKept : Int32) (s_taped : Int32) (s_pieces : Int32) (s_at : Int32) (s_readMany : Int32) (s_readKind : Int32) (s_readCut : Int32) (s_rowSet : Int32) (s_bestSet : Int32) (s_tape : Nat → Int32) (res : Int32 × Int32) (h : f_X11_ahead s_taped s_at s_tape = some res) (sz : Nat) : Met l yX11_ahead wsX11_ahead rm_X11_ahead (cPre D k [.ref h_t] (W_X11_ahead k h_t h_t_tape h_t_w h_t_firsts h_t_sizes h_t_worths h_t_readWorths h_t_dues h_t_sums h_t_worthOf h_t_lies h_t_pairs h_t_row h_t_hands h_t_paidOn h_t_lates h_t_fixed h_t_lanes h_t_longs h_t_items h_t_hand h_t_used s_isKept s_taped s_pieces s_at s_readMany s_readKind s_readCut s_rowSet s_bestSet s_tape) sz) (cQi D (W_X11_ahead k h_t h_t_tape h_t_w h_t_firsts h_t_sizes h_t_worths h_t_readWorths h_t_dues h_t_sums h_t_worthOf h_t_lies h_t_pairs h_t_row h_t_hands h_t_paidOn h_t_lates h_t_fixed h_t_lanes h_t_longs h_t_items h_t_hand h_t_used s_isKept s_taped s_pieces s_at s_readMany s_readKind s_readCut s_rowSet s_bestSet s_tape) sz res.1 (W_X11_ahead k h_t h_t_tape h_t_w h_t_firsts h_t_sizes h_t_worths h_t_readWorths h_t_dues h_t_sums h_t_worthOf h_t_lies h_t_pairs h_t_row h_t_hands h_t_paidOn h_t_lates h_t_fixed h_t_lanes h_t_longs h_t_items h_t_hand h_t_used s_isKept s_taped s_pieces res.2 s_readMany s_readKind s_readCut s_rowSet s_bestSet s_tape)) 0 0 (va_A (W_X11_ahead k h_t h_t_tape h_t_w h_t_firsts h_t_sizes h_t_worths h_t_readWorths h_t_dues h_t_sums h_t_worthOf h_t_lies h_t_pairs h_t_row h_t_hands h_t_paidOn h_t_lates h_t_fixed h_t_lanes h_t_longs h_t_items h_t_hand h_t_used s_isKept s_taped s_pieces s_at s_readMany s_readKind s_readCut s_rowSet s_bestSet s_tape) sz) := by
  refine met_of [(0, .ref h_t)] (by decide) rfl rfl (Nat.le_of_ble_eq_true rfl) rfl ?_
  intro p e s m args below meth c A hA hsz C
  unfold f_X11_ahead at h
  refine GG.sub (lv' := [(0, .ref h_t)]) [0] rfl ?_
  exact ok_L_X11_ahead_0 C hA (fun t h => by
    refine GG.sub (lv' := [(0, .ref h_t)]) [0] rfl ?_
    exact ok_B_X11_ahead_38 C hA h) FUEL s_at h
end

/-! X11_kindOf -/
abbrev W_X11_kindOf (k : Nat → ClassId) : va_W := []
def rm_X11_kindOf : Room := { frames := 0, cells := 0, slots := 0, locals := 0 }
theorem pd_X11_kindOf : yX11_kindOf.cls ≠ "java/lang/invoke/MethodHandle" ∧ yX11_kindOf.cls ≠ "java/lang/invoke/VarHandle" ∧ (parseMethodDescriptor yX11_kindOf.desc).map (fun d => d.parameters.length) = some 1 := by decide +kernel
section
variable {p : Program} {l : Launch} {e : Env} {s : State} {m : MethodId} {args : Array Value} {below : List Frame} {meth : Method} {c : Code} {D : va_G} {k : Nat → ClassId} {A : Nat → Prop} {w0 : va_W} {sz : Nat}
set_option maxHeartbeats 4000000 in
set_option maxRecDepth 100000 in
theorem ok_B_X11_kindOf_41 {x0 : Int32} {res : Int32} (C : CX p s m args meth c cX11_kindOf wsX11_kindOf RX11 1 D k A (some .int)) (hA : A = va_A w0 sz)  (h : B_X11_kindOf_41 x0 = some res) : GG p l e rm_X11_kindOf s m args below meth c (MQ below (cQi D w0 sz res (W_X11_kindOf k)) args s 0 0 A) D A 1 0 0 41 [] [.int x0] (W_X11_kindOf k) := by
  unfold B_X11_kindOf_41 at h
  obtain rfl := Option.some.inj h
  exact g_iret 41 C hA rfl dX11_kindOf_41 rfl
set_option maxHeartbeats 4000000 in
set_option maxRecDepth 100000 in
theorem k_X11_kindOf {l : Launch} {D : va_G} {k : Nat → ClassId} (v0 : Int32) (res : Int32) (h : f_X11_kindOf v0 = some res) (sz : Nat) : Met l yX11_kindOf wsX11_kindOf rm_X11_kindOf (cPre D k [.int v0] (W_X11_kindOf k) sz) (cQi D (W_X11_kindOf k) sz res (W_X11_kindOf k)) 0 0 (va_A (W_X11_kindOf k) sz) := by
  refine met_of [(0, .int v0)] (by decide) rfl rfl (Nat.le_of_ble_eq_true rfl) rfl ?_
  intro p e s m args below meth c A hA hsz C
  unfold f_X11_kindOf at h
  refine g_iload_n 0 C 0 dX11_kindOf_0 rfl rfl ?_
  refine g_bipush 1 C (111 : Int32) dX11_kindOf_1 (by decide) ?_
  refine g_icmp_ne 3 10 C dX11_kindOf_3 (by decide) (fun c => ?_) (fun c => ?_)
  · replace h := if_e c h
    refine g_iload_n 10 C 0 dX11_kindOf_10 rfl rfl ?_
    refine g_bipush 11 C (114 : Int32) dX11_kindOf_11 (by decide) ?_
    refine g_icmp_ne 13 20 C dX11_kindOf_13 (by decide) (fun c => ?_) (fun c => ?_)
    · replace h := if_e c h
      refine g_iload_n 20 C 0 dX11_kindOf_20 rfl rfl ?_
      refine g_bipush 21 C (112 : Int32) dX11_kindOf_21 (by decide) ?_
      refine g_icmp_ne 23 30 C dX11_kindOf_23 (by decide) (fun c => ?_) (fun c => ?_)
      · replace h := if_e c h
        refine g_iload_n 30 C 0 dX11_kindOf_30 rfl rfl ?_
        refine g_bipush 31 C (98 : Int32) dX11_kindOf_31 (by decide) ?_
        refine g_icmp_ne 33 40 C dX11_kindOf_33 (by decide) (fun c => ?_) (fun c => ?_)
        · replace h := if_e c h
          refine g_iconst 40 C (-1 : Int32) dX11_kindOf_40 (by decide) ?_
          refine GG.sub (lv' := []) [] rfl ?_
          exact ok_B_X11_kindOf_41 C hA h
        · replace h := it_e c h
          refine g_iconst 36 C (3 : Int32) dX11_kindOf_36 (by decide) ?_
          refine g_goto 37 41 C dX11_kindOf_37 (by decide) ?_
          refine GG.sub (lv' := []) [] rfl ?_
          exact ok_B_X11_kindOf_41 C hA h
      · replace h := it_e c h
        refine g_iconst 26 C (2 : Int32) dX11_kindOf_26 (by decide) ?_
        refine g_goto 27 41 C dX11_kindOf_27 (by decide) ?_
        refine GG.sub (lv' := []) [] rfl ?_
        exact ok_B_X11_kindOf_41 C hA h
    · replace h := it_e c h
      refine g_iconst 16 C (1 : Int32) dX11_kindOf_16 (by decide) ?_
      refine g_goto 17 41 C dX11_kindOf_17 (by decide) ?_
      refine GG.sub (lv' := []) [] rfl ?_
      exact ok_B_X11_kindOf_41 C hA h
  · replace h := it_e c h
    refine g_iconst 6 C (0 : Int32) dX11_kindOf_6 (by decide) ?_
    refine g_goto 7 41 C dX11_kindOf_7 (by decide) ?_
    refine GG.sub (lv' := []) [] rfl ?_
    exact ok_B_X11_kindOf_41 C hA h
end

/-! X11_faultOf -/
abbrev W_X11_faultOf (k : Nat → ClassId) (h_t : Nat) (h_t_tape : Nat) (h_t_readWorths : Nat) (h_t_w : Nat) (h_t_firsts : Nat) (h_t_sizes : Nat) (h_t_worths : Nat) (h_t_dues : Nat) (h_t_sums : Nat) (h_t_worthOf : Nat) (h_t_lies : Nat) (h_t_pairs : Nat) (h_t_row : Nat) (h_t_hands : Nat) (h_t_paidOn : Nat) (h_t_lates : Nat) (h_t_fixed : Nat) (h_t_lanes : Nat) (h_t_longs : Nat) (h_t_items : Nat) (h_t_hand : Nat) (h_t_used : Nat) (s_isKept : Int32) (s_taped : Int32) (s_pieces : Int32) (s_at : Int32) (s_readMany : Int32) (s_readKind : Int32) (s_readCut : Int32) (s_rowSet : Int32) (s_bestSet : Int32) (s_tape : Nat → Int32) (s_readWorths : Nat → Int32) : va_W := [(h_t, .inr (11, [.ref h_t_w, .int s_isKept, .ref h_t_tape, .int s_taped, .ref h_t_firsts, .ref h_t_sizes, .ref h_t_worths, .int s_pieces, .int s_at, .ref h_t_readWorths, .int s_readMany, .int s_readKind, .int s_readCut, .ref h_t_dues, .ref h_t_sums, .ref h_t_worthOf, .ref h_t_lies, .ref h_t_pairs, .ref h_t_row, .int s_rowSet, .int s_bestSet, .ref h_t_hands, .ref h_t_paidOn, .ref h_t_lates, .ref h_t_fixed, .ref h_t_lanes, .ref h_t_longs, .ref h_t_items, .ref h_t_hand, .ref h_t_used])), (h_t_tape, .inl (k 0, 60, .inl s_tape)), (h_t_readWorths, .inl (k 0, 24, .inl s_readWorths))]
def rm_X11_faultOf : Room := { frames := 1, cells := 0, slots := 0, locals := 25 }
theorem in_X11_faultOf_X11 : ∀ w ∈ u_ws RX11 TX11 30, w ∈ wsX11_faultOf := by decide +kernel
theorem ct_X11_faultOf_141 : Cond.constantLong RX11 141 (49 : Int64) ∈ wsX11_faultOf := by decide +kernel
theorem ct_X11_faultOf_143 : Cond.constantLong RX11 143 (57 : Int64) ∈ wsX11_faultOf := by decide +kernel
theorem ct_X11_faultOf_145 : Cond.constantLong RX11 145 (48 : Int64) ∈ wsX11_faultOf := by decide +kernel
theorem fl_X11_faultOf_120 : Cond.fieldLink RX11 120 "LinkDaysModel" "taped" "I" ∈ wsX11_faultOf := by decide +kernel
theorem fl_X11_faultOf_123 : Cond.fieldLink RX11 123 "LinkDaysModel" "at" "I" ∈ wsX11_faultOf := by decide +kernel
theorem fl_X11_faultOf_126 : Cond.fieldLink RX11 126 "LinkDaysModel" "readMany" "I" ∈ wsX11_faultOf := by decide +kernel
theorem fl_X11_faultOf_129 : Cond.fieldLink RX11 129 "LinkDaysModel" "readCut" "I" ∈ wsX11_faultOf := by decide +kernel
theorem fl_X11_faultOf_13 : Cond.fieldLink RX11 13 "LinkDaysModel" "tape" "[I" ∈ wsX11_faultOf := by decide +kernel
theorem fl_X11_faultOf_138 : Cond.fieldLink RX11 138 "LinkDaysModel" "readKind" "I" ∈ wsX11_faultOf := by decide +kernel
theorem fl_X11_faultOf_25 : Cond.fieldLink RX11 25 "LinkDaysModel" "readWorths" "[I" ∈ wsX11_faultOf := by decide +kernel
theorem pd_X11_faultOf : yX11_faultOf.cls = RX11 ∧ yX11_faultOf.cls ≠ "java/lang/invoke/MethodHandle" ∧ yX11_faultOf.cls ≠ "java/lang/invoke/VarHandle" ∧ (parseMethodDescriptor yX11_faultOf.desc).map (fun d => d.parameters.length) = some 0 := by decide +kernel
section
variable {p : Program} {l : Launch} {e : Env} {s : State} {m : MethodId} {args : Array Value} {below : List Frame} {meth : Method} {c : Code} {D : va_G} {k : Nat → ClassId} {A : Nat → Prop} {w0 : va_W} {sz : Nat}
set_option maxHeartbeats 4000000 in
set_option maxRecDepth 100000 in
theorem ok_L_X11_faultOf_48 {h_t : Nat} {h_t_tape : Nat} {h_t_readWorths : Nat} {h_t_w : Nat} {h_t_firsts : Nat} {h_t_sizes : Nat} {h_t_worths : Nat} {h_t_dues : Nat} {h_t_sums : Nat} {h_t_worthOf : Nat} {h_t_lies : Nat} {h_t_pairs : Nat} {h_t_row : Nat} {h_t_hands : Nat} {h_t_paidOn : Nat} {h_t_lates : Nat} {h_t_fixed : Nat} {h_t_lanes : Nat} {h_t_longs : Nat} {h_t_items : Nat} {h_t_hand : Nat} {h_t_used : Nat} {s_isKept : Int32} {s_taped : Int32} {s_pieces : Int32} {s_readKind : Int32} {s_readCut : Int32} {s_rowSet : Int32} {s_bestSet : Int32} {s_tape : Nat → Int32} {res : Int32 × Int32 × Int32 × Int32 × Int32 × (Nat → Int32)} (C : CX p s m args meth c cX11_faultOf wsX11_faultOf RX11 6 D k A (some .int)) (hA : A = va_A w0 sz) {kx : Int32 × Int32 × (Nat → Int32) → Option (Int32 × Int32 × Int32 × Int32 × Int32 × (Nat → Int32))} (hx : ∀ t : Int32 × Int32 × (Nat → Int32), kx t = some res → GG p l e rm_X11_faultOf s m args below meth c (MQ below (cQi D w0 sz res.1 (W_X11_faultOf k h_t h_t_tape h_t_readWorths h_t_w h_t_firsts h_t_sizes h_t_worths h_t_dues h_t_sums h_t_worthOf h_t_lies h_t_pairs h_t_row h_t_hands h_t_paidOn h_t_lates h_t_fixed h_t_lanes h_t_longs h_t_items h_t_hand h_t_used s_isKept s_taped s_pieces res.2.1 res.2.2.1 res.2.2.2.1 res.2.2.2.2.1 s_rowSet s_bestSet s_tape res.2.2.2.2.2)) args s 0 0 A) D A 6 0 0 113 [(0, .ref h_t)] [] (W_X11_faultOf k h_t h_t_tape h_t_readWorths h_t_w h_t_firsts h_t_sizes h_t_worths h_t_dues h_t_sums h_t_worthOf h_t_lies h_t_pairs h_t_row h_t_hands h_t_paidOn h_t_lates h_t_fixed h_t_lanes h_t_longs h_t_items h_t_hand h_t_used s_isKept s_taped s_pieces t.1 t.2.1 s_readKind s_readCut s_rowSet s_bestSet s_tape t.2.2)) : ∀ (n : Nat) (t : Int32 × Int32 × (Nat → Int32)), L_X11_faultOf_48 s_taped s_tape kx n t = some res → GG p l e rm_X11_faultOf s m args below meth c (MQ below (cQi D w0 sz res.1 (W_X11_faultOf k h_t h_t_tape h_t_readWorths h_t_w h_t_firsts h_t_sizes h_t_worths h_t_dues h_t_sums h_t_worthOf h_t_lies h_t_pairs h_t_row h_t_hands h_t_paidOn h_t_lates h_t_fixed h_t_lanes h_t_longs h_t_items h_t_hand h_t_used s_isKept s_taped s_pieces res.2.1 res.2.2.1 res.2.2.2.1 res.2.2.2.2.1 s_rowSet s_bestSet s_tape res.2.2.2.2.2)) args s 0 0 A) D A 6 0 0 48 [(0, .ref h_t)] [] (W_X11_faultOf k h_t h_t_tape h_t_readWorths h_t_w h_t_firsts h_t_sizes h_t_worths h_t_dues h_t_sums h_t_worthOf h_t_lies h_t_pairs h_t_row h_t_hands h_t_paidOn h_t_lates h_t_fixed h_t_lanes h_t_longs h_t_items h_t_hand h_t_used s_isKept s_taped s_pieces t.1 t.2.1 s_readKind s_readCut s_rowSet s_bestSet s_tape t.2.2) := by
  intro n
  induction n with
  | zero => intro t h; cases h
  | succ n ih =>
    intro t h
    obtain ⟨s_at, s_readMany, s_readWorths⟩ := t
    replace h : LB_X11_faultOf_48 s_taped s_tape kx (L_X11_faultOf_48 s_taped s_tape kx n) s_at s_readMany s_readWorths = some res := h
    have hr := ih
    unfold LB_X11_faultOf_48 at h
    refine g_aload_n 48 C 0 dX11_faultOf_48 rfl rfl ?_
    refine g_get 49 C in_X11_faultOf_X11 0 10 rfl rfl (by decide) fl_X11_faultOf_126 rfl rfl dX11_faultOf_49 ?_
    refine g_bipush 52 C (24 : Int32) dX11_faultOf_52 (by decide) ?_
    refine g_icmp_ge 54 113 C dX11_faultOf_54 (by decide) (fun c => ?_) (fun c => ?_)
    · replace h := it_e c h
      refine GG.sub (lv' := [(0, .ref h_t)]) [0] rfl ?_
      exact hx (s_at, s_readMany, s_readWorths) h
    · replace h := if_e c h
      refine g_aload_n 57 C 0 dX11_faultOf_57 rfl rfl ?_
      obtain ⟨q5, e6, h⟩ := bi_e h
      refine g_callVi 58 C (As := []) [0, 1] [2] [1, 2, 0] (W_X11_faultOf k h_t h_t_tape h_t_readWorths h_t_w h_t_firsts h_t_sizes h_t_worths h_t_dues h_t_sums h_t_worthOf h_t_lies h_t_pairs h_t_row h_t_hands h_t_paidOn h_t_lates h_t_fixed h_t_lanes h_t_longs h_t_items h_t_hand h_t_used s_isKept s_taped s_pieces q5.2 s_readMany s_readKind s_readCut s_rowSet s_bestSet s_tape s_readWorths) 0 (fun sz => k_X11_ahead h_t h_t_tape h_t_w h_t_firsts h_t_sizes h_t_worths h_t_readWorths h_t_dues h_t_sums h_t_worthOf h_t_lies h_t_pairs h_t_row h_t_hands h_t_paidOn h_t_lates h_t_fixed h_t_lanes h_t_longs h_t_items h_t_hand h_t_used s_isKept s_taped s_pieces s_at s_readMany s_readKind s_readCut s_rowSet s_bestSet s_tape q5 e6 sz) gX11_faultOf_X11_ahead rfl pd_X11_ahead rfl rfl rfl ⟨rfl, rfl, Nat.le_of_ble_eq_true rfl, Nat.le_of_ble_eq_true rfl⟩ (Nat.le_of_ble_eq_true rfl) ⟨Nat.zero_le _, Nat.zero_le _⟩ ⟨rfl, rfl, rfl, rfl, rfl, by decide, rfl⟩ rfl dX11_faultOf_58 ?_
      refine g_i2l 61 C dX11_faultOf_61 ?_
      refine g_ldc2 62 C (49 : Int64) dX11_faultOf_62 ct_X11_faultOf_141 ?_
      refine g_ldc2 65 C (57 : Int64) dX11_faultOf_65 ct_X11_faultOf_143 ?_
      obtain ⟨q7, e8, h⟩ := bi_e h
      refine g_callSi 68 C (As := [.long q5.1.toInt64, .long (49 : Int64), .long (57 : Int64)]) [] [0, 1, 2] [0, 1, 2] (W_X11_faultOf k h_t h_t_tape h_t_readWorths h_t_w h_t_firsts h_t_sizes h_t_worths h_t_dues h_t_sums h_t_worthOf h_t_lies h_t_pairs h_t_row h_t_hands h_t_paidOn h_t_lates h_t_fixed h_t_lanes h_t_longs h_t_items h_t_hand h_t_used s_isKept s_taped s_pieces q5.2 s_readMany s_readKind s_readCut s_rowSet s_bestSet s_tape s_readWorths) (fun sz => k_X11_in q5.1.toInt64 (49 : Int64) (57 : Int64) q7 e8 sz) gX11_faultOf_X11_in rfl pd_X11_in rfl ⟨rfl, rfl, Nat.le_of_ble_eq_true rfl, Nat.le_of_ble_eq_true rfl⟩ (Nat.le_of_ble_eq_true rfl) ⟨Nat.zero_le _, Nat.zero_le _⟩ ⟨rfl, rfl, rfl, rfl, rfl, by decide, rfl⟩ rfl dX11_faultOf_68 ?_
      refine g_if_eq 71 113 C dX11_faultOf_71 (by decide) (fun c => ?_) (fun c => ?_)
      · replace h := it_e c h
        refine GG.sub (lv' := [(0, .ref h_t)]) [0] rfl ?_
        exact hx (q5.2, s_readMany, s_readWorths) h
      · replace h := if_e c h
        refine g_aload_n 74 C 0 dX11_faultOf_74 rfl rfl ?_
        refine g_get 75 C in_X11_faultOf_X11 0 9 rfl rfl (by decide) fl_X11_faultOf_25 rfl rfl dX11_faultOf_75 ?_
        refine g_aload_n 78 C 0 dX11_faultOf_78 rfl rfl ?_
        refine g_get 79 C in_X11_faultOf_X11 0 10 rfl rfl (by decide) fl_X11_faultOf_126 rfl rfl dX11_faultOf_79 ?_
        refine g_aload_n 82 C 0 dX11_faultOf_82 rfl rfl ?_
        obtain ⟨q9, e10, h⟩ := bi_e h
        refine g_callVi 83 C (As := []) [0, 1] [2] [1, 2, 0] (W_X11_faultOf k h_t h_t_tape h_t_readWorths h_t_w h_t_firsts h_t_sizes h_t_worths h_t_dues h_t_sums h_t_worthOf h_t_lies h_t_pairs h_t_row h_t_hands h_t_paidOn h_t_lates h_t_fixed h_t_lanes h_t_longs h_t_items h_t_hand h_t_used s_isKept s_taped s_pieces q9.2 s_readMany s_readKind s_readCut s_rowSet s_bestSet s_tape s_readWorths) 0 (fun sz => k_X11_ahead h_t h_t_tape h_t_w h_t_firsts h_t_sizes h_t_worths h_t_readWorths h_t_dues h_t_sums h_t_worthOf h_t_lies h_t_pairs h_t_row h_t_hands h_t_paidOn h_t_lates h_t_fixed h_t_lanes h_t_longs h_t_items h_t_hand h_t_used s_isKept s_taped s_pieces q5.2 s_readMany s_readKind s_readCut s_rowSet s_bestSet s_tape q9 e10 sz) gX11_faultOf_X11_ahead rfl pd_X11_ahead rfl rfl rfl ⟨rfl, rfl, Nat.le_of_ble_eq_true rfl, Nat.le_of_ble_eq_true rfl⟩ (Nat.le_of_ble_eq_true rfl) ⟨Nat.zero_le _, Nat.zero_le _⟩ ⟨rfl, rfl, rfl, rfl, rfl, by decide, rfl⟩ rfl dX11_faultOf_83 ?_
        refine g_bipush 86 C (48 : Int32) dX11_faultOf_86 (by decide) ?_
        refine g_isub 88 C dX11_faultOf_88 ?_
        obtain ⟨o11, h⟩ := ob_e h
        refine g_iast 89 C (W_X11_faultOf k h_t h_t_tape h_t_readWorths h_t_w h_t_firsts h_t_sizes h_t_worths h_t_dues h_t_sums h_t_worthOf h_t_lies h_t_pairs h_t_row h_t_hands h_t_paidOn h_t_lates h_t_fixed h_t_lanes h_t_longs h_t_items h_t_hand h_t_used s_isKept s_taped s_pieces q9.2 s_readMany s_readKind s_readCut s_rowSet s_bestSet s_tape (upd s_readWorths s_readMany.toNatClampNeg (q9.1 - (48 : Int32)))) 2 rfl o11 rfl dX11_faultOf_89 ?_
        refine g_aload_n 90 C 0 dX11_faultOf_90 rfl rfl ?_
        refine g_dup 91 C dX11_faultOf_91 rfl ?_
        refine g_get 92 C in_X11_faultOf_X11 0 10 rfl rfl (by decide) fl_X11_faultOf_126 rfl rfl dX11_faultOf_92 ?_
        refine g_iconst 95 C (1 : Int32) dX11_faultOf_95 (by decide) ?_
        refine g_iadd 96 C dX11_faultOf_96 ?_
        refine g_put 97 C (W_X11_faultOf k h_t h_t_tape h_t_readWorths h_t_w h_t_firsts h_t_sizes h_t_worths h_t_dues h_t_sums h_t_worthOf h_t_lies h_t_pairs h_t_row h_t_hands h_t_paidOn h_t_lates h_t_fixed h_t_lanes h_t_longs h_t_items h_t_hand h_t_used s_isKept s_taped s_pieces q9.2 (s_readMany + (1 : Int32)) s_readKind s_readCut s_rowSet s_bestSet s_tape (upd s_readWorths s_readMany.toNatClampNeg (q9.1 - (48 : Int32)))) in_X11_faultOf_X11 tyX11 tyX11_ok nmX11 0 10 rfl rfl (by decide) fl_X11_faultOf_126 rfl rfl (tyX11_ok 10 (by decide)) rfl rfl (Nat.le_of_ble_eq_true rfl) rfl dX11_faultOf_97 ?_
        refine g_aload_n 100 C 0 dX11_faultOf_100 rfl rfl ?_
        refine g_dup 101 C dX11_faultOf_101 rfl ?_
        refine g_get 102 C in_X11_faultOf_X11 0 8 rfl rfl (by decide) fl_X11_faultOf_123 rfl rfl dX11_faultOf_102 ?_
        refine g_iconst 105 C (1 : Int32) dX11_faultOf_105 (by decide) ?_
        refine g_iadd 106 C dX11_faultOf_106 ?_
        refine g_put 107 C (W_X11_faultOf k h_t h_t_tape h_t_readWorths h_t_w h_t_firsts h_t_sizes h_t_worths h_t_dues h_t_sums h_t_worthOf h_t_lies h_t_pairs h_t_row h_t_hands h_t_paidOn h_t_lates h_t_fixed h_t_lanes h_t_longs h_t_items h_t_hand h_t_used s_isKept s_taped s_pieces (q9.2 + (1 : Int32)) (s_readMany + (1 : Int32)) s_readKind s_readCut s_rowSet s_bestSet s_tape (upd s_readWorths s_readMany.toNatClampNeg (q9.1 - (48 : Int32)))) in_X11_faultOf_X11 tyX11 tyX11_ok nmX11 0 8 rfl rfl (by decide) fl_X11_faultOf_123 rfl rfl (tyX11_ok 8 (by decide)) rfl rfl (Nat.le_of_ble_eq_true rfl) rfl dX11_faultOf_107 ?_
        refine g_goto 110 48 C dX11_faultOf_110 (by decide) ?_
        refine GG.sub (lv' := [(0, .ref h_t)]) [0] rfl ?_
        exact hr ((q9.2 + (1 : Int32)), (s_readMany + (1 : Int32)), (upd s_readWorths s_readMany.toNatClampNeg (q9.1 - (48 : Int32)))) h
set_option maxHeartbeats 4000000 in
set_option maxRecDepth 100000 in
theorem ok_B_X11_faultOf_249 {h_t : Nat} {h_t_tape : Nat} {h_t_readWorths : Nat} {h_t_w : Nat} {h_t_firsts : Nat} {h_t_sizes : Nat} {h_t_worths : Nat} {h_t_dues : Nat} {h_t_sums : Nat} {h_t_worthOf : Nat} {h_t_lies : Nat} {h_t_pairs : Nat} {h_t_row : Nat} {h_t_hands : Nat} {h_t_paidOn : Nat} {h_t_lates : Nat} {h_t_fixed : Nat} {h_t_lanes : Nat} {h_t_longs : Nat} {h_t_items : Nat} {h_t_hand : Nat} {h_t_used : Nat} {s_isKept : Int32} {s_taped : Int32} {s_pieces : Int32} {s_at : Int32} {s_readMany : Int32} {s_readKind : Int32} {s_readCut : Int32} {s_rowSet : Int32} {s_bestSet : Int32} {s_tape : Nat → Int32} {s_readWorths : Nat → Int32} {v1 : Int32} {v3 : Int32} {v4 : Int32} {x0 : Int32} {res : Int32 × Int32 × Int32 × Int32 × Int32 × (Nat → Int32)} {kx rec : Int32 × Int32 → Option (Int32 × Int32 × Int32 × Int32 × Int32 × (Nat → Int32))} (C : CX p s m args meth c cX11_faultOf wsX11_faultOf RX11 6 D k A (some .int)) (hA : A = va_A w0 sz) (hx : ∀ t : Int32 × Int32, kx t = some res → GG p l e rm_X11_faultOf s m args below meth c (MQ below (cQi D w0 sz res.1 (W_X11_faultOf k h_t h_t_tape h_t_readWorths h_t_w h_t_firsts h_t_sizes h_t_worths h_t_dues h_t_sums h_t_worthOf h_t_lies h_t_pairs h_t_row h_t_hands h_t_paidOn h_t_lates h_t_fixed h_t_lanes h_t_longs h_t_items h_t_hand h_t_used s_isKept s_taped s_pieces res.2.1 res.2.2.1 res.2.2.2.1 res.2.2.2.2.1 s_rowSet s_bestSet s_tape res.2.2.2.2.2)) args s 0 0 A) D A 6 0 0 264 [(0, .ref h_t), (1, .int v1), (3, .int v3), (4, .int v4), (5, .int t.1)] [] (W_X11_faultOf k h_t h_t_tape h_t_readWorths h_t_w h_t_firsts h_t_sizes h_t_worths h_t_dues h_t_sums h_t_worthOf h_t_lies h_t_pairs h_t_row h_t_hands h_t_paidOn h_t_lates h_t_fixed h_t_lanes h_t_longs h_t_items h_t_hand h_t_used s_isKept s_taped s_pieces t.2 s_readMany s_readKind s_readCut s_rowSet s_bestSet s_tape s_readWorths)) (hr : ∀ t : Int32 × Int32, rec t = some res → GG p l e rm_X11_faultOf s m args below meth c (MQ below (cQi D w0 sz res.1 (W_X11_faultOf k h_t h_t_tape h_t_readWorths h_t_w h_t_firsts h_t_sizes h_t_worths h_t_dues h_t_sums h_t_worthOf h_t_lies h_t_pairs h_t_row h_t_hands h_t_paidOn h_t_lates h_t_fixed h_t_lanes h_t_longs h_t_items h_t_hand h_t_used s_isKept s_taped s_pieces res.2.1 res.2.2.1 res.2.2.2.1 res.2.2.2.2.1 s_rowSet s_bestSet s_tape res.2.2.2.2.2)) args s 0 0 A) D A 6 0 0 186 [(0, .ref h_t), (1, .int v1), (3, .int v3), (4, .int v4), (5, .int t.1)] [] (W_X11_faultOf k h_t h_t_tape h_t_readWorths h_t_w h_t_firsts h_t_sizes h_t_worths h_t_dues h_t_sums h_t_worthOf h_t_lies h_t_pairs h_t_row h_t_hands h_t_paidOn h_t_lates h_t_fixed h_t_lanes h_t_longs h_t_items h_t_hand h_t_used s_isKept s_taped s_pieces t.2 s_readMany s_readKind s_readCut s_rowSet s_bestSet s_tape s_readWorths))  (h : B_X11_faultOf_249 kx rec s_at x0 = some res) : GG p l e rm_X11_faultOf s m args below meth c (MQ below (cQi D w0 sz res.1 (W_X11_faultOf k h_t h_t_tape h_t_readWorths h_t_w h_t_firsts h_t_sizes h_t_worths h_t_dues h_t_sums h_t_worthOf h_t_lies h_t_pairs h_t_row h_t_hands h_t_paidOn h_t_lates h_t_fixed h_t_lanes h_t_longs h_t_items h_t_hand h_t_used s_isKept s_taped s_pieces res.2.1 res.2.2.1 res.2.2.2.1 res.2.2.2.2.1 s_rowSet s_bestSet s_tape res.2.2.2.2.2)) args s 0 0 A) D A 6 0 0 249 [(0, .ref h_t), (1, .int v1), (3, .int v3), (4, .int v4)] [.int x0] (W_X11_faultOf k h_t h_t_tape h_t_readWorths h_t_w h_t_firsts h_t_sizes h_t_worths h_t_dues h_t_sums h_t_worthOf h_t_lies h_t_pairs h_t_row h_t_hands h_t_paidOn h_t_lates h_t_fixed h_t_lanes h_t_longs h_t_items h_t_hand h_t_used s_isKept s_taped s_pieces s_at s_readMany s_readKind s_readCut s_rowSet s_bestSet s_tape s_readWorths) := by
  unfold B_X11_faultOf_249 at h
  refine g_istore 249 C [(5, .int x0), (0, .ref h_t), (1, .int v1), (3, .int v3), (4, .int v4)] dX11_faultOf_249 (by decide) rfl ?_
  refine g_aload_n 251 C 1 dX11_faultOf_251 rfl rfl ?_
  refine g_dup 252 C dX11_faultOf_252 rfl ?_
  refine g_get 253 C in_X11_faultOf_X11 0 8 rfl rfl (by decide) fl_X11_faultOf_123 rfl rfl dX11_faultOf_253 ?_
  refine g_iconst 256 C (1 : Int32) dX11_faultOf_256 (by decide) ?_
  refine g_iadd 257 C dX11_faultOf_257 ?_
  refine g_put 258 C (W_X11_faultOf k h_t h_t_tape h_t_readWorths h_t_w h_t_firsts h_t_sizes h_t_worths h_t_dues h_t_sums h_t_worthOf h_t_lies h_t_pairs h_t_row h_t_hands h_t_paidOn h_t_lates h_t_fixed h_t_lanes h_t_longs h_t_items h_t_hand h_t_used s_isKept s_taped s_pieces (s_at + (1 : Int32)) s_readMany s_readKind s_readCut s_rowSet s_bestSet s_tape s_readWorths) in_X11_faultOf_X11 tyX11 tyX11_ok nmX11 0 8 rfl rfl (by decide) fl_X11_faultOf_123 rfl rfl (tyX11_ok 8 (by decide)) rfl rfl (Nat.le_of_ble_eq_true rfl) rfl dX11_faultOf_258 ?_
  refine g_goto 261 186 C dX11_faultOf_261 (by decide) ?_
  refine GG.sub (lv' := [(0, .ref h_t), (1, .int v1), (3, .int v3), (4, .int v4), (5, .int x0)]) [1, 2, 3, 4, 0] rfl ?_
  exact hr (x0, (s_at + (1 : Int32))) h
set_option maxHeartbeats 4000000 in
set_option maxRecDepth 100000 in
theorem ok_L_X11_faultOf_186 {h_t : Nat} {h_t_tape : Nat} {h_t_readWorths : Nat} {h_t_w : Nat} {h_t_firsts : Nat} {h_t_sizes : Nat} {h_t_worths : Nat} {h_t_dues : Nat} {h_t_sums : Nat} {h_t_worthOf : Nat} {h_t_lies : Nat} {h_t_pairs : Nat} {h_t_row : Nat} {h_t_hands : Nat} {h_t_paidOn : Nat} {h_t_lates : Nat} {h_t_fixed : Nat} {h_t_lanes : Nat} {h_t_longs : Nat} {h_t_items : Nat} {h_t_hand : Nat} {h_t_used : Nat} {s_isKept : Int32} {s_taped : Int32} {s_pieces : Int32} {s_readMany : Int32} {s_readKind : Int32} {s_readCut : Int32} {s_rowSet : Int32} {s_bestSet : Int32} {s_tape : Nat → Int32} {s_readWorths : Nat → Int32} {v1 : Int32} {v3 : Int32} {v4 : Int32} {res : Int32 × Int32 × Int32 × Int32 × Int32 × (Nat → Int32)} (C : CX p s m args meth c cX11_faultOf wsX11_faultOf RX11 6 D k A (some .int)) (hA : A = va_A w0 sz) {kx : Int32 × Int32 → Option (Int32 × Int32 × Int32 × Int32 × Int32 × (Nat → Int32))} (hx : ∀ t : Int32 × Int32, kx t = some res → GG p l e rm_X11_faultOf s m args below meth c (MQ below (cQi D w0 sz res.1 (W_X11_faultOf k h_t h_t_tape h_t_readWorths h_t_w h_t_firsts h_t_sizes h_t_worths h_t_dues h_t_sums h_t_worthOf h_t_lies h_t_pairs h_t_row h_t_hands h_t_paidOn h_t_lates h_t_fixed h_t_lanes h_t_longs h_t_items h_t_hand h_t_used s_isKept s_taped s_pieces res.2.1 res.2.2.1 res.2.2.2.1 res.2.2.2.2.1 s_rowSet s_bestSet s_tape res.2.2.2.2.2)) args s 0 0 A) D A 6 0 0 264 [(0, .ref h_t), (1, .int v1), (3, .int v3), (4, .int v4), (5, .int t.1)] [] (W_X11_faultOf k h_t h_t_tape h_t_readWorths h_t_w h_t_firsts h_t_sizes h_t_worths h_t_dues h_t_sums h_t_worthOf h_t_lies h_t_pairs h_t_row h_t_hands h_t_paidOn h_t_lates h_t_fixed h_t_lanes h_t_longs h_t_items h_t_hand h_t_used s_isKept s_taped s_pieces t.2 s_readMany s_readKind s_readCut s_rowSet s_bestSet s_tape s_readWorths)) : ∀ (n : Nat) (t : Int32 × Int32), L_X11_faultOf_186 s_taped s_tape kx n t = some res → GG p l e rm_X11_faultOf s m args below meth c (MQ below (cQi D w0 sz res.1 (W_X11_faultOf k h_t h_t_tape h_t_readWorths h_t_w h_t_firsts h_t_sizes h_t_worths h_t_dues h_t_sums h_t_worthOf h_t_lies h_t_pairs h_t_row h_t_hands h_t_paidOn h_t_lates h_t_fixed h_t_lanes h_t_longs h_t_items h_t_hand h_t_used s_isKept s_taped s_pieces res.2.1 res.2.2.1 res.2.2.2.1 res.2.2.2.2.1 s_rowSet s_bestSet s_tape res.2.2.2.2.2)) args s 0 0 A) D A 6 0 0 186 [(0, .ref h_t), (1, .int v1), (3, .int v3), (4, .int v4), (5, .int t.1)] [] (W_X11_faultOf k h_t h_t_tape h_t_readWorths h_t_w h_t_firsts h_t_sizes h_t_worths h_t_dues h_t_sums h_t_worthOf h_t_lies h_t_pairs h_t_row h_t_hands h_t_paidOn h_t_lates h_t_fixed h_t_lanes h_t_longs h_t_items h_t_hand h_t_used s_isKept s_taped s_pieces t.2 s_readMany s_readKind s_readCut s_rowSet s_bestSet s_tape s_readWorths) := by
  intro n
  induction n with
  | zero => intro t h; cases h
  | succ n ih =>
    intro t h
    obtain ⟨v5, s_at⟩ := t
    replace h : LB_X11_faultOf_186 s_taped s_tape kx (L_X11_faultOf_186 s_taped s_tape kx n) v5 s_at = some res := h
    have hr := ih
    unfold LB_X11_faultOf_186 at h
    refine g_aload_n 186 C 0 dX11_faultOf_186 rfl rfl ?_
    refine g_get 187 C in_X11_faultOf_X11 0 8 rfl rfl (by decide) fl_X11_faultOf_123 rfl rfl dX11_faultOf_187 ?_
    refine g_aload_n 190 C 0 dX11_faultOf_190 rfl rfl ?_
    refine g_get 191 C in_X11_faultOf_X11 0 3 rfl rfl (by decide) fl_X11_faultOf_120 rfl rfl dX11_faultOf_191 ?_
    refine g_icmp_ge 194 264 C dX11_faultOf_194 (by decide) (fun c => ?_) (fun c => ?_)
    · replace h := it_e c h
      refine GG.sub (lv' := [(0, .ref h_t), (1, .int v1), (3, .int v3), (4, .int v4), (5, .int v5)]) [0, 1, 2, 3, 4] rfl ?_
      exact hx (v5, s_at) h
    · replace h := if_e c h
      refine g_aload_n 197 C 0 dX11_faultOf_197 rfl rfl ?_
      refine g_get 198 C in_X11_faultOf_X11 0 2 rfl rfl (by decide) fl_X11_faultOf_13 rfl rfl dX11_faultOf_198 ?_
      refine g_aload_n 201 C 0 dX11_faultOf_201 rfl rfl ?_
      refine g_get 202 C in_X11_faultOf_X11 0 8 rfl rfl (by decide) fl_X11_faultOf_123 rfl rfl dX11_faultOf_202 ?_
      obtain ⟨o16, h⟩ := ob_e h
      refine g_iald 205 C 1 rfl o16 dX11_faultOf_205 ?_
      refine g_i2l 206 C dX11_faultOf_206 ?_
      refine g_ldc2 207 C (48 : Int64) dX11_faultOf_207 ct_X11_faultOf_145 ?_
      refine g_ldc2 210 C (57 : Int64) dX11_faultOf_210 ct_X11_faultOf_143 ?_
      obtain ⟨q17, e18, h⟩ := bi_e h
      refine g_callSi 213 C (As := [.long ((s_tape s_at.toNatClampNeg).toInt64), .long (48 : Int64), .long (57 : Int64)]) [] [0, 1, 2] [0, 1, 2] (W_X11_faultOf k h_t h_t_tape h_t_readWorths h_t_w h_t_firsts h_t_sizes h_t_worths h_t_dues h_t_sums h_t_worthOf h_t_lies h_t_pairs h_t_row h_t_hands h_t_paidOn h_t_lates h_t_fixed h_t_lanes h_t_longs h_t_items h_t_hand h_t_used s_isKept s_taped s_pieces s_at s_readMany s_readKind s_readCut s_rowSet s_bestSet s_tape s_readWorths) (fun sz => k_X11_in ((s_tape s_at.toNatClampNeg).toInt64) (48 : Int64) (57 : Int64) q17 e18 sz) gX11_faultOf_X11_in rfl pd_X11_in rfl ⟨rfl, rfl, Nat.le_of_ble_eq_true rfl, Nat.le_of_ble_eq_true rfl⟩ (Nat.le_of_ble_eq_true rfl) ⟨Nat.zero_le _, Nat.zero_le _⟩ ⟨rfl, rfl, rfl, rfl, rfl, by decide, rfl⟩ rfl dX11_faultOf_213 ?_
      refine g_if_eq 216 264 C dX11_faultOf_216 (by decide) (fun c => ?_) (fun c => ?_)
      · replace h := it_e c h
        refine GG.sub (lv' := [(0, .ref h_t), (1, .int v1), (3, .int v3), (4, .int v4), (5, .int v5)]) [0, 1, 2, 3, 4] rfl ?_
        exact hx (v5, s_at) h
      · replace h := if_e c h
        refine g_iload 219 C 4 dX11_faultOf_219 rfl ?_
        refine g_bipush 221 C (99 : Int32) dX11_faultOf_221 (by decide) ?_
        refine g_icmp_le 223 231 C dX11_faultOf_223 (by decide) (fun c => ?_) (fun c => ?_)
        · replace h := it_e c h
          refine g_bipush 231 C (10 : Int32) dX11_faultOf_231 (by decide) ?_
          refine g_iload 233 C 4 dX11_faultOf_233 rfl ?_
          refine g_imul 235 C dX11_faultOf_235 ?_
          refine g_aload_n 236 C 0 dX11_faultOf_236 rfl rfl ?_
          refine g_get 237 C in_X11_faultOf_X11 0 2 rfl rfl (by decide) fl_X11_faultOf_13 rfl rfl dX11_faultOf_237 ?_
          refine g_aload_n 240 C 0 dX11_faultOf_240 rfl rfl ?_
          refine g_get 241 C in_X11_faultOf_X11 0 8 rfl rfl (by decide) fl_X11_faultOf_123 rfl rfl dX11_faultOf_241 ?_
          obtain ⟨o19, h⟩ := ob_e h
          refine g_iald 244 C 1 rfl o19 dX11_faultOf_244 ?_
          refine g_iadd 245 C dX11_faultOf_245 ?_
          refine g_bipush 246 C (48 : Int32) dX11_faultOf_246 (by decide) ?_
          refine g_isub 248 C dX11_faultOf_248 ?_
          refine GG.sub (lv' := [(0, .ref h_t), (1, .int v1), (3, .int v3), (4, .int v4)]) [0, 1, 2, 3] rfl ?_
          exact ok_B_X11_faultOf_249 C hA hx hr h
        · replace h := if_e c h
          refine g_iload 226 C 4 dX11_faultOf_226 rfl ?_
          refine g_goto 228 249 C dX11_faultOf_228 (by decide) ?_
          refine GG.sub (lv' := [(0, .ref h_t), (1, .int v1), (3, .int v3), (4, .int v4)]) [0, 1, 2, 3] rfl ?_
          exact ok_B_X11_faultOf_249 C hA hx hr h
set_option maxHeartbeats 4000000 in
set_option maxRecDepth 100000 in
theorem ok_B_X11_faultOf_291 {h_t : Nat} {h_t_tape : Nat} {h_t_readWorths : Nat} {h_t_w : Nat} {h_t_firsts : Nat} {h_t_sizes : Nat} {h_t_worths : Nat} {h_t_dues : Nat} {h_t_sums : Nat} {h_t_worthOf : Nat} {h_t_lies : Nat} {h_t_pairs : Nat} {h_t_row : Nat} {h_t_hands : Nat} {h_t_paidOn : Nat} {h_t_lates : Nat} {h_t_fixed : Nat} {h_t_lanes : Nat} {h_t_longs : Nat} {h_t_items : Nat} {h_t_hand : Nat} {h_t_used : Nat} {s_isKept : Int32} {s_taped : Int32} {s_pieces : Int32} {s_at : Int32} {s_readMany : Int32} {s_readKind : Int32} {s_readCut : Int32} {s_rowSet : Int32} {s_bestSet : Int32} {s_tape : Nat → Int32} {s_readWorths : Nat → Int32} {v4 : Int32} {v1 : Int32} {res : Int32 × Int32 × Int32 × Int32 × Int32 × (Nat → Int32)} {kx rec : Int32 × Int32 × Int32 × Int32 → Option (Int32 × Int32 × Int32 × Int32 × Int32 × (Nat → Int32))} (C : CX p s m args meth c cX11_faultOf wsX11_faultOf RX11 6 D k A (some .int)) (hA : A = va_A w0 sz) (hx : ∀ t : Int32 × Int32 × Int32 × Int32, kx t = some res → GG p l e rm_X11_faultOf s m args below meth c (MQ below (cQi D w0 sz res.1 (W_X11_faultOf k h_t h_t_tape h_t_readWorths h_t_w h_t_firsts h_t_sizes h_t_worths h_t_dues h_t_sums h_t_worthOf h_t_lies h_t_pairs h_t_row h_t_hands h_t_paidOn h_t_lates h_t_fixed h_t_lanes h_t_longs h_t_items h_t_hand h_t_used s_isKept s_taped s_pieces res.2.1 res.2.2.1 res.2.2.2.1 res.2.2.2.2.1 s_rowSet s_bestSet s_tape res.2.2.2.2.2)) args s 0 0 A) D A 6 0 0 316 [(0, .ref h_t)] [] (W_X11_faultOf k h_t h_t_tape h_t_readWorths h_t_w h_t_firsts h_t_sizes h_t_worths h_t_dues h_t_sums h_t_worthOf h_t_lies h_t_pairs h_t_row h_t_hands h_t_paidOn h_t_lates h_t_fixed h_t_lanes h_t_longs h_t_items h_t_hand h_t_used s_isKept s_taped s_pieces t.2.2.1 s_readMany s_readKind t.2.2.2 s_rowSet s_bestSet s_tape s_readWorths)) (hr : ∀ t : Int32 × Int32 × Int32 × Int32, rec t = some res → GG p l e rm_X11_faultOf s m args below meth c (MQ below (cQi D w0 sz res.1 (W_X11_faultOf k h_t h_t_tape h_t_readWorths h_t_w h_t_firsts h_t_sizes h_t_worths h_t_dues h_t_sums h_t_worthOf h_t_lies h_t_pairs h_t_row h_t_hands h_t_paidOn h_t_lates h_t_fixed h_t_lanes h_t_longs h_t_items h_t_hand h_t_used s_isKept s_taped s_pieces res.2.1 res.2.2.1 res.2.2.2.1 res.2.2.2.2.1 s_rowSet s_bestSet s_tape res.2.2.2.2.2)) args s 0 0 A) D A 6 0 0 149 [(0, .ref h_t), (1, .int v1), (2, .int t.1), (3, .int t.2.1)] [] (W_X11_faultOf k h_t h_t_tape h_t_readWorths h_t_w h_t_firsts h_t_sizes h_t_worths h_t_dues h_t_sums h_t_worthOf h_t_lies h_t_pairs h_t_row h_t_hands h_t_paidOn h_t_lates h_t_fixed h_t_lanes h_t_longs h_t_items h_t_hand h_t_used s_isKept s_taped s_pieces t.2.2.1 s_readMany s_readKind t.2.2.2 s_rowSet s_bestSet s_tape s_readWorths))  (h : B_X11_faultOf_291 kx rec s_at s_readMany s_readKind s_readCut s_readWorths v4 = some res) : GG p l e rm_X11_faultOf s m args below meth c (MQ below (cQi D w0 sz res.1 (W_X11_faultOf k h_t h_t_tape h_t_readWorths h_t_w h_t_firsts h_t_sizes h_t_worths h_t_dues h_t_sums h_t_worthOf h_t_lies h_t_pairs h_t_row h_t_hands h_t_paidOn h_t_lates h_t_fixed h_t_lanes h_t_longs h_t_items h_t_hand h_t_used s_isKept s_taped s_pieces res.2.1 res.2.2.1 res.2.2.2.1 res.2.2.2.2.1 s_rowSet s_bestSet s_tape res.2.2.2.2.2)) args s 0 0 A) D A 6 0 0 291 [(4, .int v4)] [] (W_X11_faultOf k h_t h_t_tape h_t_readWorths h_t_w h_t_firsts h_t_sizes h_t_worths h_t_dues h_t_sums h_t_worthOf h_t_lies h_t_pairs h_t_row h_t_hands h_t_paidOn h_t_lates h_t_fixed h_t_lanes h_t_longs h_t_items h_t_hand h_t_used s_isKept s_taped s_pieces s_at s_readMany s_readKind s_readCut s_rowSet s_bestSet s_tape s_readWorths) := by
  unfold B_X11_faultOf_291 at h
  refine g_iload 291 C 0 dX11_faultOf_291 rfl ?_
  obtain rfl := Option.some.inj h
  exact g_iret 293 C hA rfl dX11_faultOf_293 rfl
set_option maxHeartbeats 4000000 in
set_option maxRecDepth 100000 in
theorem ok_B_X11_faultOf_264 {h_t : Nat} {h_t_tape : Nat} {h_t_readWorths : Nat} {h_t_w : Nat} {h_t_firsts : Nat} {h_t_sizes : Nat} {h_t_worths : Nat} {h_t_dues : Nat} {h_t_sums : Nat} {h_t_worthOf : Nat} {h_t_lies : Nat} {h_t_pairs : Nat} {h_t_row : Nat} {h_t_hands : Nat} {h_t_paidOn : Nat} {h_t_lates : Nat} {h_t_fixed : Nat} {h_t_lanes : Nat} {h_t_longs : Nat} {h_t_items : Nat} {h_t_hand : Nat} {h_t_used : Nat} {s_isKept : Int32} {s_taped : Int32} {s_pieces : Int32} {s_at : Int32} {s_readMany : Int32} {s_readKind : Int32} {s_readCut : Int32} {s_rowSet : Int32} {s_bestSet : Int32} {s_tape : Nat → Int32} {s_readWorths : Nat → Int32} {v1 : Int32} {v3 : Int32} {v4 : Int32} {v5 : Int32} {res : Int32 × Int32 × Int32 × Int32 × Int32 × (Nat → Int32)} {kx rec : Int32 × Int32 × Int32 × Int32 → Option (Int32 × Int32 × Int32 × Int32 × Int32 × (Nat → Int32))} (C : CX p s m args meth c cX11_faultOf wsX11_faultOf RX11 6 D k A (some .int)) (hA : A = va_A w0 sz) (hx : ∀ t : Int32 × Int32 × Int32 × Int32, kx t = some res → GG p l e rm_X11_faultOf s m args below meth c (MQ below (cQi D w0 sz res.1 (W_X11_faultOf k h_t h_t_tape h_t_readWorths h_t_w h_t_firsts h_t_sizes h_t_worths h_t_dues h_t_sums h_t_worthOf h_t_lies h_t_pairs h_t_row h_t_hands h_t_paidOn h_t_lates h_t_fixed h_t_lanes h_t_longs h_t_items h_t_hand h_t_used s_isKept s_taped s_pieces res.2.1 res.2.2.1 res.2.2.2.1 res.2.2.2.2.1 s_rowSet s_bestSet s_tape res.2.2.2.2.2)) args s 0 0 A) D A 6 0 0 316 [(0, .ref h_t)] [] (W_X11_faultOf k h_t h_t_tape h_t_readWorths h_t_w h_t_firsts h_t_sizes h_t_worths h_t_dues h_t_sums h_t_worthOf h_t_lies h_t_pairs h_t_row h_t_hands h_t_paidOn h_t_lates h_t_fixed h_t_lanes h_t_longs h_t_items h_t_hand h_t_used s_isKept s_taped s_pieces t.2.2.1 s_readMany s_readKind t.2.2.2 s_rowSet s_bestSet s_tape s_readWorths)) (hr : ∀ t : Int32 × Int32 × Int32 × Int32, rec t = some res → GG p l e rm_X11_faultOf s m args below meth c (MQ below (cQi D w0 sz res.1 (W_X11_faultOf k h_t h_t_tape h_t_readWorths h_t_w h_t_firsts h_t_sizes h_t_worths h_t_dues h_t_sums h_t_worthOf h_t_lies h_t_pairs h_t_row h_t_hands h_t_paidOn h_t_lates h_t_fixed h_t_lanes h_t_longs h_t_items h_t_hand h_t_used s_isKept s_taped s_pieces res.2.1 res.2.2.1 res.2.2.2.1 res.2.2.2.2.1 s_rowSet s_bestSet s_tape res.2.2.2.2.2)) args s 0 0 A) D A 6 0 0 149 [(0, .ref h_t), (1, .int v1), (2, .int t.1), (3, .int t.2.1)] [] (W_X11_faultOf k h_t h_t_tape h_t_readWorths h_t_w h_t_firsts h_t_sizes h_t_worths h_t_dues h_t_sums h_t_worthOf h_t_lies h_t_pairs h_t_row h_t_hands h_t_paidOn h_t_lates h_t_fixed h_t_lanes h_t_longs h_t_items h_t_hand h_t_used s_isKept s_taped s_pieces t.2.2.1 s_readMany s_readKind t.2.2.2 s_rowSet s_bestSet s_tape s_readWorths))  (h : B_X11_faultOf_264 kx rec s_at s_readMany s_readKind s_readCut s_readWorths v1 v3 v4 v5 = some res) : GG p l e rm_X11_faultOf s m args below meth c (MQ below (cQi D w0 sz res.1 (W_X11_faultOf k h_t h_t_tape h_t_readWorths h_t_w h_t_firsts h_t_sizes h_t_worths h_t_dues h_t_sums h_t_worthOf h_t_lies h_t_pairs h_t_row h_t_hands h_t_paidOn h_t_lates h_t_fixed h_t_lanes h_t_longs h_t_items h_t_hand h_t_used s_isKept s_taped s_pieces res.2.1 res.2.2.1 res.2.2.2.1 res.2.2.2.2.1 s_rowSet s_bestSet s_tape res.2.2.2.2.2)) args s 0 0 A) D A 6 0 0 264 [(0, .ref h_t), (1, .int v1), (3, .int v3), (4, .int v4), (5, .int v5)] [] (W_X11_faultOf k h_t h_t_tape h_t_readWorths h_t_w h_t_firsts h_t_sizes h_t_worths h_t_dues h_t_sums h_t_worthOf h_t_lies h_t_pairs h_t_row h_t_hands h_t_paidOn h_t_lates h_t_fixed h_t_lanes h_t_longs h_t_items h_t_hand h_t_used s_isKept s_taped s_pieces s_at s_readMany s_readKind s_readCut s_rowSet s_bestSet s_tape s_readWorths) := by
  unfold B_X11_faultOf_264 at h
  refine g_aload_n 264 C 0 dX11_faultOf_264 rfl rfl ?_
  refine g_get 265 C in_X11_faultOf_X11 0 8 rfl rfl (by decide) fl_X11_faultOf_123 rfl rfl dX11_faultOf_265 ?_
  refine g_iload 268 C 3 dX11_faultOf_268 rfl ?_
  refine g_icmp_eq 270 291 C dX11_faultOf_270 (by decide) (fun c => ?_) (fun c => ?_)
  · replace h := it_e c h
    refine GG.sub (lv' := [(4, .int v4)]) [3] rfl ?_
    exact ok_B_X11_faultOf_291 C hA hx hr h
  · replace h := if_e c h
    refine g_iload 273 C 4 dX11_faultOf_273 rfl ?_
    refine g_iload_n 275 C 1 dX11_faultOf_275 rfl rfl ?_
    refine g_icmp_ge 276 291 C dX11_faultOf_276 (by decide) (fun c => ?_) (fun c => ?_)
    · replace h := it_e c h
      refine GG.sub (lv' := [(4, .int v4)]) [3] rfl ?_
      exact ok_B_X11_faultOf_291 C hA hx hr h
    · replace h := if_e c h
      refine g_aload_n 279 C 0 dX11_faultOf_279 rfl rfl ?_
      refine g_get 280 C in_X11_faultOf_X11 0 12 rfl rfl (by decide) fl_X11_faultOf_129 rfl rfl dX11_faultOf_280 ?_
      refine g_iload 283 C 4 dX11_faultOf_283 rfl ?_
      obtain ⟨q20, e21, h⟩ := bi_e h
      refine g_callSi 285 C (As := [.int s_readCut, .int v5]) [] [0, 1, 2] [0, 1, 2] (W_X11_faultOf k h_t h_t_tape h_t_readWorths h_t_w h_t_firsts h_t_sizes h_t_worths h_t_dues h_t_sums h_t_worthOf h_t_lies h_t_pairs h_t_row h_t_hands h_t_paidOn h_t_lates h_t_fixed h_t_lanes h_t_longs h_t_items h_t_hand h_t_used s_isKept s_taped s_pieces s_at s_readMany s_readKind s_readCut s_rowSet s_bestSet s_tape s_readWorths) (fun sz => k_X11_has s_readCut v5 q20 e21 sz) gX11_faultOf_X11_has rfl pd_X11_has rfl ⟨rfl, rfl, Nat.le_of_ble_eq_true rfl, Nat.le_of_ble_eq_true rfl⟩ (Nat.le_of_ble_eq_true rfl) ⟨Nat.zero_le _, Nat.zero_le _⟩ ⟨rfl, rfl, rfl, rfl, rfl, by decide, rfl⟩ rfl dX11_faultOf_285 ?_
      refine g_if_eq 288 294 C dX11_faultOf_288 (by decide) (fun c => ?_) (fun c => ?_)
      · replace h := it_e c h
        refine g_aload_n 294 C 0 dX11_faultOf_294 rfl rfl ?_
        refine g_dup 295 C dX11_faultOf_295 rfl ?_
        refine g_get 296 C in_X11_faultOf_X11 0 12 rfl rfl (by decide) fl_X11_faultOf_129 rfl rfl dX11_faultOf_296 ?_
        refine g_iconst 299 C (1 : Int32) dX11_faultOf_299 (by decide) ?_
        refine g_iload 300 C 4 dX11_faultOf_300 rfl ?_
        refine g_ishl 302 C dX11_faultOf_302 ?_
        refine g_ior 303 C dX11_faultOf_303 ?_
        refine g_put 304 C (W_X11_faultOf k h_t h_t_tape h_t_readWorths h_t_w h_t_firsts h_t_sizes h_t_worths h_t_dues h_t_sums h_t_worthOf h_t_lies h_t_pairs h_t_row h_t_hands h_t_paidOn h_t_lates h_t_fixed h_t_lanes h_t_longs h_t_items h_t_hand h_t_used s_isKept s_taped s_pieces s_at s_readMany s_readKind (s_readCut ||| ((1 : Int32) <<< (v5 &&& 31))) s_rowSet s_bestSet s_tape s_readWorths) in_X11_faultOf_X11 tyX11 tyX11_ok nmX11 0 12 rfl rfl (by decide) fl_X11_faultOf_129 rfl rfl (tyX11_ok 12 (by decide)) rfl rfl (Nat.le_of_ble_eq_true rfl) rfl dX11_faultOf_304 ?_
        refine g_bipush 307 C (44 : Int32) dX11_faultOf_307 (by decide) ?_
        refine g_istore_n 309 C [(2, .int (44 : Int32)), (0, .ref h_t), (1, .int v1), (3, .int v3), (4, .int v4), (5, .int v5)] dX11_faultOf_309 rfl (by decide) rfl ?_
        refine g_iinc 310 C 3 (1 : Int32) [(3, .int (v3 + (1 : Int32))), (2, .int (44 : Int32)), (0, .ref h_t), (1, .int v1), (4, .int v4), (5, .int v5)] dX11_faultOf_310 rfl (by decide) (by decide) rfl ?_
        refine g_goto 313 149 C dX11_faultOf_313 (by decide) ?_
        refine GG.sub (lv' := [(0, .ref h_t), (1, .int v1), (2, .int (44 : Int32)), (3, .int (v3 + (1 : Int32)))]) [2, 3, 1, 0] rfl ?_
        exact hr ((44 : Int32), (v3 + (1 : Int32)), s_at, (s_readCut ||| ((1 : Int32) <<< (v5 &&& 31)))) h
      · replace h := if_e c h
        refine GG.sub (lv' := [(4, .int v4)]) [3] rfl ?_
        exact ok_B_X11_faultOf_291 C hA hx hr h
set_option maxHeartbeats 4000000 in
set_option maxRecDepth 100000 in
theorem ok_L_X11_faultOf_149 {h_t : Nat} {h_t_tape : Nat} {h_t_readWorths : Nat} {h_t_w : Nat} {h_t_firsts : Nat} {h_t_sizes : Nat} {h_t_worths : Nat} {h_t_dues : Nat} {h_t_sums : Nat} {h_t_worthOf : Nat} {h_t_lies : Nat} {h_t_pairs : Nat} {h_t_row : Nat} {h_t_hands : Nat} {h_t_paidOn : Nat} {h_t_lates : Nat} {h_t_fixed : Nat} {h_t_lanes : Nat} {h_t_longs : Nat} {h_t_items : Nat} {h_t_hand : Nat} {h_t_used : Nat} {s_isKept : Int32} {s_taped : Int32} {s_pieces : Int32} {s_readMany : Int32} {s_readKind : Int32} {s_rowSet : Int32} {s_bestSet : Int32} {s_tape : Nat → Int32} {s_readWorths : Nat → Int32} {v1 : Int32} {res : Int32 × Int32 × Int32 × Int32 × Int32 × (Nat → Int32)} (C : CX p s m args meth c cX11_faultOf wsX11_faultOf RX11 6 D k A (some .int)) (hA : A = va_A w0 sz) {kx : Int32 × Int32 × Int32 × Int32 → Option (Int32 × Int32 × Int32 × Int32 × Int32 × (Nat → Int32))} (hx : ∀ t : Int32 × Int32 × Int32 × Int32, kx t = some res → GG p l e rm_X11_faultOf s m args below meth c (MQ below (cQi D w0 sz res.1 (W_X11_faultOf k h_t h_t_tape h_t_readWorths h_t_w h_t_firsts h_t_sizes h_t_worths h_t_dues h_t_sums h_t_worthOf h_t_lies h_t_pairs h_t_row h_t_hands h_t_paidOn h_t_lates h_t_fixed h_t_lanes h_t_longs h_t_items h_t_hand h_t_used s_isKept s_taped s_pieces res.2.1 res.2.2.1 res.2.2.2.1 res.2.2.2.2.1 s_rowSet s_bestSet s_tape res.2.2.2.2.2)) args s 0 0 A) D A 6 0 0 316 [(0, .ref h_t)] [] (W_X11_faultOf k h_t h_t_tape h_t_readWorths h_t_w h_t_firsts h_t_sizes h_t_worths h_t_dues h_t_sums h_t_worthOf h_t_lies h_t_pairs h_t_row h_t_hands h_t_paidOn h_t_lates h_t_fixed h_t_lanes h_t_longs h_t_items h_t_hand h_t_used s_isKept s_taped s_pieces t.2.2.1 s_readMany s_readKind t.2.2.2 s_rowSet s_bestSet s_tape s_readWorths)) : ∀ (n : Nat) (t : Int32 × Int32 × Int32 × Int32), L_X11_faultOf_149 s_taped s_readMany s_readKind s_tape s_readWorths v1 kx n t = some res → GG p l e rm_X11_faultOf s m args below meth c (MQ below (cQi D w0 sz res.1 (W_X11_faultOf k h_t h_t_tape h_t_readWorths h_t_w h_t_firsts h_t_sizes h_t_worths h_t_dues h_t_sums h_t_worthOf h_t_lies h_t_pairs h_t_row h_t_hands h_t_paidOn h_t_lates h_t_fixed h_t_lanes h_t_longs h_t_items h_t_hand h_t_used s_isKept s_taped s_pieces res.2.1 res.2.2.1 res.2.2.2.1 res.2.2.2.2.1 s_rowSet s_bestSet s_tape res.2.2.2.2.2)) args s 0 0 A) D A 6 0 0 149 [(0, .ref h_t), (1, .int v1), (2, .int t.1), (3, .int t.2.1)] [] (W_X11_faultOf k h_t h_t_tape h_t_readWorths h_t_w h_t_firsts h_t_sizes h_t_worths h_t_dues h_t_sums h_t_worthOf h_t_lies h_t_pairs h_t_row h_t_hands h_t_paidOn h_t_lates h_t_fixed h_t_lanes h_t_longs h_t_items h_t_hand h_t_used s_isKept s_taped s_pieces t.2.2.1 s_readMany s_readKind t.2.2.2 s_rowSet s_bestSet s_tape s_readWorths) := by
  intro n
  induction n with
  | zero => intro t h; cases h
  | succ n ih =>
    intro t h
    obtain ⟨v2, v3, s_at, s_readCut⟩ := t
    replace h : LB_X11_faultOf_149 s_taped s_readMany s_readKind s_tape s_readWorths v1 kx (L_X11_faultOf_149 s_taped s_readMany s_readKind s_tape s_readWorths v1 kx n) v2 v3 s_at s_readCut = some res := h
    have hr := ih
    unfold LB_X11_faultOf_149 at h
    refine g_iload_n 149 C 3 dX11_faultOf_149 rfl rfl ?_
    refine g_iconst 150 C (5 : Int32) dX11_faultOf_150 (by decide) ?_
    refine g_icmp_ge 151 316 C dX11_faultOf_151 (by decide) (fun c => ?_) (fun c => ?_)
    · replace h := it_e c h
      refine GG.sub (lv' := [(0, .ref h_t)]) [0] rfl ?_
      exact hx (v2, v3, s_at, s_readCut) h
    · replace h := if_e c h
      refine g_aload_n 154 C 0 dX11_faultOf_154 rfl rfl ?_
      obtain ⟨q12, e13, h⟩ := bi_e h
      refine g_callVi 155 C (As := []) [0, 1] [2] [1, 2, 0] (W_X11_faultOf k h_t h_t_tape h_t_readWorths h_t_w h_t_firsts h_t_sizes h_t_worths h_t_dues h_t_sums h_t_worthOf h_t_lies h_t_pairs h_t_row h_t_hands h_t_paidOn h_t_lates h_t_fixed h_t_lanes h_t_longs h_t_items h_t_hand h_t_used s_isKept s_taped s_pieces q12.2 s_readMany s_readKind s_readCut s_rowSet s_bestSet s_tape s_readWorths) 0 (fun sz => k_X11_ahead h_t h_t_tape h_t_w h_t_firsts h_t_sizes h_t_worths h_t_readWorths h_t_dues h_t_sums h_t_worthOf h_t_lies h_t_pairs h_t_row h_t_hands h_t_paidOn h_t_lates h_t_fixed h_t_lanes h_t_longs h_t_items h_t_hand h_t_used s_isKept s_taped s_pieces s_at s_readMany s_readKind s_readCut s_rowSet s_bestSet s_tape q12 e13 sz) gX11_faultOf_X11_ahead rfl pd_X11_ahead rfl rfl rfl ⟨rfl, rfl, Nat.le_of_ble_eq_true rfl, Nat.le_of_ble_eq_true rfl⟩ (Nat.le_of_ble_eq_true rfl) ⟨Nat.zero_le _, Nat.zero_le _⟩ ⟨rfl, rfl, rfl, rfl, rfl, by decide, rfl⟩ rfl dX11_faultOf_155 ?_
      refine g_iload_n 158 C 2 dX11_faultOf_158 rfl rfl ?_
      refine g_icmp_ne 159 316 C dX11_faultOf_159 (by decide) (fun c => ?_) (fun c => ?_)
      · replace h := if_e c h
        refine GG.sub (lv' := [(0, .ref h_t)]) [0] rfl ?_
        exact hx (v2, v3, q12.2, s_readCut) h
      · replace h := it_e c h
        refine g_aload_n 162 C 0 dX11_faultOf_162 rfl rfl ?_
        refine g_dup 163 C dX11_faultOf_163 rfl ?_
        refine g_get 164 C in_X11_faultOf_X11 0 8 rfl rfl (by decide) fl_X11_faultOf_123 rfl rfl dX11_faultOf_164 ?_
        refine g_iconst 167 C (1 : Int32) dX11_faultOf_167 (by decide) ?_
        refine g_iadd 168 C dX11_faultOf_168 ?_
        refine g_put 169 C (W_X11_faultOf k h_t h_t_tape h_t_readWorths h_t_w h_t_firsts h_t_sizes h_t_worths h_t_dues h_t_sums h_t_worthOf h_t_lies h_t_pairs h_t_row h_t_hands h_t_paidOn h_t_lates h_t_fixed h_t_lanes h_t_longs h_t_items h_t_hand h_t_used s_isKept s_taped s_pieces (q12.2 + (1 : Int32)) s_readMany s_readKind s_readCut s_rowSet s_bestSet s_tape s_readWorths) in_X11_faultOf_X11 tyX11 tyX11_ok nmX11 0 8 rfl rfl (by decide) fl_X11_faultOf_123 rfl rfl (tyX11_ok 8 (by decide)) rfl rfl (Nat.le_of_ble_eq_true rfl) rfl dX11_faultOf_169 ?_
        refine g_aload_n 172 C 0 dX11_faultOf_172 rfl rfl ?_
        obtain ⟨q14, e15, h⟩ := bi_e h
        refine g_callVi 173 C (As := []) [0, 1] [2] [1, 2, 0] (W_X11_faultOf k h_t h_t_tape h_t_readWorths h_t_w h_t_firsts h_t_sizes h_t_worths h_t_dues h_t_sums h_t_worthOf h_t_lies h_t_pairs h_t_row h_t_hands h_t_paidOn h_t_lates h_t_fixed h_t_lanes h_t_longs h_t_items h_t_hand h_t_used s_isKept s_taped s_pieces q14.2 s_readMany s_readKind s_readCut s_rowSet s_bestSet s_tape s_readWorths) 0 (fun sz => k_X11_ahead h_t h_t_tape h_t_w h_t_firsts h_t_sizes h_t_worths h_t_readWorths h_t_dues h_t_sums h_t_worthOf h_t_lies h_t_pairs h_t_row h_t_hands h_t_paidOn h_t_lates h_t_fixed h_t_lanes h_t_longs h_t_items h_t_hand h_t_used s_isKept s_taped s_pieces (q12.2 + (1 : Int32)) s_readMany s_readKind s_readCut s_rowSet s_bestSet s_tape q14 e15 sz) gX11_faultOf_X11_ahead rfl pd_X11_ahead rfl rfl rfl ⟨rfl, rfl, Nat.le_of_ble_eq_true rfl, Nat.le_of_ble_eq_true rfl⟩ (Nat.le_of_ble_eq_true rfl) ⟨Nat.zero_le _, Nat.zero_le _⟩ ⟨rfl, rfl, rfl, rfl, rfl, by decide, rfl⟩ rfl dX11_faultOf_173 ?_
        refine g_pop 176 C dX11_faultOf_176 rfl ?_
        refine g_aload_n 177 C 0 dX11_faultOf_177 rfl rfl ?_
        refine g_get 178 C in_X11_faultOf_X11 0 8 rfl rfl (by decide) fl_X11_faultOf_123 rfl rfl dX11_faultOf_178 ?_
        refine g_istore 181 C [(4, .int q14.2), (0, .ref h_t), (1, .int v1), (2, .int v2), (3, .int v3)] dX11_faultOf_181 (by decide) rfl ?_
        refine g_iconst 183 C (0 : Int32) dX11_faultOf_183 (by decide) ?_
        refine g_istore 184 C [(5, .int (0 : Int32)), (4, .int q14.2), (0, .ref h_t), (1, .int v1), (2, .int v2), (3, .int v3)] dX11_faultOf_184 (by decide) rfl ?_
        refine GG.sub (lv' := [(0, .ref h_t), (1, .int v1), (3, .int v3), (4, .int q14.2), (5, .int (0 : Int32))]) [2, 3, 5, 1, 0] rfl ?_
        exact ok_L_X11_faultOf_186 C hA (fun t h => by
          refine GG.sub (lv' := [(0, .ref h_t), (1, .int v1), (3, .int v3), (4, .int q14.2), (5, .int t.1)]) [0, 1, 2, 3, 4] rfl ?_
          exact ok_B_X11_faultOf_264 C hA hx hr h) FUEL ((0 : Int32), q14.2) h
set_option maxHeartbeats 4000000 in
set_option maxRecDepth 100000 in
theorem ok_B_X11_faultOf_331 {h_t : Nat} {h_t_tape : Nat} {h_t_readWorths : Nat} {h_t_w : Nat} {h_t_firsts : Nat} {h_t_sizes : Nat} {h_t_worths : Nat} {h_t_dues : Nat} {h_t_sums : Nat} {h_t_worthOf : Nat} {h_t_lies : Nat} {h_t_pairs : Nat} {h_t_row : Nat} {h_t_hands : Nat} {h_t_paidOn : Nat} {h_t_lates : Nat} {h_t_fixed : Nat} {h_t_lanes : Nat} {h_t_longs : Nat} {h_t_items : Nat} {h_t_hand : Nat} {h_t_used : Nat} {s_isKept : Int32} {s_taped : Int32} {s_pieces : Int32} {s_at : Int32} {s_readMany : Int32} {s_readKind : Int32} {s_readCut : Int32} {s_rowSet : Int32} {s_bestSet : Int32} {s_tape : Nat → Int32} {s_readWorths : Nat → Int32} {x0 : Int32} {res : Int32 × Int32 × Int32 × Int32 × Int32 × (Nat → Int32)} (C : CX p s m args meth c cX11_faultOf wsX11_faultOf RX11 6 D k A (some .int)) (hA : A = va_A w0 sz)  (h : B_X11_faultOf_331 s_at s_readMany s_readKind s_readCut s_readWorths x0 = some res) : GG p l e rm_X11_faultOf s m args below meth c (MQ below (cQi D w0 sz res.1 (W_X11_faultOf k h_t h_t_tape h_t_readWorths h_t_w h_t_firsts h_t_sizes h_t_worths h_t_dues h_t_sums h_t_worthOf h_t_lies h_t_pairs h_t_row h_t_hands h_t_paidOn h_t_lates h_t_fixed h_t_lanes h_t_longs h_t_items h_t_hand h_t_used s_isKept s_taped s_pieces res.2.1 res.2.2.1 res.2.2.2.1 res.2.2.2.2.1 s_rowSet s_bestSet s_tape res.2.2.2.2.2)) args s 0 0 A) D A 6 0 0 331 [] [.int x0] (W_X11_faultOf k h_t h_t_tape h_t_readWorths h_t_w h_t_firsts h_t_sizes h_t_worths h_t_dues h_t_sums h_t_worthOf h_t_lies h_t_pairs h_t_row h_t_hands h_t_paidOn h_t_lates h_t_fixed h_t_lanes h_t_longs h_t_items h_t_hand h_t_used s_isKept s_taped s_pieces s_at s_readMany s_readKind s_readCut s_rowSet s_bestSet s_tape s_readWorths) := by
  unfold B_X11_faultOf_331 at h
  obtain rfl := Option.some.inj h
  exact g_iret 331 C hA rfl dX11_faultOf_331 rfl
set_option maxHeartbeats 4000000 in
set_option maxRecDepth 100000 in
theorem ok_B_X11_faultOf_316 {h_t : Nat} {h_t_tape : Nat} {h_t_readWorths : Nat} {h_t_w : Nat} {h_t_firsts : Nat} {h_t_sizes : Nat} {h_t_worths : Nat} {h_t_dues : Nat} {h_t_sums : Nat} {h_t_worthOf : Nat} {h_t_lies : Nat} {h_t_pairs : Nat} {h_t_row : Nat} {h_t_hands : Nat} {h_t_paidOn : Nat} {h_t_lates : Nat} {h_t_fixed : Nat} {h_t_lanes : Nat} {h_t_longs : Nat} {h_t_items : Nat} {h_t_hand : Nat} {h_t_used : Nat} {s_isKept : Int32} {s_taped : Int32} {s_pieces : Int32} {s_at : Int32} {s_readMany : Int32} {s_readKind : Int32} {s_readCut : Int32} {s_rowSet : Int32} {s_bestSet : Int32} {s_tape : Nat → Int32} {s_readWorths : Nat → Int32} {res : Int32 × Int32 × Int32 × Int32 × Int32 × (Nat → Int32)} (C : CX p s m args meth c cX11_faultOf wsX11_faultOf RX11 6 D k A (some .int)) (hA : A = va_A w0 sz)  (h : B_X11_faultOf_316 s_taped s_at s_readMany s_readKind s_readCut s_tape s_readWorths = some res) : GG p l e rm_X11_faultOf s m args below meth c (MQ below (cQi D w0 sz res.1 (W_X11_faultOf k h_t h_t_tape h_t_readWorths h_t_w h_t_firsts h_t_sizes h_t_worths h_t_dues h_t_sums h_t_worthOf h_t_lies h_t_pairs h_t_row h_t_hands h_t_paidOn h_t_lates h_t_fixed h_t_lanes h_t_longs h_t_items h_t_hand h_t_used s_isKept s_taped s_pieces res.2.1 res.2.2.1 res.2.2.2.1 res.2.2.2.2.1 s_rowSet s_bestSet s_tape res.2.2.2.2.2)) args s 0 0 A) D A 6 0 0 316 [(0, .ref h_t)] [] (W_X11_faultOf k h_t h_t_tape h_t_readWorths h_t_w h_t_firsts h_t_sizes h_t_worths h_t_dues h_t_sums h_t_worthOf h_t_lies h_t_pairs h_t_row h_t_hands h_t_paidOn h_t_lates h_t_fixed h_t_lanes h_t_longs h_t_items h_t_hand h_t_used s_isKept s_taped s_pieces s_at s_readMany s_readKind s_readCut s_rowSet s_bestSet s_tape s_readWorths) := by
  unfold B_X11_faultOf_316 at h
  refine g_aload_n 316 C 0 dX11_faultOf_316 rfl rfl ?_
  obtain ⟨q22, e23, h⟩ := bi_e h
  refine g_callVi 317 C (As := []) [0, 1] [2] [1, 2, 0] (W_X11_faultOf k h_t h_t_tape h_t_readWorths h_t_w h_t_firsts h_t_sizes h_t_worths h_t_dues h_t_sums h_t_worthOf h_t_lies h_t_pairs h_t_row h_t_hands h_t_paidOn h_t_lates h_t_fixed h_t_lanes h_t_longs h_t_items h_t_hand h_t_used s_isKept s_taped s_pieces q22.2 s_readMany s_readKind s_readCut s_rowSet s_bestSet s_tape s_readWorths) 0 (fun sz => k_X11_ahead h_t h_t_tape h_t_w h_t_firsts h_t_sizes h_t_worths h_t_readWorths h_t_dues h_t_sums h_t_worthOf h_t_lies h_t_pairs h_t_row h_t_hands h_t_paidOn h_t_lates h_t_fixed h_t_lanes h_t_longs h_t_items h_t_hand h_t_used s_isKept s_taped s_pieces s_at s_readMany s_readKind s_readCut s_rowSet s_bestSet s_tape q22 e23 sz) gX11_faultOf_X11_ahead rfl pd_X11_ahead rfl rfl rfl ⟨rfl, rfl, Nat.le_of_ble_eq_true rfl, Nat.le_of_ble_eq_true rfl⟩ (Nat.le_of_ble_eq_true rfl) ⟨Nat.zero_le _, Nat.zero_le _⟩ ⟨rfl, rfl, rfl, rfl, rfl, by decide, rfl⟩ rfl dX11_faultOf_317 ?_
  refine g_if_ge 320 327 C dX11_faultOf_320 (by decide) (fun c => ?_) (fun c => ?_)
  · replace h := it_e c h
    refine g_aload_n 327 C 0 dX11_faultOf_327 rfl rfl ?_
    refine g_get 328 C in_X11_faultOf_X11 0 8 rfl rfl (by decide) fl_X11_faultOf_123 rfl rfl dX11_faultOf_328 ?_
    refine GG.sub (lv' := []) [] rfl ?_
    exact ok_B_X11_faultOf_331 C hA h
  · replace h := if_e c h
    refine g_iconst 323 C (-1 : Int32) dX11_faultOf_323 (by decide) ?_
    refine g_goto 324 331 C dX11_faultOf_324 (by decide) ?_
    refine GG.sub (lv' := []) [] rfl ?_
    exact ok_B_X11_faultOf_331 C hA h
set_option maxHeartbeats 4000000 in
set_option maxRecDepth 100000 in
theorem ok_B_X11_faultOf_142 {h_t : Nat} {h_t_tape : Nat} {h_t_readWorths : Nat} {h_t_w : Nat} {h_t_firsts : Nat} {h_t_sizes : Nat} {h_t_worths : Nat} {h_t_dues : Nat} {h_t_sums : Nat} {h_t_worthOf : Nat} {h_t_lies : Nat} {h_t_pairs : Nat} {h_t_row : Nat} {h_t_hands : Nat} {h_t_paidOn : Nat} {h_t_lates : Nat} {h_t_fixed : Nat} {h_t_lanes : Nat} {h_t_longs : Nat} {h_t_items : Nat} {h_t_hand : Nat} {h_t_used : Nat} {s_isKept : Int32} {s_taped : Int32} {s_pieces : Int32} {s_at : Int32} {s_readMany : Int32} {s_readKind : Int32} {s_readCut : Int32} {s_rowSet : Int32} {s_bestSet : Int32} {s_tape : Nat → Int32} {s_readWorths : Nat → Int32} {x0 : Int32} {x1 : Int32} {res : Int32 × Int32 × Int32 × Int32 × Int32 × (Nat → Int32)} (C : CX p s m args meth c cX11_faultOf wsX11_faultOf RX11 6 D k A (some .int)) (hA : A = va_A w0 sz)  (h : B_X11_faultOf_142 s_taped s_at s_readMany s_readKind s_readCut s_tape s_readWorths x0 x1 = some res) : GG p l e rm_X11_faultOf s m args below meth c (MQ below (cQi D w0 sz res.1 (W_X11_faultOf k h_t h_t_tape h_t_readWorths h_t_w h_t_firsts h_t_sizes h_t_worths h_t_dues h_t_sums h_t_worthOf h_t_lies h_t_pairs h_t_row h_t_hands h_t_paidOn h_t_lates h_t_fixed h_t_lanes h_t_longs h_t_items h_t_hand h_t_used s_isKept s_taped s_pieces res.2.1 res.2.2.1 res.2.2.2.1 res.2.2.2.2.1 s_rowSet s_bestSet s_tape res.2.2.2.2.2)) args s 0 0 A) D A 6 0 0 142 [(0, .ref h_t)] [.int x0, .int x1] (W_X11_faultOf k h_t h_t_tape h_t_readWorths h_t_w h_t_firsts h_t_sizes h_t_worths h_t_dues h_t_sums h_t_worthOf h_t_lies h_t_pairs h_t_row h_t_hands h_t_paidOn h_t_lates h_t_fixed h_t_lanes h_t_longs h_t_items h_t_hand h_t_used s_isKept s_taped s_pieces s_at s_readMany s_readKind s_readCut s_rowSet s_bestSet s_tape s_readWorths) := by
  unfold B_X11_faultOf_142 at h
  refine g_isub 142 C dX11_faultOf_142 ?_
  refine g_istore_n 143 C [(1, .int (x1 - x0)), (0, .ref h_t)] dX11_faultOf_143 rfl (by decide) rfl ?_
  refine g_bipush 144 C (47 : Int32) dX11_faultOf_144 (by decide) ?_
  refine g_istore_n 146 C [(2, .int (47 : Int32)), (1, .int (x1 - x0)), (0, .ref h_t)] dX11_faultOf_146 rfl (by decide) rfl ?_
  refine g_iconst 147 C (0 : Int32) dX11_faultOf_147 (by decide) ?_
  refine g_istore_n 148 C [(3, .int (0 : Int32)), (2, .int (47 : Int32)), (1, .int (x1 - x0)), (0, .ref h_t)] dX11_faultOf_148 rfl (by decide) rfl ?_
  refine GG.sub (lv' := [(0, .ref h_t), (1, .int (x1 - x0)), (2, .int (47 : Int32)), (3, .int (0 : Int32))]) [3, 2, 1, 0] rfl ?_
  exact ok_L_X11_faultOf_149 C hA (fun t h => by
    refine GG.sub (lv' := [(0, .ref h_t)]) [0] rfl ?_
    exact ok_B_X11_faultOf_316 C hA h) FUEL ((47 : Int32), (0 : Int32), s_at, s_readCut) h
set_option maxHeartbeats 4000000 in
set_option maxRecDepth 100000 in
theorem ok_B_X11_faultOf_113 {h_t : Nat} {h_t_tape : Nat} {h_t_readWorths : Nat} {h_t_w : Nat} {h_t_firsts : Nat} {h_t_sizes : Nat} {h_t_worths : Nat} {h_t_dues : Nat} {h_t_sums : Nat} {h_t_worthOf : Nat} {h_t_lies : Nat} {h_t_pairs : Nat} {h_t_row : Nat} {h_t_hands : Nat} {h_t_paidOn : Nat} {h_t_lates : Nat} {h_t_fixed : Nat} {h_t_lanes : Nat} {h_t_longs : Nat} {h_t_items : Nat} {h_t_hand : Nat} {h_t_used : Nat} {s_isKept : Int32} {s_taped : Int32} {s_pieces : Int32} {s_at : Int32} {s_readMany : Int32} {s_readKind : Int32} {s_readCut : Int32} {s_rowSet : Int32} {s_bestSet : Int32} {s_tape : Nat → Int32} {s_readWorths : Nat → Int32} {res : Int32 × Int32 × Int32 × Int32 × Int32 × (Nat → Int32)} (C : CX p s m args meth c cX11_faultOf wsX11_faultOf RX11 6 D k A (some .int)) (hA : A = va_A w0 sz)  (h : B_X11_faultOf_113 s_taped s_at s_readMany s_readKind s_readCut s_tape s_readWorths = some res) : GG p l e rm_X11_faultOf s m args below meth c (MQ below (cQi D w0 sz res.1 (W_X11_faultOf k h_t h_t_tape h_t_readWorths h_t_w h_t_firsts h_t_sizes h_t_worths h_t_dues h_t_sums h_t_worthOf h_t_lies h_t_pairs h_t_row h_t_hands h_t_paidOn h_t_lates h_t_fixed h_t_lanes h_t_longs h_t_items h_t_hand h_t_used s_isKept s_taped s_pieces res.2.1 res.2.2.1 res.2.2.2.1 res.2.2.2.2.1 s_rowSet s_bestSet s_tape res.2.2.2.2.2)) args s 0 0 A) D A 6 0 0 113 [(0, .ref h_t)] [] (W_X11_faultOf k h_t h_t_tape h_t_readWorths h_t_w h_t_firsts h_t_sizes h_t_worths h_t_dues h_t_sums h_t_worthOf h_t_lies h_t_pairs h_t_row h_t_hands h_t_paidOn h_t_lates h_t_fixed h_t_lanes h_t_longs h_t_items h_t_hand h_t_used s_isKept s_taped s_pieces s_at s_readMany s_readKind s_readCut s_rowSet s_bestSet s_tape s_readWorths) := by
  unfold B_X11_faultOf_113 at h
  refine g_aload_n 113 C 0 dX11_faultOf_113 rfl rfl ?_
  refine g_get 114 C in_X11_faultOf_X11 0 10 rfl rfl (by decide) fl_X11_faultOf_126 rfl rfl dX11_faultOf_114 ?_
  refine g_if_ne 117 125 C dX11_faultOf_117 (by decide) (fun c => ?_) (fun c => ?_)
  · replace h := if_e c h
    refine g_aload_n 125 C 0 dX11_faultOf_125 rfl rfl ?_
    refine g_get 126 C in_X11_faultOf_X11 0 10 rfl rfl (by decide) fl_X11_faultOf_126 rfl rfl dX11_faultOf_126 ?_
    refine g_aload_n 129 C 0 dX11_faultOf_129 rfl rfl ?_
    refine g_get 130 C in_X11_faultOf_X11 0 11 rfl rfl (by decide) fl_X11_faultOf_138 rfl rfl dX11_faultOf_130 ?_
    refine g_iconst 133 C (2 : Int32) dX11_faultOf_133 (by decide) ?_
    refine g_icmp_lt 134 141 C dX11_faultOf_134 (by decide) (fun c => ?_) (fun c => ?_)
    · replace h := it_e c h
      refine g_iconst 141 C (0 : Int32) dX11_faultOf_141 (by decide) ?_
      refine GG.sub (lv' := [(0, .ref h_t)]) [0] rfl ?_
      exact ok_B_X11_faultOf_142 C hA h
    · replace h := if_e c h
      refine g_iconst 137 C (1 : Int32) dX11_faultOf_137 (by decide) ?_
      refine g_goto 138 142 C dX11_faultOf_138 (by decide) ?_
      refine GG.sub (lv' := [(0, .ref h_t)]) [0] rfl ?_
      exact ok_B_X11_faultOf_142 C hA h
  · replace h := it_e c h
    refine g_aload_n 120 C 0 dX11_faultOf_120 rfl rfl ?_
    refine g_get 121 C in_X11_faultOf_X11 0 8 rfl rfl (by decide) fl_X11_faultOf_123 rfl rfl dX11_faultOf_121 ?_
    obtain rfl := Option.some.inj h
    exact g_iret 124 C hA rfl dX11_faultOf_124 rfl
set_option maxHeartbeats 4000000 in
set_option maxRecDepth 100000 in
theorem k_X11_faultOf {l : Launch} {D : va_G} {k : Nat → ClassId} (h_t : Nat) (h_t_tape : Nat) (h_t_readWorths : Nat) (h_t_w : Nat) (h_t_firsts : Nat) (h_t_sizes : Nat) (h_t_worths : Nat) (h_t_dues : Nat) (h_t_sums : Nat) (h_t_worthOf : Nat) (h_t_lies : Nat) (h_t_pairs : Nat) (h_t_row : Nat) (h_t_hands : Nat) (h_t_paidOn : Nat) (h_t_lates : Nat) (h_t_fixed : Nat) (h_t_lanes : Nat) (h_t_longs : Nat) (h_t_items : Nat) (h_t_hand : Nat) (h_t_used : Nat) (s_isKept : Int32) (s_taped : Int32) (s_pieces : Int32) (s_at : Int32) (s_readMany : Int32) (s_readKind : Int32) (s_readCut : Int32) (s_rowSet : Int32) (s_bestSet : Int32) (s_tape : Nat → Int32) (s_readWorths : Nat → Int32) (res : Int32 × Int32 × Int32 × Int32 × Int32 × (Nat → Int32)) (h : f_X11_faultOf s_taped s_tape s_readWorths = some res) (sz : Nat) : Met l yX11_faultOf wsX11_faultOf rm_X11_faultOf (cPre D k [.ref h_t] (W_X11_faultOf k h_t h_t_tape h_t_readWorths h_t_w h_t_firsts h_t_sizes h_t_worths h_t_dues h_t_sums h_t_worthOf h_t_lies h_t_pairs h_t_row h_t_hands h_t_paidOn h_t_lates h_t_fixed h_t_lanes h_t_longs h_t_items h_t_hand h_t_used s_isKept s_taped s_pieces s_at s_readMany s_readKind s_readCut s_rowSet s_bestSet s_tape s_readWorths) sz) (cQi D (W_X11_faultOf k h_t h_t_tape h_t_readWorths h_t_w h_t_firsts h_t_sizes h_t_worths h_t_dues h_t_sums h_t_worthOf h_t_lies h_t_pairs h_t_row h_t_hands h_t_paidOn h_t_lates h_t_fixed h_t_lanes h_t_longs h_t_items h_t_hand h_t_used s_isKept s_taped s_pieces s_at s_readMany s_readKind s_readCut s_rowSet s_bestSet s_tape s_readWorths) sz res.1 (W_X11_faultOf k h_t h_t_tape h_t_readWorths h_t_w h_t_firsts h_t_sizes h_t_worths h_t_dues h_t_sums h_t_worthOf h_t_lies h_t_pairs h_t_row h_t_hands h_t_paidOn h_t_lates h_t_fixed h_t_lanes h_t_longs h_t_items h_t_hand h_t_used s_isKept s_taped s_pieces res.2.1 res.2.2.1 res.2.2.2.1 res.2.2.2.2.1 s_rowSet s_bestSet s_tape res.2.2.2.2.2)) 0 0 (va_A (W_X11_faultOf k h_t h_t_tape h_t_readWorths h_t_w h_t_firsts h_t_sizes h_t_worths h_t_dues h_t_sums h_t_worthOf h_t_lies h_t_pairs h_t_row h_t_hands h_t_paidOn h_t_lates h_t_fixed h_t_lanes h_t_longs h_t_items h_t_hand h_t_used s_isKept s_taped s_pieces s_at s_readMany s_readKind s_readCut s_rowSet s_bestSet s_tape s_readWorths) sz) := by
  refine met_of [(0, .ref h_t)] (by decide) rfl rfl (Nat.le_of_ble_eq_true rfl) rfl ?_
  intro p e s m args below meth c A hA hsz C
  unfold f_X11_faultOf at h
  refine g_aload_n 0 C 0 dX11_faultOf_0 rfl rfl ?_
  refine g_iconst 1 C (0 : Int32) dX11_faultOf_1 (by decide) ?_
  refine g_put 2 C (W_X11_faultOf k h_t h_t_tape h_t_readWorths h_t_w h_t_firsts h_t_sizes h_t_worths h_t_dues h_t_sums h_t_worthOf h_t_lies h_t_pairs h_t_row h_t_hands h_t_paidOn h_t_lates h_t_fixed h_t_lanes h_t_longs h_t_items h_t_hand h_t_used s_isKept s_taped s_pieces (0 : Int32) s_readMany s_readKind s_readCut s_rowSet s_bestSet s_tape s_readWorths) in_X11_faultOf_X11 tyX11 tyX11_ok nmX11 0 8 rfl rfl (by decide) fl_X11_faultOf_123 rfl rfl (tyX11_ok 8 (by decide)) rfl rfl (Nat.le_of_ble_eq_true rfl) rfl dX11_faultOf_2 ?_
  refine g_aload_n 5 C 0 dX11_faultOf_5 rfl rfl ?_
  refine g_iconst 6 C (0 : Int32) dX11_faultOf_6 (by decide) ?_
  refine g_put 7 C (W_X11_faultOf k h_t h_t_tape h_t_readWorths h_t_w h_t_firsts h_t_sizes h_t_worths h_t_dues h_t_sums h_t_worthOf h_t_lies h_t_pairs h_t_row h_t_hands h_t_paidOn h_t_lates h_t_fixed h_t_lanes h_t_longs h_t_items h_t_hand h_t_used s_isKept s_taped s_pieces (0 : Int32) (0 : Int32) s_readKind s_readCut s_rowSet s_bestSet s_tape s_readWorths) in_X11_faultOf_X11 tyX11 tyX11_ok nmX11 0 10 rfl rfl (by decide) fl_X11_faultOf_126 rfl rfl (tyX11_ok 10 (by decide)) rfl rfl (Nat.le_of_ble_eq_true rfl) rfl dX11_faultOf_7 ?_
  refine g_aload_n 10 C 0 dX11_faultOf_10 rfl rfl ?_
  refine g_iconst 11 C (0 : Int32) dX11_faultOf_11 (by decide) ?_
  refine g_put 12 C (W_X11_faultOf k h_t h_t_tape h_t_readWorths h_t_w h_t_firsts h_t_sizes h_t_worths h_t_dues h_t_sums h_t_worthOf h_t_lies h_t_pairs h_t_row h_t_hands h_t_paidOn h_t_lates h_t_fixed h_t_lanes h_t_longs h_t_items h_t_hand h_t_used s_isKept s_taped s_pieces (0 : Int32) (0 : Int32) s_readKind (0 : Int32) s_rowSet s_bestSet s_tape s_readWorths) in_X11_faultOf_X11 tyX11 tyX11_ok nmX11 0 12 rfl rfl (by decide) fl_X11_faultOf_129 rfl rfl (tyX11_ok 12 (by decide)) rfl rfl (Nat.le_of_ble_eq_true rfl) rfl dX11_faultOf_12 ?_
  refine g_aload_n 15 C 0 dX11_faultOf_15 rfl rfl ?_
  refine g_aload_n 16 C 0 dX11_faultOf_16 rfl rfl ?_
  obtain ⟨q1, e2, h⟩ := bi_e h
  refine g_callVi 17 C (As := []) [0, 1] [2] [1, 2, 0] (W_X11_faultOf k h_t h_t_tape h_t_readWorths h_t_w h_t_firsts h_t_sizes h_t_worths h_t_dues h_t_sums h_t_worthOf h_t_lies h_t_pairs h_t_row h_t_hands h_t_paidOn h_t_lates h_t_fixed h_t_lanes h_t_longs h_t_items h_t_hand h_t_used s_isKept s_taped s_pieces q1.2 (0 : Int32) s_readKind (0 : Int32) s_rowSet s_bestSet s_tape s_readWorths) 0 (fun sz => k_X11_ahead h_t h_t_tape h_t_w h_t_firsts h_t_sizes h_t_worths h_t_readWorths h_t_dues h_t_sums h_t_worthOf h_t_lies h_t_pairs h_t_row h_t_hands h_t_paidOn h_t_lates h_t_fixed h_t_lanes h_t_longs h_t_items h_t_hand h_t_used s_isKept s_taped s_pieces (0 : Int32) (0 : Int32) s_readKind (0 : Int32) s_rowSet s_bestSet s_tape q1 e2 sz) gX11_faultOf_X11_ahead rfl pd_X11_ahead rfl rfl rfl ⟨rfl, rfl, Nat.le_of_ble_eq_true rfl, Nat.le_of_ble_eq_true rfl⟩ (Nat.le_of_ble_eq_true rfl) ⟨Nat.zero_le _, Nat.zero_le _⟩ ⟨rfl, rfl, rfl, rfl, rfl, by decide, rfl⟩ rfl dX11_faultOf_17 ?_
  obtain ⟨q3, e4, h⟩ := bi_e h
  refine g_callSi 20 C (As := [.int q1.1]) [] [0, 1, 2] [0, 1, 2] (W_X11_faultOf k h_t h_t_tape h_t_readWorths h_t_w h_t_firsts h_t_sizes h_t_worths h_t_dues h_t_sums h_t_worthOf h_t_lies h_t_pairs h_t_row h_t_hands h_t_paidOn h_t_lates h_t_fixed h_t_lanes h_t_longs h_t_items h_t_hand h_t_used s_isKept s_taped s_pieces q1.2 (0 : Int32) s_readKind (0 : Int32) s_rowSet s_bestSet s_tape s_readWorths) (fun sz => k_X11_kindOf q1.1 q3 e4 sz) gX11_faultOf_X11_kindOf rfl pd_X11_kindOf rfl ⟨rfl, rfl, Nat.le_of_ble_eq_true rfl, Nat.le_of_ble_eq_true rfl⟩ (Nat.le_of_ble_eq_true rfl) ⟨Nat.zero_le _, Nat.zero_le _⟩ ⟨rfl, rfl, rfl, rfl, rfl, by decide, rfl⟩ rfl dX11_faultOf_20 ?_
  refine g_put 23 C (W_X11_faultOf k h_t h_t_tape h_t_readWorths h_t_w h_t_firsts h_t_sizes h_t_worths h_t_dues h_t_sums h_t_worthOf h_t_lies h_t_pairs h_t_row h_t_hands h_t_paidOn h_t_lates h_t_fixed h_t_lanes h_t_longs h_t_items h_t_hand h_t_used s_isKept s_taped s_pieces q1.2 (0 : Int32) q3 (0 : Int32) s_rowSet s_bestSet s_tape s_readWorths) in_X11_faultOf_X11 tyX11 tyX11_ok nmX11 0 11 rfl rfl (by decide) fl_X11_faultOf_138 rfl rfl (tyX11_ok 11 (by decide)) rfl rfl (Nat.le_of_ble_eq_true rfl) rfl dX11_faultOf_23 ?_
  refine g_aload_n 26 C 0 dX11_faultOf_26 rfl rfl ?_
  refine g_get 27 C in_X11_faultOf_X11 0 11 rfl rfl (by decide) fl_X11_faultOf_138 rfl rfl dX11_faultOf_27 ?_
  refine g_if_ge 30 38 C dX11_faultOf_30 (by decide) (fun c => ?_) (fun c => ?_)
  · replace h := it_e c h
    refine g_aload_n 38 C 0 dX11_faultOf_38 rfl rfl ?_
    refine g_dup 39 C dX11_faultOf_39 rfl ?_
    refine g_get 40 C in_X11_faultOf_X11 0 8 rfl rfl (by decide) fl_X11_faultOf_123 rfl rfl dX11_faultOf_40 ?_
    refine g_iconst 43 C (1 : Int32) dX11_faultOf_43 (by decide) ?_
    refine g_iadd 44 C dX11_faultOf_44 ?_
    refine g_put 45 C (W_X11_faultOf k h_t h_t_tape h_t_readWorths h_t_w h_t_firsts h_t_sizes h_t_worths h_t_dues h_t_sums h_t_worthOf h_t_lies h_t_pairs h_t_row h_t_hands h_t_paidOn h_t_lates h_t_fixed h_t_lanes h_t_longs h_t_items h_t_hand h_t_used s_isKept s_taped s_pieces (q1.2 + (1 : Int32)) (0 : Int32) q3 (0 : Int32) s_rowSet s_bestSet s_tape s_readWorths) in_X11_faultOf_X11 tyX11 tyX11_ok nmX11 0 8 rfl rfl (by decide) fl_X11_faultOf_123 rfl rfl (tyX11_ok 8 (by decide)) rfl rfl (Nat.le_of_ble_eq_true rfl) rfl dX11_faultOf_45 ?_
    refine GG.sub (lv' := [(0, .ref h_t)]) [0] rfl ?_
    exact ok_L_X11_faultOf_48 C hA (fun t h => by
      refine GG.sub (lv' := [(0, .ref h_t)]) [0] rfl ?_
      exact ok_B_X11_faultOf_113 C hA h) FUEL ((q1.2 + (1 : Int32)), (0 : Int32), s_readWorths) h
  · replace h := if_e c h
    refine g_aload_n 33 C 0 dX11_faultOf_33 rfl rfl ?_
    refine g_get 34 C in_X11_faultOf_X11 0 8 rfl rfl (by decide) fl_X11_faultOf_123 rfl rfl dX11_faultOf_34 ?_
    obtain rfl := Option.some.inj h
    exact g_iret 37 C hA rfl dX11_faultOf_37 rfl
end

/-! X11_chain -/
abbrev W_X11_chain (k : Nat → ClassId) (h_t : Nat) (h_t_tape : Nat) (h_t_readWorths : Nat) (h_t_w : Nat) (h_t_firsts : Nat) (h_t_sizes : Nat) (h_t_worths : Nat) (h_t_dues : Nat) (h_t_sums : Nat) (h_t_worthOf : Nat) (h_t_lies : Nat) (h_t_pairs : Nat) (h_t_row : Nat) (h_t_hands : Nat) (h_t_paidOn : Nat) (h_t_lates : Nat) (h_t_fixed : Nat) (h_t_lanes : Nat) (h_t_longs : Nat) (h_t_items : Nat) (h_t_hand : Nat) (h_t_used : Nat) (s_isKept : Int32) (s_taped : Int32) (s_pieces : Int32) (s_at : Int32) (s_readMany : Int32) (s_readKind : Int32) (s_readCut : Int32) (s_rowSet : Int32) (s_bestSet : Int32) (s_tape : Nat → Int32) (s_readWorths : Nat → Int32) (s_w : Nat → Int32) : va_W := [(h_t, .inr (11, [.ref h_t_w, .int s_isKept, .ref h_t_tape, .int s_taped, .ref h_t_firsts, .ref h_t_sizes, .ref h_t_worths, .int s_pieces, .int s_at, .ref h_t_readWorths, .int s_readMany, .int s_readKind, .int s_readCut, .ref h_t_dues, .ref h_t_sums, .ref h_t_worthOf, .ref h_t_lies, .ref h_t_pairs, .ref h_t_row, .int s_rowSet, .int s_bestSet, .ref h_t_hands, .ref h_t_paidOn, .ref h_t_lates, .ref h_t_fixed, .ref h_t_lanes, .ref h_t_longs, .ref h_t_items, .ref h_t_hand, .ref h_t_used])), (h_t_tape, .inl (k 0, 60, .inl s_tape)), (h_t_readWorths, .inl (k 0, 24, .inl s_readWorths)), (h_t_w, .inl (k 0, 60, .inl s_w))]
def rm_X11_chain : Room := { frames := 2, cells := 0, slots := 0, locals := 50 }
theorem in_X11_chain_X11 : ∀ w ∈ u_ws RX11 TX11 30, w ∈ wsX11_chain := by decide +kernel
theorem fl_X11_chain_120 : Cond.fieldLink RX11 120 "LinkDaysModel" "taped" "I" ∈ wsX11_chain := by decide +kernel
theorem fl_X11_chain_126 : Cond.fieldLink RX11 126 "LinkDaysModel" "readMany" "I" ∈ wsX11_chain := by decide +kernel
theorem fl_X11_chain_129 : Cond.fieldLink RX11 129 "LinkDaysModel" "readCut" "I" ∈ wsX11_chain := by decide +kernel
theorem fl_X11_chain_138 : Cond.fieldLink RX11 138 "LinkDaysModel" "readKind" "I" ∈ wsX11_chain := by decide +kernel
theorem fl_X11_chain_25 : Cond.fieldLink RX11 25 "LinkDaysModel" "readWorths" "[I" ∈ wsX11_chain := by decide +kernel
theorem fl_X11_chain_7 : Cond.fieldLink RX11 7 "LinkDaysModel" "w" "[I" ∈ wsX11_chain := by decide +kernel
theorem pd_X11_chain : yX11_chain.cls = RX11 ∧ yX11_chain.cls ≠ "java/lang/invoke/MethodHandle" ∧ yX11_chain.cls ≠ "java/lang/invoke/VarHandle" ∧ (parseMethodDescriptor yX11_chain.desc).map (fun d => d.parameters.length) = some 0 := by decide +kernel
section
variable {p : Program} {l : Launch} {e : Env} {s : State} {m : MethodId} {args : Array Value} {below : List Frame} {meth : Method} {c : Code} {D : va_G} {k : Nat → ClassId} {A : Nat → Prop} {w0 : va_W} {sz : Nat}
set_option maxHeartbeats 4000000 in
set_option maxRecDepth 100000 in
theorem ok_L_X11_chain_52 {h_t : Nat} {h_t_tape : Nat} {h_t_readWorths : Nat} {h_t_w : Nat} {h_t_firsts : Nat} {h_t_sizes : Nat} {h_t_worths : Nat} {h_t_dues : Nat} {h_t_sums : Nat} {h_t_worthOf : Nat} {h_t_lies : Nat} {h_t_pairs : Nat} {h_t_row : Nat} {h_t_hands : Nat} {h_t_paidOn : Nat} {h_t_lates : Nat} {h_t_fixed : Nat} {h_t_lanes : Nat} {h_t_longs : Nat} {h_t_items : Nat} {h_t_hand : Nat} {h_t_used : Nat} {s_isKept : Int32} {s_taped : Int32} {s_pieces : Int32} {s_at : Int32} {s_readMany : Int32} {s_readKind : Int32} {s_readCut : Int32} {s_rowSet : Int32} {s_bestSet : Int32} {s_tape : Nat → Int32} {s_readWorths : Nat → Int32} {res : Int32 × Int32 × Int32 × Int32 × Int32 × Int32 × (Nat → Int32) × (Nat → Int32)} (C : CX p s m args meth c cX11_chain wsX11_chain RX11 3 D k A (some .int)) (hA : A = va_A w0 sz) {kx : Int32 × (Nat → Int32) → Option (Int32 × Int32 × Int32 × Int32 × Int32 × Int32 × (Nat → Int32) × (Nat → Int32))} (hx : ∀ t : Int32 × (Nat → Int32), kx t = some res → GG p l e rm_X11_chain s m args below meth c (MQ below (cQi D w0 sz res.1 (W_X11_chain k h_t h_t_tape h_t_readWorths h_t_w h_t_firsts h_t_sizes h_t_worths h_t_dues h_t_sums h_t_worthOf h_t_lies h_t_pairs h_t_row h_t_hands h_t_paidOn h_t_lates h_t_fixed h_t_lanes h_t_longs h_t_items h_t_hand h_t_used s_isKept res.2.1 s_pieces res.2.2.1 res.2.2.2.1 res.2.2.2.2.1 res.2.2.2.2.2.1 s_rowSet s_bestSet s_tape res.2.2.2.2.2.2.1 res.2.2.2.2.2.2.2)) args s 0 0 A) D A 3 0 0 80 [(0, .ref h_t)] [] (W_X11_chain k h_t h_t_tape h_t_readWorths h_t_w h_t_firsts h_t_sizes h_t_worths h_t_dues h_t_sums h_t_worthOf h_t_lies h_t_pairs h_t_row h_t_hands h_t_paidOn h_t_lates h_t_fixed h_t_lanes h_t_longs h_t_items h_t_hand h_t_used s_isKept s_taped s_pieces s_at s_readMany s_readKind s_readCut s_rowSet s_bestSet s_tape s_readWorths t.2)) : ∀ (n : Nat) (t : Int32 × (Nat → Int32)), L_X11_chain_52 s_readMany s_readWorths kx n t = some res → GG p l e rm_X11_chain s m args below meth c (MQ below (cQi D w0 sz res.1 (W_X11_chain k h_t h_t_tape h_t_readWorths h_t_w h_t_firsts h_t_sizes h_t_worths h_t_dues h_t_sums h_t_worthOf h_t_lies h_t_pairs h_t_row h_t_hands h_t_paidOn h_t_lates h_t_fixed h_t_lanes h_t_longs h_t_items h_t_hand h_t_used s_isKept res.2.1 s_pieces res.2.2.1 res.2.2.2.1 res.2.2.2.2.1 res.2.2.2.2.2.1 s_rowSet s_bestSet s_tape res.2.2.2.2.2.2.1 res.2.2.2.2.2.2.2)) args s 0 0 A) D A 3 0 0 52 [(0, .ref h_t), (2, .int t.1)] [] (W_X11_chain k h_t h_t_tape h_t_readWorths h_t_w h_t_firsts h_t_sizes h_t_worths h_t_dues h_t_sums h_t_worthOf h_t_lies h_t_pairs h_t_row h_t_hands h_t_paidOn h_t_lates h_t_fixed h_t_lanes h_t_longs h_t_items h_t_hand h_t_used s_isKept s_taped s_pieces s_at s_readMany s_readKind s_readCut s_rowSet s_bestSet s_tape s_readWorths t.2) := by
  intro n
  induction n with
  | zero => intro t h; cases h
  | succ n ih =>
    intro t h
    obtain ⟨v2, s_w⟩ := t
    replace h : LB_X11_chain_52 s_readMany s_readWorths kx (L_X11_chain_52 s_readMany s_readWorths kx n) v2 s_w = some res := h
    have hr := ih
    unfold LB_X11_chain_52 at h
    refine g_iload_n 52 C 1 dX11_chain_52 rfl rfl ?_
    refine g_aload_n 53 C 0 dX11_chain_53 rfl rfl ?_
    refine g_get 54 C in_X11_chain_X11 0 10 rfl rfl (by decide) fl_X11_chain_126 rfl rfl dX11_chain_54 ?_
    refine g_icmp_ge 57 80 C dX11_chain_57 (by decide) (fun c => ?_) (fun c => ?_)
    · replace h := it_e c h
      refine GG.sub (lv' := [(0, .ref h_t)]) [0] rfl ?_
      exact hx (v2, s_w) h
    · replace h := if_e c h
      refine g_aload_n 60 C 0 dX11_chain_60 rfl rfl ?_
      refine g_get 61 C in_X11_chain_X11 0 0 rfl rfl (by decide) fl_X11_chain_7 rfl rfl dX11_chain_61 ?_
      refine g_iconst 64 C (2 : Int32) dX11_chain_64 (by decide) ?_
      refine g_iload_n 65 C 1 dX11_chain_65 rfl rfl ?_
      refine g_iadd 66 C dX11_chain_66 ?_
      refine g_aload_n 67 C 0 dX11_chain_67 rfl rfl ?_
      refine g_get 68 C in_X11_chain_X11 0 9 rfl rfl (by decide) fl_X11_chain_25 rfl rfl dX11_chain_68 ?_
      refine g_iload_n 71 C 1 dX11_chain_71 rfl rfl ?_
      obtain ⟨o6, h⟩ := ob_e h
      refine g_iald 72 C 2 rfl o6 dX11_chain_72 ?_
      obtain ⟨o7, h⟩ := ob_e h
      refine g_iast 73 C (W_X11_chain k h_t h_t_tape h_t_readWorths h_t_w h_t_firsts h_t_sizes h_t_worths h_t_dues h_t_sums h_t_worthOf h_t_lies h_t_pairs h_t_row h_t_hands h_t_paidOn h_t_lates h_t_fixed h_t_lanes h_t_longs h_t_items h_t_hand h_t_used s_isKept s_taped s_pieces s_at s_readMany s_readKind s_readCut s_rowSet s_bestSet s_tape s_readWorths (upd s_w ((2 : Int32) + v2).toNatClampNeg (s_readWorths v2.toNatClampNeg))) 3 rfl o7 rfl dX11_chain_73 ?_
      refine g_iinc 74 C 1 (1 : Int32) [(2, .int (v2 + (1 : Int32))), (0, .ref h_t)] dX11_chain_74 rfl (by decide) (by decide) rfl ?_
      refine g_goto 77 52 C dX11_chain_77 (by decide) ?_
      refine GG.sub (lv' := [(0, .ref h_t), (2, .int (v2 + (1 : Int32)))]) [1, 0] rfl ?_
      exact hr ((v2 + (1 : Int32)), (upd s_w ((2 : Int32) + v2).toNatClampNeg (s_readWorths v2.toNatClampNeg))) h
set_option maxHeartbeats 4000000 in
set_option maxRecDepth 100000 in
theorem ok_B_X11_chain_80 {h_t : Nat} {h_t_tape : Nat} {h_t_readWorths : Nat} {h_t_w : Nat} {h_t_firsts : Nat} {h_t_sizes : Nat} {h_t_worths : Nat} {h_t_dues : Nat} {h_t_sums : Nat} {h_t_worthOf : Nat} {h_t_lies : Nat} {h_t_pairs : Nat} {h_t_row : Nat} {h_t_hands : Nat} {h_t_paidOn : Nat} {h_t_lates : Nat} {h_t_fixed : Nat} {h_t_lanes : Nat} {h_t_longs : Nat} {h_t_items : Nat} {h_t_hand : Nat} {h_t_used : Nat} {s_isKept : Int32} {s_taped : Int32} {s_pieces : Int32} {s_at : Int32} {s_readMany : Int32} {s_readKind : Int32} {s_readCut : Int32} {s_rowSet : Int32} {s_bestSet : Int32} {s_tape : Nat → Int32} {s_readWorths : Nat → Int32} {s_w : Nat → Int32} {res : Int32 × Int32 × Int32 × Int32 × Int32 × Int32 × (Nat → Int32) × (Nat → Int32)} (C : CX p s m args meth c cX11_chain wsX11_chain RX11 3 D k A (some .int)) (hA : A = va_A w0 sz)  (h : B_X11_chain_80 s_taped s_at s_readMany s_readKind s_readCut s_readWorths s_w = some res) : GG p l e rm_X11_chain s m args below meth c (MQ below (cQi D w0 sz res.1 (W_X11_chain k h_t h_t_tape h_t_readWorths h_t_w h_t_firsts h_t_sizes h_t_worths h_t_dues h_t_sums h_t_worthOf h_t_lies h_t_pairs h_t_row h_t_hands h_t_paidOn h_t_lates h_t_fixed h_t_lanes h_t_longs h_t_items h_t_hand h_t_used s_isKept res.2.1 s_pieces res.2.2.1 res.2.2.2.1 res.2.2.2.2.1 res.2.2.2.2.2.1 s_rowSet s_bestSet s_tape res.2.2.2.2.2.2.1 res.2.2.2.2.2.2.2)) args s 0 0 A) D A 3 0 0 80 [(0, .ref h_t)] [] (W_X11_chain k h_t h_t_tape h_t_readWorths h_t_w h_t_firsts h_t_sizes h_t_worths h_t_dues h_t_sums h_t_worthOf h_t_lies h_t_pairs h_t_row h_t_hands h_t_paidOn h_t_lates h_t_fixed h_t_lanes h_t_longs h_t_items h_t_hand h_t_used s_isKept s_taped s_pieces s_at s_readMany s_readKind s_readCut s_rowSet s_bestSet s_tape s_readWorths s_w) := by
  unfold B_X11_chain_80 at h
  refine g_aload_n 80 C 0 dX11_chain_80 rfl rfl ?_
  refine g_get 81 C in_X11_chain_X11 0 10 rfl rfl (by decide) fl_X11_chain_126 rfl rfl dX11_chain_81 ?_
  obtain rfl := Option.some.inj h
  exact g_iret 84 C hA rfl dX11_chain_84 rfl
set_option maxHeartbeats 4000000 in
set_option maxRecDepth 100000 in
theorem k_X11_chain {l : Launch} {D : va_G} {k : Nat → ClassId} (h_t : Nat) (h_t_tape : Nat) (h_t_readWorths : Nat) (h_t_w : Nat) (h_t_firsts : Nat) (h_t_sizes : Nat) (h_t_worths : Nat) (h_t_dues : Nat) (h_t_sums : Nat) (h_t_worthOf : Nat) (h_t_lies : Nat) (h_t_pairs : Nat) (h_t_row : Nat) (h_t_hands : Nat) (h_t_paidOn : Nat) (h_t_lates : Nat) (h_t_fixed : Nat) (h_t_lanes : Nat) (h_t_longs : Nat) (h_t_items : Nat) (h_t_hand : Nat) (h_t_used : Nat) (s_isKept : Int32) (s_taped : Int32) (s_pieces : Int32) (s_at : Int32) (s_readMany : Int32) (s_readKind : Int32) (s_readCut : Int32) (s_rowSet : Int32) (s_bestSet : Int32) (s_tape : Nat → Int32) (s_readWorths : Nat → Int32) (s_w : Nat → Int32) (res : Int32 × Int32 × Int32 × Int32 × Int32 × Int32 × (Nat → Int32) × (Nat → Int32)) (h : f_X11_chain s_taped s_tape s_readWorths s_w = some res) (sz : Nat) : Met l yX11_chain wsX11_chain rm_X11_chain (cPre D k [.ref h_t] (W_X11_chain k h_t h_t_tape h_t_readWorths h_t_w h_t_firsts h_t_sizes h_t_worths h_t_dues h_t_sums h_t_worthOf h_t_lies h_t_pairs h_t_row h_t_hands h_t_paidOn h_t_lates h_t_fixed h_t_lanes h_t_longs h_t_items h_t_hand h_t_used s_isKept s_taped s_pieces s_at s_readMany s_readKind s_readCut s_rowSet s_bestSet s_tape s_readWorths s_w) sz) (cQi D (W_X11_chain k h_t h_t_tape h_t_readWorths h_t_w h_t_firsts h_t_sizes h_t_worths h_t_dues h_t_sums h_t_worthOf h_t_lies h_t_pairs h_t_row h_t_hands h_t_paidOn h_t_lates h_t_fixed h_t_lanes h_t_longs h_t_items h_t_hand h_t_used s_isKept s_taped s_pieces s_at s_readMany s_readKind s_readCut s_rowSet s_bestSet s_tape s_readWorths s_w) sz res.1 (W_X11_chain k h_t h_t_tape h_t_readWorths h_t_w h_t_firsts h_t_sizes h_t_worths h_t_dues h_t_sums h_t_worthOf h_t_lies h_t_pairs h_t_row h_t_hands h_t_paidOn h_t_lates h_t_fixed h_t_lanes h_t_longs h_t_items h_t_hand h_t_used s_isKept res.2.1 s_pieces res.2.2.1 res.2.2.2.1 res.2.2.2.2.1 res.2.2.2.2.2.1 s_rowSet s_bestSet s_tape res.2.2.2.2.2.2.1 res.2.2.2.2.2.2.2)) 0 0 (va_A (W_X11_chain k h_t h_t_tape h_t_readWorths h_t_w h_t_firsts h_t_sizes h_t_worths h_t_dues h_t_sums h_t_worthOf h_t_lies h_t_pairs h_t_row h_t_hands h_t_paidOn h_t_lates h_t_fixed h_t_lanes h_t_longs h_t_items h_t_hand h_t_used s_isKept s_taped s_pieces s_at s_readMany s_readKind s_readCut s_rowSet s_bestSet s_tape s_readWorths s_w) sz) := by
  refine met_of [(0, .ref h_t)] (by decide) rfl rfl (Nat.le_of_ble_eq_true rfl) rfl ?_
  intro p e s m args below meth c A hA hsz C
  unfold f_X11_chain at h
  refine g_aload_n 0 C 0 dX11_chain_0 rfl rfl ?_
  obtain ⟨q1, e2, h⟩ := bi_e h
  refine g_callVi 1 C (As := []) [0, 1, 2] [3] [1, 2, 3, 0] (W_X11_chain k h_t h_t_tape h_t_readWorths h_t_w h_t_firsts h_t_sizes h_t_worths h_t_dues h_t_sums h_t_worthOf h_t_lies h_t_pairs h_t_row h_t_hands h_t_paidOn h_t_lates h_t_fixed h_t_lanes h_t_longs h_t_items h_t_hand h_t_used s_isKept s_taped s_pieces q1.2.1 q1.2.2.1 q1.2.2.2.1 q1.2.2.2.2.1 s_rowSet s_bestSet s_tape q1.2.2.2.2.2 s_w) 0 (fun sz => k_X11_faultOf h_t h_t_tape h_t_readWorths h_t_w h_t_firsts h_t_sizes h_t_worths h_t_dues h_t_sums h_t_worthOf h_t_lies h_t_pairs h_t_row h_t_hands h_t_paidOn h_t_lates h_t_fixed h_t_lanes h_t_longs h_t_items h_t_hand h_t_used s_isKept s_taped s_pieces s_at s_readMany s_readKind s_readCut s_rowSet s_bestSet s_tape s_readWorths q1 e2 sz) gX11_chain_X11_faultOf rfl pd_X11_faultOf rfl rfl rfl ⟨rfl, rfl, Nat.le_of_ble_eq_true rfl, Nat.le_of_ble_eq_true rfl⟩ (Nat.le_of_ble_eq_true rfl) ⟨Nat.zero_le _, Nat.zero_le _⟩ ⟨rfl, rfl, rfl, rfl, rfl, by decide, rfl⟩ rfl dX11_chain_1 ?_
  refine g_istore_n 4 C [(1, .int q1.1), (0, .ref h_t)] dX11_chain_4 rfl (by decide) rfl ?_
  refine g_aload_n 5 C 1 dX11_chain_5 rfl rfl ?_
  refine g_iconst 6 C (0 : Int32) dX11_chain_6 (by decide) ?_
  refine g_put 7 C (W_X11_chain k h_t h_t_tape h_t_readWorths h_t_w h_t_firsts h_t_sizes h_t_worths h_t_dues h_t_sums h_t_worthOf h_t_lies h_t_pairs h_t_row h_t_hands h_t_paidOn h_t_lates h_t_fixed h_t_lanes h_t_longs h_t_items h_t_hand h_t_used s_isKept (0 : Int32) s_pieces q1.2.1 q1.2.2.1 q1.2.2.2.1 q1.2.2.2.2.1 s_rowSet s_bestSet s_tape q1.2.2.2.2.2 s_w) in_X11_chain_X11 tyX11 tyX11_ok nmX11 0 3 rfl rfl (by decide) fl_X11_chain_120 rfl rfl (tyX11_ok 3 (by decide)) rfl rfl (Nat.le_of_ble_eq_true rfl) rfl dX11_chain_7 ?_
  refine g_iload_n 10 C 0 dX11_chain_10 rfl rfl ?_
  refine g_if_lt 11 19 C dX11_chain_11 (by decide) (fun c => ?_) (fun c => ?_)
  · replace h := it_e c h
    refine g_aload_n 19 C 1 dX11_chain_19 rfl rfl ?_
    refine g_get 20 C in_X11_chain_X11 0 0 rfl rfl (by decide) fl_X11_chain_7 rfl rfl dX11_chain_20 ?_
    refine g_iconst 23 C (0 : Int32) dX11_chain_23 (by decide) ?_
    refine g_aload_n 24 C 1 dX11_chain_24 rfl rfl ?_
    refine g_get 25 C in_X11_chain_X11 0 11 rfl rfl (by decide) fl_X11_chain_138 rfl rfl dX11_chain_25 ?_
    obtain ⟨o3, h⟩ := ob_e h
    refine g_iast 28 C (W_X11_chain k h_t h_t_tape h_t_readWorths h_t_w h_t_firsts h_t_sizes h_t_worths h_t_dues h_t_sums h_t_worthOf h_t_lies h_t_pairs h_t_row h_t_hands h_t_paidOn h_t_lates h_t_fixed h_t_lanes h_t_longs h_t_items h_t_hand h_t_used s_isKept (0 : Int32) s_pieces q1.2.1 q1.2.2.1 q1.2.2.2.1 q1.2.2.2.2.1 s_rowSet s_bestSet s_tape q1.2.2.2.2.2 (upd s_w (0 : Int32).toNatClampNeg q1.2.2.2.1)) 3 rfl o3 rfl dX11_chain_28 ?_
    refine g_aload_n 29 C 1 dX11_chain_29 rfl rfl ?_
    refine g_get 30 C in_X11_chain_X11 0 0 rfl rfl (by decide) fl_X11_chain_7 rfl rfl dX11_chain_30 ?_
    refine g_iconst 33 C (1 : Int32) dX11_chain_33 (by decide) ?_
    refine g_aload_n 34 C 1 dX11_chain_34 rfl rfl ?_
    refine g_get 35 C in_X11_chain_X11 0 10 rfl rfl (by decide) fl_X11_chain_126 rfl rfl dX11_chain_35 ?_
    obtain ⟨o4, h⟩ := ob_e h
    refine g_iast 38 C (W_X11_chain k h_t h_t_tape h_t_readWorths h_t_w h_t_firsts h_t_sizes h_t_worths h_t_dues h_t_sums h_t_worthOf h_t_lies h_t_pairs h_t_row h_t_hands h_t_paidOn h_t_lates h_t_fixed h_t_lanes h_t_longs h_t_items h_t_hand h_t_used s_isKept (0 : Int32) s_pieces q1.2.1 q1.2.2.1 q1.2.2.2.1 q1.2.2.2.2.1 s_rowSet s_bestSet s_tape q1.2.2.2.2.2 (upd (upd s_w (0 : Int32).toNatClampNeg q1.2.2.2.1) (1 : Int32).toNatClampNeg q1.2.2.1)) 3 rfl o4 rfl dX11_chain_38 ?_
    refine g_aload_n 39 C 1 dX11_chain_39 rfl rfl ?_
    refine g_get 40 C in_X11_chain_X11 0 0 rfl rfl (by decide) fl_X11_chain_7 rfl rfl dX11_chain_40 ?_
    refine g_bipush 43 C (26 : Int32) dX11_chain_43 (by decide) ?_
    refine g_aload_n 45 C 1 dX11_chain_45 rfl rfl ?_
    refine g_get 46 C in_X11_chain_X11 0 12 rfl rfl (by decide) fl_X11_chain_129 rfl rfl dX11_chain_46 ?_
    obtain ⟨o5, h⟩ := ob_e h
    refine g_iast 49 C (W_X11_chain k h_t h_t_tape h_t_readWorths h_t_w h_t_firsts h_t_sizes h_t_worths h_t_dues h_t_sums h_t_worthOf h_t_lies h_t_pairs h_t_row h_t_hands h_t_paidOn h_t_lates h_t_fixed h_t_lanes h_t_longs h_t_items h_t_hand h_t_used s_isKept (0 : Int32) s_pieces q1.2.1 q1.2.2.1 q1.2.2.2.1 q1.2.2.2.2.1 s_rowSet s_bestSet s_tape q1.2.2.2.2.2 (upd (upd (upd s_w (0 : Int32).toNatClampNeg q1.2.2.2.1) (1 : Int32).toNatClampNeg q1.2.2.1) (26 : Int32).toNatClampNeg q1.2.2.2.2.1)) 3 rfl o5 rfl dX11_chain_49 ?_
    refine g_iconst 50 C (0 : Int32) dX11_chain_50 (by decide) ?_
    refine g_istore_n 51 C [(2, .int (0 : Int32)), (1, .int q1.1), (0, .ref h_t)] dX11_chain_51 rfl (by decide) rfl ?_
    refine GG.sub (lv' := [(0, .ref h_t), (2, .int (0 : Int32))]) [2, 0] rfl ?_
    exact ok_L_X11_chain_52 C hA (fun t h => by
      refine GG.sub (lv' := [(0, .ref h_t)]) [0] rfl ?_
      exact ok_B_X11_chain_80 C hA h) FUEL ((0 : Int32), (upd (upd (upd s_w (0 : Int32).toNatClampNeg q1.2.2.2.1) (1 : Int32).toNatClampNeg q1.2.2.1) (26 : Int32).toNatClampNeg q1.2.2.2.2.1)) h
  · replace h := if_e c h
    refine g_bipush 14 C (-20 : Int32) dX11_chain_14 (by decide) ?_
    refine g_iload_n 16 C 0 dX11_chain_16 rfl rfl ?_
    refine g_isub 17 C dX11_chain_17 ?_
    obtain rfl := Option.some.inj h
    exact g_iret 18 C hA rfl dX11_chain_18 rfl
end

/-! X11_allWorth -/
abbrev W_X11_allWorth (k : Nat → ClassId) (h_t : Nat) (h_t_worths : Nat) (h_t_w : Nat) (h_t_tape : Nat) (h_t_firsts : Nat) (h_t_sizes : Nat) (h_t_readWorths : Nat) (h_t_dues : Nat) (h_t_sums : Nat) (h_t_worthOf : Nat) (h_t_lies : Nat) (h_t_pairs : Nat) (h_t_row : Nat) (h_t_hands : Nat) (h_t_paidOn : Nat) (h_t_lates : Nat) (h_t_fixed : Nat) (h_t_lanes : Nat) (h_t_longs : Nat) (h_t_items : Nat) (h_t_hand : Nat) (h_t_used : Nat) (s_isKept : Int32) (s_taped : Int32) (s_pieces : Int32) (s_at : Int32) (s_readMany : Int32) (s_readKind : Int32) (s_readCut : Int32) (s_rowSet : Int32) (s_bestSet : Int32) (s_worths : Nat → Int32) : va_W := [(h_t, .inr (11, [.ref h_t_w, .int s_isKept, .ref h_t_tape, .int s_taped, .ref h_t_firsts, .ref h_t_sizes, .ref h_t_worths, .int s_pieces, .int s_at, .ref h_t_readWorths, .int s_readMany, .int s_readKind, .int s_readCut, .ref h_t_dues, .ref h_t_sums, .ref h_t_worthOf, .ref h_t_lies, .ref h_t_pairs, .ref h_t_row, .int s_rowSet, .int s_bestSet, .ref h_t_hands, .ref h_t_paidOn, .ref h_t_lates, .ref h_t_fixed, .ref h_t_lanes, .ref h_t_longs, .ref h_t_items, .ref h_t_hand, .ref h_t_used])), (h_t_worths, .inl (k 0, 24, .inl s_worths))]
def rm_X11_allWorth : Room := { frames := 0, cells := 0, slots := 0, locals := 0 }
theorem in_X11_allWorth_X11 : ∀ w ∈ u_ws RX11 TX11 30, w ∈ wsX11_allWorth := by decide +kernel
theorem fl_X11_allWorth_22 : Cond.fieldLink RX11 22 "LinkDaysModel" "worths" "[I" ∈ wsX11_allWorth := by decide +kernel
theorem fl_X11_allWorth_85 : Cond.fieldLink RX11 85 "LinkDaysModel" "pieces" "I" ∈ wsX11_allWorth := by decide +kernel
theorem pd_X11_allWorth : yX11_allWorth.cls = RX11 ∧ yX11_allWorth.cls ≠ "java/lang/invoke/MethodHandle" ∧ yX11_allWorth.cls ≠ "java/lang/invoke/VarHandle" ∧ (parseMethodDescriptor yX11_allWorth.desc).map (fun d => d.parameters.length) = some 0 := by decide +kernel
section
variable {p : Program} {l : Launch} {e : Env} {s : State} {m : MethodId} {args : Array Value} {below : List Frame} {meth : Method} {c : Code} {D : va_G} {k : Nat → ClassId} {A : Nat → Prop} {w0 : va_W} {sz : Nat}
set_option maxHeartbeats 4000000 in
set_option maxRecDepth 100000 in
theorem ok_L_X11_allWorth_4 {h_t : Nat} {h_t_worths : Nat} {h_t_w : Nat} {h_t_tape : Nat} {h_t_firsts : Nat} {h_t_sizes : Nat} {h_t_readWorths : Nat} {h_t_dues : Nat} {h_t_sums : Nat} {h_t_worthOf : Nat} {h_t_lies : Nat} {h_t_pairs : Nat} {h_t_row : Nat} {h_t_hands : Nat} {h_t_paidOn : Nat} {h_t_lates : Nat} {h_t_fixed : Nat} {h_t_lanes : Nat} {h_t_longs : Nat} {h_t_items : Nat} {h_t_hand : Nat} {h_t_used : Nat} {s_isKept : Int32} {s_taped : Int32} {s_pieces : Int32} {s_at : Int32} {s_readMany : Int32} {s_readKind : Int32} {s_readCut : Int32} {s_rowSet : Int32} {s_bestSet : Int32} {s_worths : Nat → Int32} {res : Int32} (C : CX p s m args meth c cX11_allWorth wsX11_allWorth RX11 3 D k A (some .int)) (hA : A = va_A w0 sz) {kx : Int32 × Int32 → Option (Int32)} (hx : ∀ t : Int32 × Int32, kx t = some res → GG p l e rm_X11_allWorth s m args below meth c (MQ below (cQi D w0 sz res (W_X11_allWorth k h_t h_t_worths h_t_w h_t_tape h_t_firsts h_t_sizes h_t_readWorths h_t_dues h_t_sums h_t_worthOf h_t_lies h_t_pairs h_t_row h_t_hands h_t_paidOn h_t_lates h_t_fixed h_t_lanes h_t_longs h_t_items h_t_hand h_t_used s_isKept s_taped s_pieces s_at s_readMany s_readKind s_readCut s_rowSet s_bestSet s_worths)) args s 0 0 A) D A 3 0 0 27 [(1, .int t.1)] [] (W_X11_allWorth k h_t h_t_worths h_t_w h_t_tape h_t_firsts h_t_sizes h_t_readWorths h_t_dues h_t_sums h_t_worthOf h_t_lies h_t_pairs h_t_row h_t_hands h_t_paidOn h_t_lates h_t_fixed h_t_lanes h_t_longs h_t_items h_t_hand h_t_used s_isKept s_taped s_pieces s_at s_readMany s_readKind s_readCut s_rowSet s_bestSet s_worths)) : ∀ (n : Nat) (t : Int32 × Int32), L_X11_allWorth_4 s_pieces s_worths kx n t = some res → GG p l e rm_X11_allWorth s m args below meth c (MQ below (cQi D w0 sz res (W_X11_allWorth k h_t h_t_worths h_t_w h_t_tape h_t_firsts h_t_sizes h_t_readWorths h_t_dues h_t_sums h_t_worthOf h_t_lies h_t_pairs h_t_row h_t_hands h_t_paidOn h_t_lates h_t_fixed h_t_lanes h_t_longs h_t_items h_t_hand h_t_used s_isKept s_taped s_pieces s_at s_readMany s_readKind s_readCut s_rowSet s_bestSet s_worths)) args s 0 0 A) D A 3 0 0 4 [(0, .ref h_t), (1, .int t.1), (2, .int t.2)] [] (W_X11_allWorth k h_t h_t_worths h_t_w h_t_tape h_t_firsts h_t_sizes h_t_readWorths h_t_dues h_t_sums h_t_worthOf h_t_lies h_t_pairs h_t_row h_t_hands h_t_paidOn h_t_lates h_t_fixed h_t_lanes h_t_longs h_t_items h_t_hand h_t_used s_isKept s_taped s_pieces s_at s_readMany s_readKind s_readCut s_rowSet s_bestSet s_worths) := by
  intro n
  induction n with
  | zero => intro t h; cases h
  | succ n ih =>
    intro t h
    obtain ⟨v1, v2⟩ := t
    replace h : LB_X11_allWorth_4 s_pieces s_worths kx (L_X11_allWorth_4 s_pieces s_worths kx n) v1 v2 = some res := h
    have hr := ih
    unfold LB_X11_allWorth_4 at h
    refine g_iload_n 4 C 2 dX11_allWorth_4 rfl rfl ?_
    refine g_aload_n 5 C 0 dX11_allWorth_5 rfl rfl ?_
    refine g_get 6 C in_X11_allWorth_X11 0 7 rfl rfl (by decide) fl_X11_allWorth_85 rfl rfl dX11_allWorth_6 ?_
    refine g_icmp_ge 9 27 C dX11_allWorth_9 (by decide) (fun c => ?_) (fun c => ?_)
    · replace h := it_e c h
      refine GG.sub (lv' := [(1, .int v1)]) [1] rfl ?_
      exact hx (v1, v2) h
    · replace h := if_e c h
      refine g_iload_n 12 C 1 dX11_allWorth_12 rfl rfl ?_
      refine g_aload_n 13 C 0 dX11_allWorth_13 rfl rfl ?_
      refine g_get 14 C in_X11_allWorth_X11 0 6 rfl rfl (by decide) fl_X11_allWorth_22 rfl rfl dX11_allWorth_14 ?_
      refine g_iload_n 17 C 2 dX11_allWorth_17 rfl rfl ?_
      obtain ⟨o1, h⟩ := ob_e h
      refine g_iald 18 C 1 rfl o1 dX11_allWorth_18 ?_
      refine g_iadd 19 C dX11_allWorth_19 ?_
      refine g_istore_n 20 C [(1, .int (v1 + (s_worths v2.toNatClampNeg))), (0, .ref h_t), (2, .int v2)] dX11_allWorth_20 rfl (by decide) rfl ?_
      refine g_iinc 21 C 2 (1 : Int32) [(2, .int (v2 + (1 : Int32))), (1, .int (v1 + (s_worths v2.toNatClampNeg))), (0, .ref h_t)] dX11_allWorth_21 rfl (by decide) (by decide) rfl ?_
      refine g_goto 24 4 C dX11_allWorth_24 (by decide) ?_
      refine GG.sub (lv' := [(0, .ref h_t), (1, .int (v1 + (s_worths v2.toNatClampNeg))), (2, .int (v2 + (1 : Int32)))]) [2, 1, 0] rfl ?_
      exact hr ((v1 + (s_worths v2.toNatClampNeg)), (v2 + (1 : Int32))) h
set_option maxHeartbeats 4000000 in
set_option maxRecDepth 100000 in
theorem ok_B_X11_allWorth_27 {h_t : Nat} {h_t_worths : Nat} {h_t_w : Nat} {h_t_tape : Nat} {h_t_firsts : Nat} {h_t_sizes : Nat} {h_t_readWorths : Nat} {h_t_dues : Nat} {h_t_sums : Nat} {h_t_worthOf : Nat} {h_t_lies : Nat} {h_t_pairs : Nat} {h_t_row : Nat} {h_t_hands : Nat} {h_t_paidOn : Nat} {h_t_lates : Nat} {h_t_fixed : Nat} {h_t_lanes : Nat} {h_t_longs : Nat} {h_t_items : Nat} {h_t_hand : Nat} {h_t_used : Nat} {s_isKept : Int32} {s_taped : Int32} {s_pieces : Int32} {s_at : Int32} {s_readMany : Int32} {s_readKind : Int32} {s_readCut : Int32} {s_rowSet : Int32} {s_bestSet : Int32} {s_worths : Nat → Int32} {v1 : Int32} {res : Int32} (C : CX p s m args meth c cX11_allWorth wsX11_allWorth RX11 3 D k A (some .int)) (hA : A = va_A w0 sz)  (h : B_X11_allWorth_27 v1 = some res) : GG p l e rm_X11_allWorth s m args below meth c (MQ below (cQi D w0 sz res (W_X11_allWorth k h_t h_t_worths h_t_w h_t_tape h_t_firsts h_t_sizes h_t_readWorths h_t_dues h_t_sums h_t_worthOf h_t_lies h_t_pairs h_t_row h_t_hands h_t_paidOn h_t_lates h_t_fixed h_t_lanes h_t_longs h_t_items h_t_hand h_t_used s_isKept s_taped s_pieces s_at s_readMany s_readKind s_readCut s_rowSet s_bestSet s_worths)) args s 0 0 A) D A 3 0 0 27 [(1, .int v1)] [] (W_X11_allWorth k h_t h_t_worths h_t_w h_t_tape h_t_firsts h_t_sizes h_t_readWorths h_t_dues h_t_sums h_t_worthOf h_t_lies h_t_pairs h_t_row h_t_hands h_t_paidOn h_t_lates h_t_fixed h_t_lanes h_t_longs h_t_items h_t_hand h_t_used s_isKept s_taped s_pieces s_at s_readMany s_readKind s_readCut s_rowSet s_bestSet s_worths) := by
  unfold B_X11_allWorth_27 at h
  refine g_iload_n 27 C 0 dX11_allWorth_27 rfl rfl ?_
  obtain rfl := Option.some.inj h
  exact g_iret 28 C hA rfl dX11_allWorth_28 rfl
set_option maxHeartbeats 4000000 in
set_option maxRecDepth 100000 in
theorem k_X11_allWorth {l : Launch} {D : va_G} {k : Nat → ClassId} (h_t : Nat) (h_t_worths : Nat) (h_t_w : Nat) (h_t_tape : Nat) (h_t_firsts : Nat) (h_t_sizes : Nat) (h_t_readWorths : Nat) (h_t_dues : Nat) (h_t_sums : Nat) (h_t_worthOf : Nat) (h_t_lies : Nat) (h_t_pairs : Nat) (h_t_row : Nat) (h_t_hands : Nat) (h_t_paidOn : Nat) (h_t_lates : Nat) (h_t_fixed : Nat) (h_t_lanes : Nat) (h_t_longs : Nat) (h_t_items : Nat) (h_t_hand : Nat) (h_t_used : Nat) (s_isKept : Int32) (s_taped : Int32) (s_pieces : Int32) (s_at : Int32) (s_readMany : Int32) (s_readKind : Int32) (s_readCut : Int32) (s_rowSet : Int32) (s_bestSet : Int32) (s_worths : Nat → Int32) (res : Int32) (h : f_X11_allWorth s_pieces s_worths = some res) (sz : Nat) : Met l yX11_allWorth wsX11_allWorth rm_X11_allWorth (cPre D k [.ref h_t] (W_X11_allWorth k h_t h_t_worths h_t_w h_t_tape h_t_firsts h_t_sizes h_t_readWorths h_t_dues h_t_sums h_t_worthOf h_t_lies h_t_pairs h_t_row h_t_hands h_t_paidOn h_t_lates h_t_fixed h_t_lanes h_t_longs h_t_items h_t_hand h_t_used s_isKept s_taped s_pieces s_at s_readMany s_readKind s_readCut s_rowSet s_bestSet s_worths) sz) (cQi D (W_X11_allWorth k h_t h_t_worths h_t_w h_t_tape h_t_firsts h_t_sizes h_t_readWorths h_t_dues h_t_sums h_t_worthOf h_t_lies h_t_pairs h_t_row h_t_hands h_t_paidOn h_t_lates h_t_fixed h_t_lanes h_t_longs h_t_items h_t_hand h_t_used s_isKept s_taped s_pieces s_at s_readMany s_readKind s_readCut s_rowSet s_bestSet s_worths) sz res (W_X11_allWorth k h_t h_t_worths h_t_w h_t_tape h_t_firsts h_t_sizes h_t_readWorths h_t_dues h_t_sums h_t_worthOf h_t_lies h_t_pairs h_t_row h_t_hands h_t_paidOn h_t_lates h_t_fixed h_t_lanes h_t_longs h_t_items h_t_hand h_t_used s_isKept s_taped s_pieces s_at s_readMany s_readKind s_readCut s_rowSet s_bestSet s_worths)) 0 0 (va_A (W_X11_allWorth k h_t h_t_worths h_t_w h_t_tape h_t_firsts h_t_sizes h_t_readWorths h_t_dues h_t_sums h_t_worthOf h_t_lies h_t_pairs h_t_row h_t_hands h_t_paidOn h_t_lates h_t_fixed h_t_lanes h_t_longs h_t_items h_t_hand h_t_used s_isKept s_taped s_pieces s_at s_readMany s_readKind s_readCut s_rowSet s_bestSet s_worths) sz) := by
  refine met_of [(0, .ref h_t)] (by decide) rfl rfl (Nat.le_of_ble_eq_true rfl) rfl ?_
  intro p e s m args below meth c A hA hsz C
  unfold f_X11_allWorth at h
  refine g_iconst 0 C (0 : Int32) dX11_allWorth_0 (by decide) ?_
  refine g_istore_n 1 C [(1, .int (0 : Int32)), (0, .ref h_t)] dX11_allWorth_1 rfl (by decide) rfl ?_
  refine g_iconst 2 C (0 : Int32) dX11_allWorth_2 (by decide) ?_
  refine g_istore_n 3 C [(2, .int (0 : Int32)), (1, .int (0 : Int32)), (0, .ref h_t)] dX11_allWorth_3 rfl (by decide) rfl ?_
  refine GG.sub (lv' := [(0, .ref h_t), (1, .int (0 : Int32)), (2, .int (0 : Int32))]) [2, 1, 0] rfl ?_
  exact ok_L_X11_allWorth_4 C hA (fun t h => by
    refine GG.sub (lv' := [(1, .int t.1)]) [0] rfl ?_
    exact ok_B_X11_allWorth_27 C hA h) FUEL ((0 : Int32), (0 : Int32)) h
end

/-! X11_count -/
abbrev W_X11_count (k : Nat → ClassId) (h_t : Nat) (h_t_w : Nat) (h_t_firsts : Nat) (h_t_sizes : Nat) (h_t_worths : Nat) (h_t_tape : Nat) (h_t_readWorths : Nat) (h_t_dues : Nat) (h_t_sums : Nat) (h_t_worthOf : Nat) (h_t_lies : Nat) (h_t_pairs : Nat) (h_t_row : Nat) (h_t_hands : Nat) (h_t_paidOn : Nat) (h_t_lates : Nat) (h_t_fixed : Nat) (h_t_lanes : Nat) (h_t_longs : Nat) (h_t_items : Nat) (h_t_hand : Nat) (h_t_used : Nat) (s_isKept : Int32) (s_taped : Int32) (s_pieces : Int32) (s_at : Int32) (s_readMany : Int32) (s_readKind : Int32) (s_readCut : Int32) (s_rowSet : Int32) (s_bestSet : Int32) (s_w : Nat → Int32) (s_firsts : Nat → Int32) (s_sizes : Nat → Int32) (s_worths : Nat → Int32) : va_W := [(h_t, .inr (11, [.ref h_t_w, .int s_isKept, .ref h_t_tape, .int s_taped, .ref h_t_firsts, .ref h_t_sizes, .ref h_t_worths, .int s_pieces, .int s_at, .ref h_t_readWorths, .int s_readMany, .int s_readKind, .int s_readCut, .ref h_t_dues, .ref h_t_sums, .ref h_t_worthOf, .ref h_t_lies, .ref h_t_pairs, .ref h_t_row, .int s_rowSet, .int s_bestSet, .ref h_t_hands, .ref h_t_paidOn, .ref h_t_lates, .ref h_t_fixed, .ref h_t_lanes, .ref h_t_longs, .ref h_t_items, .ref h_t_hand, .ref h_t_used])), (h_t_w, .inl (k 0, 60, .inl s_w)), (h_t_firsts, .inl (k 0, 24, .inl s_firsts)), (h_t_sizes, .inl (k 0, 24, .inl s_sizes)), (h_t_worths, .inl (k 0, 24, .inl s_worths))]
def rm_X11_count : Room := { frames := 3, cells := 0, slots := 0, locals := 66 }
theorem in_X11_count_X11 : ∀ w ∈ u_ws RX11 TX11 30, w ∈ wsX11_count := by decide +kernel
theorem fl_X11_count_7 : Cond.fieldLink RX11 7 "LinkDaysModel" "w" "[I" ∈ wsX11_count := by decide +kernel
theorem fl_X11_count_85 : Cond.fieldLink RX11 85 "LinkDaysModel" "pieces" "I" ∈ wsX11_count := by decide +kernel
theorem pd_X11_count : yX11_count.cls = RX11 ∧ yX11_count.cls ≠ "java/lang/invoke/MethodHandle" ∧ yX11_count.cls ≠ "java/lang/invoke/VarHandle" ∧ (parseMethodDescriptor yX11_count.desc).map (fun d => d.parameters.length) = some 1 := by decide +kernel
section
variable {p : Program} {l : Launch} {e : Env} {s : State} {m : MethodId} {args : Array Value} {below : List Frame} {meth : Method} {c : Code} {D : va_G} {k : Nat → ClassId} {A : Nat → Prop} {w0 : va_W} {sz : Nat}
set_option maxHeartbeats 4000000 in
set_option maxRecDepth 100000 in
theorem k_X11_count {l : Launch} {D : va_G} {k : Nat → ClassId} (h_t : Nat) (h_t_w : Nat) (h_t_firsts : Nat) (h_t_sizes : Nat) (h_t_worths : Nat) (h_t_tape : Nat) (h_t_readWorths : Nat) (h_t_dues : Nat) (h_t_sums : Nat) (h_t_worthOf : Nat) (h_t_lies : Nat) (h_t_pairs : Nat) (h_t_row : Nat) (h_t_hands : Nat) (h_t_paidOn : Nat) (h_t_lates : Nat) (h_t_fixed : Nat) (h_t_lanes : Nat) (h_t_longs : Nat) (h_t_items : Nat) (h_t_hand : Nat) (h_t_used : Nat) (s_isKept : Int32) (s_taped : Int32) (s_pieces : Int32) (s_at : Int32) (s_readMany : Int32) (s_readKind : Int32) (s_readCut : Int32) (s_rowSet : Int32) (s_bestSet : Int32) (s_w : Nat → Int32) (s_firsts : Nat → Int32) (s_sizes : Nat → Int32) (s_worths : Nat → Int32) (v1 : Int32) (res : Int32 × Int32 × (Nat → Int32) × (Nat → Int32) × (Nat → Int32)) (h : f_X11_count s_w s_firsts s_sizes s_worths v1 = some res) (sz : Nat) : Met l yX11_count wsX11_count rm_X11_count (cPre D k [.ref h_t, .int v1] (W_X11_count k h_t h_t_w h_t_firsts h_t_sizes h_t_worths h_t_tape h_t_readWorths h_t_dues h_t_sums h_t_worthOf h_t_lies h_t_pairs h_t_row h_t_hands h_t_paidOn h_t_lates h_t_fixed h_t_lanes h_t_longs h_t_items h_t_hand h_t_used s_isKept s_taped s_pieces s_at s_readMany s_readKind s_readCut s_rowSet s_bestSet s_w s_firsts s_sizes s_worths) sz) (cQi D (W_X11_count k h_t h_t_w h_t_firsts h_t_sizes h_t_worths h_t_tape h_t_readWorths h_t_dues h_t_sums h_t_worthOf h_t_lies h_t_pairs h_t_row h_t_hands h_t_paidOn h_t_lates h_t_fixed h_t_lanes h_t_longs h_t_items h_t_hand h_t_used s_isKept s_taped s_pieces s_at s_readMany s_readKind s_readCut s_rowSet s_bestSet s_w s_firsts s_sizes s_worths) sz res.1 (W_X11_count k h_t h_t_w h_t_firsts h_t_sizes h_t_worths h_t_tape h_t_readWorths h_t_dues h_t_sums h_t_worthOf h_t_lies h_t_pairs h_t_row h_t_hands h_t_paidOn h_t_lates h_t_fixed h_t_lanes h_t_longs h_t_items h_t_hand h_t_used s_isKept s_taped res.2.1 s_at s_readMany s_readKind s_readCut s_rowSet s_bestSet s_w res.2.2.1 res.2.2.2.1 res.2.2.2.2)) 0 0 (va_A (W_X11_count k h_t h_t_w h_t_firsts h_t_sizes h_t_worths h_t_tape h_t_readWorths h_t_dues h_t_sums h_t_worthOf h_t_lies h_t_pairs h_t_row h_t_hands h_t_paidOn h_t_lates h_t_fixed h_t_lanes h_t_longs h_t_items h_t_hand h_t_used s_isKept s_taped s_pieces s_at s_readMany s_readKind s_readCut s_rowSet s_bestSet s_w s_firsts s_sizes s_worths) sz) := by
  refine met_of [(0, .ref h_t), (1, .int v1)] (by decide) rfl rfl (Nat.le_of_ble_eq_true rfl) rfl ?_
  intro p e s m args below meth c A hA hsz C
  unfold f_X11_count at h
  refine g_aload_n 0 C 0 dX11_count_0 rfl rfl ?_
  obtain ⟨q1, e2, h⟩ := bi_e h
  refine g_callVv 1 C (As := []) [0, 1, 2, 3, 4] [] [0, 1, 2, 3, 4] (W_X11_count k h_t h_t_w h_t_firsts h_t_sizes h_t_worths h_t_tape h_t_readWorths h_t_dues h_t_sums h_t_worthOf h_t_lies h_t_pairs h_t_row h_t_hands h_t_paidOn h_t_lates h_t_fixed h_t_lanes h_t_longs h_t_items h_t_hand h_t_used s_isKept s_taped q1.1 s_at s_readMany s_readKind s_readCut s_rowSet s_bestSet s_w q1.2.1 q1.2.2.1 q1.2.2.2) 0 (fun sz => k_X11_layNow h_t h_t_w h_t_firsts h_t_sizes h_t_worths h_t_tape h_t_readWorths h_t_dues h_t_sums h_t_worthOf h_t_lies h_t_pairs h_t_row h_t_hands h_t_paidOn h_t_lates h_t_fixed h_t_lanes h_t_longs h_t_items h_t_hand h_t_used s_isKept s_taped s_pieces s_at s_readMany s_readKind s_readCut s_rowSet s_bestSet s_w s_firsts s_sizes s_worths q1 e2 sz) gX11_count_X11_layNow rfl pd_X11_layNow rfl rfl rfl ⟨rfl, rfl, Nat.le_of_ble_eq_true rfl, Nat.le_of_ble_eq_true rfl⟩ (Nat.le_of_ble_eq_true rfl) ⟨Nat.zero_le _, Nat.zero_le _⟩ ⟨rfl, rfl, rfl, rfl, rfl, by decide, rfl⟩ rfl dX11_count_1 ?_
  refine g_iload_n 4 C 1 dX11_count_4 rfl rfl ?_
  by_cases c0 : v1 = (0 : Int32)
  · replace h := it_e c0 h
    refine g_tableIn 5 44 C dX11_count_5 (by rw [c0]; decide) (by rw [c0]; decide) (by rw [c0]; rfl) (by decide) ?_
    refine g_aload_n 44 C 0 dX11_count_44 rfl rfl ?_
    refine g_get 45 C in_X11_count_X11 0 0 rfl rfl (by decide) fl_X11_count_7 rfl rfl dX11_count_45 ?_
    refine g_iconst 48 C (1 : Int32) dX11_count_48 (by decide) ?_
    obtain ⟨o11, h⟩ := ob_e h
    refine g_iald 49 C 1 rfl o11 dX11_count_49 ?_
    obtain rfl := Option.some.inj h
    exact g_iret 50 C hA rfl dX11_count_50 rfl
  · replace h := if_e c0 h
    by_cases c1 : v1 = (1 : Int32)
    · replace h := it_e c1 h
      refine g_tableIn 5 51 C dX11_count_5 (by rw [c1]; decide) (by rw [c1]; decide) (by rw [c1]; rfl) (by decide) ?_
      refine g_aload_n 51 C 0 dX11_count_51 rfl rfl ?_
      obtain ⟨q9, e10, h⟩ := bi_e h
      refine g_callVi 52 C (As := []) [0, 1] [2, 3, 4] [3, 4, 0, 1, 2] (W_X11_count k h_t h_t_w h_t_firsts h_t_sizes h_t_worths h_t_tape h_t_readWorths h_t_dues h_t_sums h_t_worthOf h_t_lies h_t_pairs h_t_row h_t_hands h_t_paidOn h_t_lates h_t_fixed h_t_lanes h_t_longs h_t_items h_t_hand h_t_used s_isKept s_taped q1.1 s_at s_readMany s_readKind s_readCut s_rowSet s_bestSet s_w q1.2.1 q1.2.2.1 q1.2.2.2) 0 (fun sz => k_X11_notches h_t h_t_w h_t_tape h_t_firsts h_t_sizes h_t_worths h_t_readWorths h_t_dues h_t_sums h_t_worthOf h_t_lies h_t_pairs h_t_row h_t_hands h_t_paidOn h_t_lates h_t_fixed h_t_lanes h_t_longs h_t_items h_t_hand h_t_used s_isKept s_taped q1.1 s_at s_readMany s_readKind s_readCut s_rowSet s_bestSet s_w q9 e10 sz) gX11_count_X11_notches rfl pd_X11_notches rfl rfl rfl ⟨rfl, rfl, Nat.le_of_ble_eq_true rfl, Nat.le_of_ble_eq_true rfl⟩ (Nat.le_of_ble_eq_true rfl) ⟨Nat.zero_le _, Nat.zero_le _⟩ ⟨rfl, rfl, rfl, rfl, rfl, by decide, rfl⟩ rfl dX11_count_52 ?_
      obtain rfl := Option.some.inj h
      exact g_iret 55 C hA rfl dX11_count_55 rfl
    · replace h := if_e c1 h
      by_cases c2 : v1 = (2 : Int32)
      · replace h := it_e c2 h
        refine g_tableIn 5 56 C dX11_count_5 (by rw [c2]; decide) (by rw [c2]; decide) (by rw [c2]; rfl) (by decide) ?_
        refine g_aload_n 56 C 0 dX11_count_56 rfl rfl ?_
        refine g_get 57 C in_X11_count_X11 0 0 rfl rfl (by decide) fl_X11_count_7 rfl rfl dX11_count_57 ?_
        refine g_bipush 60 C (26 : Int32) dX11_count_60 (by decide) ?_
        obtain ⟨o6, h⟩ := ob_e h
        refine g_iald 62 C 1 rfl o6 dX11_count_62 ?_
        obtain ⟨q7, e8, h⟩ := bi_e h
        refine g_callSi 63 C (As := [.int (s_w (26 : Int32).toNatClampNeg)]) [] [0, 1, 2, 3, 4] [0, 1, 2, 3, 4] (W_X11_count k h_t h_t_w h_t_firsts h_t_sizes h_t_worths h_t_tape h_t_readWorths h_t_dues h_t_sums h_t_worthOf h_t_lies h_t_pairs h_t_row h_t_hands h_t_paidOn h_t_lates h_t_fixed h_t_lanes h_t_longs h_t_items h_t_hand h_t_used s_isKept s_taped q1.1 s_at s_readMany s_readKind s_readCut s_rowSet s_bestSet s_w q1.2.1 q1.2.2.1 q1.2.2.2) (fun sz => k_X11_ones (s_w (26 : Int32).toNatClampNeg) q7 e8 sz) gX11_count_X11_ones rfl pd_X11_ones rfl ⟨rfl, rfl, Nat.le_of_ble_eq_true rfl, Nat.le_of_ble_eq_true rfl⟩ (Nat.le_of_ble_eq_true rfl) ⟨Nat.zero_le _, Nat.zero_le _⟩ ⟨rfl, rfl, rfl, rfl, rfl, by decide, rfl⟩ rfl dX11_count_63 ?_
        obtain rfl := Option.some.inj h
        exact g_iret 66 C hA rfl dX11_count_66 rfl
      · replace h := if_e c2 h
        by_cases c3 : v1 = (3 : Int32)
        · replace h := it_e c3 h
          refine g_tableIn 5 67 C dX11_count_5 (by rw [c3]; decide) (by rw [c3]; decide) (by rw [c3]; rfl) (by decide) ?_
          refine g_aload_n 67 C 0 dX11_count_67 rfl rfl ?_
          refine g_get 68 C in_X11_count_X11 0 7 rfl rfl (by decide) fl_X11_count_85 rfl rfl dX11_count_68 ?_
          obtain rfl := Option.some.inj h
          exact g_iret 71 C hA rfl dX11_count_71 rfl
        · replace h := if_e c3 h
          by_cases c4 : v1 = (4 : Int32)
          · replace h := it_e c4 h
            refine g_tableIn 5 72 C dX11_count_5 (by rw [c4]; decide) (by rw [c4]; decide) (by rw [c4]; rfl) (by decide) ?_
            refine g_aload_n 72 C 0 dX11_count_72 rfl rfl ?_
            obtain ⟨q4, e5, h⟩ := bi_e h
            refine g_callVi 73 C (As := []) [0, 4] [1, 2, 3] [3, 0, 1, 2, 4] (W_X11_count k h_t h_t_w h_t_firsts h_t_sizes h_t_worths h_t_tape h_t_readWorths h_t_dues h_t_sums h_t_worthOf h_t_lies h_t_pairs h_t_row h_t_hands h_t_paidOn h_t_lates h_t_fixed h_t_lanes h_t_longs h_t_items h_t_hand h_t_used s_isKept s_taped q1.1 s_at s_readMany s_readKind s_readCut s_rowSet s_bestSet s_w q1.2.1 q1.2.2.1 q1.2.2.2) 0 (fun sz => k_X11_allWorth h_t h_t_worths h_t_w h_t_tape h_t_firsts h_t_sizes h_t_readWorths h_t_dues h_t_sums h_t_worthOf h_t_lies h_t_pairs h_t_row h_t_hands h_t_paidOn h_t_lates h_t_fixed h_t_lanes h_t_longs h_t_items h_t_hand h_t_used s_isKept s_taped q1.1 s_at s_readMany s_readKind s_readCut s_rowSet s_bestSet q1.2.2.2 q4 e5 sz) gX11_count_X11_allWorth rfl pd_X11_allWorth rfl rfl rfl ⟨rfl, rfl, Nat.le_of_ble_eq_true rfl, Nat.le_of_ble_eq_true rfl⟩ (Nat.le_of_ble_eq_true rfl) ⟨Nat.zero_le _, Nat.zero_le _⟩ ⟨rfl, rfl, rfl, rfl, rfl, by decide, rfl⟩ rfl dX11_count_73 ?_
            obtain rfl := Option.some.inj h
            exact g_iret 76 C hA rfl dX11_count_76 rfl
          · replace h := if_e c4 h
            by_cases c5 : v1 = (5 : Int32)
            · replace h := it_e c5 h
              refine g_tableIn 5 77 C dX11_count_5 (by rw [c5]; decide) (by rw [c5]; decide) (by rw [c5]; rfl) (by decide) ?_
              refine g_aload_n 77 C 0 dX11_count_77 rfl rfl ?_
              refine g_get 78 C in_X11_count_X11 0 0 rfl rfl (by decide) fl_X11_count_7 rfl rfl dX11_count_78 ?_
              refine g_iconst 81 C (0 : Int32) dX11_count_81 (by decide) ?_
              obtain ⟨o3, h⟩ := ob_e h
              refine g_iald 82 C 1 rfl o3 dX11_count_82 ?_
              obtain rfl := Option.some.inj h
              exact g_iret 83 C hA rfl dX11_count_83 rfl
            · replace h := if_e c5 h
              refine g_tableOut 5 84 C dX11_count_5 (sw_out 6 (by decide) (by intro j hj; match j, hj with | 0, _ => exact c0 | 1, _ => exact c1 | 2, _ => exact c2 | 3, _ => exact c3 | 4, _ => exact c4 | 5, _ => exact c5)) (by decide) ?_
              refine g_iconst 84 C (-1 : Int32) dX11_count_84 (by decide) ?_
              obtain rfl := Option.some.inj h
              exact g_iret 85 C hA rfl dX11_count_85 rfl
end
