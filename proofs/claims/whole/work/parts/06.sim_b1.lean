/-! X4_choosePart -/
abbrev W_X4_choosePart (k : Nat → ClassId) (h_t : Nat) (h_t_row : Nat) (h_a0 : Nat) (h_a0_cuts : Nat) (h_t_paid : Nat) (h_t_counts : Nat) (h_a0_worths : Nat) (h_a0_ahead : Nat) (s_most : Int64) (s_row : Nat → Int32) (s_a0_kind : Int32) (s_a0_links : Int32) (s_a0_cutCount : Int32) (s_a0_cuts : Nat → Int32) : va_W := [(h_t, .inr (4, [.ref h_t_row, .ref h_t_paid, .ref h_t_counts, .long s_most])), (h_t_row, .inl (k 0, 5, .inl s_row)), (h_a0, .inr (1, [.ref h_a0_worths, .ref h_a0_ahead, .ref h_a0_cuts, .int s_a0_kind, .int s_a0_links, .int s_a0_cutCount])), (h_a0_cuts, .inl (k 0, 5, .inl s_a0_cuts))]
def rm_X4_choosePart : Room := { frames := 0, cells := 0, slots := 0, locals := 0 }
theorem in_X4_choosePart_X1 : ∀ w ∈ u_ws RX1 TX1 6, w ∈ wsX4_choosePart := by decide +kernel
theorem in_X4_choosePart_X4 : ∀ w ∈ u_ws RX4 TX4 4, w ∈ wsX4_choosePart := by decide +kernel
theorem fl_X4_choosePart_22 : Cond.fieldLink RX4 22 "LinkDays$Chain" "cutCount" "I" ∈ wsX4_choosePart := by decide +kernel
theorem fl_X4_choosePart_28 : Cond.fieldLink RX4 28 "LinkDays$Chain" "cuts" "[I" ∈ wsX4_choosePart := by decide +kernel
theorem fl_X4_choosePart_9 : Cond.fieldLink RX4 9 "LinkDays$Delay" "row" "[I" ∈ wsX4_choosePart := by decide +kernel
theorem pd_X4_choosePart : yX4_choosePart.cls = RX4 ∧ yX4_choosePart.cls ≠ "java/lang/invoke/MethodHandle" ∧ yX4_choosePart.cls ≠ "java/lang/invoke/VarHandle" ∧ (parseMethodDescriptor yX4_choosePart.desc).map (fun d => d.parameters.length) = some 2 := by decide +kernel
section
variable {p : Program} {l : Launch} {e : Env} {s : State} {m : MethodId} {args : Array Value} {below : List Frame} {meth : Method} {c : Code} {D : va_G} {k : Nat → ClassId} {A : Nat → Prop} {w0 : va_W} {sz : Nat}
set_option maxHeartbeats 4000000 in
set_option maxRecDepth 100000 in
theorem ok_B_X4_choosePart_39 {h_t : Nat} {h_t_row : Nat} {h_a0 : Nat} {h_a0_cuts : Nat} {h_t_paid : Nat} {h_t_counts : Nat} {h_a0_worths : Nat} {h_a0_ahead : Nat} {s_most : Int64} {s_row : Nat → Int32} {s_a0_kind : Int32} {s_a0_links : Int32} {s_a0_cutCount : Int32} {s_a0_cuts : Nat → Int32} {v2 : Int32} {v3 : Int32} {v4 : Int32} {res : Int32 × (Nat → Int32)} {kx rec : Int32 × Int32 × (Nat → Int32) → Option (Int32 × (Nat → Int32))} (C : CX p s m args meth c cX4_choosePart wsX4_choosePart RX4 5 D k A (some .int)) (hA : A = va_A w0 sz) (hx : ∀ t : Int32 × Int32 × (Nat → Int32), kx t = some res → GG p l e rm_X4_choosePart s m args below meth c (MQ below (cQi D w0 sz res.1 (W_X4_choosePart k h_t h_t_row h_a0 h_a0_cuts h_t_paid h_t_counts h_a0_worths h_a0_ahead s_most res.2 s_a0_kind s_a0_links s_a0_cutCount s_a0_cuts)) args s 0 0 A) D A 5 0 0 45 [(3, .int t.1)] [] (W_X4_choosePart k h_t h_t_row h_a0 h_a0_cuts h_t_paid h_t_counts h_a0_worths h_a0_ahead s_most t.2.2 s_a0_kind s_a0_links s_a0_cutCount s_a0_cuts)) (hr : ∀ t : Int32 × Int32 × (Nat → Int32), rec t = some res → GG p l e rm_X4_choosePart s m args below meth c (MQ below (cQi D w0 sz res.1 (W_X4_choosePart k h_t h_t_row h_a0 h_a0_cuts h_t_paid h_t_counts h_a0_worths h_a0_ahead s_most res.2 s_a0_kind s_a0_links s_a0_cutCount s_a0_cuts)) args s 0 0 A) D A 5 0 0 5 [(0, .ref h_t), (1, .ref h_a0), (2, .int v2), (3, .int t.1), (4, .int t.2.1)] [] (W_X4_choosePart k h_t h_t_row h_a0 h_a0_cuts h_t_paid h_t_counts h_a0_worths h_a0_ahead s_most t.2.2 s_a0_kind s_a0_links s_a0_cutCount s_a0_cuts))  (h : B_X4_choosePart_39 kx rec s_row v3 v4 = some res) : GG p l e rm_X4_choosePart s m args below meth c (MQ below (cQi D w0 sz res.1 (W_X4_choosePart k h_t h_t_row h_a0 h_a0_cuts h_t_paid h_t_counts h_a0_worths h_a0_ahead s_most res.2 s_a0_kind s_a0_links s_a0_cutCount s_a0_cuts)) args s 0 0 A) D A 5 0 0 39 [(0, .ref h_t), (1, .ref h_a0), (2, .int v2), (3, .int v3), (4, .int v4)] [] (W_X4_choosePart k h_t h_t_row h_a0 h_a0_cuts h_t_paid h_t_counts h_a0_worths h_a0_ahead s_most s_row s_a0_kind s_a0_links s_a0_cutCount s_a0_cuts) := by
  unfold B_X4_choosePart_39 at h
  refine g_iinc 39 C 4 (1 : Int32) [(4, .int (v4 + (1 : Int32))), (0, .ref h_t), (1, .ref h_a0), (2, .int v2), (3, .int v3)] dX4_choosePart_39 rfl (by decide) (by decide) rfl ?_
  refine g_goto 42 5 C dX4_choosePart_42 (by decide) ?_
  refine GG.sub (lv' := [(0, .ref h_t), (1, .ref h_a0), (2, .int v2), (3, .int v3), (4, .int (v4 + (1 : Int32)))]) [1, 2, 3, 4, 0] rfl ?_
  exact hr (v3, (v4 + (1 : Int32)), s_row) h
set_option maxHeartbeats 4000000 in
set_option maxRecDepth 100000 in
theorem ok_L_X4_choosePart_5 {h_t : Nat} {h_t_row : Nat} {h_a0 : Nat} {h_a0_cuts : Nat} {h_t_paid : Nat} {h_t_counts : Nat} {h_a0_worths : Nat} {h_a0_ahead : Nat} {s_most : Int64} {s_a0_kind : Int32} {s_a0_links : Int32} {s_a0_cutCount : Int32} {s_a0_cuts : Nat → Int32} {v2 : Int32} {res : Int32 × (Nat → Int32)} (C : CX p s m args meth c cX4_choosePart wsX4_choosePart RX4 5 D k A (some .int)) (hA : A = va_A w0 sz) {kx : Int32 × Int32 × (Nat → Int32) → Option (Int32 × (Nat → Int32))} (hx : ∀ t : Int32 × Int32 × (Nat → Int32), kx t = some res → GG p l e rm_X4_choosePart s m args below meth c (MQ below (cQi D w0 sz res.1 (W_X4_choosePart k h_t h_t_row h_a0 h_a0_cuts h_t_paid h_t_counts h_a0_worths h_a0_ahead s_most res.2 s_a0_kind s_a0_links s_a0_cutCount s_a0_cuts)) args s 0 0 A) D A 5 0 0 45 [(3, .int t.1)] [] (W_X4_choosePart k h_t h_t_row h_a0 h_a0_cuts h_t_paid h_t_counts h_a0_worths h_a0_ahead s_most t.2.2 s_a0_kind s_a0_links s_a0_cutCount s_a0_cuts)) : ∀ (n : Nat) (t : Int32 × Int32 × (Nat → Int32)), L_X4_choosePart_5 s_a0_cutCount s_a0_cuts v2 kx n t = some res → GG p l e rm_X4_choosePart s m args below meth c (MQ below (cQi D w0 sz res.1 (W_X4_choosePart k h_t h_t_row h_a0 h_a0_cuts h_t_paid h_t_counts h_a0_worths h_a0_ahead s_most res.2 s_a0_kind s_a0_links s_a0_cutCount s_a0_cuts)) args s 0 0 A) D A 5 0 0 5 [(0, .ref h_t), (1, .ref h_a0), (2, .int v2), (3, .int t.1), (4, .int t.2.1)] [] (W_X4_choosePart k h_t h_t_row h_a0 h_a0_cuts h_t_paid h_t_counts h_a0_worths h_a0_ahead s_most t.2.2 s_a0_kind s_a0_links s_a0_cutCount s_a0_cuts) := by
  intro n
  induction n with
  | zero => intro t h; cases h
  | succ n ih =>
    intro t h
    obtain ⟨v3, v4, s_row⟩ := t
    replace h : LB_X4_choosePart_5 s_a0_cutCount s_a0_cuts v2 kx (L_X4_choosePart_5 s_a0_cutCount s_a0_cuts v2 kx n) v3 v4 s_row = some res := h
    have hr := ih
    unfold LB_X4_choosePart_5 at h
    refine g_iload 5 C 4 dX4_choosePart_5 rfl ?_
    refine g_aload_n 7 C 1 dX4_choosePart_7 rfl rfl ?_
    refine g_get 8 C in_X4_choosePart_X1 2 5 rfl rfl (by decide) fl_X4_choosePart_22 rfl rfl dX4_choosePart_8 ?_
    refine g_icmp_ge 11 45 C dX4_choosePart_11 (by decide) (fun c => ?_) (fun c => ?_)
    · replace h := it_e c h
      refine GG.sub (lv' := [(3, .int v3)]) [3] rfl ?_
      exact hx (v3, v4, s_row) h
    · replace h := if_e c h
      refine g_iload_n 14 C 2 dX4_choosePart_14 rfl rfl ?_
      refine g_iload 15 C 4 dX4_choosePart_15 rfl ?_
      refine g_ishr 17 C dX4_choosePart_17 ?_
      refine g_iconst 18 C (1 : Int32) dX4_choosePart_18 (by decide) ?_
      refine g_iand 19 C dX4_choosePart_19 ?_
      refine g_if_eq 20 39 C dX4_choosePart_20 (by decide) (fun c => ?_) (fun c => ?_)
      · replace h := it_e c h
        refine GG.sub (lv' := [(0, .ref h_t), (1, .ref h_a0), (2, .int v2), (3, .int v3), (4, .int v4)]) [0, 1, 2, 3, 4] rfl ?_
        exact ok_B_X4_choosePart_39 C hA hx hr h
      · replace h := if_e c h
        refine g_aload_n 23 C 0 dX4_choosePart_23 rfl rfl ?_
        refine g_get 24 C in_X4_choosePart_X4 0 0 rfl rfl (by decide) fl_X4_choosePart_9 rfl rfl dX4_choosePart_24 ?_
        refine g_iload_n 27 C 3 dX4_choosePart_27 rfl rfl ?_
        refine g_aload_n 28 C 1 dX4_choosePart_28 rfl rfl ?_
        refine g_get 29 C in_X4_choosePart_X1 2 2 rfl rfl (by decide) fl_X4_choosePart_28 rfl rfl dX4_choosePart_29 ?_
        refine g_iload 32 C 4 dX4_choosePart_32 rfl ?_
        obtain ⟨o1, h⟩ := ob_e h
        refine g_iald 34 C 3 rfl o1 dX4_choosePart_34 ?_
        obtain ⟨o2, h⟩ := ob_e h
        refine g_iast 35 C (W_X4_choosePart k h_t h_t_row h_a0 h_a0_cuts h_t_paid h_t_counts h_a0_worths h_a0_ahead s_most (upd s_row v3.toNatClampNeg (s_a0_cuts v4.toNatClampNeg)) s_a0_kind s_a0_links s_a0_cutCount s_a0_cuts) 1 rfl o2 rfl dX4_choosePart_35 ?_
        refine g_iinc 36 C 3 (1 : Int32) [(3, .int (v3 + (1 : Int32))), (0, .ref h_t), (1, .ref h_a0), (2, .int v2), (4, .int v4)] dX4_choosePart_36 rfl (by decide) (by decide) rfl ?_
        refine GG.sub (lv' := [(0, .ref h_t), (1, .ref h_a0), (2, .int v2), (3, .int (v3 + (1 : Int32))), (4, .int v4)]) [1, 2, 3, 0, 4] rfl ?_
        exact ok_B_X4_choosePart_39 C hA hx hr h
set_option maxHeartbeats 4000000 in
set_option maxRecDepth 100000 in
theorem ok_B_X4_choosePart_45 {h_t : Nat} {h_t_row : Nat} {h_a0 : Nat} {h_a0_cuts : Nat} {h_t_paid : Nat} {h_t_counts : Nat} {h_a0_worths : Nat} {h_a0_ahead : Nat} {s_most : Int64} {s_row : Nat → Int32} {s_a0_kind : Int32} {s_a0_links : Int32} {s_a0_cutCount : Int32} {s_a0_cuts : Nat → Int32} {v3 : Int32} {res : Int32 × (Nat → Int32)} (C : CX p s m args meth c cX4_choosePart wsX4_choosePart RX4 5 D k A (some .int)) (hA : A = va_A w0 sz)  (h : B_X4_choosePart_45 s_row v3 = some res) : GG p l e rm_X4_choosePart s m args below meth c (MQ below (cQi D w0 sz res.1 (W_X4_choosePart k h_t h_t_row h_a0 h_a0_cuts h_t_paid h_t_counts h_a0_worths h_a0_ahead s_most res.2 s_a0_kind s_a0_links s_a0_cutCount s_a0_cuts)) args s 0 0 A) D A 5 0 0 45 [(3, .int v3)] [] (W_X4_choosePart k h_t h_t_row h_a0 h_a0_cuts h_t_paid h_t_counts h_a0_worths h_a0_ahead s_most s_row s_a0_kind s_a0_links s_a0_cutCount s_a0_cuts) := by
  unfold B_X4_choosePart_45 at h
  refine g_iload_n 45 C 0 dX4_choosePart_45 rfl rfl ?_
  obtain rfl := Option.some.inj h
  exact g_iret 46 C hA rfl dX4_choosePart_46 rfl
set_option maxHeartbeats 4000000 in
set_option maxRecDepth 100000 in
theorem k_X4_choosePart {l : Launch} {D : va_G} {k : Nat → ClassId} (h_t : Nat) (h_t_row : Nat) (h_a0 : Nat) (h_a0_cuts : Nat) (h_t_paid : Nat) (h_t_counts : Nat) (h_a0_worths : Nat) (h_a0_ahead : Nat) (s_most : Int64) (s_row : Nat → Int32) (s_a0_kind : Int32) (s_a0_links : Int32) (s_a0_cutCount : Int32) (s_a0_cuts : Nat → Int32) (v2 : Int32) (res : Int32 × (Nat → Int32)) (h : f_X4_choosePart s_row s_a0_cutCount s_a0_cuts v2 = some res) (sz : Nat) : Met l yX4_choosePart wsX4_choosePart rm_X4_choosePart (cPre D k [.ref h_t, .ref h_a0, .int v2] (W_X4_choosePart k h_t h_t_row h_a0 h_a0_cuts h_t_paid h_t_counts h_a0_worths h_a0_ahead s_most s_row s_a0_kind s_a0_links s_a0_cutCount s_a0_cuts) sz) (cQi D (W_X4_choosePart k h_t h_t_row h_a0 h_a0_cuts h_t_paid h_t_counts h_a0_worths h_a0_ahead s_most s_row s_a0_kind s_a0_links s_a0_cutCount s_a0_cuts) sz res.1 (W_X4_choosePart k h_t h_t_row h_a0 h_a0_cuts h_t_paid h_t_counts h_a0_worths h_a0_ahead s_most res.2 s_a0_kind s_a0_links s_a0_cutCount s_a0_cuts)) 0 0 (va_A (W_X4_choosePart k h_t h_t_row h_a0 h_a0_cuts h_t_paid h_t_counts h_a0_worths h_a0_ahead s_most s_row s_a0_kind s_a0_links s_a0_cutCount s_a0_cuts) sz) := by
  refine met_of [(0, .ref h_t), (1, .ref h_a0), (2, .int v2)] (by decide) rfl rfl (Nat.le_of_ble_eq_true rfl) rfl ?_
  intro p e s m args below meth c A hA hsz C
  unfold f_X4_choosePart at h
  refine g_iconst 0 C (0 : Int32) dX4_choosePart_0 (by decide) ?_
  refine g_istore_n 1 C [(3, .int (0 : Int32)), (0, .ref h_t), (1, .ref h_a0), (2, .int v2)] dX4_choosePart_1 rfl (by decide) rfl ?_
  refine g_iconst 2 C (0 : Int32) dX4_choosePart_2 (by decide) ?_
  refine g_istore 3 C [(4, .int (0 : Int32)), (3, .int (0 : Int32)), (0, .ref h_t), (1, .ref h_a0), (2, .int v2)] dX4_choosePart_3 (by decide) rfl ?_
  refine GG.sub (lv' := [(0, .ref h_t), (1, .ref h_a0), (2, .int v2), (3, .int (0 : Int32)), (4, .int (0 : Int32))]) [2, 3, 4, 1, 0] rfl ?_
  exact ok_L_X4_choosePart_5 C hA (fun t h => by
    refine GG.sub (lv' := [(3, .int t.1)]) [0] rfl ?_
    exact ok_B_X4_choosePart_45 C hA h) FUEL ((0 : Int32), (0 : Int32), s_row) h
end

/-! X4_makeCut -/
abbrev W_X4_makeCut (k : Nat → ClassId) (h_t : Nat) (h_t_counts : Nat) (h_t_row : Nat) (h_t_paid : Nat) (s_most : Int64) (s_counts : Nat → Int64) : va_W := [(h_t, .inr (4, [.ref h_t_row, .ref h_t_paid, .ref h_t_counts, .long s_most])), (h_t_counts, .inl (k 1, 32, .inr (.inl s_counts)))]
def rm_X4_makeCut : Room := { frames := 1, cells := 0, slots := 0, locals := 23 }
theorem in_X4_makeCut_X4 : ∀ w ∈ u_ws RX4 TX4 4, w ∈ wsX4_makeCut := by decide +kernel
theorem ct_X4_makeCut_45 : Cond.constantLong RX4 45 (844596301 : Int64) ∈ wsX4_makeCut := by decide +kernel
theorem fl_X4_makeCut_19 : Cond.fieldLink RX4 19 "LinkDays$Delay" "counts" "[J" ∈ wsX4_makeCut := by decide +kernel
theorem fl_X4_makeCut_47 : Cond.fieldLink RX4 47 "LinkDays$Delay" "DIGITS" "[J" ∈ wsX4_makeCut := by decide +kernel
theorem mc_X4_makeCut_m50 : Cond.code Lib.MathLoose.max_long.x Lib.MathLoose.max_long.code 4 (some .long) ∈ wsX4_makeCut := by decide +kernel
theorem mi_X4_makeCut_m50 : Cond.initialized "java/lang/Math" ∈ wsX4_makeCut := by decide +kernel
theorem ml_X4_makeCut_m50 : Cond.methodLink RX4 50 Lib.MathLoose.max_long.x ∈ wsX4_makeCut := by decide +kernel
theorem ms_X4_makeCut_m50 : Cond.static Lib.MathLoose.max_long.x ∈ wsX4_makeCut := by decide +kernel
theorem pd_X4_makeCut : yX4_makeCut.cls = RX4 ∧ yX4_makeCut.cls ≠ "java/lang/invoke/MethodHandle" ∧ yX4_makeCut.cls ≠ "java/lang/invoke/VarHandle" ∧ (parseMethodDescriptor yX4_makeCut.desc).map (fun d => d.parameters.length) = some 3 := by decide +kernel
section
variable {p : Program} {l : Launch} {e : Env} {s : State} {m : MethodId} {args : Array Value} {below : List Frame} {meth : Method} {c : Code} {D : va_G} {k : Nat → ClassId} {A : Nat → Prop} {w0 : va_W} {sz : Nat}
set_option maxHeartbeats 4000000 in
set_option maxRecDepth 100000 in
theorem ok_B_X4_makeCut_81 {h_t : Nat} {h_t_counts : Nat} {h_t_row : Nat} {h_t_paid : Nat} {s_most : Int64} {s_counts : Nat → Int64} {v3 : Int32} {v4 : Int32} {v5 : Int64} {v7 : Int32} {res : (Nat → Int64)} {kx rec : Int32 × (Nat → Int64) → Option ((Nat → Int64))} (C : CX p s m args meth c cX4_makeCut wsX4_makeCut RX4 8 D k A none) (hA : A = va_A w0 sz) (hx : ∀ t : Int32 × (Nat → Int64), kx t = some res → GG p l e rm_X4_makeCut s m args below meth c (MQ below (cQv D w0 sz (W_X4_makeCut k h_t h_t_counts h_t_row h_t_paid s_most res)) args s 0 0 A) D A 8 0 0 87 [] [] (W_X4_makeCut k h_t h_t_counts h_t_row h_t_paid s_most t.2)) (hr : ∀ t : Int32 × (Nat → Int64), rec t = some res → GG p l e rm_X4_makeCut s m args below meth c (MQ below (cQv D w0 sz (W_X4_makeCut k h_t h_t_counts h_t_row h_t_paid s_most res)) args s 0 0 A) D A 8 0 0 22 [(0, .ref h_t), (3, .int v3), (4, .int v4), (5, .long v5), (7, .int t.1)] [] (W_X4_makeCut k h_t h_t_counts h_t_row h_t_paid s_most t.2))  (h : B_X4_makeCut_81 kx rec s_counts v7 = some res) : GG p l e rm_X4_makeCut s m args below meth c (MQ below (cQv D w0 sz (W_X4_makeCut k h_t h_t_counts h_t_row h_t_paid s_most res)) args s 0 0 A) D A 8 0 0 81 [(0, .ref h_t), (3, .int v3), (4, .int v4), (5, .long v5), (7, .int v7)] [] (W_X4_makeCut k h_t h_t_counts h_t_row h_t_paid s_most s_counts) := by
  unfold B_X4_makeCut_81 at h
  refine g_iinc 81 C 4 (1 : Int32) [(7, .int (v7 + (1 : Int32))), (0, .ref h_t), (3, .int v3), (4, .int v4), (5, .long v5)] dX4_makeCut_81 rfl (by decide) (by decide) rfl ?_
  refine g_goto 84 22 C dX4_makeCut_84 (by decide) ?_
  refine GG.sub (lv' := [(0, .ref h_t), (3, .int v3), (4, .int v4), (5, .long v5), (7, .int (v7 + (1 : Int32)))]) [1, 2, 3, 4, 0] rfl ?_
  exact hr ((v7 + (1 : Int32)), s_counts) h
set_option maxHeartbeats 4000000 in
set_option maxRecDepth 100000 in
theorem ok_L_X4_makeCut_22 {h_t : Nat} {h_t_counts : Nat} {h_t_row : Nat} {h_t_paid : Nat} {s_most : Int64} {v3 : Int32} {v4 : Int32} {v5 : Int64} {res : (Nat → Int64)} (C : CX p s m args meth c cX4_makeCut wsX4_makeCut RX4 8 D k A none) (hA : A = va_A w0 sz) {kx : Int32 × (Nat → Int64) → Option ((Nat → Int64))} (hx : ∀ t : Int32 × (Nat → Int64), kx t = some res → GG p l e rm_X4_makeCut s m args below meth c (MQ below (cQv D w0 sz (W_X4_makeCut k h_t h_t_counts h_t_row h_t_paid s_most res)) args s 0 0 A) D A 8 0 0 87 [] [] (W_X4_makeCut k h_t h_t_counts h_t_row h_t_paid s_most t.2)) : ∀ (n : Nat) (t : Int32 × (Nat → Int64)), L_X4_makeCut_22 v3 v4 v5 kx n t = some res → GG p l e rm_X4_makeCut s m args below meth c (MQ below (cQv D w0 sz (W_X4_makeCut k h_t h_t_counts h_t_row h_t_paid s_most res)) args s 0 0 A) D A 8 0 0 22 [(0, .ref h_t), (3, .int v3), (4, .int v4), (5, .long v5), (7, .int t.1)] [] (W_X4_makeCut k h_t h_t_counts h_t_row h_t_paid s_most t.2) := by
  intro n
  induction n with
  | zero => intro t h; cases h
  | succ n ih =>
    intro t h
    obtain ⟨v7, s_counts⟩ := t
    replace h : LB_X4_makeCut_22 v3 v4 v5 kx (L_X4_makeCut_22 v3 v4 v5 kx n) v7 s_counts = some res := h
    have hr := ih
    unfold LB_X4_makeCut_22 at h
    refine g_iload 22 C 4 dX4_makeCut_22 rfl ?_
    refine g_iload_n 24 C 1 dX4_makeCut_24 rfl rfl ?_
    refine g_icmp_ge 25 87 C dX4_makeCut_25 (by decide) (fun c => ?_) (fun c => ?_)
    · replace h := it_e c h
      refine GG.sub (lv' := []) [] rfl ?_
      exact hx (v7, s_counts) h
    · replace h := if_e c h
      refine g_iload 28 C 4 dX4_makeCut_28 rfl ?_
      refine g_iload 30 C 2 dX4_makeCut_30 rfl ?_
      refine g_iand 32 C dX4_makeCut_32 ?_
      refine g_if_eq 33 81 C dX4_makeCut_33 (by decide) (fun c => ?_) (fun c => ?_)
      · replace h := it_e c h
        refine GG.sub (lv' := [(0, .ref h_t), (3, .int v3), (4, .int v4), (5, .long v5), (7, .int v7)]) [0, 1, 2, 3, 4] rfl ?_
        exact ok_B_X4_makeCut_81 C hA hx hr h
      · replace h := if_e c h
        refine g_aload_n 36 C 0 dX4_makeCut_36 rfl rfl ?_
        refine g_get 37 C in_X4_makeCut_X4 0 2 rfl rfl (by decide) fl_X4_makeCut_19 rfl rfl dX4_makeCut_37 ?_
        refine g_iload 40 C 4 dX4_makeCut_40 rfl ?_
        refine g_iload 42 C 2 dX4_makeCut_42 rfl ?_
        refine g_ixor 44 C dX4_makeCut_44 ?_
        obtain ⟨o2, h⟩ := ob_e h
        refine g_lald 45 C 1 rfl o2 dX4_makeCut_45 ?_
        refine g_lconst 46 C (0 : Int64) dX4_makeCut_46 (by decide) ?_
        refine g_lcmp 47 C dX4_makeCut_47 ?_
        refine g_if_lt 48 81 C dX4_makeCut_48 (by decide) (fun c => ?_) (fun c => ?_)
        · replace h := it_e c h
          refine GG.sub (lv' := [(0, .ref h_t), (3, .int v3), (4, .int v4), (5, .long v5), (7, .int v7)]) [0, 1, 2, 3, 4] rfl ?_
          exact ok_B_X4_makeCut_81 C hA hx hr h
        · replace h := if_e c h
          refine g_aload_n 51 C 0 dX4_makeCut_51 rfl rfl ?_
          refine g_get 52 C in_X4_makeCut_X4 0 2 rfl rfl (by decide) fl_X4_makeCut_19 rfl rfl dX4_makeCut_52 ?_
          refine g_iload 55 C 4 dX4_makeCut_55 rfl ?_
          refine g_aload_n 57 C 0 dX4_makeCut_57 rfl rfl ?_
          refine g_get 58 C in_X4_makeCut_X4 0 2 rfl rfl (by decide) fl_X4_makeCut_19 rfl rfl dX4_makeCut_58 ?_
          refine g_iload 61 C 4 dX4_makeCut_61 rfl ?_
          obtain ⟨o3, h⟩ := ob_e h
          refine g_lald 63 C 1 rfl o3 dX4_makeCut_63 ?_
          refine g_aload_n 64 C 0 dX4_makeCut_64 rfl rfl ?_
          refine g_get 65 C in_X4_makeCut_X4 0 2 rfl rfl (by decide) fl_X4_makeCut_19 rfl rfl dX4_makeCut_65 ?_
          refine g_iload 68 C 4 dX4_makeCut_68 rfl ?_
          refine g_iload 70 C 2 dX4_makeCut_70 rfl ?_
          refine g_ixor 72 C dX4_makeCut_72 ?_
          obtain ⟨o4, h⟩ := ob_e h
          refine g_lald 73 C 1 rfl o4 dX4_makeCut_73 ?_
          refine g_lload 74 C 3 dX4_makeCut_74 rfl ?_
          refine g_ladd 76 C dX4_makeCut_76 ?_
          refine g_mmaxl 77 C ml_X4_makeCut_m50 ms_X4_makeCut_m50 mi_X4_makeCut_m50 mc_X4_makeCut_m50 (Nat.le_of_ble_eq_true rfl) (Nat.le_of_ble_eq_true rfl) ⟨Nat.zero_le _, Nat.zero_le _⟩ dX4_makeCut_77 ?_
          obtain ⟨o5, h⟩ := ob_e h
          refine g_last 80 C (W_X4_makeCut k h_t h_t_counts h_t_row h_t_paid s_most (vp_updL s_counts v7.toNatClampNeg (if ((s_counts (v7 ^^^ v4).toNatClampNeg) + v5) < (s_counts v7.toNatClampNeg) then (s_counts v7.toNatClampNeg) else ((s_counts (v7 ^^^ v4).toNatClampNeg) + v5)))) 1 rfl o5 rfl dX4_makeCut_80 ?_
          refine GG.sub (lv' := [(0, .ref h_t), (3, .int v3), (4, .int v4), (5, .long v5), (7, .int v7)]) [0, 1, 2, 3, 4] rfl ?_
          exact ok_B_X4_makeCut_81 C hA hx hr h
set_option maxHeartbeats 4000000 in
set_option maxRecDepth 100000 in
theorem ok_B_X4_makeCut_87 {h_t : Nat} {h_t_counts : Nat} {h_t_row : Nat} {h_t_paid : Nat} {s_most : Int64} {s_counts : Nat → Int64} {res : (Nat → Int64)} (C : CX p s m args meth c cX4_makeCut wsX4_makeCut RX4 8 D k A none) (hA : A = va_A w0 sz)  (h : B_X4_makeCut_87 s_counts = some res) : GG p l e rm_X4_makeCut s m args below meth c (MQ below (cQv D w0 sz (W_X4_makeCut k h_t h_t_counts h_t_row h_t_paid s_most res)) args s 0 0 A) D A 8 0 0 87 [] [] (W_X4_makeCut k h_t h_t_counts h_t_row h_t_paid s_most s_counts) := by
  unfold B_X4_makeCut_87 at h
  obtain rfl := Option.some.inj h
  exact g_vret 87 C hA dX4_makeCut_87 rfl
set_option maxHeartbeats 4000000 in
set_option maxRecDepth 100000 in
theorem k_X4_makeCut {l : Launch} {D : va_G} {k : Nat → ClassId} (h_t : Nat) (h_t_counts : Nat) (h_t_row : Nat) (h_t_paid : Nat) (s_most : Int64) (s_counts : Nat → Int64) (v1 : Int32) (v2 : Int32) (v3 : Int32) (res : (Nat → Int64)) (h : f_X4_makeCut s_counts v1 v2 v3 = some res) (sz : Nat) : Met l yX4_makeCut wsX4_makeCut rm_X4_makeCut (cPre D k [.ref h_t, .int v1, .int v2, .int v3] (W_X4_makeCut k h_t h_t_counts h_t_row h_t_paid s_most s_counts) sz) (cQv D (W_X4_makeCut k h_t h_t_counts h_t_row h_t_paid s_most s_counts) sz (W_X4_makeCut k h_t h_t_counts h_t_row h_t_paid s_most res)) 0 0 (va_A (W_X4_makeCut k h_t h_t_counts h_t_row h_t_paid s_most s_counts) sz) := by
  refine met_of [(0, .ref h_t), (1, .int v1), (2, .int v2), (3, .int v3)] (by decide) rfl rfl (Nat.le_of_ble_eq_true rfl) rfl ?_
  intro p e s m args below meth c A hA hsz C
  unfold f_X4_makeCut at h
  refine g_iconst 0 C (1 : Int32) dX4_makeCut_0 (by decide) ?_
  refine g_iload_n 1 C 1 dX4_makeCut_1 rfl rfl ?_
  refine g_ishl 2 C dX4_makeCut_2 ?_
  refine g_istore 3 C [(4, .int ((1 : Int32) <<< (v1 &&& 31))), (0, .ref h_t), (1, .int v1), (2, .int v2), (3, .int v3)] dX4_makeCut_3 (by decide) rfl ?_
  refine g_iload_n 5 C 3 dX4_makeCut_5 rfl rfl ?_
  refine g_i2l 6 C dX4_makeCut_6 ?_
  refine g_ldc2 7 C (844596301 : Int64) dX4_makeCut_7 ct_X4_makeCut_45 ?_
  refine g_digits 10 C fl_X4_makeCut_47 dX4_makeCut_10 ?_
  refine g_iload_n 13 C 2 dX4_makeCut_13 rfl rfl ?_
  obtain ⟨o1, h⟩ := ob_e h
  refine g_tlald 14 C o1 dX4_makeCut_14 ?_
  refine g_lsub 15 C dX4_makeCut_15 ?_
  refine g_lmul 16 C dX4_makeCut_16 ?_
  refine g_lstore 17 C [(5, .long (v2.toInt64 * ((844596301 : Int64) - (dig v1.toNatClampNeg)))), (4, .int ((1 : Int32) <<< (v1 &&& 31))), (0, .ref h_t), (1, .int v1), (2, .int v2), (3, .int v3)] dX4_makeCut_17 (by decide) rfl ?_
  refine g_iconst 19 C (0 : Int32) dX4_makeCut_19 (by decide) ?_
  refine g_istore 20 C [(7, .int (0 : Int32)), (5, .long (v2.toInt64 * ((844596301 : Int64) - (dig v1.toNatClampNeg)))), (4, .int ((1 : Int32) <<< (v1 &&& 31))), (0, .ref h_t), (1, .int v1), (2, .int v2), (3, .int v3)] dX4_makeCut_20 (by decide) rfl ?_
  refine GG.sub (lv' := [(0, .ref h_t), (3, .int v3), (4, .int ((1 : Int32) <<< (v1 &&& 31))), (5, .long (v2.toInt64 * ((844596301 : Int64) - (dig v1.toNatClampNeg)))), (7, .int (0 : Int32))]) [3, 6, 2, 1, 0] rfl ?_
  exact ok_L_X4_makeCut_22 C hA (fun t h => by
    refine GG.sub (lv' := []) [] rfl ?_
    exact ok_B_X4_makeCut_87 C hA h) FUEL ((0 : Int32), s_counts) h
end

/-! X4_keepPaid -/
abbrev W_X4_keepPaid (k : Nat → ClassId) (h_t : Nat) (h_t_paid : Nat) (h_t_counts : Nat) (h_t_row : Nat) (s_most : Int64) (s_paid : Nat → Int64) (s_counts : Nat → Int64) : va_W := [(h_t, .inr (4, [.ref h_t_row, .ref h_t_paid, .ref h_t_counts, .long s_most])), (h_t_paid, .inl (k 1, 32, .inr (.inl s_paid))), (h_t_counts, .inl (k 1, 32, .inr (.inl s_counts)))]
def rm_X4_keepPaid : Room := { frames := 0, cells := 0, slots := 0, locals := 0 }
theorem in_X4_keepPaid_X4 : ∀ w ∈ u_ws RX4 TX4 4, w ∈ wsX4_keepPaid := by decide +kernel
theorem ct_X4_keepPaid_31 : Cond.constantLong RX4 31 (-1 : Int64) ∈ wsX4_keepPaid := by decide +kernel
theorem fl_X4_keepPaid_15 : Cond.fieldLink RX4 15 "LinkDays$Delay" "paid" "[J" ∈ wsX4_keepPaid := by decide +kernel
theorem fl_X4_keepPaid_19 : Cond.fieldLink RX4 19 "LinkDays$Delay" "counts" "[J" ∈ wsX4_keepPaid := by decide +kernel
theorem pd_X4_keepPaid : yX4_keepPaid.cls = RX4 ∧ yX4_keepPaid.cls ≠ "java/lang/invoke/MethodHandle" ∧ yX4_keepPaid.cls ≠ "java/lang/invoke/VarHandle" ∧ (parseMethodDescriptor yX4_keepPaid.desc).map (fun d => d.parameters.length) = some 2 := by decide +kernel
section
variable {p : Program} {l : Launch} {e : Env} {s : State} {m : MethodId} {args : Array Value} {below : List Frame} {meth : Method} {c : Code} {D : va_G} {k : Nat → ClassId} {A : Nat → Prop} {w0 : va_W} {sz : Nat}
set_option maxHeartbeats 4000000 in
set_option maxRecDepth 100000 in
theorem ok_B_X4_keepPaid_31 {h_t : Nat} {h_t_paid : Nat} {h_t_counts : Nat} {h_t_row : Nat} {s_most : Int64} {s_paid : Nat → Int64} {s_counts : Nat → Int64} {v1 : Int32} {v2 : Int32} {v3 : Int32} {res : (Nat → Int64)} {kx rec : Int32 × (Nat → Int64) → Option ((Nat → Int64))} (C : CX p s m args meth c cX4_keepPaid wsX4_keepPaid RX4 4 D k A none) (hA : A = va_A w0 sz) (hx : ∀ t : Int32 × (Nat → Int64), kx t = some res → GG p l e rm_X4_keepPaid s m args below meth c (MQ below (cQv D w0 sz (W_X4_keepPaid k h_t h_t_paid h_t_counts h_t_row s_most s_paid res)) args s 0 0 A) D A 4 0 0 37 [] [] (W_X4_keepPaid k h_t h_t_paid h_t_counts h_t_row s_most s_paid t.2)) (hr : ∀ t : Int32 × (Nat → Int64), rec t = some res → GG p l e rm_X4_keepPaid s m args below meth c (MQ below (cQv D w0 sz (W_X4_keepPaid k h_t h_t_paid h_t_counts h_t_row s_most s_paid res)) args s 0 0 A) D A 4 0 0 2 [(0, .ref h_t), (1, .int v1), (2, .int v2), (3, .int t.1)] [] (W_X4_keepPaid k h_t h_t_paid h_t_counts h_t_row s_most s_paid t.2))  (h : B_X4_keepPaid_31 kx rec s_counts v3 = some res) : GG p l e rm_X4_keepPaid s m args below meth c (MQ below (cQv D w0 sz (W_X4_keepPaid k h_t h_t_paid h_t_counts h_t_row s_most s_paid res)) args s 0 0 A) D A 4 0 0 31 [(0, .ref h_t), (1, .int v1), (2, .int v2), (3, .int v3)] [] (W_X4_keepPaid k h_t h_t_paid h_t_counts h_t_row s_most s_paid s_counts) := by
  unfold B_X4_keepPaid_31 at h
  refine g_iinc 31 C 3 (1 : Int32) [(3, .int (v3 + (1 : Int32))), (0, .ref h_t), (1, .int v1), (2, .int v2)] dX4_keepPaid_31 rfl (by decide) (by decide) rfl ?_
  refine g_goto 34 2 C dX4_keepPaid_34 (by decide) ?_
  refine GG.sub (lv' := [(0, .ref h_t), (1, .int v1), (2, .int v2), (3, .int (v3 + (1 : Int32)))]) [1, 2, 3, 0] rfl ?_
  exact hr ((v3 + (1 : Int32)), s_counts) h
set_option maxHeartbeats 4000000 in
set_option maxRecDepth 100000 in
theorem ok_L_X4_keepPaid_2 {h_t : Nat} {h_t_paid : Nat} {h_t_counts : Nat} {h_t_row : Nat} {s_most : Int64} {s_paid : Nat → Int64} {v1 : Int32} {v2 : Int32} {res : (Nat → Int64)} (C : CX p s m args meth c cX4_keepPaid wsX4_keepPaid RX4 4 D k A none) (hA : A = va_A w0 sz) {kx : Int32 × (Nat → Int64) → Option ((Nat → Int64))} (hx : ∀ t : Int32 × (Nat → Int64), kx t = some res → GG p l e rm_X4_keepPaid s m args below meth c (MQ below (cQv D w0 sz (W_X4_keepPaid k h_t h_t_paid h_t_counts h_t_row s_most s_paid res)) args s 0 0 A) D A 4 0 0 37 [] [] (W_X4_keepPaid k h_t h_t_paid h_t_counts h_t_row s_most s_paid t.2)) : ∀ (n : Nat) (t : Int32 × (Nat → Int64)), L_X4_keepPaid_2 s_paid v1 v2 kx n t = some res → GG p l e rm_X4_keepPaid s m args below meth c (MQ below (cQv D w0 sz (W_X4_keepPaid k h_t h_t_paid h_t_counts h_t_row s_most s_paid res)) args s 0 0 A) D A 4 0 0 2 [(0, .ref h_t), (1, .int v1), (2, .int v2), (3, .int t.1)] [] (W_X4_keepPaid k h_t h_t_paid h_t_counts h_t_row s_most s_paid t.2) := by
  intro n
  induction n with
  | zero => intro t h; cases h
  | succ n ih =>
    intro t h
    obtain ⟨v3, s_counts⟩ := t
    replace h : LB_X4_keepPaid_2 s_paid v1 v2 kx (L_X4_keepPaid_2 s_paid v1 v2 kx n) v3 s_counts = some res := h
    have hr := ih
    unfold LB_X4_keepPaid_2 at h
    refine g_iload_n 2 C 3 dX4_keepPaid_2 rfl rfl ?_
    refine g_iload_n 3 C 2 dX4_keepPaid_3 rfl rfl ?_
    refine g_icmp_ge 4 37 C dX4_keepPaid_4 (by decide) (fun c => ?_) (fun c => ?_)
    · replace h := it_e c h
      refine GG.sub (lv' := []) [] rfl ?_
      exact hx (v3, s_counts) h
    · replace h := if_e c h
      refine g_aload_n 7 C 0 dX4_keepPaid_7 rfl rfl ?_
      refine g_get 8 C in_X4_keepPaid_X4 0 1 rfl rfl (by decide) fl_X4_keepPaid_15 rfl rfl dX4_keepPaid_8 ?_
      refine g_iload_n 11 C 3 dX4_keepPaid_11 rfl rfl ?_
      obtain ⟨o1, h⟩ := ob_e h
      refine g_lald 12 C 1 rfl o1 dX4_keepPaid_12 ?_
      refine g_iload_n 13 C 1 dX4_keepPaid_13 rfl rfl ?_
      refine g_lshr 14 C dX4_keepPaid_14 ?_
      refine g_lconst 15 C (1 : Int64) dX4_keepPaid_15 (by decide) ?_
      refine g_land 16 C dX4_keepPaid_16 ?_
      refine g_lconst 17 C (0 : Int64) dX4_keepPaid_17 (by decide) ?_
      refine g_lcmp 18 C dX4_keepPaid_18 ?_
      refine g_if_ne 19 31 C dX4_keepPaid_19 (by decide) (fun c => ?_) (fun c => ?_)
      · replace h := if_e c h
        refine GG.sub (lv' := [(0, .ref h_t), (1, .int v1), (2, .int v2), (3, .int v3)]) [0, 1, 2, 3] rfl ?_
        exact ok_B_X4_keepPaid_31 C hA hx hr h
      · replace h := it_e c h
        refine g_aload_n 22 C 0 dX4_keepPaid_22 rfl rfl ?_
        refine g_get 23 C in_X4_keepPaid_X4 0 2 rfl rfl (by decide) fl_X4_keepPaid_19 rfl rfl dX4_keepPaid_23 ?_
        refine g_iload_n 26 C 3 dX4_keepPaid_26 rfl rfl ?_
        refine g_ldc2 27 C (-1 : Int64) dX4_keepPaid_27 ct_X4_keepPaid_31 ?_
        obtain ⟨o2, h⟩ := ob_e h
        refine g_last 30 C (W_X4_keepPaid k h_t h_t_paid h_t_counts h_t_row s_most s_paid (vp_updL s_counts v3.toNatClampNeg (-1 : Int64))) 2 rfl o2 rfl dX4_keepPaid_30 ?_
        refine GG.sub (lv' := [(0, .ref h_t), (1, .int v1), (2, .int v2), (3, .int v3)]) [0, 1, 2, 3] rfl ?_
        exact ok_B_X4_keepPaid_31 C hA hx hr h
set_option maxHeartbeats 4000000 in
set_option maxRecDepth 100000 in
theorem ok_B_X4_keepPaid_37 {h_t : Nat} {h_t_paid : Nat} {h_t_counts : Nat} {h_t_row : Nat} {s_most : Int64} {s_paid : Nat → Int64} {s_counts : Nat → Int64} {res : (Nat → Int64)} (C : CX p s m args meth c cX4_keepPaid wsX4_keepPaid RX4 4 D k A none) (hA : A = va_A w0 sz)  (h : B_X4_keepPaid_37 s_counts = some res) : GG p l e rm_X4_keepPaid s m args below meth c (MQ below (cQv D w0 sz (W_X4_keepPaid k h_t h_t_paid h_t_counts h_t_row s_most s_paid res)) args s 0 0 A) D A 4 0 0 37 [] [] (W_X4_keepPaid k h_t h_t_paid h_t_counts h_t_row s_most s_paid s_counts) := by
  unfold B_X4_keepPaid_37 at h
  obtain rfl := Option.some.inj h
  exact g_vret 37 C hA dX4_keepPaid_37 rfl
set_option maxHeartbeats 4000000 in
set_option maxRecDepth 100000 in
theorem k_X4_keepPaid {l : Launch} {D : va_G} {k : Nat → ClassId} (h_t : Nat) (h_t_paid : Nat) (h_t_counts : Nat) (h_t_row : Nat) (s_most : Int64) (s_paid : Nat → Int64) (s_counts : Nat → Int64) (v1 : Int32) (v2 : Int32) (res : (Nat → Int64)) (h : f_X4_keepPaid s_paid s_counts v1 v2 = some res) (sz : Nat) : Met l yX4_keepPaid wsX4_keepPaid rm_X4_keepPaid (cPre D k [.ref h_t, .int v1, .int v2] (W_X4_keepPaid k h_t h_t_paid h_t_counts h_t_row s_most s_paid s_counts) sz) (cQv D (W_X4_keepPaid k h_t h_t_paid h_t_counts h_t_row s_most s_paid s_counts) sz (W_X4_keepPaid k h_t h_t_paid h_t_counts h_t_row s_most s_paid res)) 0 0 (va_A (W_X4_keepPaid k h_t h_t_paid h_t_counts h_t_row s_most s_paid s_counts) sz) := by
  refine met_of [(0, .ref h_t), (1, .int v1), (2, .int v2)] (by decide) rfl rfl (Nat.le_of_ble_eq_true rfl) rfl ?_
  intro p e s m args below meth c A hA hsz C
  unfold f_X4_keepPaid at h
  refine g_iconst 0 C (0 : Int32) dX4_keepPaid_0 (by decide) ?_
  refine g_istore_n 1 C [(3, .int (0 : Int32)), (0, .ref h_t), (1, .int v1), (2, .int v2)] dX4_keepPaid_1 rfl (by decide) rfl ?_
  refine GG.sub (lv' := [(0, .ref h_t), (1, .int v1), (2, .int v2), (3, .int (0 : Int32))]) [1, 2, 3, 0] rfl ?_
  exact ok_L_X4_keepPaid_2 C hA (fun t h => by
    refine GG.sub (lv' := []) [] rfl ?_
    exact ok_B_X4_keepPaid_37 C hA h) FUEL ((0 : Int32), s_counts) h
end

/-! X4_reckon -/
abbrev W_X4_reckon (k : Nat → ClassId) (h_t : Nat) (h_t_counts : Nat) (h_t_paid : Nat) (h_t_row : Nat) (s_most : Int64) (s_counts : Nat → Int64) (s_paid : Nat → Int64) : va_W := [(h_t, .inr (4, [.ref h_t_row, .ref h_t_paid, .ref h_t_counts, .long s_most])), (h_t_counts, .inl (k 1, 32, .inr (.inl s_counts))), (h_t_paid, .inl (k 1, 32, .inr (.inl s_paid)))]
def rm_X4_reckon : Room := { frames := 2, cells := 0, slots := 0, locals := 50 }
theorem in_X4_reckon_X4 : ∀ w ∈ u_ws RX4 TX4 4, w ∈ wsX4_reckon := by decide +kernel
theorem ct_X4_reckon_31 : Cond.constantLong RX4 31 (-1 : Int64) ∈ wsX4_reckon := by decide +kernel
theorem fl_X4_reckon_19 : Cond.fieldLink RX4 19 "LinkDays$Delay" "counts" "[J" ∈ wsX4_reckon := by decide +kernel
theorem fl_X4_reckon_41 : Cond.fieldLink RX4 41 "LinkDays$Delay" "most" "J" ∈ wsX4_reckon := by decide +kernel
theorem pd_X4_reckon : yX4_reckon.cls = RX4 ∧ yX4_reckon.cls ≠ "java/lang/invoke/MethodHandle" ∧ yX4_reckon.cls ≠ "java/lang/invoke/VarHandle" ∧ (parseMethodDescriptor yX4_reckon.desc).map (fun d => d.parameters.length) = some 2 := by decide +kernel
section
variable {p : Program} {l : Launch} {e : Env} {s : State} {m : MethodId} {args : Array Value} {below : List Frame} {meth : Method} {c : Code} {D : va_G} {k : Nat → ClassId} {A : Nat → Prop} {w0 : va_W} {sz : Nat}
set_option maxHeartbeats 4000000 in
set_option maxRecDepth 100000 in
theorem ok_L_X4_reckon_14 {h_t : Nat} {h_t_counts : Nat} {h_t_paid : Nat} {h_t_row : Nat} {s_most : Int64} {s_paid : Nat → Int64} {v1 : Int32} {v2 : Int32} {v3 : Int32} {res : Int64 × (Nat → Int64)} (C : CX p s m args meth c cX4_reckon wsX4_reckon RX4 6 D k A none) (hA : A = va_A w0 sz) {kx : Int32 × (Nat → Int64) → Option (Int64 × (Nat → Int64))} (hx : ∀ t : Int32 × (Nat → Int64), kx t = some res → GG p l e rm_X4_reckon s m args below meth c (MQ below (cQv D w0 sz (W_X4_reckon k h_t h_t_counts h_t_paid h_t_row res.1 res.2 s_paid)) args s 0 0 A) D A 6 0 0 36 [(0, .ref h_t), (1, .int v1), (2, .int v2), (3, .int v3)] [] (W_X4_reckon k h_t h_t_counts h_t_paid h_t_row s_most t.2 s_paid)) : ∀ (n : Nat) (t : Int32 × (Nat → Int64)), L_X4_reckon_14 v3 kx n t = some res → GG p l e rm_X4_reckon s m args below meth c (MQ below (cQv D w0 sz (W_X4_reckon k h_t h_t_counts h_t_paid h_t_row res.1 res.2 s_paid)) args s 0 0 A) D A 6 0 0 14 [(0, .ref h_t), (1, .int v1), (2, .int v2), (3, .int v3), (4, .int t.1)] [] (W_X4_reckon k h_t h_t_counts h_t_paid h_t_row s_most t.2 s_paid) := by
  intro n
  induction n with
  | zero => intro t h; cases h
  | succ n ih =>
    intro t h
    obtain ⟨v4, s_counts⟩ := t
    replace h : LB_X4_reckon_14 v3 kx (L_X4_reckon_14 v3 kx n) v4 s_counts = some res := h
    have hr := ih
    unfold LB_X4_reckon_14 at h
    refine g_iload 14 C 4 dX4_reckon_14 rfl ?_
    refine g_iload_n 16 C 3 dX4_reckon_16 rfl rfl ?_
    refine g_icmp_ge 17 36 C dX4_reckon_17 (by decide) (fun c => ?_) (fun c => ?_)
    · replace h := it_e c h
      refine GG.sub (lv' := [(0, .ref h_t), (1, .int v1), (2, .int v2), (3, .int v3)]) [0, 1, 2, 3] rfl ?_
      exact hx (v4, s_counts) h
    · replace h := if_e c h
      refine g_aload_n 20 C 0 dX4_reckon_20 rfl rfl ?_
      refine g_get 21 C in_X4_reckon_X4 0 2 rfl rfl (by decide) fl_X4_reckon_19 rfl rfl dX4_reckon_21 ?_
      refine g_iload 24 C 4 dX4_reckon_24 rfl ?_
      refine g_ldc2 26 C (-1 : Int64) dX4_reckon_26 ct_X4_reckon_31 ?_
      obtain ⟨o2, h⟩ := ob_e h
      refine g_last 29 C (W_X4_reckon k h_t h_t_counts h_t_paid h_t_row s_most (vp_updL s_counts v4.toNatClampNeg (-1 : Int64)) s_paid) 1 rfl o2 rfl dX4_reckon_29 ?_
      refine g_iinc 30 C 4 (1 : Int32) [(4, .int (v4 + (1 : Int32))), (0, .ref h_t), (1, .int v1), (2, .int v2), (3, .int v3)] dX4_reckon_30 rfl (by decide) (by decide) rfl ?_
      refine g_goto 33 14 C dX4_reckon_33 (by decide) ?_
      refine GG.sub (lv' := [(0, .ref h_t), (1, .int v1), (2, .int v2), (3, .int v3), (4, .int (v4 + (1 : Int32)))]) [1, 2, 3, 4, 0] rfl ?_
      exact hr ((v4 + (1 : Int32)), (vp_updL s_counts v4.toNatClampNeg (-1 : Int64))) h
set_option maxHeartbeats 4000000 in
set_option maxRecDepth 100000 in
theorem ok_L_X4_reckon_48 {h_t : Nat} {h_t_counts : Nat} {h_t_paid : Nat} {h_t_row : Nat} {s_most : Int64} {s_paid : Nat → Int64} {v1 : Int32} {v2 : Int32} {v3 : Int32} {v4 : Int32} {res : Int64 × (Nat → Int64)} (C : CX p s m args meth c cX4_reckon wsX4_reckon RX4 6 D k A none) (hA : A = va_A w0 sz) {kx : Int32 × (Nat → Int64) → Option (Int64 × (Nat → Int64))} (hx : ∀ t : Int32 × (Nat → Int64), kx t = some res → GG p l e rm_X4_reckon s m args below meth c (MQ below (cQv D w0 sz (W_X4_reckon k h_t h_t_counts h_t_paid h_t_row res.1 res.2 s_paid)) args s 0 0 A) D A 6 0 0 69 [(0, .ref h_t), (1, .int v1), (2, .int v2), (3, .int v3), (4, .int v4)] [] (W_X4_reckon k h_t h_t_counts h_t_paid h_t_row s_most t.2 s_paid)) : ∀ (n : Nat) (t : Int32 × (Nat → Int64)), L_X4_reckon_48 v1 v3 v4 kx n t = some res → GG p l e rm_X4_reckon s m args below meth c (MQ below (cQv D w0 sz (W_X4_reckon k h_t h_t_counts h_t_paid h_t_row res.1 res.2 s_paid)) args s 0 0 A) D A 6 0 0 48 [(0, .ref h_t), (1, .int v1), (2, .int v2), (3, .int v3), (4, .int v4), (5, .int t.1)] [] (W_X4_reckon k h_t h_t_counts h_t_paid h_t_row s_most t.2 s_paid) := by
  intro n
  induction n with
  | zero => intro t h; cases h
  | succ n ih =>
    intro t h
    obtain ⟨v5, s_counts⟩ := t
    replace h : LB_X4_reckon_48 v1 v3 v4 kx (L_X4_reckon_48 v1 v3 v4 kx n) v5 s_counts = some res := h
    have hr := ih
    unfold LB_X4_reckon_48 at h
    refine g_iload 48 C 5 dX4_reckon_48 rfl ?_
    refine g_iload_n 50 C 1 dX4_reckon_50 rfl rfl ?_
    refine g_icmp_ge 51 69 C dX4_reckon_51 (by decide) (fun c => ?_) (fun c => ?_)
    · replace h := it_e c h
      refine GG.sub (lv' := [(0, .ref h_t), (1, .int v1), (2, .int v2), (3, .int v3), (4, .int v4)]) [0, 1, 2, 3, 4] rfl ?_
      exact hx (v5, s_counts) h
    · replace h := if_e c h
      refine g_aload_n 54 C 0 dX4_reckon_54 rfl rfl ?_
      refine g_iload 55 C 5 dX4_reckon_55 rfl ?_
      refine g_iload 57 C 4 dX4_reckon_57 rfl ?_
      refine g_iload_n 59 C 3 dX4_reckon_59 rfl rfl ?_
      obtain ⟨q3, e4, h⟩ := bi_e h
      refine g_callVv 60 C (As := [.int v5, .int v4, .int v3]) [0, 1] [2] [1, 2, 0] (W_X4_reckon k h_t h_t_counts h_t_paid h_t_row s_most q3 s_paid) 0 (fun sz => k_X4_makeCut h_t h_t_counts h_t_row h_t_paid s_most s_counts v5 v4 v3 q3 e4 sz) gX4_reckon_X4_makeCut rfl pd_X4_makeCut rfl rfl rfl ⟨rfl, rfl, Nat.le_of_ble_eq_true rfl, Nat.le_of_ble_eq_true rfl⟩ (Nat.le_of_ble_eq_true rfl) ⟨Nat.zero_le _, Nat.zero_le _⟩ ⟨rfl, rfl, rfl, rfl, rfl, by decide, rfl⟩ rfl dX4_reckon_60 ?_
      refine g_iinc 63 C 5 (1 : Int32) [(5, .int (v5 + (1 : Int32))), (0, .ref h_t), (1, .int v1), (2, .int v2), (3, .int v3), (4, .int v4)] dX4_reckon_63 rfl (by decide) (by decide) rfl ?_
      refine g_goto 66 48 C dX4_reckon_66 (by decide) ?_
      refine GG.sub (lv' := [(0, .ref h_t), (1, .int v1), (2, .int v2), (3, .int v3), (4, .int v4), (5, .int (v5 + (1 : Int32)))]) [1, 2, 3, 4, 5, 0] rfl ?_
      exact hr ((v5 + (1 : Int32)), q3) h
set_option maxHeartbeats 4000000 in
set_option maxRecDepth 100000 in
theorem ok_B_X4_reckon_69 {h_t : Nat} {h_t_counts : Nat} {h_t_paid : Nat} {h_t_row : Nat} {s_most : Int64} {s_counts : Nat → Int64} {s_paid : Nat → Int64} {v1 : Int32} {v2 : Int32} {v3 : Int32} {v4 : Int32} {res : Int64 × (Nat → Int64)} {kx rec : Int32 × (Nat → Int64) → Option (Int64 × (Nat → Int64))} (C : CX p s m args meth c cX4_reckon wsX4_reckon RX4 6 D k A none) (hA : A = va_A w0 sz) (hx : ∀ t : Int32 × (Nat → Int64), kx t = some res → GG p l e rm_X4_reckon s m args below meth c (MQ below (cQv D w0 sz (W_X4_reckon k h_t h_t_counts h_t_paid h_t_row res.1 res.2 s_paid)) args s 0 0 A) D A 6 0 0 82 [(0, .ref h_t), (3, .int v3)] [] (W_X4_reckon k h_t h_t_counts h_t_paid h_t_row s_most t.2 s_paid)) (hr : ∀ t : Int32 × (Nat → Int64), rec t = some res → GG p l e rm_X4_reckon s m args below meth c (MQ below (cQv D w0 sz (W_X4_reckon k h_t h_t_counts h_t_paid h_t_row res.1 res.2 s_paid)) args s 0 0 A) D A 6 0 0 39 [(0, .ref h_t), (1, .int v1), (2, .int v2), (3, .int v3), (4, .int t.1)] [] (W_X4_reckon k h_t h_t_counts h_t_paid h_t_row s_most t.2 s_paid))  (h : B_X4_reckon_69 kx rec s_counts s_paid v3 v4 = some res) : GG p l e rm_X4_reckon s m args below meth c (MQ below (cQv D w0 sz (W_X4_reckon k h_t h_t_counts h_t_paid h_t_row res.1 res.2 s_paid)) args s 0 0 A) D A 6 0 0 69 [(0, .ref h_t), (1, .int v1), (2, .int v2), (3, .int v3), (4, .int v4)] [] (W_X4_reckon k h_t h_t_counts h_t_paid h_t_row s_most s_counts s_paid) := by
  unfold B_X4_reckon_69 at h
  refine g_aload_n 69 C 0 dX4_reckon_69 rfl rfl ?_
  refine g_iload 70 C 4 dX4_reckon_70 rfl ?_
  refine g_iload_n 72 C 3 dX4_reckon_72 rfl rfl ?_
  obtain ⟨q5, e6, h⟩ := bi_e h
  refine g_callVv 73 C (As := [.int v4, .int v3]) [0, 2, 1] [] [0, 2, 1] (W_X4_reckon k h_t h_t_counts h_t_paid h_t_row s_most q5 s_paid) 0 (fun sz => k_X4_keepPaid h_t h_t_paid h_t_counts h_t_row s_most s_paid s_counts v4 v3 q5 e6 sz) gX4_reckon_X4_keepPaid rfl pd_X4_keepPaid rfl rfl rfl ⟨rfl, rfl, Nat.le_of_ble_eq_true rfl, Nat.le_of_ble_eq_true rfl⟩ (Nat.le_of_ble_eq_true rfl) ⟨Nat.zero_le _, Nat.zero_le _⟩ ⟨rfl, rfl, rfl, rfl, rfl, by decide, rfl⟩ rfl dX4_reckon_73 ?_
  refine g_iinc 76 C 4 (1 : Int32) [(4, .int (v4 + (1 : Int32))), (0, .ref h_t), (1, .int v1), (2, .int v2), (3, .int v3)] dX4_reckon_76 rfl (by decide) (by decide) rfl ?_
  refine g_goto 79 39 C dX4_reckon_79 (by decide) ?_
  refine GG.sub (lv' := [(0, .ref h_t), (1, .int v1), (2, .int v2), (3, .int v3), (4, .int (v4 + (1 : Int32)))]) [1, 2, 3, 4, 0] rfl ?_
  exact hr ((v4 + (1 : Int32)), q5) h
set_option maxHeartbeats 4000000 in
set_option maxRecDepth 100000 in
theorem ok_L_X4_reckon_39 {h_t : Nat} {h_t_counts : Nat} {h_t_paid : Nat} {h_t_row : Nat} {s_most : Int64} {s_paid : Nat → Int64} {v1 : Int32} {v2 : Int32} {v3 : Int32} {res : Int64 × (Nat → Int64)} (C : CX p s m args meth c cX4_reckon wsX4_reckon RX4 6 D k A none) (hA : A = va_A w0 sz) {kx : Int32 × (Nat → Int64) → Option (Int64 × (Nat → Int64))} (hx : ∀ t : Int32 × (Nat → Int64), kx t = some res → GG p l e rm_X4_reckon s m args below meth c (MQ below (cQv D w0 sz (W_X4_reckon k h_t h_t_counts h_t_paid h_t_row res.1 res.2 s_paid)) args s 0 0 A) D A 6 0 0 82 [(0, .ref h_t), (3, .int v3)] [] (W_X4_reckon k h_t h_t_counts h_t_paid h_t_row s_most t.2 s_paid)) : ∀ (n : Nat) (t : Int32 × (Nat → Int64)), L_X4_reckon_39 s_paid v1 v2 v3 kx n t = some res → GG p l e rm_X4_reckon s m args below meth c (MQ below (cQv D w0 sz (W_X4_reckon k h_t h_t_counts h_t_paid h_t_row res.1 res.2 s_paid)) args s 0 0 A) D A 6 0 0 39 [(0, .ref h_t), (1, .int v1), (2, .int v2), (3, .int v3), (4, .int t.1)] [] (W_X4_reckon k h_t h_t_counts h_t_paid h_t_row s_most t.2 s_paid) := by
  intro n
  induction n with
  | zero => intro t h; cases h
  | succ n ih =>
    intro t h
    obtain ⟨v4, s_counts⟩ := t
    replace h : LB_X4_reckon_39 s_paid v1 v2 v3 kx (L_X4_reckon_39 s_paid v1 v2 v3 kx n) v4 s_counts = some res := h
    have hr := ih
    unfold LB_X4_reckon_39 at h
    refine g_iload 39 C 4 dX4_reckon_39 rfl ?_
    refine g_iload_n 41 C 2 dX4_reckon_41 rfl rfl ?_
    refine g_icmp_gt 42 82 C dX4_reckon_42 (by decide) (fun c => ?_) (fun c => ?_)
    · replace h := it_e c h
      refine GG.sub (lv' := [(0, .ref h_t), (3, .int v3)]) [0, 3] rfl ?_
      exact hx (v4, s_counts) h
    · replace h := if_e c h
      refine g_iconst 45 C (0 : Int32) dX4_reckon_45 (by decide) ?_
      refine g_istore 46 C [(5, .int (0 : Int32)), (0, .ref h_t), (1, .int v1), (2, .int v2), (3, .int v3), (4, .int v4)] dX4_reckon_46 (by decide) rfl ?_
      refine GG.sub (lv' := [(0, .ref h_t), (1, .int v1), (2, .int v2), (3, .int v3), (4, .int v4), (5, .int (0 : Int32))]) [1, 2, 3, 4, 5, 0] rfl ?_
      exact ok_L_X4_reckon_48 C hA (fun t h => by
        refine GG.sub (lv' := [(0, .ref h_t), (1, .int v1), (2, .int v2), (3, .int v3), (4, .int v4)]) [0, 1, 2, 3, 4] rfl ?_
        exact ok_B_X4_reckon_69 C hA hx hr h) FUEL ((0 : Int32), s_counts) h
set_option maxHeartbeats 4000000 in
set_option maxRecDepth 100000 in
theorem ok_B_X4_reckon_82 {h_t : Nat} {h_t_counts : Nat} {h_t_paid : Nat} {h_t_row : Nat} {s_most : Int64} {s_counts : Nat → Int64} {s_paid : Nat → Int64} {v3 : Int32} {res : Int64 × (Nat → Int64)} (C : CX p s m args meth c cX4_reckon wsX4_reckon RX4 6 D k A none) (hA : A = va_A w0 sz)  (h : B_X4_reckon_82 s_counts v3 = some res) : GG p l e rm_X4_reckon s m args below meth c (MQ below (cQv D w0 sz (W_X4_reckon k h_t h_t_counts h_t_paid h_t_row res.1 res.2 s_paid)) args s 0 0 A) D A 6 0 0 82 [(0, .ref h_t), (3, .int v3)] [] (W_X4_reckon k h_t h_t_counts h_t_paid h_t_row s_most s_counts s_paid) := by
  unfold B_X4_reckon_82 at h
  refine g_aload_n 82 C 0 dX4_reckon_82 rfl rfl ?_
  refine g_aload_n 83 C 0 dX4_reckon_83 rfl rfl ?_
  refine g_get 84 C in_X4_reckon_X4 0 2 rfl rfl (by decide) fl_X4_reckon_19 rfl rfl dX4_reckon_84 ?_
  refine g_iload_n 87 C 1 dX4_reckon_87 rfl rfl ?_
  refine g_iconst 88 C (1 : Int32) dX4_reckon_88 (by decide) ?_
  refine g_isub 89 C dX4_reckon_89 ?_
  obtain ⟨o7, h⟩ := ob_e h
  refine g_lald 90 C 1 rfl o7 dX4_reckon_90 ?_
  refine g_put 91 C (W_X4_reckon k h_t h_t_counts h_t_paid h_t_row (s_counts (v3 - (1 : Int32)).toNatClampNeg) s_counts s_paid) in_X4_reckon_X4 tyX4 tyX4_ok nmX4 0 3 rfl rfl (by decide) fl_X4_reckon_41 rfl rfl (tyX4_ok 3 (by decide)) rfl rfl (Nat.le_of_ble_eq_true rfl) rfl dX4_reckon_91 ?_
  obtain rfl := Option.some.inj h
  exact g_vret 94 C hA dX4_reckon_94 rfl
set_option maxHeartbeats 4000000 in
set_option maxRecDepth 100000 in
theorem ok_B_X4_reckon_36 {h_t : Nat} {h_t_counts : Nat} {h_t_paid : Nat} {h_t_row : Nat} {s_most : Int64} {s_counts : Nat → Int64} {s_paid : Nat → Int64} {v1 : Int32} {v2 : Int32} {v3 : Int32} {res : Int64 × (Nat → Int64)} (C : CX p s m args meth c cX4_reckon wsX4_reckon RX4 6 D k A none) (hA : A = va_A w0 sz)  (h : B_X4_reckon_36 s_counts s_paid v1 v2 v3 = some res) : GG p l e rm_X4_reckon s m args below meth c (MQ below (cQv D w0 sz (W_X4_reckon k h_t h_t_counts h_t_paid h_t_row res.1 res.2 s_paid)) args s 0 0 A) D A 6 0 0 36 [(0, .ref h_t), (1, .int v1), (2, .int v2), (3, .int v3)] [] (W_X4_reckon k h_t h_t_counts h_t_paid h_t_row s_most s_counts s_paid) := by
  unfold B_X4_reckon_36 at h
  refine g_iconst 36 C (1 : Int32) dX4_reckon_36 (by decide) ?_
  refine g_istore 37 C [(4, .int (1 : Int32)), (0, .ref h_t), (1, .int v1), (2, .int v2), (3, .int v3)] dX4_reckon_37 (by decide) rfl ?_
  refine GG.sub (lv' := [(0, .ref h_t), (1, .int v1), (2, .int v2), (3, .int v3), (4, .int (1 : Int32))]) [1, 2, 3, 4, 0] rfl ?_
  exact ok_L_X4_reckon_39 C hA (fun t h => by
    refine GG.sub (lv' := [(0, .ref h_t), (3, .int v3)]) [0, 1] rfl ?_
    exact ok_B_X4_reckon_82 C hA h) FUEL ((1 : Int32), s_counts) h
set_option maxHeartbeats 4000000 in
set_option maxRecDepth 100000 in
theorem k_X4_reckon {l : Launch} {D : va_G} {k : Nat → ClassId} (h_t : Nat) (h_t_counts : Nat) (h_t_paid : Nat) (h_t_row : Nat) (s_most : Int64) (s_counts : Nat → Int64) (s_paid : Nat → Int64) (v1 : Int32) (v2 : Int32) (res : Int64 × (Nat → Int64)) (h : f_X4_reckon s_counts s_paid v1 v2 = some res) (sz : Nat) : Met l yX4_reckon wsX4_reckon rm_X4_reckon (cPre D k [.ref h_t, .int v1, .int v2] (W_X4_reckon k h_t h_t_counts h_t_paid h_t_row s_most s_counts s_paid) sz) (cQv D (W_X4_reckon k h_t h_t_counts h_t_paid h_t_row s_most s_counts s_paid) sz (W_X4_reckon k h_t h_t_counts h_t_paid h_t_row res.1 res.2 s_paid)) 0 0 (va_A (W_X4_reckon k h_t h_t_counts h_t_paid h_t_row s_most s_counts s_paid) sz) := by
  refine met_of [(0, .ref h_t), (1, .int v1), (2, .int v2)] (by decide) rfl rfl (Nat.le_of_ble_eq_true rfl) rfl ?_
  intro p e s m args below meth c A hA hsz C
  unfold f_X4_reckon at h
  refine g_iconst 0 C (1 : Int32) dX4_reckon_0 (by decide) ?_
  refine g_iload_n 1 C 1 dX4_reckon_1 rfl rfl ?_
  refine g_ishl 2 C dX4_reckon_2 ?_
  refine g_istore_n 3 C [(3, .int ((1 : Int32) <<< (v1 &&& 31))), (0, .ref h_t), (1, .int v1), (2, .int v2)] dX4_reckon_3 rfl (by decide) rfl ?_
  refine g_aload_n 4 C 1 dX4_reckon_4 rfl rfl ?_
  refine g_get 5 C in_X4_reckon_X4 0 2 rfl rfl (by decide) fl_X4_reckon_19 rfl rfl dX4_reckon_5 ?_
  refine g_iconst 8 C (0 : Int32) dX4_reckon_8 (by decide) ?_
  refine g_lconst 9 C (0 : Int64) dX4_reckon_9 (by decide) ?_
  obtain ⟨o1, h⟩ := ob_e h
  refine g_last 10 C (W_X4_reckon k h_t h_t_counts h_t_paid h_t_row s_most (vp_updL s_counts (0 : Int32).toNatClampNeg (0 : Int64)) s_paid) 1 rfl o1 rfl dX4_reckon_10 ?_
  refine g_iconst 11 C (1 : Int32) dX4_reckon_11 (by decide) ?_
  refine g_istore 12 C [(4, .int (1 : Int32)), (3, .int ((1 : Int32) <<< (v1 &&& 31))), (0, .ref h_t), (1, .int v1), (2, .int v2)] dX4_reckon_12 (by decide) rfl ?_
  refine GG.sub (lv' := [(0, .ref h_t), (1, .int v1), (2, .int v2), (3, .int ((1 : Int32) <<< (v1 &&& 31))), (4, .int (1 : Int32))]) [2, 3, 4, 1, 0] rfl ?_
  exact ok_L_X4_reckon_14 C hA (fun t h => by
    refine GG.sub (lv' := [(0, .ref h_t), (1, .int v1), (2, .int v2), (3, .int ((1 : Int32) <<< (v1 &&& 31)))]) [0, 1, 2, 3] rfl ?_
    exact ok_B_X4_reckon_36 C hA h) FUEL ((1 : Int32), (vp_updL s_counts (0 : Int32).toNatClampNeg (0 : Int64))) h
end

/-! X4_together -/
abbrev W_X4_together (k : Nat → ClassId) (h_t : Nat) (h_t_row : Nat) (h_t_paid : Nat) (h_t_counts : Nat) (s_most : Int64) : va_W := [(h_t, .inr (4, [.ref h_t_row, .ref h_t_paid, .ref h_t_counts, .long s_most]))]
def rm_X4_together : Room := { frames := 0, cells := 0, slots := 0, locals := 0 }
theorem in_X4_together_X4 : ∀ w ∈ u_ws RX4 TX4 4, w ∈ wsX4_together := by decide +kernel
theorem ct_X4_together_45 : Cond.constantLong RX4 45 (844596301 : Int64) ∈ wsX4_together := by decide +kernel
theorem fl_X4_together_41 : Cond.fieldLink RX4 41 "LinkDays$Delay" "most" "J" ∈ wsX4_together := by decide +kernel
theorem pd_X4_together : yX4_together.cls = RX4 ∧ yX4_together.cls ≠ "java/lang/invoke/MethodHandle" ∧ yX4_together.cls ≠ "java/lang/invoke/VarHandle" ∧ (parseMethodDescriptor yX4_together.desc).map (fun d => d.parameters.length) = some 0 := by decide +kernel
section
variable {p : Program} {l : Launch} {e : Env} {s : State} {m : MethodId} {args : Array Value} {below : List Frame} {meth : Method} {c : Code} {D : va_G} {k : Nat → ClassId} {A : Nat → Prop} {w0 : va_W} {sz : Nat}
set_option maxHeartbeats 4000000 in
set_option maxRecDepth 100000 in
theorem k_X4_together {l : Launch} {D : va_G} {k : Nat → ClassId} (h_t : Nat) (h_t_row : Nat) (h_t_paid : Nat) (h_t_counts : Nat) (s_most : Int64) (res : Int32) (h : f_X4_together s_most = some res) (sz : Nat) : Met l yX4_together wsX4_together rm_X4_together (cPre D k [.ref h_t] (W_X4_together k h_t h_t_row h_t_paid h_t_counts s_most) sz) (cQi D (W_X4_together k h_t h_t_row h_t_paid h_t_counts s_most) sz res (W_X4_together k h_t h_t_row h_t_paid h_t_counts s_most)) 0 0 (va_A (W_X4_together k h_t h_t_row h_t_paid h_t_counts s_most) sz) := by
  refine met_of [(0, .ref h_t)] (by decide) rfl rfl (Nat.le_of_ble_eq_true rfl) rfl ?_
  intro p e s m args below meth c A hA hsz C
  unfold f_X4_together at h
  refine g_aload_n 0 C 0 dX4_together_0 rfl rfl ?_
  refine g_get 1 C in_X4_together_X4 0 3 rfl rfl (by decide) fl_X4_together_41 rfl rfl dX4_together_1 ?_
  refine g_ldc2 4 C (844596301 : Int64) dX4_together_4 ct_X4_together_45 ?_
  refine g_ladd 7 C dX4_together_7 ?_
  refine g_lconst 8 C (1 : Int64) dX4_together_8 (by decide) ?_
  refine g_lsub 9 C dX4_together_9 ?_
  refine g_ldc2 10 C (844596301 : Int64) dX4_together_10 ct_X4_together_45 ?_
  refine g_ldiv 13 C dX4_together_13 (by decide) ?_
  refine g_l2i 14 C dX4_together_14 ?_
  obtain rfl := Option.some.inj h
  exact g_iret 15 C hA rfl dX4_together_15 rfl
end

/-! X4_dayOf -/
abbrev W_X4_dayOf (k : Nat → ClassId) (h_t : Nat) (h_t_row : Nat) (h_t_paid : Nat) (h_t_counts : Nat) (s_most : Int64) : va_W := [(h_t, .inr (4, [.ref h_t_row, .ref h_t_paid, .ref h_t_counts, .long s_most]))]
def rm_X4_dayOf : Room := { frames := 1, cells := 0, slots := 0, locals := 20 }
theorem in_X4_dayOf_X4 : ∀ w ∈ u_ws RX4 TX4 4, w ∈ wsX4_dayOf := by decide +kernel
theorem ct_X4_dayOf_45 : Cond.constantLong RX4 45 (844596301 : Int64) ∈ wsX4_dayOf := by decide +kernel
theorem ct_X4_dayOf_60 : Cond.constantLong RX4 60 (61 : Int64) ∈ wsX4_dayOf := by decide +kernel
theorem fl_X4_dayOf_41 : Cond.fieldLink RX4 41 "LinkDays$Delay" "most" "J" ∈ wsX4_dayOf := by decide +kernel
theorem fl_X4_dayOf_47 : Cond.fieldLink RX4 47 "LinkDays$Delay" "DIGITS" "[J" ∈ wsX4_dayOf := by decide +kernel
theorem pd_X4_dayOf : yX4_dayOf.cls = RX4 ∧ yX4_dayOf.cls ≠ "java/lang/invoke/MethodHandle" ∧ yX4_dayOf.cls ≠ "java/lang/invoke/VarHandle" ∧ (parseMethodDescriptor yX4_dayOf.desc).map (fun d => d.parameters.length) = some 1 := by decide +kernel
section
variable {p : Program} {l : Launch} {e : Env} {s : State} {m : MethodId} {args : Array Value} {below : List Frame} {meth : Method} {c : Code} {D : va_G} {k : Nat → ClassId} {A : Nat → Prop} {w0 : va_W} {sz : Nat}
set_option maxHeartbeats 4000000 in
set_option maxRecDepth 100000 in
theorem k_X4_dayOf {l : Launch} {D : va_G} {k : Nat → ClassId} (h_t : Nat) (h_t_row : Nat) (h_t_paid : Nat) (h_t_counts : Nat) (s_most : Int64) (v1 : Int32) (res : Int32) (h : f_X4_dayOf s_most v1 = some res) (sz : Nat) : Met l yX4_dayOf wsX4_dayOf rm_X4_dayOf (cPre D k [.ref h_t, .int v1] (W_X4_dayOf k h_t h_t_row h_t_paid h_t_counts s_most) sz) (cQi D (W_X4_dayOf k h_t h_t_row h_t_paid h_t_counts s_most) sz res (W_X4_dayOf k h_t h_t_row h_t_paid h_t_counts s_most)) 0 0 (va_A (W_X4_dayOf k h_t h_t_row h_t_paid h_t_counts s_most) sz) := by
  refine met_of [(0, .ref h_t), (1, .int v1)] (by decide) rfl rfl (Nat.le_of_ble_eq_true rfl) rfl ?_
  intro p e s m args below meth c A hA hsz C
  unfold f_X4_dayOf at h
  refine g_aload_n 0 C 0 dX4_dayOf_0 rfl rfl ?_
  obtain ⟨q1, e2, h⟩ := bi_e h
  refine g_callVi 1 C (As := []) [0] [] [0] (W_X4_dayOf k h_t h_t_row h_t_paid h_t_counts s_most) 0 (fun sz => k_X4_together h_t h_t_row h_t_paid h_t_counts s_most q1 e2 sz) gX4_dayOf_X4_together rfl pd_X4_together rfl rfl rfl ⟨rfl, rfl, Nat.le_of_ble_eq_true rfl, Nat.le_of_ble_eq_true rfl⟩ (Nat.le_of_ble_eq_true rfl) ⟨Nat.zero_le _, Nat.zero_le _⟩ ⟨rfl, rfl, rfl, rfl, rfl, by decide, rfl⟩ rfl dX4_dayOf_1 ?_
  refine g_i2l 4 C dX4_dayOf_4 ?_
  refine g_ldc2 5 C (844596301 : Int64) dX4_dayOf_5 ct_X4_dayOf_45 ?_
  refine g_lmul 8 C dX4_dayOf_8 ?_
  refine g_aload_n 9 C 0 dX4_dayOf_9 rfl rfl ?_
  refine g_get 10 C in_X4_dayOf_X4 0 3 rfl rfl (by decide) fl_X4_dayOf_41 rfl rfl dX4_dayOf_10 ?_
  refine g_lsub 13 C dX4_dayOf_13 ?_
  refine g_lstore_n 14 C [(2, .long ((q1.toInt64 * (844596301 : Int64)) - s_most)), (0, .ref h_t), (1, .int v1)] dX4_dayOf_14 rfl (by decide) rfl ?_
  refine g_lload_n 15 C 0 dX4_dayOf_15 rfl rfl ?_
  refine g_digits 16 C fl_X4_dayOf_47 dX4_dayOf_16 ?_
  refine g_iload_n 19 C 2 dX4_dayOf_19 rfl rfl ?_
  obtain ⟨o3, h⟩ := ob_e h
  refine g_tlald 20 C o3 dX4_dayOf_20 ?_
  obtain ⟨o4, h⟩ := ob_e h
  refine g_ldiv 21 C dX4_dayOf_21 (of_decide_eq_true o4) ?_
  refine g_ldc2 22 C (61 : Int64) dX4_dayOf_22 ct_X4_dayOf_60 ?_
  refine g_lrem 25 C dX4_dayOf_25 (by decide) ?_
  refine g_l2i 26 C dX4_dayOf_26 ?_
  obtain rfl := Option.some.inj h
  exact g_iret 27 C hA rfl dX4_dayOf_27 rfl
end

/-! X5_add -/
abbrev W_X5_add (k : Nat → ClassId) (h_t : Nat) (h_t_first : Nat) (h_t_size : Nat) (h_t_value : Nat) (h_a0 : Nat) (h_a0_ahead : Nat) (h_a0_worths : Nat) (h_a0_cuts : Nat) (s_count : Int32) (s_first : Nat → Int32) (s_size : Nat → Int32) (s_value : Nat → Int32) (s_a0_kind : Int32) (s_a0_links : Int32) (s_a0_cutCount : Int32) (s_a0_ahead : Nat → Int32) : va_W := [(h_t, .inr (5, [.ref h_t_first, .ref h_t_size, .ref h_t_value, .int s_count])), (h_t_first, .inl (k 0, 11, .inl s_first)), (h_t_size, .inl (k 0, 11, .inl s_size)), (h_t_value, .inl (k 0, 11, .inl s_value)), (h_a0, .inr (1, [.ref h_a0_worths, .ref h_a0_ahead, .ref h_a0_cuts, .int s_a0_kind, .int s_a0_links, .int s_a0_cutCount])), (h_a0_ahead, .inl (k 0, 25, .inl s_a0_ahead))]
def rm_X5_add : Room := { frames := 0, cells := 0, slots := 0, locals := 0 }
theorem in_X5_add_X1 : ∀ w ∈ u_ws RX1 TX1 6, w ∈ wsX5_add := by decide +kernel
theorem in_X5_add_X5 : ∀ w ∈ u_ws RX5 TX5 4, w ∈ wsX5_add := by decide +kernel
theorem fl_X5_add_15 : Cond.fieldLink RX5 15 "LinkDays$Pieces" "size" "[I" ∈ wsX5_add := by decide +kernel
theorem fl_X5_add_18 : Cond.fieldLink RX5 18 "LinkDays$Pieces" "value" "[I" ∈ wsX5_add := by decide +kernel
theorem fl_X5_add_21 : Cond.fieldLink RX5 21 "LinkDays$Pieces" "count" "I" ∈ wsX5_add := by decide +kernel
theorem fl_X5_add_48 : Cond.fieldLink RX5 48 "LinkDays$Chain" "ahead" "[I" ∈ wsX5_add := by decide +kernel
theorem fl_X5_add_9 : Cond.fieldLink RX5 9 "LinkDays$Pieces" "first" "[I" ∈ wsX5_add := by decide +kernel
theorem pd_X5_add : yX5_add.cls = RX5 ∧ yX5_add.cls ≠ "java/lang/invoke/MethodHandle" ∧ yX5_add.cls ≠ "java/lang/invoke/VarHandle" ∧ (parseMethodDescriptor yX5_add.desc).map (fun d => d.parameters.length) = some 3 := by decide +kernel
section
variable {p : Program} {l : Launch} {e : Env} {s : State} {m : MethodId} {args : Array Value} {below : List Frame} {meth : Method} {c : Code} {D : va_G} {k : Nat → ClassId} {A : Nat → Prop} {w0 : va_W} {sz : Nat}
set_option maxHeartbeats 4000000 in
set_option maxRecDepth 100000 in
theorem ok_B_X5_add_59 {h_t : Nat} {h_t_first : Nat} {h_t_size : Nat} {h_t_value : Nat} {h_a0 : Nat} {h_a0_ahead : Nat} {h_a0_worths : Nat} {h_a0_cuts : Nat} {s_count : Int32} {s_first : Nat → Int32} {s_size : Nat → Int32} {s_value : Nat → Int32} {s_a0_kind : Int32} {s_a0_links : Int32} {s_a0_cutCount : Int32} {s_a0_ahead : Nat → Int32} {res : Int32 × (Nat → Int32) × (Nat → Int32) × (Nat → Int32)} (C : CX p s m args meth c cX5_add wsX5_add RX5 4 D k A none) (hA : A = va_A w0 sz)  (h : B_X5_add_59 s_count s_first s_size s_value = some res) : GG p l e rm_X5_add s m args below meth c (MQ below (cQv D w0 sz (W_X5_add k h_t h_t_first h_t_size h_t_value h_a0 h_a0_ahead h_a0_worths h_a0_cuts res.1 res.2.1 res.2.2.1 res.2.2.2 s_a0_kind s_a0_links s_a0_cutCount s_a0_ahead)) args s 0 0 A) D A 4 0 0 59 [] [] (W_X5_add k h_t h_t_first h_t_size h_t_value h_a0 h_a0_ahead h_a0_worths h_a0_cuts s_count s_first s_size s_value s_a0_kind s_a0_links s_a0_cutCount s_a0_ahead) := by
  unfold B_X5_add_59 at h
  obtain rfl := Option.some.inj h
  exact g_vret 59 C hA dX5_add_59 rfl
set_option maxHeartbeats 4000000 in
set_option maxRecDepth 100000 in
theorem k_X5_add {l : Launch} {D : va_G} {k : Nat → ClassId} (h_t : Nat) (h_t_first : Nat) (h_t_size : Nat) (h_t_value : Nat) (h_a0 : Nat) (h_a0_ahead : Nat) (h_a0_worths : Nat) (h_a0_cuts : Nat) (s_count : Int32) (s_first : Nat → Int32) (s_size : Nat → Int32) (s_value : Nat → Int32) (s_a0_kind : Int32) (s_a0_links : Int32) (s_a0_cutCount : Int32) (s_a0_ahead : Nat → Int32) (v2 : Int32) (v3 : Int32) (res : Int32 × (Nat → Int32) × (Nat → Int32) × (Nat → Int32)) (h : f_X5_add s_count s_first s_size s_value s_a0_ahead v2 v3 = some res) (sz : Nat) : Met l yX5_add wsX5_add rm_X5_add (cPre D k [.ref h_t, .ref h_a0, .int v2, .int v3] (W_X5_add k h_t h_t_first h_t_size h_t_value h_a0 h_a0_ahead h_a0_worths h_a0_cuts s_count s_first s_size s_value s_a0_kind s_a0_links s_a0_cutCount s_a0_ahead) sz) (cQv D (W_X5_add k h_t h_t_first h_t_size h_t_value h_a0 h_a0_ahead h_a0_worths h_a0_cuts s_count s_first s_size s_value s_a0_kind s_a0_links s_a0_cutCount s_a0_ahead) sz (W_X5_add k h_t h_t_first h_t_size h_t_value h_a0 h_a0_ahead h_a0_worths h_a0_cuts res.1 res.2.1 res.2.2.1 res.2.2.2 s_a0_kind s_a0_links s_a0_cutCount s_a0_ahead)) 0 0 (va_A (W_X5_add k h_t h_t_first h_t_size h_t_value h_a0 h_a0_ahead h_a0_worths h_a0_cuts s_count s_first s_size s_value s_a0_kind s_a0_links s_a0_cutCount s_a0_ahead) sz) := by
  refine met_of [(0, .ref h_t), (1, .ref h_a0), (2, .int v2), (3, .int v3)] (by decide) rfl rfl (Nat.le_of_ble_eq_true rfl) rfl ?_
  intro p e s m args below meth c A hA hsz C
  unfold f_X5_add at h
  refine g_iload_n 0 C 2 dX5_add_0 rfl rfl ?_
  refine g_iload_n 1 C 3 dX5_add_1 rfl rfl ?_
  refine g_icmp_ge 2 59 C dX5_add_2 (by decide) (fun c => ?_) (fun c => ?_)
  · replace h := it_e c h
    refine GG.sub (lv' := []) [] rfl ?_
    exact ok_B_X5_add_59 C hA h
  · replace h := if_e c h
    refine g_aload_n 5 C 0 dX5_add_5 rfl rfl ?_
    refine g_get 6 C in_X5_add_X5 0 0 rfl rfl (by decide) fl_X5_add_9 rfl rfl dX5_add_6 ?_
    refine g_aload_n 9 C 0 dX5_add_9 rfl rfl ?_
    refine g_get 10 C in_X5_add_X5 0 3 rfl rfl (by decide) fl_X5_add_21 rfl rfl dX5_add_10 ?_
    refine g_iload_n 13 C 2 dX5_add_13 rfl rfl ?_
    obtain ⟨o1, h⟩ := ob_e h
    refine g_iast 14 C (W_X5_add k h_t h_t_first h_t_size h_t_value h_a0 h_a0_ahead h_a0_worths h_a0_cuts s_count (upd s_first s_count.toNatClampNeg v2) s_size s_value s_a0_kind s_a0_links s_a0_cutCount s_a0_ahead) 1 rfl o1 rfl dX5_add_14 ?_
    refine g_aload_n 15 C 0 dX5_add_15 rfl rfl ?_
    refine g_get 16 C in_X5_add_X5 0 1 rfl rfl (by decide) fl_X5_add_15 rfl rfl dX5_add_16 ?_
    refine g_aload_n 19 C 0 dX5_add_19 rfl rfl ?_
    refine g_get 20 C in_X5_add_X5 0 3 rfl rfl (by decide) fl_X5_add_21 rfl rfl dX5_add_20 ?_
    refine g_iload_n 23 C 3 dX5_add_23 rfl rfl ?_
    refine g_iload_n 24 C 2 dX5_add_24 rfl rfl ?_
    refine g_isub 25 C dX5_add_25 ?_
    obtain ⟨o2, h⟩ := ob_e h
    refine g_iast 26 C (W_X5_add k h_t h_t_first h_t_size h_t_value h_a0 h_a0_ahead h_a0_worths h_a0_cuts s_count (upd s_first s_count.toNatClampNeg v2) (upd s_size s_count.toNatClampNeg (v3 - v2)) s_value s_a0_kind s_a0_links s_a0_cutCount s_a0_ahead) 2 rfl o2 rfl dX5_add_26 ?_
    refine g_aload_n 27 C 0 dX5_add_27 rfl rfl ?_
    refine g_get 28 C in_X5_add_X5 0 2 rfl rfl (by decide) fl_X5_add_18 rfl rfl dX5_add_28 ?_
    refine g_aload_n 31 C 0 dX5_add_31 rfl rfl ?_
    refine g_get 32 C in_X5_add_X5 0 3 rfl rfl (by decide) fl_X5_add_21 rfl rfl dX5_add_32 ?_
    refine g_aload_n 35 C 1 dX5_add_35 rfl rfl ?_
    refine g_get 36 C in_X5_add_X1 4 1 rfl rfl (by decide) fl_X5_add_48 rfl rfl dX5_add_36 ?_
    refine g_iload_n 39 C 3 dX5_add_39 rfl rfl ?_
    obtain ⟨o3, h⟩ := ob_e h
    refine g_iald 40 C 5 rfl o3 dX5_add_40 ?_
    refine g_aload_n 41 C 1 dX5_add_41 rfl rfl ?_
    refine g_get 42 C in_X5_add_X1 4 1 rfl rfl (by decide) fl_X5_add_48 rfl rfl dX5_add_42 ?_
    refine g_iload_n 45 C 2 dX5_add_45 rfl rfl ?_
    obtain ⟨o4, h⟩ := ob_e h
    refine g_iald 46 C 5 rfl o4 dX5_add_46 ?_
    refine g_isub 47 C dX5_add_47 ?_
    obtain ⟨o5, h⟩ := ob_e h
    refine g_iast 48 C (W_X5_add k h_t h_t_first h_t_size h_t_value h_a0 h_a0_ahead h_a0_worths h_a0_cuts s_count (upd s_first s_count.toNatClampNeg v2) (upd s_size s_count.toNatClampNeg (v3 - v2)) (upd s_value s_count.toNatClampNeg ((s_a0_ahead v3.toNatClampNeg) - (s_a0_ahead v2.toNatClampNeg))) s_a0_kind s_a0_links s_a0_cutCount s_a0_ahead) 3 rfl o5 rfl dX5_add_48 ?_
    refine g_aload_n 49 C 0 dX5_add_49 rfl rfl ?_
    refine g_dup 50 C dX5_add_50 rfl ?_
    refine g_get 51 C in_X5_add_X5 0 3 rfl rfl (by decide) fl_X5_add_21 rfl rfl dX5_add_51 ?_
    refine g_iconst 54 C (1 : Int32) dX5_add_54 (by decide) ?_
    refine g_iadd 55 C dX5_add_55 ?_
    refine g_put 56 C (W_X5_add k h_t h_t_first h_t_size h_t_value h_a0 h_a0_ahead h_a0_worths h_a0_cuts (s_count + (1 : Int32)) (upd s_first s_count.toNatClampNeg v2) (upd s_size s_count.toNatClampNeg (v3 - v2)) (upd s_value s_count.toNatClampNeg ((s_a0_ahead v3.toNatClampNeg) - (s_a0_ahead v2.toNatClampNeg))) s_a0_kind s_a0_links s_a0_cutCount s_a0_ahead) in_X5_add_X5 tyX5 tyX5_ok nmX5 0 3 rfl rfl (by decide) fl_X5_add_21 rfl rfl (tyX5_ok 3 (by decide)) rfl rfl (Nat.le_of_ble_eq_true rfl) rfl dX5_add_56 ?_
    refine GG.sub (lv' := []) [] rfl ?_
    exact ok_B_X5_add_59 C hA h
end

/-! X5_lose -/
abbrev W_X5_lose (k : Nat → ClassId) (h_t : Nat) (h_t_value : Nat) (h_a0 : Nat) (h_a0_worths : Nat) (h_t_first : Nat) (h_t_size : Nat) (h_a0_ahead : Nat) (h_a0_cuts : Nat) (s_count : Int32) (s_value : Nat → Int32) (s_a0_kind : Int32) (s_a0_links : Int32) (s_a0_cutCount : Int32) (s_a0_worths : Nat → Int32) : va_W := [(h_t, .inr (5, [.ref h_t_first, .ref h_t_size, .ref h_t_value, .int s_count])), (h_t_value, .inl (k 0, 11, .inl s_value)), (h_a0, .inr (1, [.ref h_a0_worths, .ref h_a0_ahead, .ref h_a0_cuts, .int s_a0_kind, .int s_a0_links, .int s_a0_cutCount])), (h_a0_worths, .inl (k 0, 24, .inl s_a0_worths))]
def rm_X5_lose : Room := { frames := 0, cells := 0, slots := 0, locals := 0 }
theorem in_X5_lose_X1 : ∀ w ∈ u_ws RX1 TX1 6, w ∈ wsX5_lose := by decide +kernel
theorem in_X5_lose_X5 : ∀ w ∈ u_ws RX5 TX5 4, w ∈ wsX5_lose := by decide +kernel
theorem fl_X5_lose_18 : Cond.fieldLink RX5 18 "LinkDays$Pieces" "value" "[I" ∈ wsX5_lose := by decide +kernel
theorem fl_X5_lose_21 : Cond.fieldLink RX5 21 "LinkDays$Pieces" "count" "I" ∈ wsX5_lose := by decide +kernel
theorem fl_X5_lose_42 : Cond.fieldLink RX5 42 "LinkDays$Chain" "kind" "I" ∈ wsX5_lose := by decide +kernel
theorem fl_X5_lose_51 : Cond.fieldLink RX5 51 "LinkDays$Chain" "worths" "[I" ∈ wsX5_lose := by decide +kernel
theorem pd_X5_lose : yX5_lose.cls = RX5 ∧ yX5_lose.cls ≠ "java/lang/invoke/MethodHandle" ∧ yX5_lose.cls ≠ "java/lang/invoke/VarHandle" ∧ (parseMethodDescriptor yX5_lose.desc).map (fun d => d.parameters.length) = some 2 := by decide +kernel
section
variable {p : Program} {l : Launch} {e : Env} {s : State} {m : MethodId} {args : Array Value} {below : List Frame} {meth : Method} {c : Code} {D : va_G} {k : Nat → ClassId} {A : Nat → Prop} {w0 : va_W} {sz : Nat}
set_option maxHeartbeats 4000000 in
set_option maxRecDepth 100000 in
theorem ok_B_X5_lose_33 {h_t : Nat} {h_t_value : Nat} {h_a0 : Nat} {h_a0_worths : Nat} {h_t_first : Nat} {h_t_size : Nat} {h_a0_ahead : Nat} {h_a0_cuts : Nat} {s_count : Int32} {s_value : Nat → Int32} {s_a0_kind : Int32} {s_a0_links : Int32} {s_a0_cutCount : Int32} {s_a0_worths : Nat → Int32} {res : (Nat → Int32)} (C : CX p s m args meth c cX5_lose wsX5_lose RX5 3 D k A none) (hA : A = va_A w0 sz)  (h : B_X5_lose_33 s_value = some res) : GG p l e rm_X5_lose s m args below meth c (MQ below (cQv D w0 sz (W_X5_lose k h_t h_t_value h_a0 h_a0_worths h_t_first h_t_size h_a0_ahead h_a0_cuts s_count res s_a0_kind s_a0_links s_a0_cutCount s_a0_worths)) args s 0 0 A) D A 3 0 0 33 [] [] (W_X5_lose k h_t h_t_value h_a0 h_a0_worths h_t_first h_t_size h_a0_ahead h_a0_cuts s_count s_value s_a0_kind s_a0_links s_a0_cutCount s_a0_worths) := by
  unfold B_X5_lose_33 at h
  obtain rfl := Option.some.inj h
  exact g_vret 33 C hA dX5_lose_33 rfl
set_option maxHeartbeats 4000000 in
set_option maxRecDepth 100000 in
theorem k_X5_lose {l : Launch} {D : va_G} {k : Nat → ClassId} (h_t : Nat) (h_t_value : Nat) (h_a0 : Nat) (h_a0_worths : Nat) (h_t_first : Nat) (h_t_size : Nat) (h_a0_ahead : Nat) (h_a0_cuts : Nat) (s_count : Int32) (s_value : Nat → Int32) (s_a0_kind : Int32) (s_a0_links : Int32) (s_a0_cutCount : Int32) (s_a0_worths : Nat → Int32) (v2 : Int32) (res : (Nat → Int32)) (h : f_X5_lose s_count s_value s_a0_kind s_a0_worths v2 = some res) (sz : Nat) : Met l yX5_lose wsX5_lose rm_X5_lose (cPre D k [.ref h_t, .ref h_a0, .int v2] (W_X5_lose k h_t h_t_value h_a0 h_a0_worths h_t_first h_t_size h_a0_ahead h_a0_cuts s_count s_value s_a0_kind s_a0_links s_a0_cutCount s_a0_worths) sz) (cQv D (W_X5_lose k h_t h_t_value h_a0 h_a0_worths h_t_first h_t_size h_a0_ahead h_a0_cuts s_count s_value s_a0_kind s_a0_links s_a0_cutCount s_a0_worths) sz (W_X5_lose k h_t h_t_value h_a0 h_a0_worths h_t_first h_t_size h_a0_ahead h_a0_cuts s_count res s_a0_kind s_a0_links s_a0_cutCount s_a0_worths)) 0 0 (va_A (W_X5_lose k h_t h_t_value h_a0 h_a0_worths h_t_first h_t_size h_a0_ahead h_a0_cuts s_count s_value s_a0_kind s_a0_links s_a0_cutCount s_a0_worths) sz) := by
  refine met_of [(0, .ref h_t), (1, .ref h_a0), (2, .int v2)] (by decide) rfl rfl (Nat.le_of_ble_eq_true rfl) rfl ?_
  intro p e s m args below meth c A hA hsz C
  unfold f_X5_lose at h
  refine g_aload_n 0 C 1 dX5_lose_0 rfl rfl ?_
  refine g_get 1 C in_X5_lose_X1 2 3 rfl rfl (by decide) fl_X5_lose_42 rfl rfl dX5_lose_1 ?_
  refine g_iconst 4 C (3 : Int32) dX5_lose_4 (by decide) ?_
  refine g_icmp_ne 5 33 C dX5_lose_5 (by decide) (fun c => ?_) (fun c => ?_)
  · replace h := if_e c h
    refine GG.sub (lv' := []) [] rfl ?_
    exact ok_B_X5_lose_33 C hA h
  · replace h := it_e c h
    refine g_aload_n 8 C 1 dX5_lose_8 rfl rfl ?_
    refine g_get 9 C in_X5_lose_X1 2 0 rfl rfl (by decide) fl_X5_lose_51 rfl rfl dX5_lose_9 ?_
    refine g_iload_n 12 C 2 dX5_lose_12 rfl rfl ?_
    obtain ⟨o1, h⟩ := ob_e h
    refine g_iald 13 C 3 rfl o1 dX5_lose_13 ?_
    refine g_iconst 14 C (1 : Int32) dX5_lose_14 (by decide) ?_
    refine g_icmp_le 15 33 C dX5_lose_15 (by decide) (fun c => ?_) (fun c => ?_)
    · replace h := it_e c h
      refine GG.sub (lv' := []) [] rfl ?_
      exact ok_B_X5_lose_33 C hA h
    · replace h := if_e c h
      refine g_aload_n 18 C 0 dX5_lose_18 rfl rfl ?_
      refine g_get 19 C in_X5_lose_X5 0 2 rfl rfl (by decide) fl_X5_lose_18 rfl rfl dX5_lose_19 ?_
      refine g_aload_n 22 C 0 dX5_lose_22 rfl rfl ?_
      refine g_get 23 C in_X5_lose_X5 0 3 rfl rfl (by decide) fl_X5_lose_21 rfl rfl dX5_lose_23 ?_
      refine g_iconst 26 C (1 : Int32) dX5_lose_26 (by decide) ?_
      refine g_isub 27 C dX5_lose_27 ?_
      refine g_dup2 28 C dX5_lose_28 rfl rfl ?_
      obtain ⟨o2, h⟩ := ob_e h
      refine g_iald 29 C 1 rfl o2 dX5_lose_29 ?_
      refine g_iconst 30 C (1 : Int32) dX5_lose_30 (by decide) ?_
      refine g_isub 31 C dX5_lose_31 ?_
      obtain ⟨o3, h⟩ := ob_e h
      refine g_iast 32 C (W_X5_lose k h_t h_t_value h_a0 h_a0_worths h_t_first h_t_size h_a0_ahead h_a0_cuts s_count (upd s_value (s_count - (1 : Int32)).toNatClampNeg ((s_value (s_count - (1 : Int32)).toNatClampNeg) - (1 : Int32))) s_a0_kind s_a0_links s_a0_cutCount s_a0_worths) 1 rfl o3 rfl dX5_lose_32 ?_
      refine GG.sub (lv' := []) [] rfl ?_
      exact ok_B_X5_lose_33 C hA h
end

/-! X5_joinEnds -/
abbrev W_X5_joinEnds (k : Nat → ClassId) (h_t : Nat) (h_t_size : Nat) (h_t_value : Nat) (h_t_first : Nat) (s_count : Int32) (s_size : Nat → Int32) (s_value : Nat → Int32) (s_first : Nat → Int32) : va_W := [(h_t, .inr (5, [.ref h_t_first, .ref h_t_size, .ref h_t_value, .int s_count])), (h_t_size, .inl (k 0, 11, .inl s_size)), (h_t_value, .inl (k 0, 11, .inl s_value)), (h_t_first, .inl (k 0, 11, .inl s_first))]
def rm_X5_joinEnds : Room := { frames := 0, cells := 0, slots := 0, locals := 0 }
theorem in_X5_joinEnds_X5 : ∀ w ∈ u_ws RX5 TX5 4, w ∈ wsX5_joinEnds := by decide +kernel
theorem fl_X5_joinEnds_15 : Cond.fieldLink RX5 15 "LinkDays$Pieces" "size" "[I" ∈ wsX5_joinEnds := by decide +kernel
theorem fl_X5_joinEnds_18 : Cond.fieldLink RX5 18 "LinkDays$Pieces" "value" "[I" ∈ wsX5_joinEnds := by decide +kernel
theorem fl_X5_joinEnds_21 : Cond.fieldLink RX5 21 "LinkDays$Pieces" "count" "I" ∈ wsX5_joinEnds := by decide +kernel
theorem fl_X5_joinEnds_9 : Cond.fieldLink RX5 9 "LinkDays$Pieces" "first" "[I" ∈ wsX5_joinEnds := by decide +kernel
theorem pd_X5_joinEnds : yX5_joinEnds.cls = RX5 ∧ yX5_joinEnds.cls ≠ "java/lang/invoke/MethodHandle" ∧ yX5_joinEnds.cls ≠ "java/lang/invoke/VarHandle" ∧ (parseMethodDescriptor yX5_joinEnds.desc).map (fun d => d.parameters.length) = some 0 := by decide +kernel
section
variable {p : Program} {l : Launch} {e : Env} {s : State} {m : MethodId} {args : Array Value} {below : List Frame} {meth : Method} {c : Code} {D : va_G} {k : Nat → ClassId} {A : Nat → Prop} {w0 : va_W} {sz : Nat}
set_option maxHeartbeats 4000000 in
set_option maxRecDepth 100000 in
theorem ok_L_X5_joinEnds_52 {h_t : Nat} {h_t_size : Nat} {h_t_value : Nat} {h_t_first : Nat} {s_count : Int32} {res : Int32 × (Nat → Int32) × (Nat → Int32) × (Nat → Int32)} (C : CX p s m args meth c cX5_joinEnds wsX5_joinEnds RX5 2 D k A none) (hA : A = va_A w0 sz) {kx : Int32 × (Nat → Int32) × (Nat → Int32) × (Nat → Int32) → Option (Int32 × (Nat → Int32) × (Nat → Int32) × (Nat → Int32))} (hx : ∀ t : Int32 × (Nat → Int32) × (Nat → Int32) × (Nat → Int32), kx t = some res → GG p l e rm_X5_joinEnds s m args below meth c (MQ below (cQv D w0 sz (W_X5_joinEnds k h_t h_t_size h_t_value h_t_first res.1 res.2.1 res.2.2.1 res.2.2.2)) args s 0 0 A) D A 2 0 0 108 [] [] (W_X5_joinEnds k h_t h_t_size h_t_value h_t_first s_count t.2.1 t.2.2.1 t.2.2.2)) : ∀ (n : Nat) (t : Int32 × (Nat → Int32) × (Nat → Int32) × (Nat → Int32)), L_X5_joinEnds_52 s_count kx n t = some res → GG p l e rm_X5_joinEnds s m args below meth c (MQ below (cQv D w0 sz (W_X5_joinEnds k h_t h_t_size h_t_value h_t_first res.1 res.2.1 res.2.2.1 res.2.2.2)) args s 0 0 A) D A 2 0 0 52 [(0, .ref h_t), (1, .int t.1)] [] (W_X5_joinEnds k h_t h_t_size h_t_value h_t_first s_count t.2.1 t.2.2.1 t.2.2.2) := by
  intro n
  induction n with
  | zero => intro t h; cases h
  | succ n ih =>
    intro t h
    obtain ⟨v1, s_size, s_value, s_first⟩ := t
    replace h : LB_X5_joinEnds_52 s_count kx (L_X5_joinEnds_52 s_count kx n) v1 s_size s_value s_first = some res := h
    have hr := ih
    unfold LB_X5_joinEnds_52 at h
    refine g_iload_n 52 C 1 dX5_joinEnds_52 rfl rfl ?_
    refine g_aload_n 53 C 0 dX5_joinEnds_53 rfl rfl ?_
    refine g_get 54 C in_X5_joinEnds_X5 0 3 rfl rfl (by decide) fl_X5_joinEnds_21 rfl rfl dX5_joinEnds_54 ?_
    refine g_icmp_ge 57 108 C dX5_joinEnds_57 (by decide) (fun c => ?_) (fun c => ?_)
    · replace h := it_e c h
      refine GG.sub (lv' := []) [] rfl ?_
      exact hx (v1, s_size, s_value, s_first) h
    · replace h := if_e c h
      refine g_aload_n 60 C 0 dX5_joinEnds_60 rfl rfl ?_
      refine g_get 61 C in_X5_joinEnds_X5 0 0 rfl rfl (by decide) fl_X5_joinEnds_9 rfl rfl dX5_joinEnds_61 ?_
      refine g_iload_n 64 C 1 dX5_joinEnds_64 rfl rfl ?_
      refine g_aload_n 65 C 0 dX5_joinEnds_65 rfl rfl ?_
      refine g_get 66 C in_X5_joinEnds_X5 0 0 rfl rfl (by decide) fl_X5_joinEnds_9 rfl rfl dX5_joinEnds_66 ?_
      refine g_iload_n 69 C 1 dX5_joinEnds_69 rfl rfl ?_
      refine g_iconst 70 C (1 : Int32) dX5_joinEnds_70 (by decide) ?_
      refine g_iadd 71 C dX5_joinEnds_71 ?_
      obtain ⟨o7, h⟩ := ob_e h
      refine g_iald 72 C 3 rfl o7 dX5_joinEnds_72 ?_
      obtain ⟨o8, h⟩ := ob_e h
      refine g_iast 73 C (W_X5_joinEnds k h_t h_t_size h_t_value h_t_first s_count s_size s_value (upd s_first v1.toNatClampNeg (s_first (v1 + (1 : Int32)).toNatClampNeg))) 3 rfl o8 rfl dX5_joinEnds_73 ?_
      refine g_aload_n 74 C 0 dX5_joinEnds_74 rfl rfl ?_
      refine g_get 75 C in_X5_joinEnds_X5 0 1 rfl rfl (by decide) fl_X5_joinEnds_15 rfl rfl dX5_joinEnds_75 ?_
      refine g_iload_n 78 C 1 dX5_joinEnds_78 rfl rfl ?_
      refine g_aload_n 79 C 0 dX5_joinEnds_79 rfl rfl ?_
      refine g_get 80 C in_X5_joinEnds_X5 0 1 rfl rfl (by decide) fl_X5_joinEnds_15 rfl rfl dX5_joinEnds_80 ?_
      refine g_iload_n 83 C 1 dX5_joinEnds_83 rfl rfl ?_
      refine g_iconst 84 C (1 : Int32) dX5_joinEnds_84 (by decide) ?_
      refine g_iadd 85 C dX5_joinEnds_85 ?_
      obtain ⟨o9, h⟩ := ob_e h
      refine g_iald 86 C 1 rfl o9 dX5_joinEnds_86 ?_
      obtain ⟨o10, h⟩ := ob_e h
      refine g_iast 87 C (W_X5_joinEnds k h_t h_t_size h_t_value h_t_first s_count (upd s_size v1.toNatClampNeg (s_size (v1 + (1 : Int32)).toNatClampNeg)) s_value (upd s_first v1.toNatClampNeg (s_first (v1 + (1 : Int32)).toNatClampNeg))) 1 rfl o10 rfl dX5_joinEnds_87 ?_
      refine g_aload_n 88 C 0 dX5_joinEnds_88 rfl rfl ?_
      refine g_get 89 C in_X5_joinEnds_X5 0 2 rfl rfl (by decide) fl_X5_joinEnds_18 rfl rfl dX5_joinEnds_89 ?_
      refine g_iload_n 92 C 1 dX5_joinEnds_92 rfl rfl ?_
      refine g_aload_n 93 C 0 dX5_joinEnds_93 rfl rfl ?_
      refine g_get 94 C in_X5_joinEnds_X5 0 2 rfl rfl (by decide) fl_X5_joinEnds_18 rfl rfl dX5_joinEnds_94 ?_
      refine g_iload_n 97 C 1 dX5_joinEnds_97 rfl rfl ?_
      refine g_iconst 98 C (1 : Int32) dX5_joinEnds_98 (by decide) ?_
      refine g_iadd 99 C dX5_joinEnds_99 ?_
      obtain ⟨o11, h⟩ := ob_e h
      refine g_iald 100 C 2 rfl o11 dX5_joinEnds_100 ?_
      obtain ⟨o12, h⟩ := ob_e h
      refine g_iast 101 C (W_X5_joinEnds k h_t h_t_size h_t_value h_t_first s_count (upd s_size v1.toNatClampNeg (s_size (v1 + (1 : Int32)).toNatClampNeg)) (upd s_value v1.toNatClampNeg (s_value (v1 + (1 : Int32)).toNatClampNeg)) (upd s_first v1.toNatClampNeg (s_first (v1 + (1 : Int32)).toNatClampNeg))) 2 rfl o12 rfl dX5_joinEnds_101 ?_
      refine g_iinc 102 C 1 (1 : Int32) [(1, .int (v1 + (1 : Int32))), (0, .ref h_t)] dX5_joinEnds_102 rfl (by decide) (by decide) rfl ?_
      refine g_goto 105 52 C dX5_joinEnds_105 (by decide) ?_
      refine GG.sub (lv' := [(0, .ref h_t), (1, .int (v1 + (1 : Int32)))]) [1, 0] rfl ?_
      exact hr ((v1 + (1 : Int32)), (upd s_size v1.toNatClampNeg (s_size (v1 + (1 : Int32)).toNatClampNeg)), (upd s_value v1.toNatClampNeg (s_value (v1 + (1 : Int32)).toNatClampNeg)), (upd s_first v1.toNatClampNeg (s_first (v1 + (1 : Int32)).toNatClampNeg))) h
set_option maxHeartbeats 4000000 in
set_option maxRecDepth 100000 in
theorem ok_B_X5_joinEnds_108 {h_t : Nat} {h_t_size : Nat} {h_t_value : Nat} {h_t_first : Nat} {s_count : Int32} {s_size : Nat → Int32} {s_value : Nat → Int32} {s_first : Nat → Int32} {res : Int32 × (Nat → Int32) × (Nat → Int32) × (Nat → Int32)} (C : CX p s m args meth c cX5_joinEnds wsX5_joinEnds RX5 2 D k A none) (hA : A = va_A w0 sz)  (h : B_X5_joinEnds_108 s_count s_size s_value s_first = some res) : GG p l e rm_X5_joinEnds s m args below meth c (MQ below (cQv D w0 sz (W_X5_joinEnds k h_t h_t_size h_t_value h_t_first res.1 res.2.1 res.2.2.1 res.2.2.2)) args s 0 0 A) D A 2 0 0 108 [] [] (W_X5_joinEnds k h_t h_t_size h_t_value h_t_first s_count s_size s_value s_first) := by
  unfold B_X5_joinEnds_108 at h
  obtain rfl := Option.some.inj h
  exact g_vret 108 C hA dX5_joinEnds_108 rfl
set_option maxHeartbeats 4000000 in
set_option maxRecDepth 100000 in
theorem k_X5_joinEnds {l : Launch} {D : va_G} {k : Nat → ClassId} (h_t : Nat) (h_t_size : Nat) (h_t_value : Nat) (h_t_first : Nat) (s_count : Int32) (s_size : Nat → Int32) (s_value : Nat → Int32) (s_first : Nat → Int32) (res : Int32 × (Nat → Int32) × (Nat → Int32) × (Nat → Int32)) (h : f_X5_joinEnds s_count s_size s_value s_first = some res) (sz : Nat) : Met l yX5_joinEnds wsX5_joinEnds rm_X5_joinEnds (cPre D k [.ref h_t] (W_X5_joinEnds k h_t h_t_size h_t_value h_t_first s_count s_size s_value s_first) sz) (cQv D (W_X5_joinEnds k h_t h_t_size h_t_value h_t_first s_count s_size s_value s_first) sz (W_X5_joinEnds k h_t h_t_size h_t_value h_t_first res.1 res.2.1 res.2.2.1 res.2.2.2)) 0 0 (va_A (W_X5_joinEnds k h_t h_t_size h_t_value h_t_first s_count s_size s_value s_first) sz) := by
  refine met_of [(0, .ref h_t)] (by decide) rfl rfl (Nat.le_of_ble_eq_true rfl) rfl ?_
  intro p e s m args below meth c A hA hsz C
  unfold f_X5_joinEnds at h
  refine g_aload_n 0 C 0 dX5_joinEnds_0 rfl rfl ?_
  refine g_get 1 C in_X5_joinEnds_X5 0 1 rfl rfl (by decide) fl_X5_joinEnds_15 rfl rfl dX5_joinEnds_1 ?_
  refine g_aload_n 4 C 0 dX5_joinEnds_4 rfl rfl ?_
  refine g_get 5 C in_X5_joinEnds_X5 0 3 rfl rfl (by decide) fl_X5_joinEnds_21 rfl rfl dX5_joinEnds_5 ?_
  refine g_iconst 8 C (1 : Int32) dX5_joinEnds_8 (by decide) ?_
  refine g_isub 9 C dX5_joinEnds_9 ?_
  refine g_dup2 10 C dX5_joinEnds_10 rfl rfl ?_
  obtain ⟨o1, h⟩ := ob_e h
  refine g_iald 11 C 1 rfl o1 dX5_joinEnds_11 ?_
  refine g_aload_n 12 C 0 dX5_joinEnds_12 rfl rfl ?_
  refine g_get 13 C in_X5_joinEnds_X5 0 1 rfl rfl (by decide) fl_X5_joinEnds_15 rfl rfl dX5_joinEnds_13 ?_
  refine g_iconst 16 C (0 : Int32) dX5_joinEnds_16 (by decide) ?_
  obtain ⟨o2, h⟩ := ob_e h
  refine g_iald 17 C 1 rfl o2 dX5_joinEnds_17 ?_
  refine g_iadd 18 C dX5_joinEnds_18 ?_
  obtain ⟨o3, h⟩ := ob_e h
  refine g_iast 19 C (W_X5_joinEnds k h_t h_t_size h_t_value h_t_first s_count (upd s_size (s_count - (1 : Int32)).toNatClampNeg ((s_size (s_count - (1 : Int32)).toNatClampNeg) + (s_size (0 : Int32).toNatClampNeg))) s_value s_first) 1 rfl o3 rfl dX5_joinEnds_19 ?_
  refine g_aload_n 20 C 0 dX5_joinEnds_20 rfl rfl ?_
  refine g_get 21 C in_X5_joinEnds_X5 0 2 rfl rfl (by decide) fl_X5_joinEnds_18 rfl rfl dX5_joinEnds_21 ?_
  refine g_aload_n 24 C 0 dX5_joinEnds_24 rfl rfl ?_
  refine g_get 25 C in_X5_joinEnds_X5 0 3 rfl rfl (by decide) fl_X5_joinEnds_21 rfl rfl dX5_joinEnds_25 ?_
  refine g_iconst 28 C (1 : Int32) dX5_joinEnds_28 (by decide) ?_
  refine g_isub 29 C dX5_joinEnds_29 ?_
  refine g_dup2 30 C dX5_joinEnds_30 rfl rfl ?_
  obtain ⟨o4, h⟩ := ob_e h
  refine g_iald 31 C 2 rfl o4 dX5_joinEnds_31 ?_
  refine g_aload_n 32 C 0 dX5_joinEnds_32 rfl rfl ?_
  refine g_get 33 C in_X5_joinEnds_X5 0 2 rfl rfl (by decide) fl_X5_joinEnds_18 rfl rfl dX5_joinEnds_33 ?_
  refine g_iconst 36 C (0 : Int32) dX5_joinEnds_36 (by decide) ?_
  obtain ⟨o5, h⟩ := ob_e h
  refine g_iald 37 C 2 rfl o5 dX5_joinEnds_37 ?_
  refine g_iadd 38 C dX5_joinEnds_38 ?_
  obtain ⟨o6, h⟩ := ob_e h
  refine g_iast 39 C (W_X5_joinEnds k h_t h_t_size h_t_value h_t_first s_count (upd s_size (s_count - (1 : Int32)).toNatClampNeg ((s_size (s_count - (1 : Int32)).toNatClampNeg) + (s_size (0 : Int32).toNatClampNeg))) (upd s_value (s_count - (1 : Int32)).toNatClampNeg ((s_value (s_count - (1 : Int32)).toNatClampNeg) + (s_value (0 : Int32).toNatClampNeg))) s_first) 2 rfl o6 rfl dX5_joinEnds_39 ?_
  refine g_aload_n 40 C 0 dX5_joinEnds_40 rfl rfl ?_
  refine g_dup 41 C dX5_joinEnds_41 rfl ?_
  refine g_get 42 C in_X5_joinEnds_X5 0 3 rfl rfl (by decide) fl_X5_joinEnds_21 rfl rfl dX5_joinEnds_42 ?_
  refine g_iconst 45 C (1 : Int32) dX5_joinEnds_45 (by decide) ?_
  refine g_isub 46 C dX5_joinEnds_46 ?_
  refine g_put 47 C (W_X5_joinEnds k h_t h_t_size h_t_value h_t_first (s_count - (1 : Int32)) (upd s_size (s_count - (1 : Int32)).toNatClampNeg ((s_size (s_count - (1 : Int32)).toNatClampNeg) + (s_size (0 : Int32).toNatClampNeg))) (upd s_value (s_count - (1 : Int32)).toNatClampNeg ((s_value (s_count - (1 : Int32)).toNatClampNeg) + (s_value (0 : Int32).toNatClampNeg))) s_first) in_X5_joinEnds_X5 tyX5 tyX5_ok nmX5 0 3 rfl rfl (by decide) fl_X5_joinEnds_21 rfl rfl (tyX5_ok 3 (by decide)) rfl rfl (Nat.le_of_ble_eq_true rfl) rfl dX5_joinEnds_47 ?_
  refine g_iconst 50 C (0 : Int32) dX5_joinEnds_50 (by decide) ?_
  refine g_istore_n 51 C [(1, .int (0 : Int32)), (0, .ref h_t)] dX5_joinEnds_51 rfl (by decide) rfl ?_
  refine GG.sub (lv' := [(0, .ref h_t), (1, .int (0 : Int32))]) [1, 0] rfl ?_
  exact ok_L_X5_joinEnds_52 C hA (fun t h => by
    refine GG.sub (lv' := []) [] rfl ?_
    exact ok_B_X5_joinEnds_108 C hA h) FUEL ((0 : Int32), (upd s_size (s_count - (1 : Int32)).toNatClampNeg ((s_size (s_count - (1 : Int32)).toNatClampNeg) + (s_size (0 : Int32).toNatClampNeg))), (upd s_value (s_count - (1 : Int32)).toNatClampNeg ((s_value (s_count - (1 : Int32)).toNatClampNeg) + (s_value (0 : Int32).toNatClampNeg))), s_first) h
end

/-! X5_split -/
abbrev W_X5_split (k : Nat → ClassId) (h_t : Nat) (h_t_first : Nat) (h_t_size : Nat) (h_t_value : Nat) (h_a0 : Nat) (h_a0_ahead : Nat) (h_a0_worths : Nat) (h_a1 : Nat) (h_a0_cuts : Nat) (z1 : Nat) (s_count : Int32) (s_first : Nat → Int32) (s_size : Nat → Int32) (s_value : Nat → Int32) (s_a0_kind : Int32) (s_a0_links : Int32) (s_a0_cutCount : Int32) (s_a0_ahead : Nat → Int32) (s_a0_worths : Nat → Int32) (s_a1 : Nat → Int32) : va_W := [(h_t, .inr (5, [.ref h_t_first, .ref h_t_size, .ref h_t_value, .int s_count])), (h_t_first, .inl (k 0, 11, .inl s_first)), (h_t_size, .inl (k 0, 11, .inl s_size)), (h_t_value, .inl (k 0, 11, .inl s_value)), (h_a0, .inr (1, [.ref h_a0_worths, .ref h_a0_ahead, .ref h_a0_cuts, .int s_a0_kind, .int s_a0_links, .int s_a0_cutCount])), (h_a0_ahead, .inl (k 0, 25, .inl s_a0_ahead)), (h_a0_worths, .inl (k 0, 24, .inl s_a0_worths)), (h_a1, .inl (k 0, z1, .inl s_a1))]
def rm_X5_split : Room := { frames := 1, cells := 0, slots := 0, locals := 23 }
theorem in_X5_split_X1 : ∀ w ∈ u_ws RX1 TX1 6, w ∈ wsX5_split := by decide +kernel
theorem in_X5_split_X5 : ∀ w ∈ u_ws RX5 TX5 4, w ∈ wsX5_split := by decide +kernel
theorem fl_X5_split_21 : Cond.fieldLink RX5 21 "LinkDays$Pieces" "count" "I" ∈ wsX5_split := by decide +kernel
theorem fl_X5_split_39 : Cond.fieldLink RX5 39 "LinkDays$Chain" "links" "I" ∈ wsX5_split := by decide +kernel
theorem fl_X5_split_42 : Cond.fieldLink RX5 42 "LinkDays$Chain" "kind" "I" ∈ wsX5_split := by decide +kernel
theorem pd_X5_split : yX5_split.cls = RX5 ∧ yX5_split.cls ≠ "java/lang/invoke/MethodHandle" ∧ yX5_split.cls ≠ "java/lang/invoke/VarHandle" ∧ (parseMethodDescriptor yX5_split.desc).map (fun d => d.parameters.length) = some 3 := by decide +kernel
section
variable {p : Program} {l : Launch} {e : Env} {s : State} {m : MethodId} {args : Array Value} {below : List Frame} {meth : Method} {c : Code} {D : va_G} {k : Nat → ClassId} {A : Nat → Prop} {w0 : va_W} {sz : Nat}
set_option maxHeartbeats 4000000 in
set_option maxRecDepth 100000 in
theorem ok_B_X5_split_71 {h_t : Nat} {h_t_first : Nat} {h_t_size : Nat} {h_t_value : Nat} {h_a0 : Nat} {h_a0_ahead : Nat} {h_a0_worths : Nat} {h_a1 : Nat} {h_a0_cuts : Nat} {z1 : Nat} {s_count : Int32} {s_first : Nat → Int32} {s_size : Nat → Int32} {s_value : Nat → Int32} {s_a0_kind : Int32} {s_a0_links : Int32} {s_a0_cutCount : Int32} {s_a0_ahead : Nat → Int32} {s_a0_worths : Nat → Int32} {s_a1 : Nat → Int32} {v3 : Int32} {v5 : Int32} {v6 : Int32} {res : Int32 × (Nat → Int32) × (Nat → Int32) × (Nat → Int32)} {kx rec : Int32 × Int32 × Int32 × (Nat → Int32) × (Nat → Int32) × (Nat → Int32) → Option (Int32 × (Nat → Int32) × (Nat → Int32) × (Nat → Int32))} (C : CX p s m args meth c cX5_split wsX5_split RX5 7 D k A none) (hA : A = va_A w0 sz) (hx : ∀ t : Int32 × Int32 × Int32 × (Nat → Int32) × (Nat → Int32) × (Nat → Int32), kx t = some res → GG p l e rm_X5_split s m args below meth c (MQ below (cQv D w0 sz (W_X5_split k h_t h_t_first h_t_size h_t_value h_a0 h_a0_ahead h_a0_worths h_a1 h_a0_cuts z1 res.1 res.2.1 res.2.2.1 res.2.2.2 s_a0_kind s_a0_links s_a0_cutCount s_a0_ahead s_a0_worths s_a1)) args s 0 0 A) D A 7 0 0 83 [(0, .ref h_t), (1, .ref h_a0), (2, .ref h_a1), (3, .int v3), (4, .int t.1)] [] (W_X5_split k h_t h_t_first h_t_size h_t_value h_a0 h_a0_ahead h_a0_worths h_a1 h_a0_cuts z1 t.2.2.1 t.2.2.2.1 t.2.2.2.2.1 t.2.2.2.2.2 s_a0_kind s_a0_links s_a0_cutCount s_a0_ahead s_a0_worths s_a1)) (hr : ∀ t : Int32 × Int32 × Int32 × (Nat → Int32) × (Nat → Int32) × (Nat → Int32), rec t = some res → GG p l e rm_X5_split s m args below meth c (MQ below (cQv D w0 sz (W_X5_split k h_t h_t_first h_t_size h_t_value h_a0 h_a0_ahead h_a0_worths h_a1 h_a0_cuts z1 res.1 res.2.1 res.2.2.1 res.2.2.2 s_a0_kind s_a0_links s_a0_cutCount s_a0_ahead s_a0_worths s_a1)) args s 0 0 A) D A 7 0 0 11 [(0, .ref h_t), (1, .ref h_a0), (2, .ref h_a1), (3, .int v3), (4, .int t.1), (5, .int t.2.1)] [] (W_X5_split k h_t h_t_first h_t_size h_t_value h_a0 h_a0_ahead h_a0_worths h_a1 h_a0_cuts z1 t.2.2.1 t.2.2.2.1 t.2.2.2.2.1 t.2.2.2.2.2 s_a0_kind s_a0_links s_a0_cutCount s_a0_ahead s_a0_worths s_a1))  (h : B_X5_split_71 kx rec s_count s_first s_size s_value v5 v6 = some res) : GG p l e rm_X5_split s m args below meth c (MQ below (cQv D w0 sz (W_X5_split k h_t h_t_first h_t_size h_t_value h_a0 h_a0_ahead h_a0_worths h_a1 h_a0_cuts z1 res.1 res.2.1 res.2.2.1 res.2.2.2 s_a0_kind s_a0_links s_a0_cutCount s_a0_ahead s_a0_worths s_a1)) args s 0 0 A) D A 7 0 0 71 [(0, .ref h_t), (1, .ref h_a0), (2, .ref h_a1), (3, .int v3), (5, .int v5), (6, .int v6)] [] (W_X5_split k h_t h_t_first h_t_size h_t_value h_a0 h_a0_ahead h_a0_worths h_a1 h_a0_cuts z1 s_count s_first s_size s_value s_a0_kind s_a0_links s_a0_cutCount s_a0_ahead s_a0_worths s_a1) := by
  unfold B_X5_split_71 at h
  refine g_iload 71 C 5 dX5_split_71 rfl ?_
  refine g_iconst 73 C (1 : Int32) dX5_split_73 (by decide) ?_
  refine g_iadd 74 C dX5_split_74 ?_
  refine g_istore 75 C [(4, .int (v6 + (1 : Int32))), (0, .ref h_t), (1, .ref h_a0), (2, .ref h_a1), (3, .int v3), (5, .int v5), (6, .int v6)] dX5_split_75 (by decide) rfl ?_
  refine g_iinc 77 C 5 (1 : Int32) [(5, .int (v5 + (1 : Int32))), (4, .int (v6 + (1 : Int32))), (0, .ref h_t), (1, .ref h_a0), (2, .ref h_a1), (3, .int v3), (6, .int v6)] dX5_split_77 rfl (by decide) (by decide) rfl ?_
  refine g_goto 80 11 C dX5_split_80 (by decide) ?_
  refine GG.sub (lv' := [(0, .ref h_t), (1, .ref h_a0), (2, .ref h_a1), (3, .int v3), (4, .int (v6 + (1 : Int32))), (5, .int (v5 + (1 : Int32)))]) [2, 3, 4, 5, 1, 0] rfl ?_
  exact hr ((v6 + (1 : Int32)), (v5 + (1 : Int32)), s_count, s_first, s_size, s_value) h
set_option maxHeartbeats 4000000 in
set_option maxRecDepth 100000 in
theorem ok_L_X5_split_11 {h_t : Nat} {h_t_first : Nat} {h_t_size : Nat} {h_t_value : Nat} {h_a0 : Nat} {h_a0_ahead : Nat} {h_a0_worths : Nat} {h_a1 : Nat} {h_a0_cuts : Nat} {z1 : Nat} {s_a0_kind : Int32} {s_a0_links : Int32} {s_a0_cutCount : Int32} {s_a0_ahead : Nat → Int32} {s_a0_worths : Nat → Int32} {s_a1 : Nat → Int32} {v3 : Int32} {res : Int32 × (Nat → Int32) × (Nat → Int32) × (Nat → Int32)} (C : CX p s m args meth c cX5_split wsX5_split RX5 7 D k A none) (hA : A = va_A w0 sz) {kx : Int32 × Int32 × Int32 × (Nat → Int32) × (Nat → Int32) × (Nat → Int32) → Option (Int32 × (Nat → Int32) × (Nat → Int32) × (Nat → Int32))} (hx : ∀ t : Int32 × Int32 × Int32 × (Nat → Int32) × (Nat → Int32) × (Nat → Int32), kx t = some res → GG p l e rm_X5_split s m args below meth c (MQ below (cQv D w0 sz (W_X5_split k h_t h_t_first h_t_size h_t_value h_a0 h_a0_ahead h_a0_worths h_a1 h_a0_cuts z1 res.1 res.2.1 res.2.2.1 res.2.2.2 s_a0_kind s_a0_links s_a0_cutCount s_a0_ahead s_a0_worths s_a1)) args s 0 0 A) D A 7 0 0 83 [(0, .ref h_t), (1, .ref h_a0), (2, .ref h_a1), (3, .int v3), (4, .int t.1)] [] (W_X5_split k h_t h_t_first h_t_size h_t_value h_a0 h_a0_ahead h_a0_worths h_a1 h_a0_cuts z1 t.2.2.1 t.2.2.2.1 t.2.2.2.2.1 t.2.2.2.2.2 s_a0_kind s_a0_links s_a0_cutCount s_a0_ahead s_a0_worths s_a1)) : ∀ (n : Nat) (t : Int32 × Int32 × Int32 × (Nat → Int32) × (Nat → Int32) × (Nat → Int32)), L_X5_split_11 z1 s_a0_kind s_a0_ahead s_a0_worths s_a1 v3 kx n t = some res → GG p l e rm_X5_split s m args below meth c (MQ below (cQv D w0 sz (W_X5_split k h_t h_t_first h_t_size h_t_value h_a0 h_a0_ahead h_a0_worths h_a1 h_a0_cuts z1 res.1 res.2.1 res.2.2.1 res.2.2.2 s_a0_kind s_a0_links s_a0_cutCount s_a0_ahead s_a0_worths s_a1)) args s 0 0 A) D A 7 0 0 11 [(0, .ref h_t), (1, .ref h_a0), (2, .ref h_a1), (3, .int v3), (4, .int t.1), (5, .int t.2.1)] [] (W_X5_split k h_t h_t_first h_t_size h_t_value h_a0 h_a0_ahead h_a0_worths h_a1 h_a0_cuts z1 t.2.2.1 t.2.2.2.1 t.2.2.2.2.1 t.2.2.2.2.2 s_a0_kind s_a0_links s_a0_cutCount s_a0_ahead s_a0_worths s_a1) := by
  intro n
  induction n with
  | zero => intro t h; cases h
  | succ n ih =>
    intro t h
    obtain ⟨v4, v5, s_count, s_first, s_size, s_value⟩ := t
    replace h : LB_X5_split_11 z1 s_a0_kind s_a0_ahead s_a0_worths s_a1 v3 kx (L_X5_split_11 z1 s_a0_kind s_a0_ahead s_a0_worths s_a1 v3 kx n) v4 v5 s_count s_first s_size s_value = some res := h
    have hr := ih
    unfold LB_X5_split_11 at h
    refine g_iload 11 C 5 dX5_split_11 rfl ?_
    refine g_iload_n 13 C 3 dX5_split_13 rfl rfl ?_
    refine g_icmp_ge 14 83 C dX5_split_14 (by decide) (fun c => ?_) (fun c => ?_)
    · replace h := it_e c h
      refine GG.sub (lv' := [(0, .ref h_t), (1, .ref h_a0), (2, .ref h_a1), (3, .int v3), (4, .int v4)]) [0, 1, 2, 3, 4] rfl ?_
      exact hx (v4, v5, s_count, s_first, s_size, s_value) h
    · replace h := if_e c h
      refine g_aload_n 17 C 2 dX5_split_17 rfl rfl ?_
      refine g_iload 18 C 5 dX5_split_18 rfl ?_
      obtain ⟨o1, h⟩ := ob_e h
      refine g_iald 20 C 7 rfl o1 dX5_split_20 ?_
      refine g_istore 21 C [(6, .int (s_a1 v5.toNatClampNeg)), (0, .ref h_t), (1, .ref h_a0), (2, .ref h_a1), (3, .int v3), (4, .int v4), (5, .int v5)] dX5_split_21 (by decide) rfl ?_
      refine g_aload_n 23 C 2 dX5_split_23 rfl rfl ?_
      obtain ⟨q2, e3, h⟩ := bi_e h
      refine g_callVi 24 C (As := []) [4] [0, 1, 2, 3, 5, 6, 7] [0, 1, 2, 3, 7, 4, 5, 6] (W_X5_split k h_t h_t_first h_t_size h_t_value h_a0 h_a0_ahead h_a0_worths h_a1 h_a0_cuts z1 s_count s_first s_size s_value s_a0_kind s_a0_links s_a0_cutCount s_a0_ahead s_a0_worths s_a1) 4 (fun sz => k_X1_losesLinks h_a0 h_a0_worths h_a0_ahead h_a0_cuts s_a0_kind s_a0_links s_a0_cutCount q2 e3 sz) gX5_split_X1_losesLinks rfl pd_X1_losesLinks rfl rfl rfl ⟨rfl, rfl, Nat.le_of_ble_eq_true rfl, Nat.le_of_ble_eq_true rfl⟩ (Nat.le_of_ble_eq_true rfl) ⟨Nat.zero_le _, Nat.zero_le _⟩ ⟨rfl, rfl, rfl, rfl, rfl, by decide, rfl⟩ rfl dX5_split_24 ?_
      refine g_if_eq 27 53 C dX5_split_27 (by decide) (fun c => ?_) (fun c => ?_)
      · replace h := it_e c h
        refine g_aload_n 53 C 1 dX5_split_53 rfl rfl ?_
        refine g_aload_n 54 C 2 dX5_split_54 rfl rfl ?_
        refine g_iload 55 C 5 dX5_split_55 rfl ?_
        refine g_iload 57 C 0 dX5_split_57 rfl ?_
        refine g_iconst 59 C (1 : Int32) dX5_split_59 (by decide) ?_
        refine g_iadd 60 C dX5_split_60 ?_
        obtain ⟨q4, e5, h⟩ := bi_e h
        refine g_callVv 61 C (As := [.ref h_a0, .int v4, .int ((s_a1 v5.toNatClampNeg) + (1 : Int32))]) [0, 1, 2, 3, 4, 5] [6, 7] [2, 3, 4, 5, 6, 7, 0, 1] (W_X5_split k h_t h_t_first h_t_size h_t_value h_a0 h_a0_ahead h_a0_worths h_a1 h_a0_cuts z1 q4.1 q4.2.1 q4.2.2.1 q4.2.2.2 s_a0_kind s_a0_links s_a0_cutCount s_a0_ahead s_a0_worths s_a1) 0 (fun sz => k_X5_add h_t h_t_first h_t_size h_t_value h_a0 h_a0_ahead h_a0_worths h_a0_cuts s_count s_first s_size s_value s_a0_kind s_a0_links s_a0_cutCount s_a0_ahead v4 ((s_a1 v5.toNatClampNeg) + (1 : Int32)) q4 e5 sz) gX5_split_X5_add rfl pd_X5_add rfl rfl rfl ⟨rfl, rfl, Nat.le_of_ble_eq_true rfl, Nat.le_of_ble_eq_true rfl⟩ (Nat.le_of_ble_eq_true rfl) ⟨Nat.zero_le _, Nat.zero_le _⟩ ⟨rfl, rfl, rfl, rfl, rfl, by decide, rfl⟩ rfl dX5_split_61 ?_
        refine g_aload_n 64 C 1 dX5_split_64 rfl rfl ?_
        refine g_aload_n 65 C 2 dX5_split_65 rfl rfl ?_
        refine g_iload 66 C 0 dX5_split_66 rfl ?_
        obtain ⟨q6, e7, h⟩ := bi_e h
        refine g_callVv 68 C (As := [.ref h_a0, .int (s_a1 v5.toNatClampNeg)]) [0, 3, 4, 6] [1, 2, 5, 7] [4, 0, 1, 5, 6, 2, 7, 3] (W_X5_split k h_t h_t_first h_t_size h_t_value h_a0 h_a0_ahead h_a0_worths h_a1 h_a0_cuts z1 q4.1 q4.2.1 q4.2.2.1 q6 s_a0_kind s_a0_links s_a0_cutCount s_a0_ahead s_a0_worths s_a1) 0 (fun sz => k_X5_lose h_t h_t_value h_a0 h_a0_worths h_t_first h_t_size h_a0_ahead h_a0_cuts q4.1 q4.2.2.2 s_a0_kind s_a0_links s_a0_cutCount s_a0_worths (s_a1 v5.toNatClampNeg) q6 e7 sz) gX5_split_X5_lose rfl pd_X5_lose rfl rfl rfl ⟨rfl, rfl, Nat.le_of_ble_eq_true rfl, Nat.le_of_ble_eq_true rfl⟩ (Nat.le_of_ble_eq_true rfl) ⟨Nat.zero_le _, Nat.zero_le _⟩ ⟨rfl, rfl, rfl, rfl, rfl, by decide, rfl⟩ rfl dX5_split_68 ?_
        refine GG.sub (lv' := [(0, .ref h_t), (1, .ref h_a0), (2, .ref h_a1), (3, .int v3), (5, .int v5), (6, .int (s_a1 v5.toNatClampNeg))]) [1, 2, 3, 4, 6, 0] rfl ?_
        exact ok_B_X5_split_71 C hA hx hr h
      · replace h := if_e c h
        refine g_aload_n 30 C 1 dX5_split_30 rfl rfl ?_
        refine g_aload_n 31 C 2 dX5_split_31 rfl rfl ?_
        refine g_iload 32 C 5 dX5_split_32 rfl ?_
        refine g_iload 34 C 0 dX5_split_34 rfl ?_
        obtain ⟨q8, e9, h⟩ := bi_e h
        refine g_callVv 36 C (As := [.ref h_a0, .int v4, .int (s_a1 v5.toNatClampNeg)]) [0, 1, 2, 3, 4, 5] [6, 7] [2, 3, 4, 5, 6, 7, 0, 1] (W_X5_split k h_t h_t_first h_t_size h_t_value h_a0 h_a0_ahead h_a0_worths h_a1 h_a0_cuts z1 q8.1 q8.2.1 q8.2.2.1 q8.2.2.2 s_a0_kind s_a0_links s_a0_cutCount s_a0_ahead s_a0_worths s_a1) 0 (fun sz => k_X5_add h_t h_t_first h_t_size h_t_value h_a0 h_a0_ahead h_a0_worths h_a0_cuts s_count s_first s_size s_value s_a0_kind s_a0_links s_a0_cutCount s_a0_ahead v4 (s_a1 v5.toNatClampNeg) q8 e9 sz) gX5_split_X5_add rfl pd_X5_add rfl rfl rfl ⟨rfl, rfl, Nat.le_of_ble_eq_true rfl, Nat.le_of_ble_eq_true rfl⟩ (Nat.le_of_ble_eq_true rfl) ⟨Nat.zero_le _, Nat.zero_le _⟩ ⟨rfl, rfl, rfl, rfl, rfl, by decide, rfl⟩ rfl dX5_split_36 ?_
        refine g_aload_n 39 C 1 dX5_split_39 rfl rfl ?_
        refine g_aload_n 40 C 2 dX5_split_40 rfl rfl ?_
        refine g_iload 41 C 0 dX5_split_41 rfl ?_
        refine g_iload 43 C 0 dX5_split_43 rfl ?_
        refine g_iconst 45 C (1 : Int32) dX5_split_45 (by decide) ?_
        refine g_iadd 46 C dX5_split_46 ?_
        obtain ⟨q10, e11, h⟩ := bi_e h
        refine g_callVv 47 C (As := [.ref h_a0, .int (s_a1 v5.toNatClampNeg), .int ((s_a1 v5.toNatClampNeg) + (1 : Int32))]) [0, 1, 2, 3, 4, 5] [6, 7] [2, 3, 4, 5, 6, 7, 0, 1] (W_X5_split k h_t h_t_first h_t_size h_t_value h_a0 h_a0_ahead h_a0_worths h_a1 h_a0_cuts z1 q10.1 q10.2.1 q10.2.2.1 q10.2.2.2 s_a0_kind s_a0_links s_a0_cutCount s_a0_ahead s_a0_worths s_a1) 0 (fun sz => k_X5_add h_t h_t_first h_t_size h_t_value h_a0 h_a0_ahead h_a0_worths h_a0_cuts q8.1 q8.2.1 q8.2.2.1 q8.2.2.2 s_a0_kind s_a0_links s_a0_cutCount s_a0_ahead (s_a1 v5.toNatClampNeg) ((s_a1 v5.toNatClampNeg) + (1 : Int32)) q10 e11 sz) gX5_split_X5_add rfl pd_X5_add rfl rfl rfl ⟨rfl, rfl, Nat.le_of_ble_eq_true rfl, Nat.le_of_ble_eq_true rfl⟩ (Nat.le_of_ble_eq_true rfl) ⟨Nat.zero_le _, Nat.zero_le _⟩ ⟨rfl, rfl, rfl, rfl, rfl, by decide, rfl⟩ rfl dX5_split_47 ?_
        refine g_goto 50 71 C dX5_split_50 (by decide) ?_
        refine GG.sub (lv' := [(0, .ref h_t), (1, .ref h_a0), (2, .ref h_a1), (3, .int v3), (5, .int v5), (6, .int (s_a1 v5.toNatClampNeg))]) [1, 2, 3, 4, 6, 0] rfl ?_
        exact ok_B_X5_split_71 C hA hx hr h
set_option maxHeartbeats 4000000 in
set_option maxRecDepth 100000 in
theorem ok_B_X5_split_130 {h_t : Nat} {h_t_first : Nat} {h_t_size : Nat} {h_t_value : Nat} {h_a0 : Nat} {h_a0_ahead : Nat} {h_a0_worths : Nat} {h_a1 : Nat} {h_a0_cuts : Nat} {z1 : Nat} {s_count : Int32} {s_first : Nat → Int32} {s_size : Nat → Int32} {s_value : Nat → Int32} {s_a0_kind : Int32} {s_a0_links : Int32} {s_a0_cutCount : Int32} {s_a0_ahead : Nat → Int32} {s_a0_worths : Nat → Int32} {s_a1 : Nat → Int32} {res : Int32 × (Nat → Int32) × (Nat → Int32) × (Nat → Int32)} (C : CX p s m args meth c cX5_split wsX5_split RX5 7 D k A none) (hA : A = va_A w0 sz)  (h : B_X5_split_130 s_count s_first s_size s_value = some res) : GG p l e rm_X5_split s m args below meth c (MQ below (cQv D w0 sz (W_X5_split k h_t h_t_first h_t_size h_t_value h_a0 h_a0_ahead h_a0_worths h_a1 h_a0_cuts z1 res.1 res.2.1 res.2.2.1 res.2.2.2 s_a0_kind s_a0_links s_a0_cutCount s_a0_ahead s_a0_worths s_a1)) args s 0 0 A) D A 7 0 0 130 [] [] (W_X5_split k h_t h_t_first h_t_size h_t_value h_a0 h_a0_ahead h_a0_worths h_a1 h_a0_cuts z1 s_count s_first s_size s_value s_a0_kind s_a0_links s_a0_cutCount s_a0_ahead s_a0_worths s_a1) := by
  unfold B_X5_split_130 at h
  obtain rfl := Option.some.inj h
  exact g_vret 130 C hA dX5_split_130 rfl
set_option maxHeartbeats 4000000 in
set_option maxRecDepth 100000 in
theorem ok_B_X5_split_83 {h_t : Nat} {h_t_first : Nat} {h_t_size : Nat} {h_t_value : Nat} {h_a0 : Nat} {h_a0_ahead : Nat} {h_a0_worths : Nat} {h_a1 : Nat} {h_a0_cuts : Nat} {z1 : Nat} {s_count : Int32} {s_first : Nat → Int32} {s_size : Nat → Int32} {s_value : Nat → Int32} {s_a0_kind : Int32} {s_a0_links : Int32} {s_a0_cutCount : Int32} {s_a0_ahead : Nat → Int32} {s_a0_worths : Nat → Int32} {s_a1 : Nat → Int32} {v3 : Int32} {v4 : Int32} {res : Int32 × (Nat → Int32) × (Nat → Int32) × (Nat → Int32)} (C : CX p s m args meth c cX5_split wsX5_split RX5 7 D k A none) (hA : A = va_A w0 sz)  (h : B_X5_split_83 z1 s_count s_first s_size s_value s_a0_kind s_a0_links s_a0_ahead s_a1 v3 v4 = some res) : GG p l e rm_X5_split s m args below meth c (MQ below (cQv D w0 sz (W_X5_split k h_t h_t_first h_t_size h_t_value h_a0 h_a0_ahead h_a0_worths h_a1 h_a0_cuts z1 res.1 res.2.1 res.2.2.1 res.2.2.2 s_a0_kind s_a0_links s_a0_cutCount s_a0_ahead s_a0_worths s_a1)) args s 0 0 A) D A 7 0 0 83 [(0, .ref h_t), (1, .ref h_a0), (2, .ref h_a1), (3, .int v3), (4, .int v4)] [] (W_X5_split k h_t h_t_first h_t_size h_t_value h_a0 h_a0_ahead h_a0_worths h_a1 h_a0_cuts z1 s_count s_first s_size s_value s_a0_kind s_a0_links s_a0_cutCount s_a0_ahead s_a0_worths s_a1) := by
  unfold B_X5_split_83 at h
  refine g_aload_n 83 C 0 dX5_split_83 rfl rfl ?_
  refine g_aload_n 84 C 1 dX5_split_84 rfl rfl ?_
  refine g_iload 85 C 4 dX5_split_85 rfl ?_
  refine g_aload_n 87 C 1 dX5_split_87 rfl rfl ?_
  refine g_get 88 C in_X5_split_X1 4 4 rfl rfl (by decide) fl_X5_split_39 rfl rfl dX5_split_88 ?_
  obtain ⟨q12, e13, h⟩ := bi_e h
  refine g_callVv 91 C (As := [.ref h_a0, .int v4, .int s_a0_links]) [0, 1, 2, 3, 4, 5] [6, 7] [2, 3, 4, 5, 6, 7, 0, 1] (W_X5_split k h_t h_t_first h_t_size h_t_value h_a0 h_a0_ahead h_a0_worths h_a1 h_a0_cuts z1 q12.1 q12.2.1 q12.2.2.1 q12.2.2.2 s_a0_kind s_a0_links s_a0_cutCount s_a0_ahead s_a0_worths s_a1) 0 (fun sz => k_X5_add h_t h_t_first h_t_size h_t_value h_a0 h_a0_ahead h_a0_worths h_a0_cuts s_count s_first s_size s_value s_a0_kind s_a0_links s_a0_cutCount s_a0_ahead v4 s_a0_links q12 e13 sz) gX5_split_X5_add rfl pd_X5_add rfl rfl rfl ⟨rfl, rfl, Nat.le_of_ble_eq_true rfl, Nat.le_of_ble_eq_true rfl⟩ (Nat.le_of_ble_eq_true rfl) ⟨Nat.zero_le _, Nat.zero_le _⟩ ⟨rfl, rfl, rfl, rfl, rfl, by decide, rfl⟩ rfl dX5_split_91 ?_
  refine g_aload_n 94 C 1 dX5_split_94 rfl rfl ?_
  refine g_get 95 C in_X5_split_X1 4 3 rfl rfl (by decide) fl_X5_split_42 rfl rfl dX5_split_95 ?_
  refine g_iconst 98 C (1 : Int32) dX5_split_98 (by decide) ?_
  refine g_icmp_ne 99 130 C dX5_split_99 (by decide) (fun c => ?_) (fun c => ?_)
  · replace h := if_e c h
    refine GG.sub (lv' := []) [] rfl ?_
    exact ok_B_X5_split_130 C hA h
  · replace h := it_e c h
    refine g_iload_n 102 C 3 dX5_split_102 rfl rfl ?_
    refine g_if_le 103 130 C dX5_split_103 (by decide) (fun c => ?_) (fun c => ?_)
    · replace h := it_e c h
      refine GG.sub (lv' := []) [] rfl ?_
      exact ok_B_X5_split_130 C hA h
    · replace h := if_e c h
      refine g_aload_n 106 C 2 dX5_split_106 rfl rfl ?_
      refine g_iconst 107 C (0 : Int32) dX5_split_107 (by decide) ?_
      obtain ⟨o14, h⟩ := ob_e h
      refine g_iald 108 C 7 rfl o14 dX5_split_108 ?_
      refine g_if_eq 109 130 C dX5_split_109 (by decide) (fun c => ?_) (fun c => ?_)
      · replace h := it_e c h
        refine GG.sub (lv' := []) [] rfl ?_
        exact ok_B_X5_split_130 C hA h
      · replace h := if_e c h
        refine g_aload_n 112 C 2 dX5_split_112 rfl rfl ?_
        refine g_iload_n 113 C 3 dX5_split_113 rfl rfl ?_
        refine g_iconst 114 C (1 : Int32) dX5_split_114 (by decide) ?_
        refine g_isub 115 C dX5_split_115 ?_
        obtain ⟨o15, h⟩ := ob_e h
        refine g_iald 116 C 7 rfl o15 dX5_split_116 ?_
        refine g_aload_n 117 C 1 dX5_split_117 rfl rfl ?_
        refine g_get 118 C in_X5_split_X1 4 4 rfl rfl (by decide) fl_X5_split_39 rfl rfl dX5_split_118 ?_
        refine g_iconst 121 C (1 : Int32) dX5_split_121 (by decide) ?_
        refine g_isub 122 C dX5_split_122 ?_
        refine g_icmp_eq 123 130 C dX5_split_123 (by decide) (fun c => ?_) (fun c => ?_)
        · replace h := it_e c h
          refine GG.sub (lv' := []) [] rfl ?_
          exact ok_B_X5_split_130 C hA h
        · replace h := if_e c h
          refine g_aload_n 126 C 0 dX5_split_126 rfl rfl ?_
          obtain ⟨q16, e17, h⟩ := bi_e h
          refine g_callVv 127 C (As := []) [0, 2, 3, 1] [4, 5, 6, 7] [4, 7, 5, 6, 0, 1, 2, 3] (W_X5_split k h_t h_t_first h_t_size h_t_value h_a0 h_a0_ahead h_a0_worths h_a1 h_a0_cuts z1 q16.1 q16.2.2.2 q16.2.1 q16.2.2.1 s_a0_kind s_a0_links s_a0_cutCount s_a0_ahead s_a0_worths s_a1) 0 (fun sz => k_X5_joinEnds h_t h_t_size h_t_value h_t_first q12.1 q12.2.2.1 q12.2.2.2 q12.2.1 q16 e17 sz) gX5_split_X5_joinEnds rfl pd_X5_joinEnds rfl rfl rfl ⟨rfl, rfl, Nat.le_of_ble_eq_true rfl, Nat.le_of_ble_eq_true rfl⟩ (Nat.le_of_ble_eq_true rfl) ⟨Nat.zero_le _, Nat.zero_le _⟩ ⟨rfl, rfl, rfl, rfl, rfl, by decide, rfl⟩ rfl dX5_split_127 ?_
          refine GG.sub (lv' := []) [] rfl ?_
          exact ok_B_X5_split_130 C hA h
set_option maxHeartbeats 4000000 in
set_option maxRecDepth 100000 in
theorem k_X5_split {l : Launch} {D : va_G} {k : Nat → ClassId} (h_t : Nat) (h_t_first : Nat) (h_t_size : Nat) (h_t_value : Nat) (h_a0 : Nat) (h_a0_ahead : Nat) (h_a0_worths : Nat) (h_a1 : Nat) (h_a0_cuts : Nat) (z1 : Nat) (s_count : Int32) (s_first : Nat → Int32) (s_size : Nat → Int32) (s_value : Nat → Int32) (s_a0_kind : Int32) (s_a0_links : Int32) (s_a0_cutCount : Int32) (s_a0_ahead : Nat → Int32) (s_a0_worths : Nat → Int32) (s_a1 : Nat → Int32) (v3 : Int32) (res : Int32 × (Nat → Int32) × (Nat → Int32) × (Nat → Int32)) (h : f_X5_split z1 s_first s_size s_value s_a0_kind s_a0_links s_a0_ahead s_a0_worths s_a1 v3 = some res) (sz : Nat) : Met l yX5_split wsX5_split rm_X5_split (cPre D k [.ref h_t, .ref h_a0, .ref h_a1, .int v3] (W_X5_split k h_t h_t_first h_t_size h_t_value h_a0 h_a0_ahead h_a0_worths h_a1 h_a0_cuts z1 s_count s_first s_size s_value s_a0_kind s_a0_links s_a0_cutCount s_a0_ahead s_a0_worths s_a1) sz) (cQv D (W_X5_split k h_t h_t_first h_t_size h_t_value h_a0 h_a0_ahead h_a0_worths h_a1 h_a0_cuts z1 s_count s_first s_size s_value s_a0_kind s_a0_links s_a0_cutCount s_a0_ahead s_a0_worths s_a1) sz (W_X5_split k h_t h_t_first h_t_size h_t_value h_a0 h_a0_ahead h_a0_worths h_a1 h_a0_cuts z1 res.1 res.2.1 res.2.2.1 res.2.2.2 s_a0_kind s_a0_links s_a0_cutCount s_a0_ahead s_a0_worths s_a1)) 0 0 (va_A (W_X5_split k h_t h_t_first h_t_size h_t_value h_a0 h_a0_ahead h_a0_worths h_a1 h_a0_cuts z1 s_count s_first s_size s_value s_a0_kind s_a0_links s_a0_cutCount s_a0_ahead s_a0_worths s_a1) sz) := by
  refine met_of [(0, .ref h_t), (1, .ref h_a0), (2, .ref h_a1), (3, .int v3)] (by decide) rfl rfl (Nat.le_of_ble_eq_true rfl) rfl ?_
  intro p e s m args below meth c A hA hsz C
  unfold f_X5_split at h
  refine g_aload_n 0 C 0 dX5_split_0 rfl rfl ?_
  refine g_iconst 1 C (0 : Int32) dX5_split_1 (by decide) ?_
  refine g_put 2 C (W_X5_split k h_t h_t_first h_t_size h_t_value h_a0 h_a0_ahead h_a0_worths h_a1 h_a0_cuts z1 (0 : Int32) s_first s_size s_value s_a0_kind s_a0_links s_a0_cutCount s_a0_ahead s_a0_worths s_a1) in_X5_split_X5 tyX5 tyX5_ok nmX5 0 3 rfl rfl (by decide) fl_X5_split_21 rfl rfl (tyX5_ok 3 (by decide)) rfl rfl (Nat.le_of_ble_eq_true rfl) rfl dX5_split_2 ?_
  refine g_iconst 5 C (0 : Int32) dX5_split_5 (by decide) ?_
  refine g_istore 6 C [(4, .int (0 : Int32)), (0, .ref h_t), (1, .ref h_a0), (2, .ref h_a1), (3, .int v3)] dX5_split_6 (by decide) rfl ?_
  refine g_iconst 8 C (0 : Int32) dX5_split_8 (by decide) ?_
  refine g_istore 9 C [(5, .int (0 : Int32)), (4, .int (0 : Int32)), (0, .ref h_t), (1, .ref h_a0), (2, .ref h_a1), (3, .int v3)] dX5_split_9 (by decide) rfl ?_
  refine GG.sub (lv' := [(0, .ref h_t), (1, .ref h_a0), (2, .ref h_a1), (3, .int v3), (4, .int (0 : Int32)), (5, .int (0 : Int32))]) [2, 3, 4, 5, 1, 0] rfl ?_
  exact ok_L_X5_split_11 C hA (fun t h => by
    refine GG.sub (lv' := [(0, .ref h_t), (1, .ref h_a0), (2, .ref h_a1), (3, .int v3), (4, .int t.1)]) [0, 1, 2, 3, 4] rfl ?_
    exact ok_B_X5_split_83 C hA h) FUEL ((0 : Int32), (0 : Int32), (0 : Int32), s_first, s_size, s_value) h
end

/-! X5_whole -/
abbrev W_X5_whole (k : Nat → ClassId) (h_t : Nat) (h_t_value : Nat) (h_t_first : Nat) (h_t_size : Nat) (s_count : Int32) (s_value : Nat → Int32) : va_W := [(h_t, .inr (5, [.ref h_t_first, .ref h_t_size, .ref h_t_value, .int s_count])), (h_t_value, .inl (k 0, 11, .inl s_value))]
def rm_X5_whole : Room := { frames := 0, cells := 0, slots := 0, locals := 0 }
theorem in_X5_whole_X5 : ∀ w ∈ u_ws RX5 TX5 4, w ∈ wsX5_whole := by decide +kernel
theorem fl_X5_whole_18 : Cond.fieldLink RX5 18 "LinkDays$Pieces" "value" "[I" ∈ wsX5_whole := by decide +kernel
theorem fl_X5_whole_21 : Cond.fieldLink RX5 21 "LinkDays$Pieces" "count" "I" ∈ wsX5_whole := by decide +kernel
theorem pd_X5_whole : yX5_whole.cls = RX5 ∧ yX5_whole.cls ≠ "java/lang/invoke/MethodHandle" ∧ yX5_whole.cls ≠ "java/lang/invoke/VarHandle" ∧ (parseMethodDescriptor yX5_whole.desc).map (fun d => d.parameters.length) = some 0 := by decide +kernel
section
variable {p : Program} {l : Launch} {e : Env} {s : State} {m : MethodId} {args : Array Value} {below : List Frame} {meth : Method} {c : Code} {D : va_G} {k : Nat → ClassId} {A : Nat → Prop} {w0 : va_W} {sz : Nat}
set_option maxHeartbeats 4000000 in
set_option maxRecDepth 100000 in
theorem ok_L_X5_whole_4 {h_t : Nat} {h_t_value : Nat} {h_t_first : Nat} {h_t_size : Nat} {s_count : Int32} {s_value : Nat → Int32} {res : Int32} (C : CX p s m args meth c cX5_whole wsX5_whole RX5 3 D k A (some .int)) (hA : A = va_A w0 sz) {kx : Int32 × Int32 → Option (Int32)} (hx : ∀ t : Int32 × Int32, kx t = some res → GG p l e rm_X5_whole s m args below meth c (MQ below (cQi D w0 sz res (W_X5_whole k h_t h_t_value h_t_first h_t_size s_count s_value)) args s 0 0 A) D A 3 0 0 27 [(1, .int t.1)] [] (W_X5_whole k h_t h_t_value h_t_first h_t_size s_count s_value)) : ∀ (n : Nat) (t : Int32 × Int32), L_X5_whole_4 s_count s_value kx n t = some res → GG p l e rm_X5_whole s m args below meth c (MQ below (cQi D w0 sz res (W_X5_whole k h_t h_t_value h_t_first h_t_size s_count s_value)) args s 0 0 A) D A 3 0 0 4 [(0, .ref h_t), (1, .int t.1), (2, .int t.2)] [] (W_X5_whole k h_t h_t_value h_t_first h_t_size s_count s_value) := by
  intro n
  induction n with
  | zero => intro t h; cases h
  | succ n ih =>
    intro t h
    obtain ⟨v1, v2⟩ := t
    replace h : LB_X5_whole_4 s_count s_value kx (L_X5_whole_4 s_count s_value kx n) v1 v2 = some res := h
    have hr := ih
    unfold LB_X5_whole_4 at h
    refine g_iload_n 4 C 2 dX5_whole_4 rfl rfl ?_
    refine g_aload_n 5 C 0 dX5_whole_5 rfl rfl ?_
    refine g_get 6 C in_X5_whole_X5 0 3 rfl rfl (by decide) fl_X5_whole_21 rfl rfl dX5_whole_6 ?_
    refine g_icmp_ge 9 27 C dX5_whole_9 (by decide) (fun c => ?_) (fun c => ?_)
    · replace h := it_e c h
      refine GG.sub (lv' := [(1, .int v1)]) [1] rfl ?_
      exact hx (v1, v2) h
    · replace h := if_e c h
      refine g_iload_n 12 C 1 dX5_whole_12 rfl rfl ?_
      refine g_aload_n 13 C 0 dX5_whole_13 rfl rfl ?_
      refine g_get 14 C in_X5_whole_X5 0 2 rfl rfl (by decide) fl_X5_whole_18 rfl rfl dX5_whole_14 ?_
      refine g_iload_n 17 C 2 dX5_whole_17 rfl rfl ?_
      obtain ⟨o1, h⟩ := ob_e h
      refine g_iald 18 C 1 rfl o1 dX5_whole_18 ?_
      refine g_iadd 19 C dX5_whole_19 ?_
      refine g_istore_n 20 C [(1, .int (v1 + (s_value v2.toNatClampNeg))), (0, .ref h_t), (2, .int v2)] dX5_whole_20 rfl (by decide) rfl ?_
      refine g_iinc 21 C 2 (1 : Int32) [(2, .int (v2 + (1 : Int32))), (1, .int (v1 + (s_value v2.toNatClampNeg))), (0, .ref h_t)] dX5_whole_21 rfl (by decide) (by decide) rfl ?_
      refine g_goto 24 4 C dX5_whole_24 (by decide) ?_
      refine GG.sub (lv' := [(0, .ref h_t), (1, .int (v1 + (s_value v2.toNatClampNeg))), (2, .int (v2 + (1 : Int32)))]) [2, 1, 0] rfl ?_
      exact hr ((v1 + (s_value v2.toNatClampNeg)), (v2 + (1 : Int32))) h
set_option maxHeartbeats 4000000 in
set_option maxRecDepth 100000 in
theorem ok_B_X5_whole_27 {h_t : Nat} {h_t_value : Nat} {h_t_first : Nat} {h_t_size : Nat} {s_count : Int32} {s_value : Nat → Int32} {v1 : Int32} {res : Int32} (C : CX p s m args meth c cX5_whole wsX5_whole RX5 3 D k A (some .int)) (hA : A = va_A w0 sz)  (h : B_X5_whole_27 v1 = some res) : GG p l e rm_X5_whole s m args below meth c (MQ below (cQi D w0 sz res (W_X5_whole k h_t h_t_value h_t_first h_t_size s_count s_value)) args s 0 0 A) D A 3 0 0 27 [(1, .int v1)] [] (W_X5_whole k h_t h_t_value h_t_first h_t_size s_count s_value) := by
  unfold B_X5_whole_27 at h
  refine g_iload_n 27 C 0 dX5_whole_27 rfl rfl ?_
  obtain rfl := Option.some.inj h
  exact g_iret 28 C hA rfl dX5_whole_28 rfl
set_option maxHeartbeats 4000000 in
set_option maxRecDepth 100000 in
theorem k_X5_whole {l : Launch} {D : va_G} {k : Nat → ClassId} (h_t : Nat) (h_t_value : Nat) (h_t_first : Nat) (h_t_size : Nat) (s_count : Int32) (s_value : Nat → Int32) (res : Int32) (h : f_X5_whole s_count s_value = some res) (sz : Nat) : Met l yX5_whole wsX5_whole rm_X5_whole (cPre D k [.ref h_t] (W_X5_whole k h_t h_t_value h_t_first h_t_size s_count s_value) sz) (cQi D (W_X5_whole k h_t h_t_value h_t_first h_t_size s_count s_value) sz res (W_X5_whole k h_t h_t_value h_t_first h_t_size s_count s_value)) 0 0 (va_A (W_X5_whole k h_t h_t_value h_t_first h_t_size s_count s_value) sz) := by
  refine met_of [(0, .ref h_t)] (by decide) rfl rfl (Nat.le_of_ble_eq_true rfl) rfl ?_
  intro p e s m args below meth c A hA hsz C
  unfold f_X5_whole at h
  refine g_iconst 0 C (0 : Int32) dX5_whole_0 (by decide) ?_
  refine g_istore_n 1 C [(1, .int (0 : Int32)), (0, .ref h_t)] dX5_whole_1 rfl (by decide) rfl ?_
  refine g_iconst 2 C (0 : Int32) dX5_whole_2 (by decide) ?_
  refine g_istore_n 3 C [(2, .int (0 : Int32)), (1, .int (0 : Int32)), (0, .ref h_t)] dX5_whole_3 rfl (by decide) rfl ?_
  refine GG.sub (lv' := [(0, .ref h_t), (1, .int (0 : Int32)), (2, .int (0 : Int32))]) [2, 1, 0] rfl ?_
  exact ok_L_X5_whole_4 C hA (fun t h => by
    refine GG.sub (lv' := [(1, .int t.1)]) [0] rfl ?_
    exact ok_B_X5_whole_27 C hA h) FUEL ((0 : Int32), (0 : Int32)) h
end

/-! X5_freePiece -/
abbrev W_X5_freePiece (k : Nat → ClassId) (h_t : Nat) (h_t_value : Nat) (h_t_first : Nat) (h_t_size : Nat) (s_count : Int32) (s_value : Nat → Int32) : va_W := [(h_t, .inr (5, [.ref h_t_first, .ref h_t_size, .ref h_t_value, .int s_count])), (h_t_value, .inl (k 0, 11, .inl s_value))]
def rm_X5_freePiece : Room := { frames := 0, cells := 0, slots := 0, locals := 0 }
theorem in_X5_freePiece_X5 : ∀ w ∈ u_ws RX5 TX5 4, w ∈ wsX5_freePiece := by decide +kernel
theorem fl_X5_freePiece_18 : Cond.fieldLink RX5 18 "LinkDays$Pieces" "value" "[I" ∈ wsX5_freePiece := by decide +kernel
theorem fl_X5_freePiece_21 : Cond.fieldLink RX5 21 "LinkDays$Pieces" "count" "I" ∈ wsX5_freePiece := by decide +kernel
theorem pd_X5_freePiece : yX5_freePiece.cls = RX5 ∧ yX5_freePiece.cls ≠ "java/lang/invoke/MethodHandle" ∧ yX5_freePiece.cls ≠ "java/lang/invoke/VarHandle" ∧ (parseMethodDescriptor yX5_freePiece.desc).map (fun d => d.parameters.length) = some 2 := by decide +kernel
section
variable {p : Program} {l : Launch} {e : Env} {s : State} {m : MethodId} {args : Array Value} {below : List Frame} {meth : Method} {c : Code} {D : va_G} {k : Nat → ClassId} {A : Nat → Prop} {w0 : va_W} {sz : Nat}
set_option maxHeartbeats 4000000 in
set_option maxRecDepth 100000 in
theorem ok_B_X5_freePiece_30 {h_t : Nat} {h_t_value : Nat} {h_t_first : Nat} {h_t_size : Nat} {s_count : Int32} {s_value : Nat → Int32} {v1 : Int32} {v2 : Int32} {v3 : Int32} {res : Int32} {kx rec : Int32 → Option (Int32)} (C : CX p s m args meth c cX5_freePiece wsX5_freePiece RX5 4 D k A (some .int)) (hA : A = va_A w0 sz) (hx : ∀ t : Int32, kx t = some res → GG p l e rm_X5_freePiece s m args below meth c (MQ below (cQi D w0 sz res (W_X5_freePiece k h_t h_t_value h_t_first h_t_size s_count s_value)) args s 0 0 A) D A 4 0 0 36 [] [] (W_X5_freePiece k h_t h_t_value h_t_first h_t_size s_count s_value)) (hr : ∀ t : Int32, rec t = some res → GG p l e rm_X5_freePiece s m args below meth c (MQ below (cQi D w0 sz res (W_X5_freePiece k h_t h_t_value h_t_first h_t_size s_count s_value)) args s 0 0 A) D A 4 0 0 2 [(0, .ref h_t), (1, .int v1), (2, .int v2), (3, .int t)] [] (W_X5_freePiece k h_t h_t_value h_t_first h_t_size s_count s_value))  (h : B_X5_freePiece_30 kx rec v3 = some res) : GG p l e rm_X5_freePiece s m args below meth c (MQ below (cQi D w0 sz res (W_X5_freePiece k h_t h_t_value h_t_first h_t_size s_count s_value)) args s 0 0 A) D A 4 0 0 30 [(0, .ref h_t), (1, .int v1), (2, .int v2), (3, .int v3)] [] (W_X5_freePiece k h_t h_t_value h_t_first h_t_size s_count s_value) := by
  unfold B_X5_freePiece_30 at h
  refine g_iinc 30 C 3 (1 : Int32) [(3, .int (v3 + (1 : Int32))), (0, .ref h_t), (1, .int v1), (2, .int v2)] dX5_freePiece_30 rfl (by decide) (by decide) rfl ?_
  refine g_goto 33 2 C dX5_freePiece_33 (by decide) ?_
  refine GG.sub (lv' := [(0, .ref h_t), (1, .int v1), (2, .int v2), (3, .int (v3 + (1 : Int32)))]) [1, 2, 3, 0] rfl ?_
  exact hr (v3 + (1 : Int32)) h
set_option maxHeartbeats 4000000 in
set_option maxRecDepth 100000 in
theorem ok_L_X5_freePiece_2 {h_t : Nat} {h_t_value : Nat} {h_t_first : Nat} {h_t_size : Nat} {s_count : Int32} {s_value : Nat → Int32} {v1 : Int32} {v2 : Int32} {res : Int32} (C : CX p s m args meth c cX5_freePiece wsX5_freePiece RX5 4 D k A (some .int)) (hA : A = va_A w0 sz) {kx : Int32 → Option (Int32)} (hx : ∀ t : Int32, kx t = some res → GG p l e rm_X5_freePiece s m args below meth c (MQ below (cQi D w0 sz res (W_X5_freePiece k h_t h_t_value h_t_first h_t_size s_count s_value)) args s 0 0 A) D A 4 0 0 36 [] [] (W_X5_freePiece k h_t h_t_value h_t_first h_t_size s_count s_value)) : ∀ (n : Nat) (t : Int32), L_X5_freePiece_2 s_count s_value v1 v2 kx n t = some res → GG p l e rm_X5_freePiece s m args below meth c (MQ below (cQi D w0 sz res (W_X5_freePiece k h_t h_t_value h_t_first h_t_size s_count s_value)) args s 0 0 A) D A 4 0 0 2 [(0, .ref h_t), (1, .int v1), (2, .int v2), (3, .int t)] [] (W_X5_freePiece k h_t h_t_value h_t_first h_t_size s_count s_value) := by
  intro n
  induction n with
  | zero => intro t h; cases h
  | succ n ih =>
    intro t h
    obtain ⟨v3, rfl⟩ : ∃ z, z = t := ⟨_, rfl⟩
    replace h : LB_X5_freePiece_2 s_count s_value v1 v2 kx (L_X5_freePiece_2 s_count s_value v1 v2 kx n) v3 = some res := h
    have hr := ih
    unfold LB_X5_freePiece_2 at h
    refine g_iload_n 2 C 3 dX5_freePiece_2 rfl rfl ?_
    refine g_aload_n 3 C 0 dX5_freePiece_3 rfl rfl ?_
    refine g_get 4 C in_X5_freePiece_X5 0 3 rfl rfl (by decide) fl_X5_freePiece_21 rfl rfl dX5_freePiece_4 ?_
    refine g_icmp_ge 7 36 C dX5_freePiece_7 (by decide) (fun c => ?_) (fun c => ?_)
    · replace h := it_e c h
      refine GG.sub (lv' := []) [] rfl ?_
      exact hx v3 h
    · replace h := if_e c h
      refine g_aload_n 10 C 0 dX5_freePiece_10 rfl rfl ?_
      refine g_get 11 C in_X5_freePiece_X5 0 2 rfl rfl (by decide) fl_X5_freePiece_18 rfl rfl dX5_freePiece_11 ?_
      refine g_iload_n 14 C 3 dX5_freePiece_14 rfl rfl ?_
      obtain ⟨o1, h⟩ := ob_e h
      refine g_iald 15 C 1 rfl o1 dX5_freePiece_15 ?_
      refine g_iload_n 16 C 1 dX5_freePiece_16 rfl rfl ?_
      refine g_icmp_ne 17 30 C dX5_freePiece_17 (by decide) (fun c => ?_) (fun c => ?_)
      · replace h := if_e c h
        refine GG.sub (lv' := [(0, .ref h_t), (1, .int v1), (2, .int v2), (3, .int v3)]) [0, 1, 2, 3] rfl ?_
        exact ok_B_X5_freePiece_30 C hA hx hr h
      · replace h := it_e c h
        refine g_iload_n 20 C 2 dX5_freePiece_20 rfl rfl ?_
        refine g_iload_n 21 C 3 dX5_freePiece_21 rfl rfl ?_
        refine g_ishr 22 C dX5_freePiece_22 ?_
        refine g_iconst 23 C (1 : Int32) dX5_freePiece_23 (by decide) ?_
        refine g_iand 24 C dX5_freePiece_24 ?_
        refine g_if_ne 25 30 C dX5_freePiece_25 (by decide) (fun c => ?_) (fun c => ?_)
        · replace h := if_e c h
          refine GG.sub (lv' := [(0, .ref h_t), (1, .int v1), (2, .int v2), (3, .int v3)]) [0, 1, 2, 3] rfl ?_
          exact ok_B_X5_freePiece_30 C hA hx hr h
        · replace h := it_e c h
          refine g_iload_n 28 C 3 dX5_freePiece_28 rfl rfl ?_
          obtain rfl := Option.some.inj h
          exact g_iret 29 C hA rfl dX5_freePiece_29 rfl
set_option maxHeartbeats 4000000 in
set_option maxRecDepth 100000 in
theorem ok_B_X5_freePiece_36 {h_t : Nat} {h_t_value : Nat} {h_t_first : Nat} {h_t_size : Nat} {s_count : Int32} {s_value : Nat → Int32} {res : Int32} (C : CX p s m args meth c cX5_freePiece wsX5_freePiece RX5 4 D k A (some .int)) (hA : A = va_A w0 sz)  (h : B_X5_freePiece_36 = some res) : GG p l e rm_X5_freePiece s m args below meth c (MQ below (cQi D w0 sz res (W_X5_freePiece k h_t h_t_value h_t_first h_t_size s_count s_value)) args s 0 0 A) D A 4 0 0 36 [] [] (W_X5_freePiece k h_t h_t_value h_t_first h_t_size s_count s_value) := by
  unfold B_X5_freePiece_36 at h
  refine g_iconst 36 C (-1 : Int32) dX5_freePiece_36 (by decide) ?_
  obtain rfl := Option.some.inj h
  exact g_iret 37 C hA rfl dX5_freePiece_37 rfl
set_option maxHeartbeats 4000000 in
set_option maxRecDepth 100000 in
theorem k_X5_freePiece {l : Launch} {D : va_G} {k : Nat → ClassId} (h_t : Nat) (h_t_value : Nat) (h_t_first : Nat) (h_t_size : Nat) (s_count : Int32) (s_value : Nat → Int32) (v1 : Int32) (v2 : Int32) (res : Int32) (h : f_X5_freePiece s_count s_value v1 v2 = some res) (sz : Nat) : Met l yX5_freePiece wsX5_freePiece rm_X5_freePiece (cPre D k [.ref h_t, .int v1, .int v2] (W_X5_freePiece k h_t h_t_value h_t_first h_t_size s_count s_value) sz) (cQi D (W_X5_freePiece k h_t h_t_value h_t_first h_t_size s_count s_value) sz res (W_X5_freePiece k h_t h_t_value h_t_first h_t_size s_count s_value)) 0 0 (va_A (W_X5_freePiece k h_t h_t_value h_t_first h_t_size s_count s_value) sz) := by
  refine met_of [(0, .ref h_t), (1, .int v1), (2, .int v2)] (by decide) rfl rfl (Nat.le_of_ble_eq_true rfl) rfl ?_
  intro p e s m args below meth c A hA hsz C
  unfold f_X5_freePiece at h
  refine g_iconst 0 C (0 : Int32) dX5_freePiece_0 (by decide) ?_
  refine g_istore_n 1 C [(3, .int (0 : Int32)), (0, .ref h_t), (1, .int v1), (2, .int v2)] dX5_freePiece_1 rfl (by decide) rfl ?_
  refine GG.sub (lv' := [(0, .ref h_t), (1, .int v1), (2, .int v2), (3, .int (0 : Int32))]) [1, 2, 3, 0] rfl ?_
  exact ok_L_X5_freePiece_2 C hA (fun t h => by
    refine GG.sub (lv' := []) [] rfl ?_
    exact ok_B_X5_freePiece_36 C hA h) FUEL (0 : Int32) h
end

/-! X5_haveAll -/
abbrev W_X5_haveAll (k : Nat → ClassId) (h_t : Nat) (h_t_value : Nat) (h_a0 : Nat) (h_t_first : Nat) (h_t_size : Nat) (z0 : Nat) (s_count : Int32) (s_value : Nat → Int32) (s_a0 : Nat → Int32) : va_W := [(h_t, .inr (5, [.ref h_t_first, .ref h_t_size, .ref h_t_value, .int s_count])), (h_t_value, .inl (k 0, 11, .inl s_value)), (h_a0, .inl (k 0, z0, .inl s_a0))]
def rm_X5_haveAll : Room := { frames := 1, cells := 0, slots := 0, locals := 23 }
theorem pd_X5_haveAll : yX5_haveAll.cls = RX5 ∧ yX5_haveAll.cls ≠ "java/lang/invoke/MethodHandle" ∧ yX5_haveAll.cls ≠ "java/lang/invoke/VarHandle" ∧ (parseMethodDescriptor yX5_haveAll.desc).map (fun d => d.parameters.length) = some 2 := by decide +kernel
section
variable {p : Program} {l : Launch} {e : Env} {s : State} {m : MethodId} {args : Array Value} {below : List Frame} {meth : Method} {c : Code} {D : va_G} {k : Nat → ClassId} {A : Nat → Prop} {w0 : va_W} {sz : Nat}
set_option maxHeartbeats 4000000 in
set_option maxRecDepth 100000 in
theorem ok_L_X5_haveAll_5 {h_t : Nat} {h_t_value : Nat} {h_a0 : Nat} {h_t_first : Nat} {h_t_size : Nat} {z0 : Nat} {s_count : Int32} {s_value : Nat → Int32} {s_a0 : Nat → Int32} {v2 : Int32} {res : Int32} (C : CX p s m args meth c cX5_haveAll wsX5_haveAll RX5 6 D k A (some .boolean)) (hA : A = va_A w0 sz) {kx : Int32 × Int32 → Option (Int32)} (hx : ∀ t : Int32 × Int32, kx t = some res → GG p l e rm_X5_haveAll s m args below meth c (MQ below (cQi D w0 sz res (W_X5_haveAll k h_t h_t_value h_a0 h_t_first h_t_size z0 s_count s_value s_a0)) args s 0 0 A) D A 6 0 0 42 [] [] (W_X5_haveAll k h_t h_t_value h_a0 h_t_first h_t_size z0 s_count s_value s_a0)) : ∀ (n : Nat) (t : Int32 × Int32), L_X5_haveAll_5 z0 s_count s_value s_a0 v2 kx n t = some res → GG p l e rm_X5_haveAll s m args below meth c (MQ below (cQi D w0 sz res (W_X5_haveAll k h_t h_t_value h_a0 h_t_first h_t_size z0 s_count s_value s_a0)) args s 0 0 A) D A 6 0 0 5 [(0, .ref h_t), (1, .ref h_a0), (2, .int v2), (3, .int t.1), (4, .int t.2)] [] (W_X5_haveAll k h_t h_t_value h_a0 h_t_first h_t_size z0 s_count s_value s_a0) := by
  intro n
  induction n with
  | zero => intro t h; cases h
  | succ n ih =>
    intro t h
    obtain ⟨v3, v4⟩ := t
    replace h : LB_X5_haveAll_5 z0 s_count s_value s_a0 v2 kx (L_X5_haveAll_5 z0 s_count s_value s_a0 v2 kx n) v3 v4 = some res := h
    have hr := ih
    unfold LB_X5_haveAll_5 at h
    refine g_iload 5 C 4 dX5_haveAll_5 rfl ?_
    refine g_iload_n 7 C 2 dX5_haveAll_7 rfl rfl ?_
    refine g_icmp_ge 8 42 C dX5_haveAll_8 (by decide) (fun c => ?_) (fun c => ?_)
    · replace h := it_e c h
      refine GG.sub (lv' := []) [] rfl ?_
      exact hx (v3, v4) h
    · replace h := if_e c h
      refine g_aload_n 11 C 0 dX5_haveAll_11 rfl rfl ?_
      refine g_aload_n 12 C 1 dX5_haveAll_12 rfl rfl ?_
      refine g_iload 13 C 4 dX5_haveAll_13 rfl ?_
      obtain ⟨o1, h⟩ := ob_e h
      refine g_iald 15 C 2 rfl o1 dX5_haveAll_15 ?_
      refine g_iload_n 16 C 3 dX5_haveAll_16 rfl rfl ?_
      obtain ⟨q2, e3, h⟩ := bi_e h
      refine g_callVi 17 C (As := [.int (s_a0 v4.toNatClampNeg), .int v3]) [0, 1] [2] [1, 2, 0] (W_X5_haveAll k h_t h_t_value h_a0 h_t_first h_t_size z0 s_count s_value s_a0) 0 (fun sz => k_X5_freePiece h_t h_t_value h_t_first h_t_size s_count s_value (s_a0 v4.toNatClampNeg) v3 q2 e3 sz) gX5_haveAll_X5_freePiece rfl pd_X5_freePiece rfl rfl rfl ⟨rfl, rfl, Nat.le_of_ble_eq_true rfl, Nat.le_of_ble_eq_true rfl⟩ (Nat.le_of_ble_eq_true rfl) ⟨Nat.zero_le _, Nat.zero_le _⟩ ⟨rfl, rfl, rfl, rfl, rfl, by decide, rfl⟩ rfl dX5_haveAll_17 ?_
      refine g_istore 20 C [(5, .int q2), (0, .ref h_t), (1, .ref h_a0), (2, .int v2), (3, .int v3), (4, .int v4)] dX5_haveAll_20 (by decide) rfl ?_
      refine g_iload 22 C 0 dX5_haveAll_22 rfl ?_
      refine g_if_ge 24 29 C dX5_haveAll_24 (by decide) (fun c => ?_) (fun c => ?_)
      · replace h := it_e c h
        refine g_iload_n 29 C 4 dX5_haveAll_29 rfl rfl ?_
        refine g_iconst 30 C (1 : Int32) dX5_haveAll_30 (by decide) ?_
        refine g_iload 31 C 0 dX5_haveAll_31 rfl ?_
        refine g_ishl 33 C dX5_haveAll_33 ?_
        refine g_ior 34 C dX5_haveAll_34 ?_
        refine g_istore_n 35 C [(3, .int (v3 ||| ((1 : Int32) <<< (q2 &&& 31)))), (5, .int q2), (0, .ref h_t), (1, .ref h_a0), (2, .int v2), (4, .int v4)] dX5_haveAll_35 rfl (by decide) rfl ?_
        refine g_iinc 36 C 5 (1 : Int32) [(4, .int (v4 + (1 : Int32))), (3, .int (v3 ||| ((1 : Int32) <<< (q2 &&& 31)))), (5, .int q2), (0, .ref h_t), (1, .ref h_a0), (2, .int v2)] dX5_haveAll_36 rfl (by decide) (by decide) rfl ?_
        refine g_goto 39 5 C dX5_haveAll_39 (by decide) ?_
        refine GG.sub (lv' := [(0, .ref h_t), (1, .ref h_a0), (2, .int v2), (3, .int (v3 ||| ((1 : Int32) <<< (q2 &&& 31)))), (4, .int (v4 + (1 : Int32)))]) [3, 4, 5, 1, 0] rfl ?_
        exact hr ((v3 ||| ((1 : Int32) <<< (q2 &&& 31))), (v4 + (1 : Int32))) h
      · replace h := if_e c h
        refine g_iconst 27 C (0 : Int32) dX5_haveAll_27 (by decide) ?_
        obtain rfl := Option.some.inj h
        exact g_zret 28 C hA rfl rfl dX5_haveAll_28 rfl
set_option maxHeartbeats 4000000 in
set_option maxRecDepth 100000 in
theorem ok_B_X5_haveAll_42 {h_t : Nat} {h_t_value : Nat} {h_a0 : Nat} {h_t_first : Nat} {h_t_size : Nat} {z0 : Nat} {s_count : Int32} {s_value : Nat → Int32} {s_a0 : Nat → Int32} {res : Int32} (C : CX p s m args meth c cX5_haveAll wsX5_haveAll RX5 6 D k A (some .boolean)) (hA : A = va_A w0 sz)  (h : B_X5_haveAll_42 = some res) : GG p l e rm_X5_haveAll s m args below meth c (MQ below (cQi D w0 sz res (W_X5_haveAll k h_t h_t_value h_a0 h_t_first h_t_size z0 s_count s_value s_a0)) args s 0 0 A) D A 6 0 0 42 [] [] (W_X5_haveAll k h_t h_t_value h_a0 h_t_first h_t_size z0 s_count s_value s_a0) := by
  unfold B_X5_haveAll_42 at h
  refine g_iconst 42 C (1 : Int32) dX5_haveAll_42 (by decide) ?_
  obtain rfl := Option.some.inj h
  exact g_zret 43 C hA rfl rfl dX5_haveAll_43 rfl
set_option maxHeartbeats 4000000 in
set_option maxRecDepth 100000 in
theorem k_X5_haveAll {l : Launch} {D : va_G} {k : Nat → ClassId} (h_t : Nat) (h_t_value : Nat) (h_a0 : Nat) (h_t_first : Nat) (h_t_size : Nat) (z0 : Nat) (s_count : Int32) (s_value : Nat → Int32) (s_a0 : Nat → Int32) (v2 : Int32) (res : Int32) (h : f_X5_haveAll z0 s_count s_value s_a0 v2 = some res) (sz : Nat) : Met l yX5_haveAll wsX5_haveAll rm_X5_haveAll (cPre D k [.ref h_t, .ref h_a0, .int v2] (W_X5_haveAll k h_t h_t_value h_a0 h_t_first h_t_size z0 s_count s_value s_a0) sz) (cQi D (W_X5_haveAll k h_t h_t_value h_a0 h_t_first h_t_size z0 s_count s_value s_a0) sz res (W_X5_haveAll k h_t h_t_value h_a0 h_t_first h_t_size z0 s_count s_value s_a0)) 0 0 (va_A (W_X5_haveAll k h_t h_t_value h_a0 h_t_first h_t_size z0 s_count s_value s_a0) sz) := by
  refine met_of [(0, .ref h_t), (1, .ref h_a0), (2, .int v2)] (by decide) rfl rfl (Nat.le_of_ble_eq_true rfl) rfl ?_
  intro p e s m args below meth c A hA hsz C
  unfold f_X5_haveAll at h
  refine g_iconst 0 C (0 : Int32) dX5_haveAll_0 (by decide) ?_
  refine g_istore_n 1 C [(3, .int (0 : Int32)), (0, .ref h_t), (1, .ref h_a0), (2, .int v2)] dX5_haveAll_1 rfl (by decide) rfl ?_
  refine g_iconst 2 C (0 : Int32) dX5_haveAll_2 (by decide) ?_
  refine g_istore 3 C [(4, .int (0 : Int32)), (3, .int (0 : Int32)), (0, .ref h_t), (1, .ref h_a0), (2, .int v2)] dX5_haveAll_3 (by decide) rfl ?_
  refine GG.sub (lv' := [(0, .ref h_t), (1, .ref h_a0), (2, .int v2), (3, .int (0 : Int32)), (4, .int (0 : Int32))]) [2, 3, 4, 1, 0] rfl ?_
  exact ok_L_X5_haveAll_5 C hA (fun t h => by
    refine GG.sub (lv' := []) [] rfl ?_
    exact ok_B_X5_haveAll_42 C hA h) FUEL ((0 : Int32), (0 : Int32)) h
end

/-! X6_sortGroups -/
abbrev W_X6_sortGroups (k : Nat → ClassId) (h_t : Nat) (h_t_ends : Nat) (h_t_worths : Nat) (h_t_order : Nat) (h_t_notes : Nat) (h_t_lookedAt : Nat) (s_whole : Int32) (s_pieceCount : Int32) (s_lookedBack : Int32) (s_ends : Nat → Int32) (s_worths : Nat → Int32) (s_order : Nat → Int32) : va_W := [(h_t, .inr (6, [.ref h_t_worths, .ref h_t_order, .ref h_t_ends, .ref h_t_notes, .int s_whole, .int s_pieceCount, .int s_lookedBack, .ref h_t_lookedAt])), (h_t_ends, .inl (k 0, 218, .inl s_ends)), (h_t_worths, .inl (k 0, 2048, .inl s_worths)), (h_t_order, .inl (k 0, 2048, .inl s_order))]
def rm_X6_sortGroups : Room := { frames := 0, cells := 0, slots := 0, locals := 0 }
theorem in_X6_sortGroups_X6 : ∀ w ∈ u_ws RX6 TX6 8, w ∈ wsX6_sortGroups := by decide +kernel
theorem fl_X6_sortGroups_15 : Cond.fieldLink RX6 15 "LinkDays$Sets" "order" "[I" ∈ wsX6_sortGroups := by decide +kernel
theorem fl_X6_sortGroups_18 : Cond.fieldLink RX6 18 "LinkDays$Sets" "ends" "[I" ∈ wsX6_sortGroups := by decide +kernel
theorem fl_X6_sortGroups_42 : Cond.fieldLink RX6 42 "LinkDays$Sets" "whole" "I" ∈ wsX6_sortGroups := by decide +kernel
theorem fl_X6_sortGroups_9 : Cond.fieldLink RX6 9 "LinkDays$Sets" "worths" "[I" ∈ wsX6_sortGroups := by decide +kernel
theorem pd_X6_sortGroups : yX6_sortGroups.cls = RX6 ∧ yX6_sortGroups.cls ≠ "java/lang/invoke/MethodHandle" ∧ yX6_sortGroups.cls ≠ "java/lang/invoke/VarHandle" ∧ (parseMethodDescriptor yX6_sortGroups.desc).map (fun d => d.parameters.length) = some 1 := by decide +kernel
section
variable {p : Program} {l : Launch} {e : Env} {s : State} {m : MethodId} {args : Array Value} {below : List Frame} {meth : Method} {c : Code} {D : va_G} {k : Nat → ClassId} {A : Nat → Prop} {w0 : va_W} {sz : Nat}
set_option maxHeartbeats 4000000 in
set_option maxRecDepth 100000 in
theorem ok_L_X6_sortGroups_2 {h_t : Nat} {h_t_ends : Nat} {h_t_worths : Nat} {h_t_order : Nat} {h_t_notes : Nat} {h_t_lookedAt : Nat} {s_whole : Int32} {s_pieceCount : Int32} {s_lookedBack : Int32} {s_worths : Nat → Int32} {s_order : Nat → Int32} {v1 : Int32} {res : (Nat → Int32) × (Nat → Int32)} (C : CX p s m args meth c cX6_sortGroups wsX6_sortGroups RX6 4 D k A none) (hA : A = va_A w0 sz) {kx : Int32 × (Nat → Int32) → Option ((Nat → Int32) × (Nat → Int32))} (hx : ∀ t : Int32 × (Nat → Int32), kx t = some res → GG p l e rm_X6_sortGroups s m args below meth c (MQ below (cQv D w0 sz (W_X6_sortGroups k h_t h_t_ends h_t_worths h_t_order h_t_notes h_t_lookedAt s_whole s_pieceCount s_lookedBack res.1 s_worths res.2)) args s 0 0 A) D A 4 0 0 25 [(0, .ref h_t), (1, .int v1)] [] (W_X6_sortGroups k h_t h_t_ends h_t_worths h_t_order h_t_notes h_t_lookedAt s_whole s_pieceCount s_lookedBack t.2 s_worths s_order)) : ∀ (n : Nat) (t : Int32 × (Nat → Int32)), L_X6_sortGroups_2 s_whole kx n t = some res → GG p l e rm_X6_sortGroups s m args below meth c (MQ below (cQv D w0 sz (W_X6_sortGroups k h_t h_t_ends h_t_worths h_t_order h_t_notes h_t_lookedAt s_whole s_pieceCount s_lookedBack res.1 s_worths res.2)) args s 0 0 A) D A 4 0 0 2 [(0, .ref h_t), (1, .int v1), (2, .int t.1)] [] (W_X6_sortGroups k h_t h_t_ends h_t_worths h_t_order h_t_notes h_t_lookedAt s_whole s_pieceCount s_lookedBack t.2 s_worths s_order) := by
  intro n
  induction n with
  | zero => intro t h; cases h
  | succ n ih =>
    intro t h
    obtain ⟨v2, s_ends⟩ := t
    replace h : LB_X6_sortGroups_2 s_whole kx (L_X6_sortGroups_2 s_whole kx n) v2 s_ends = some res := h
    have hr := ih
    unfold LB_X6_sortGroups_2 at h
    refine g_iload_n 2 C 2 dX6_sortGroups_2 rfl rfl ?_
    refine g_aload_n 3 C 0 dX6_sortGroups_3 rfl rfl ?_
    refine g_get 4 C in_X6_sortGroups_X6 0 4 rfl rfl (by decide) fl_X6_sortGroups_42 rfl rfl dX6_sortGroups_4 ?_
    refine g_iconst 7 C (1 : Int32) dX6_sortGroups_7 (by decide) ?_
    refine g_iadd 8 C dX6_sortGroups_8 ?_
    refine g_icmp_gt 9 25 C dX6_sortGroups_9 (by decide) (fun c => ?_) (fun c => ?_)
    · replace h := it_e c h
      refine GG.sub (lv' := [(0, .ref h_t), (1, .int v1)]) [0, 1] rfl ?_
      exact hx (v2, s_ends) h
    · replace h := if_e c h
      refine g_aload_n 12 C 0 dX6_sortGroups_12 rfl rfl ?_
      refine g_get 13 C in_X6_sortGroups_X6 0 2 rfl rfl (by decide) fl_X6_sortGroups_18 rfl rfl dX6_sortGroups_13 ?_
      refine g_iload_n 16 C 2 dX6_sortGroups_16 rfl rfl ?_
      refine g_iconst 17 C (0 : Int32) dX6_sortGroups_17 (by decide) ?_
      obtain ⟨o1, h⟩ := ob_e h
      refine g_iast 18 C (W_X6_sortGroups k h_t h_t_ends h_t_worths h_t_order h_t_notes h_t_lookedAt s_whole s_pieceCount s_lookedBack (upd s_ends v2.toNatClampNeg (0 : Int32)) s_worths s_order) 1 rfl o1 rfl dX6_sortGroups_18 ?_
      refine g_iinc 19 C 2 (1 : Int32) [(2, .int (v2 + (1 : Int32))), (0, .ref h_t), (1, .int v1)] dX6_sortGroups_19 rfl (by decide) (by decide) rfl ?_
      refine g_goto 22 2 C dX6_sortGroups_22 (by decide) ?_
      refine GG.sub (lv' := [(0, .ref h_t), (1, .int v1), (2, .int (v2 + (1 : Int32)))]) [1, 2, 0] rfl ?_
      exact hr ((v2 + (1 : Int32)), (upd s_ends v2.toNatClampNeg (0 : Int32))) h
set_option maxHeartbeats 4000000 in
set_option maxRecDepth 100000 in
theorem ok_L_X6_sortGroups_27 {h_t : Nat} {h_t_ends : Nat} {h_t_worths : Nat} {h_t_order : Nat} {h_t_notes : Nat} {h_t_lookedAt : Nat} {s_whole : Int32} {s_pieceCount : Int32} {s_lookedBack : Int32} {s_worths : Nat → Int32} {s_order : Nat → Int32} {v1 : Int32} {res : (Nat → Int32) × (Nat → Int32)} (C : CX p s m args meth c cX6_sortGroups wsX6_sortGroups RX6 4 D k A none) (hA : A = va_A w0 sz) {kx : Int32 × (Nat → Int32) → Option ((Nat → Int32) × (Nat → Int32))} (hx : ∀ t : Int32 × (Nat → Int32), kx t = some res → GG p l e rm_X6_sortGroups s m args below meth c (MQ below (cQv D w0 sz (W_X6_sortGroups k h_t h_t_ends h_t_worths h_t_order h_t_notes h_t_lookedAt s_whole s_pieceCount s_lookedBack res.1 s_worths res.2)) args s 0 0 A) D A 4 0 0 53 [(0, .ref h_t), (1, .int v1)] [] (W_X6_sortGroups k h_t h_t_ends h_t_worths h_t_order h_t_notes h_t_lookedAt s_whole s_pieceCount s_lookedBack t.2 s_worths s_order)) : ∀ (n : Nat) (t : Int32 × (Nat → Int32)), L_X6_sortGroups_27 s_worths v1 kx n t = some res → GG p l e rm_X6_sortGroups s m args below meth c (MQ below (cQv D w0 sz (W_X6_sortGroups k h_t h_t_ends h_t_worths h_t_order h_t_notes h_t_lookedAt s_whole s_pieceCount s_lookedBack res.1 s_worths res.2)) args s 0 0 A) D A 4 0 0 27 [(0, .ref h_t), (1, .int v1), (2, .int t.1)] [] (W_X6_sortGroups k h_t h_t_ends h_t_worths h_t_order h_t_notes h_t_lookedAt s_whole s_pieceCount s_lookedBack t.2 s_worths s_order) := by
  intro n
  induction n with
  | zero => intro t h; cases h
  | succ n ih =>
    intro t h
    obtain ⟨v2, s_ends⟩ := t
    replace h : LB_X6_sortGroups_27 s_worths v1 kx (L_X6_sortGroups_27 s_worths v1 kx n) v2 s_ends = some res := h
    have hr := ih
    unfold LB_X6_sortGroups_27 at h
    refine g_iload_n 27 C 2 dX6_sortGroups_27 rfl rfl ?_
    refine g_iload_n 28 C 1 dX6_sortGroups_28 rfl rfl ?_
    refine g_icmp_ge 29 53 C dX6_sortGroups_29 (by decide) (fun c => ?_) (fun c => ?_)
    · replace h := it_e c h
      refine GG.sub (lv' := [(0, .ref h_t), (1, .int v1)]) [0, 1] rfl ?_
      exact hx (v2, s_ends) h
    · replace h := if_e c h
      refine g_aload_n 32 C 0 dX6_sortGroups_32 rfl rfl ?_
      refine g_get 33 C in_X6_sortGroups_X6 0 2 rfl rfl (by decide) fl_X6_sortGroups_18 rfl rfl dX6_sortGroups_33 ?_
      refine g_aload_n 36 C 0 dX6_sortGroups_36 rfl rfl ?_
      refine g_get 37 C in_X6_sortGroups_X6 0 0 rfl rfl (by decide) fl_X6_sortGroups_9 rfl rfl dX6_sortGroups_37 ?_
      refine g_iload_n 40 C 2 dX6_sortGroups_40 rfl rfl ?_
      obtain ⟨o2, h⟩ := ob_e h
      refine g_iald 41 C 2 rfl o2 dX6_sortGroups_41 ?_
      refine g_dup2 42 C dX6_sortGroups_42 rfl rfl ?_
      obtain ⟨o3, h⟩ := ob_e h
      refine g_iald 43 C 1 rfl o3 dX6_sortGroups_43 ?_
      refine g_iconst 44 C (1 : Int32) dX6_sortGroups_44 (by decide) ?_
      refine g_iadd 45 C dX6_sortGroups_45 ?_
      obtain ⟨o4, h⟩ := ob_e h
      refine g_iast 46 C (W_X6_sortGroups k h_t h_t_ends h_t_worths h_t_order h_t_notes h_t_lookedAt s_whole s_pieceCount s_lookedBack (upd s_ends (s_worths v2.toNatClampNeg).toNatClampNeg ((s_ends (s_worths v2.toNatClampNeg).toNatClampNeg) + (1 : Int32))) s_worths s_order) 1 rfl o4 rfl dX6_sortGroups_46 ?_
      refine g_iinc 47 C 2 (1 : Int32) [(2, .int (v2 + (1 : Int32))), (0, .ref h_t), (1, .int v1)] dX6_sortGroups_47 rfl (by decide) (by decide) rfl ?_
      refine g_goto 50 27 C dX6_sortGroups_50 (by decide) ?_
      refine GG.sub (lv' := [(0, .ref h_t), (1, .int v1), (2, .int (v2 + (1 : Int32)))]) [1, 2, 0] rfl ?_
      exact hr ((v2 + (1 : Int32)), (upd s_ends (s_worths v2.toNatClampNeg).toNatClampNeg ((s_ends (s_worths v2.toNatClampNeg).toNatClampNeg) + (1 : Int32)))) h
set_option maxHeartbeats 4000000 in
set_option maxRecDepth 100000 in
theorem ok_L_X6_sortGroups_55 {h_t : Nat} {h_t_ends : Nat} {h_t_worths : Nat} {h_t_order : Nat} {h_t_notes : Nat} {h_t_lookedAt : Nat} {s_whole : Int32} {s_pieceCount : Int32} {s_lookedBack : Int32} {s_worths : Nat → Int32} {s_order : Nat → Int32} {v1 : Int32} {res : (Nat → Int32) × (Nat → Int32)} (C : CX p s m args meth c cX6_sortGroups wsX6_sortGroups RX6 4 D k A none) (hA : A = va_A w0 sz) {kx : Int32 × (Nat → Int32) → Option ((Nat → Int32) × (Nat → Int32))} (hx : ∀ t : Int32 × (Nat → Int32), kx t = some res → GG p l e rm_X6_sortGroups s m args below meth c (MQ below (cQv D w0 sz (W_X6_sortGroups k h_t h_t_ends h_t_worths h_t_order h_t_notes h_t_lookedAt s_whole s_pieceCount s_lookedBack res.1 s_worths res.2)) args s 0 0 A) D A 4 0 0 88 [(0, .ref h_t), (1, .int v1)] [] (W_X6_sortGroups k h_t h_t_ends h_t_worths h_t_order h_t_notes h_t_lookedAt s_whole s_pieceCount s_lookedBack t.2 s_worths s_order)) : ∀ (n : Nat) (t : Int32 × (Nat → Int32)), L_X6_sortGroups_55 s_whole kx n t = some res → GG p l e rm_X6_sortGroups s m args below meth c (MQ below (cQv D w0 sz (W_X6_sortGroups k h_t h_t_ends h_t_worths h_t_order h_t_notes h_t_lookedAt s_whole s_pieceCount s_lookedBack res.1 s_worths res.2)) args s 0 0 A) D A 4 0 0 55 [(0, .ref h_t), (1, .int v1), (2, .int t.1)] [] (W_X6_sortGroups k h_t h_t_ends h_t_worths h_t_order h_t_notes h_t_lookedAt s_whole s_pieceCount s_lookedBack t.2 s_worths s_order) := by
  intro n
  induction n with
  | zero => intro t h; cases h
  | succ n ih =>
    intro t h
    obtain ⟨v2, s_ends⟩ := t
    replace h : LB_X6_sortGroups_55 s_whole kx (L_X6_sortGroups_55 s_whole kx n) v2 s_ends = some res := h
    have hr := ih
    unfold LB_X6_sortGroups_55 at h
    refine g_iload_n 55 C 2 dX6_sortGroups_55 rfl rfl ?_
    refine g_aload_n 56 C 0 dX6_sortGroups_56 rfl rfl ?_
    refine g_get 57 C in_X6_sortGroups_X6 0 4 rfl rfl (by decide) fl_X6_sortGroups_42 rfl rfl dX6_sortGroups_57 ?_
    refine g_iconst 60 C (1 : Int32) dX6_sortGroups_60 (by decide) ?_
    refine g_iadd 61 C dX6_sortGroups_61 ?_
    refine g_icmp_gt 62 88 C dX6_sortGroups_62 (by decide) (fun c => ?_) (fun c => ?_)
    · replace h := it_e c h
      refine GG.sub (lv' := [(0, .ref h_t), (1, .int v1)]) [0, 1] rfl ?_
      exact hx (v2, s_ends) h
    · replace h := if_e c h
      refine g_aload_n 65 C 0 dX6_sortGroups_65 rfl rfl ?_
      refine g_get 66 C in_X6_sortGroups_X6 0 2 rfl rfl (by decide) fl_X6_sortGroups_18 rfl rfl dX6_sortGroups_66 ?_
      refine g_iload_n 69 C 2 dX6_sortGroups_69 rfl rfl ?_
      refine g_dup2 70 C dX6_sortGroups_70 rfl rfl ?_
      obtain ⟨o5, h⟩ := ob_e h
      refine g_iald 71 C 1 rfl o5 dX6_sortGroups_71 ?_
      refine g_aload_n 72 C 0 dX6_sortGroups_72 rfl rfl ?_
      refine g_get 73 C in_X6_sortGroups_X6 0 2 rfl rfl (by decide) fl_X6_sortGroups_18 rfl rfl dX6_sortGroups_73 ?_
      refine g_iload_n 76 C 2 dX6_sortGroups_76 rfl rfl ?_
      refine g_iconst 77 C (1 : Int32) dX6_sortGroups_77 (by decide) ?_
      refine g_isub 78 C dX6_sortGroups_78 ?_
      obtain ⟨o6, h⟩ := ob_e h
      refine g_iald 79 C 1 rfl o6 dX6_sortGroups_79 ?_
      refine g_iadd 80 C dX6_sortGroups_80 ?_
      obtain ⟨o7, h⟩ := ob_e h
      refine g_iast 81 C (W_X6_sortGroups k h_t h_t_ends h_t_worths h_t_order h_t_notes h_t_lookedAt s_whole s_pieceCount s_lookedBack (upd s_ends v2.toNatClampNeg ((s_ends v2.toNatClampNeg) + (s_ends (v2 - (1 : Int32)).toNatClampNeg))) s_worths s_order) 1 rfl o7 rfl dX6_sortGroups_81 ?_
      refine g_iinc 82 C 2 (1 : Int32) [(2, .int (v2 + (1 : Int32))), (0, .ref h_t), (1, .int v1)] dX6_sortGroups_82 rfl (by decide) (by decide) rfl ?_
      refine g_goto 85 55 C dX6_sortGroups_85 (by decide) ?_
      refine GG.sub (lv' := [(0, .ref h_t), (1, .int v1), (2, .int (v2 + (1 : Int32)))]) [1, 2, 0] rfl ?_
      exact hr ((v2 + (1 : Int32)), (upd s_ends v2.toNatClampNeg ((s_ends v2.toNatClampNeg) + (s_ends (v2 - (1 : Int32)).toNatClampNeg)))) h
set_option maxHeartbeats 4000000 in
set_option maxRecDepth 100000 in
theorem ok_L_X6_sortGroups_92 {h_t : Nat} {h_t_ends : Nat} {h_t_worths : Nat} {h_t_order : Nat} {h_t_notes : Nat} {h_t_lookedAt : Nat} {s_whole : Int32} {s_pieceCount : Int32} {s_lookedBack : Int32} {s_worths : Nat → Int32} {res : (Nat → Int32) × (Nat → Int32)} (C : CX p s m args meth c cX6_sortGroups wsX6_sortGroups RX6 4 D k A none) (hA : A = va_A w0 sz) {kx : Int32 × (Nat → Int32) × (Nat → Int32) → Option ((Nat → Int32) × (Nat → Int32))} (hx : ∀ t : Int32 × (Nat → Int32) × (Nat → Int32), kx t = some res → GG p l e rm_X6_sortGroups s m args below meth c (MQ below (cQv D w0 sz (W_X6_sortGroups k h_t h_t_ends h_t_worths h_t_order h_t_notes h_t_lookedAt s_whole s_pieceCount s_lookedBack res.1 s_worths res.2)) args s 0 0 A) D A 4 0 0 126 [] [] (W_X6_sortGroups k h_t h_t_ends h_t_worths h_t_order h_t_notes h_t_lookedAt s_whole s_pieceCount s_lookedBack t.2.1 s_worths t.2.2)) : ∀ (n : Nat) (t : Int32 × (Nat → Int32) × (Nat → Int32)), L_X6_sortGroups_92 s_worths kx n t = some res → GG p l e rm_X6_sortGroups s m args below meth c (MQ below (cQv D w0 sz (W_X6_sortGroups k h_t h_t_ends h_t_worths h_t_order h_t_notes h_t_lookedAt s_whole s_pieceCount s_lookedBack res.1 s_worths res.2)) args s 0 0 A) D A 4 0 0 92 [(0, .ref h_t), (2, .int t.1)] [] (W_X6_sortGroups k h_t h_t_ends h_t_worths h_t_order h_t_notes h_t_lookedAt s_whole s_pieceCount s_lookedBack t.2.1 s_worths t.2.2) := by
  intro n
  induction n with
  | zero => intro t h; cases h
  | succ n ih =>
    intro t h
    obtain ⟨v2, s_ends, s_order⟩ := t
    replace h : LB_X6_sortGroups_92 s_worths kx (L_X6_sortGroups_92 s_worths kx n) v2 s_ends s_order = some res := h
    have hr := ih
    unfold LB_X6_sortGroups_92 at h
    refine g_iload_n 92 C 1 dX6_sortGroups_92 rfl rfl ?_
    refine g_if_lt 93 126 C dX6_sortGroups_93 (by decide) (fun c => ?_) (fun c => ?_)
    · replace h := it_e c h
      refine GG.sub (lv' := []) [] rfl ?_
      exact hx (v2, s_ends, s_order) h
    · replace h := if_e c h
      refine g_aload_n 96 C 0 dX6_sortGroups_96 rfl rfl ?_
      refine g_get 97 C in_X6_sortGroups_X6 0 2 rfl rfl (by decide) fl_X6_sortGroups_18 rfl rfl dX6_sortGroups_97 ?_
      refine g_aload_n 100 C 0 dX6_sortGroups_100 rfl rfl ?_
      refine g_get 101 C in_X6_sortGroups_X6 0 0 rfl rfl (by decide) fl_X6_sortGroups_9 rfl rfl dX6_sortGroups_101 ?_
      refine g_iload_n 104 C 1 dX6_sortGroups_104 rfl rfl ?_
      obtain ⟨o8, h⟩ := ob_e h
      refine g_iald 105 C 2 rfl o8 dX6_sortGroups_105 ?_
      refine g_dup2 106 C dX6_sortGroups_106 rfl rfl ?_
      obtain ⟨o9, h⟩ := ob_e h
      refine g_iald 107 C 1 rfl o9 dX6_sortGroups_107 ?_
      refine g_iconst 108 C (1 : Int32) dX6_sortGroups_108 (by decide) ?_
      refine g_isub 109 C dX6_sortGroups_109 ?_
      refine g_dup_x2 110 C dX6_sortGroups_110 rfl rfl rfl ?_
      obtain ⟨o10, h⟩ := ob_e h
      refine g_iast 111 C (W_X6_sortGroups k h_t h_t_ends h_t_worths h_t_order h_t_notes h_t_lookedAt s_whole s_pieceCount s_lookedBack (upd s_ends (s_worths v2.toNatClampNeg).toNatClampNeg ((s_ends (s_worths v2.toNatClampNeg).toNatClampNeg) - (1 : Int32))) s_worths s_order) 1 rfl o10 rfl dX6_sortGroups_111 ?_
      refine g_istore_n 112 C [(3, .int ((s_ends (s_worths v2.toNatClampNeg).toNatClampNeg) - (1 : Int32))), (0, .ref h_t), (2, .int v2)] dX6_sortGroups_112 rfl (by decide) rfl ?_
      refine g_aload_n 113 C 1 dX6_sortGroups_113 rfl rfl ?_
      refine g_get 114 C in_X6_sortGroups_X6 0 1 rfl rfl (by decide) fl_X6_sortGroups_15 rfl rfl dX6_sortGroups_114 ?_
      refine g_iload_n 117 C 0 dX6_sortGroups_117 rfl rfl ?_
      refine g_iload_n 118 C 2 dX6_sortGroups_118 rfl rfl ?_
      obtain ⟨o11, h⟩ := ob_e h
      refine g_iast 119 C (W_X6_sortGroups k h_t h_t_ends h_t_worths h_t_order h_t_notes h_t_lookedAt s_whole s_pieceCount s_lookedBack (upd s_ends (s_worths v2.toNatClampNeg).toNatClampNeg ((s_ends (s_worths v2.toNatClampNeg).toNatClampNeg) - (1 : Int32))) s_worths (upd s_order ((s_ends (s_worths v2.toNatClampNeg).toNatClampNeg) - (1 : Int32)).toNatClampNeg v2)) 3 rfl o11 rfl dX6_sortGroups_119 ?_
      refine g_iinc 120 C 2 (-1 : Int32) [(2, .int (v2 + (-1 : Int32))), (3, .int ((s_ends (s_worths v2.toNatClampNeg).toNatClampNeg) - (1 : Int32))), (0, .ref h_t)] dX6_sortGroups_120 rfl (by decide) (by decide) rfl ?_
      refine g_goto 123 92 C dX6_sortGroups_123 (by decide) ?_
      refine GG.sub (lv' := [(0, .ref h_t), (2, .int (v2 + (-1 : Int32)))]) [2, 0] rfl ?_
      exact hr ((v2 + (-1 : Int32)), (upd s_ends (s_worths v2.toNatClampNeg).toNatClampNeg ((s_ends (s_worths v2.toNatClampNeg).toNatClampNeg) - (1 : Int32))), (upd s_order ((s_ends (s_worths v2.toNatClampNeg).toNatClampNeg) - (1 : Int32)).toNatClampNeg v2)) h
set_option maxHeartbeats 4000000 in
set_option maxRecDepth 100000 in
theorem ok_B_X6_sortGroups_126 {h_t : Nat} {h_t_ends : Nat} {h_t_worths : Nat} {h_t_order : Nat} {h_t_notes : Nat} {h_t_lookedAt : Nat} {s_whole : Int32} {s_pieceCount : Int32} {s_lookedBack : Int32} {s_ends : Nat → Int32} {s_worths : Nat → Int32} {s_order : Nat → Int32} {res : (Nat → Int32) × (Nat → Int32)} (C : CX p s m args meth c cX6_sortGroups wsX6_sortGroups RX6 4 D k A none) (hA : A = va_A w0 sz)  (h : B_X6_sortGroups_126 s_ends s_order = some res) : GG p l e rm_X6_sortGroups s m args below meth c (MQ below (cQv D w0 sz (W_X6_sortGroups k h_t h_t_ends h_t_worths h_t_order h_t_notes h_t_lookedAt s_whole s_pieceCount s_lookedBack res.1 s_worths res.2)) args s 0 0 A) D A 4 0 0 126 [] [] (W_X6_sortGroups k h_t h_t_ends h_t_worths h_t_order h_t_notes h_t_lookedAt s_whole s_pieceCount s_lookedBack s_ends s_worths s_order) := by
  unfold B_X6_sortGroups_126 at h
  obtain rfl := Option.some.inj h
  exact g_vret 126 C hA dX6_sortGroups_126 rfl
set_option maxHeartbeats 4000000 in
set_option maxRecDepth 100000 in
theorem ok_B_X6_sortGroups_88 {h_t : Nat} {h_t_ends : Nat} {h_t_worths : Nat} {h_t_order : Nat} {h_t_notes : Nat} {h_t_lookedAt : Nat} {s_whole : Int32} {s_pieceCount : Int32} {s_lookedBack : Int32} {s_ends : Nat → Int32} {s_worths : Nat → Int32} {s_order : Nat → Int32} {v1 : Int32} {res : (Nat → Int32) × (Nat → Int32)} (C : CX p s m args meth c cX6_sortGroups wsX6_sortGroups RX6 4 D k A none) (hA : A = va_A w0 sz)  (h : B_X6_sortGroups_88 s_ends s_worths s_order v1 = some res) : GG p l e rm_X6_sortGroups s m args below meth c (MQ below (cQv D w0 sz (W_X6_sortGroups k h_t h_t_ends h_t_worths h_t_order h_t_notes h_t_lookedAt s_whole s_pieceCount s_lookedBack res.1 s_worths res.2)) args s 0 0 A) D A 4 0 0 88 [(0, .ref h_t), (1, .int v1)] [] (W_X6_sortGroups k h_t h_t_ends h_t_worths h_t_order h_t_notes h_t_lookedAt s_whole s_pieceCount s_lookedBack s_ends s_worths s_order) := by
  unfold B_X6_sortGroups_88 at h
  refine g_iload_n 88 C 1 dX6_sortGroups_88 rfl rfl ?_
  refine g_iconst 89 C (1 : Int32) dX6_sortGroups_89 (by decide) ?_
  refine g_isub 90 C dX6_sortGroups_90 ?_
  refine g_istore_n 91 C [(2, .int (v1 - (1 : Int32))), (0, .ref h_t), (1, .int v1)] dX6_sortGroups_91 rfl (by decide) rfl ?_
  refine GG.sub (lv' := [(0, .ref h_t), (2, .int (v1 - (1 : Int32)))]) [1, 0] rfl ?_
  exact ok_L_X6_sortGroups_92 C hA (fun t h => by
    refine GG.sub (lv' := []) [] rfl ?_
    exact ok_B_X6_sortGroups_126 C hA h) FUEL ((v1 - (1 : Int32)), s_ends, s_order) h
set_option maxHeartbeats 4000000 in
set_option maxRecDepth 100000 in
theorem ok_B_X6_sortGroups_53 {h_t : Nat} {h_t_ends : Nat} {h_t_worths : Nat} {h_t_order : Nat} {h_t_notes : Nat} {h_t_lookedAt : Nat} {s_whole : Int32} {s_pieceCount : Int32} {s_lookedBack : Int32} {s_ends : Nat → Int32} {s_worths : Nat → Int32} {s_order : Nat → Int32} {v1 : Int32} {res : (Nat → Int32) × (Nat → Int32)} (C : CX p s m args meth c cX6_sortGroups wsX6_sortGroups RX6 4 D k A none) (hA : A = va_A w0 sz)  (h : B_X6_sortGroups_53 s_whole s_ends s_worths s_order v1 = some res) : GG p l e rm_X6_sortGroups s m args below meth c (MQ below (cQv D w0 sz (W_X6_sortGroups k h_t h_t_ends h_t_worths h_t_order h_t_notes h_t_lookedAt s_whole s_pieceCount s_lookedBack res.1 s_worths res.2)) args s 0 0 A) D A 4 0 0 53 [(0, .ref h_t), (1, .int v1)] [] (W_X6_sortGroups k h_t h_t_ends h_t_worths h_t_order h_t_notes h_t_lookedAt s_whole s_pieceCount s_lookedBack s_ends s_worths s_order) := by
  unfold B_X6_sortGroups_53 at h
  refine g_iconst 53 C (1 : Int32) dX6_sortGroups_53 (by decide) ?_
  refine g_istore_n 54 C [(2, .int (1 : Int32)), (0, .ref h_t), (1, .int v1)] dX6_sortGroups_54 rfl (by decide) rfl ?_
  refine GG.sub (lv' := [(0, .ref h_t), (1, .int v1), (2, .int (1 : Int32))]) [1, 2, 0] rfl ?_
  exact ok_L_X6_sortGroups_55 C hA (fun t h => by
    refine GG.sub (lv' := [(0, .ref h_t), (1, .int v1)]) [0, 1] rfl ?_
    exact ok_B_X6_sortGroups_88 C hA h) FUEL ((1 : Int32), s_ends) h
set_option maxHeartbeats 4000000 in
set_option maxRecDepth 100000 in
theorem ok_B_X6_sortGroups_25 {h_t : Nat} {h_t_ends : Nat} {h_t_worths : Nat} {h_t_order : Nat} {h_t_notes : Nat} {h_t_lookedAt : Nat} {s_whole : Int32} {s_pieceCount : Int32} {s_lookedBack : Int32} {s_ends : Nat → Int32} {s_worths : Nat → Int32} {s_order : Nat → Int32} {v1 : Int32} {res : (Nat → Int32) × (Nat → Int32)} (C : CX p s m args meth c cX6_sortGroups wsX6_sortGroups RX6 4 D k A none) (hA : A = va_A w0 sz)  (h : B_X6_sortGroups_25 s_whole s_ends s_worths s_order v1 = some res) : GG p l e rm_X6_sortGroups s m args below meth c (MQ below (cQv D w0 sz (W_X6_sortGroups k h_t h_t_ends h_t_worths h_t_order h_t_notes h_t_lookedAt s_whole s_pieceCount s_lookedBack res.1 s_worths res.2)) args s 0 0 A) D A 4 0 0 25 [(0, .ref h_t), (1, .int v1)] [] (W_X6_sortGroups k h_t h_t_ends h_t_worths h_t_order h_t_notes h_t_lookedAt s_whole s_pieceCount s_lookedBack s_ends s_worths s_order) := by
  unfold B_X6_sortGroups_25 at h
  refine g_iconst 25 C (0 : Int32) dX6_sortGroups_25 (by decide) ?_
  refine g_istore_n 26 C [(2, .int (0 : Int32)), (0, .ref h_t), (1, .int v1)] dX6_sortGroups_26 rfl (by decide) rfl ?_
  refine GG.sub (lv' := [(0, .ref h_t), (1, .int v1), (2, .int (0 : Int32))]) [1, 2, 0] rfl ?_
  exact ok_L_X6_sortGroups_27 C hA (fun t h => by
    refine GG.sub (lv' := [(0, .ref h_t), (1, .int v1)]) [0, 1] rfl ?_
    exact ok_B_X6_sortGroups_53 C hA h) FUEL ((0 : Int32), s_ends) h
set_option maxHeartbeats 4000000 in
set_option maxRecDepth 100000 in
theorem k_X6_sortGroups {l : Launch} {D : va_G} {k : Nat → ClassId} (h_t : Nat) (h_t_ends : Nat) (h_t_worths : Nat) (h_t_order : Nat) (h_t_notes : Nat) (h_t_lookedAt : Nat) (s_whole : Int32) (s_pieceCount : Int32) (s_lookedBack : Int32) (s_ends : Nat → Int32) (s_worths : Nat → Int32) (s_order : Nat → Int32) (v1 : Int32) (res : (Nat → Int32) × (Nat → Int32)) (h : f_X6_sortGroups s_whole s_ends s_worths s_order v1 = some res) (sz : Nat) : Met l yX6_sortGroups wsX6_sortGroups rm_X6_sortGroups (cPre D k [.ref h_t, .int v1] (W_X6_sortGroups k h_t h_t_ends h_t_worths h_t_order h_t_notes h_t_lookedAt s_whole s_pieceCount s_lookedBack s_ends s_worths s_order) sz) (cQv D (W_X6_sortGroups k h_t h_t_ends h_t_worths h_t_order h_t_notes h_t_lookedAt s_whole s_pieceCount s_lookedBack s_ends s_worths s_order) sz (W_X6_sortGroups k h_t h_t_ends h_t_worths h_t_order h_t_notes h_t_lookedAt s_whole s_pieceCount s_lookedBack res.1 s_worths res.2)) 0 0 (va_A (W_X6_sortGroups k h_t h_t_ends h_t_worths h_t_order h_t_notes h_t_lookedAt s_whole s_pieceCount s_lookedBack s_ends s_worths s_order) sz) := by
  refine met_of [(0, .ref h_t), (1, .int v1)] (by decide) rfl rfl (Nat.le_of_ble_eq_true rfl) rfl ?_
  intro p e s m args below meth c A hA hsz C
  unfold f_X6_sortGroups at h
  refine g_iconst 0 C (0 : Int32) dX6_sortGroups_0 (by decide) ?_
  refine g_istore_n 1 C [(2, .int (0 : Int32)), (0, .ref h_t), (1, .int v1)] dX6_sortGroups_1 rfl (by decide) rfl ?_
  refine GG.sub (lv' := [(0, .ref h_t), (1, .int v1), (2, .int (0 : Int32))]) [1, 2, 0] rfl ?_
  exact ok_L_X6_sortGroups_2 C hA (fun t h => by
    refine GG.sub (lv' := [(0, .ref h_t), (1, .int v1)]) [0, 1] rfl ?_
    exact ok_B_X6_sortGroups_25 C hA h) FUEL ((0 : Int32), s_ends) h
end

/-! X6_load -/
abbrev W_X6_load (k : Nat → ClassId) (h_t : Nat) (h_t_worths : Nat) (h_t_ends : Nat) (h_t_order : Nat) (h_a0 : Nat) (h_a0_value : Nat) (h_t_notes : Nat) (h_t_lookedAt : Nat) (h_a0_first : Nat) (h_a0_size : Nat) (s_whole : Int32) (s_pieceCount : Int32) (s_lookedBack : Int32) (s_worths : Nat → Int32) (s_ends : Nat → Int32) (s_order : Nat → Int32) (s_a0_count : Int32) (s_a0_value : Nat → Int32) : va_W := [(h_t, .inr (6, [.ref h_t_worths, .ref h_t_order, .ref h_t_ends, .ref h_t_notes, .int s_whole, .int s_pieceCount, .int s_lookedBack, .ref h_t_lookedAt])), (h_t_worths, .inl (k 0, 2048, .inl s_worths)), (h_t_ends, .inl (k 0, 218, .inl s_ends)), (h_t_order, .inl (k 0, 2048, .inl s_order)), (h_a0, .inr (5, [.ref h_a0_first, .ref h_a0_size, .ref h_a0_value, .int s_a0_count])), (h_a0_value, .inl (k 0, 11, .inl s_a0_value))]
def rm_X6_load : Room := { frames := 1, cells := 0, slots := 0, locals := 23 }
theorem in_X6_load_X5 : ∀ w ∈ u_ws RX5 TX5 4, w ∈ wsX6_load := by decide +kernel
theorem in_X6_load_X6 : ∀ w ∈ u_ws RX6 TX6 8, w ∈ wsX6_load := by decide +kernel
theorem fl_X6_load_27 : Cond.fieldLink RX6 27 "LinkDays$Pieces" "count" "I" ∈ wsX6_load := by decide +kernel
theorem fl_X6_load_33 : Cond.fieldLink RX6 33 "LinkDays$Sets" "pieceCount" "I" ∈ wsX6_load := by decide +kernel
theorem fl_X6_load_36 : Cond.fieldLink RX6 36 "LinkDays$Sets" "lookedBack" "I" ∈ wsX6_load := by decide +kernel
theorem fl_X6_load_39 : Cond.fieldLink RX6 39 "LinkDays$Pieces" "value" "[I" ∈ wsX6_load := by decide +kernel
theorem fl_X6_load_42 : Cond.fieldLink RX6 42 "LinkDays$Sets" "whole" "I" ∈ wsX6_load := by decide +kernel
theorem fl_X6_load_9 : Cond.fieldLink RX6 9 "LinkDays$Sets" "worths" "[I" ∈ wsX6_load := by decide +kernel
theorem pd_X6_load : yX6_load.cls = RX6 ∧ yX6_load.cls ≠ "java/lang/invoke/MethodHandle" ∧ yX6_load.cls ≠ "java/lang/invoke/VarHandle" ∧ (parseMethodDescriptor yX6_load.desc).map (fun d => d.parameters.length) = some 1 := by decide +kernel
section
variable {p : Program} {l : Launch} {e : Env} {s : State} {m : MethodId} {args : Array Value} {below : List Frame} {meth : Method} {c : Code} {D : va_G} {k : Nat → ClassId} {A : Nat → Prop} {w0 : va_W} {sz : Nat}
set_option maxHeartbeats 4000000 in
set_option maxRecDepth 100000 in
theorem ok_L_X6_load_37 {h_t : Nat} {h_t_worths : Nat} {h_t_ends : Nat} {h_t_order : Nat} {h_a0 : Nat} {h_a0_value : Nat} {h_t_notes : Nat} {h_t_lookedAt : Nat} {h_a0_first : Nat} {h_a0_size : Nat} {s_whole : Int32} {s_pieceCount : Int32} {s_lookedBack : Int32} {s_ends : Nat → Int32} {s_order : Nat → Int32} {s_a0_count : Int32} {s_a0_value : Nat → Int32} {v2 : Int32} {v3 : Int32} {res : Int32 × Int32 × Int32 × (Nat → Int32) × (Nat → Int32) × (Nat → Int32)} (C : CX p s m args meth c cX6_load wsX6_load RX6 5 D k A none) (hA : A = va_A w0 sz) {kx : Int32 × (Nat → Int32) → Option (Int32 × Int32 × Int32 × (Nat → Int32) × (Nat → Int32) × (Nat → Int32))} (hx : ∀ t : Int32 × (Nat → Int32), kx t = some res → GG p l e rm_X6_load s m args below meth c (MQ below (cQv D w0 sz (W_X6_load k h_t h_t_worths h_t_ends h_t_order h_a0 h_a0_value h_t_notes h_t_lookedAt h_a0_first h_a0_size res.1 res.2.1 res.2.2.1 res.2.2.2.1 res.2.2.2.2.1 res.2.2.2.2.2 s_a0_count s_a0_value)) args s 0 0 A) D A 5 0 0 72 [(0, .ref h_t), (1, .ref h_a0), (2, .int v2)] [] (W_X6_load k h_t h_t_worths h_t_ends h_t_order h_a0 h_a0_value h_t_notes h_t_lookedAt h_a0_first h_a0_size s_whole s_pieceCount s_lookedBack t.2 s_ends s_order s_a0_count s_a0_value)) : ∀ (n : Nat) (t : Int32 × (Nat → Int32)), L_X6_load_37 s_a0_value v2 v3 kx n t = some res → GG p l e rm_X6_load s m args below meth c (MQ below (cQv D w0 sz (W_X6_load k h_t h_t_worths h_t_ends h_t_order h_a0 h_a0_value h_t_notes h_t_lookedAt h_a0_first h_a0_size res.1 res.2.1 res.2.2.1 res.2.2.2.1 res.2.2.2.2.1 res.2.2.2.2.2 s_a0_count s_a0_value)) args s 0 0 A) D A 5 0 0 37 [(0, .ref h_t), (1, .ref h_a0), (2, .int v2), (3, .int v3), (4, .int t.1)] [] (W_X6_load k h_t h_t_worths h_t_ends h_t_order h_a0 h_a0_value h_t_notes h_t_lookedAt h_a0_first h_a0_size s_whole s_pieceCount s_lookedBack t.2 s_ends s_order s_a0_count s_a0_value) := by
  intro n
  induction n with
  | zero => intro t h; cases h
  | succ n ih =>
    intro t h
    obtain ⟨v4, s_worths⟩ := t
    replace h : LB_X6_load_37 s_a0_value v2 v3 kx (L_X6_load_37 s_a0_value v2 v3 kx n) v4 s_worths = some res := h
    have hr := ih
    unfold LB_X6_load_37 at h
    refine g_iload 37 C 4 dX6_load_37 rfl ?_
    refine g_iload_n 39 C 3 dX6_load_39 rfl rfl ?_
    refine g_icmp_ge 40 72 C dX6_load_40 (by decide) (fun c => ?_) (fun c => ?_)
    · replace h := it_e c h
      refine GG.sub (lv' := [(0, .ref h_t), (1, .ref h_a0), (2, .int v2)]) [0, 1, 2] rfl ?_
      exact hx (v4, s_worths) h
    · replace h := if_e c h
      refine g_aload_n 43 C 0 dX6_load_43 rfl rfl ?_
      refine g_get 44 C in_X6_load_X6 0 0 rfl rfl (by decide) fl_X6_load_9 rfl rfl dX6_load_44 ?_
      refine g_iload_n 47 C 3 dX6_load_47 rfl rfl ?_
      refine g_iload 48 C 4 dX6_load_48 rfl ?_
      refine g_iadd 50 C dX6_load_50 ?_
      refine g_aload_n 51 C 0 dX6_load_51 rfl rfl ?_
      refine g_get 52 C in_X6_load_X6 0 0 rfl rfl (by decide) fl_X6_load_9 rfl rfl dX6_load_52 ?_
      refine g_iload 55 C 4 dX6_load_55 rfl ?_
      obtain ⟨o2, h⟩ := ob_e h
      refine g_iald 57 C 1 rfl o2 dX6_load_57 ?_
      refine g_aload_n 58 C 1 dX6_load_58 rfl rfl ?_
      refine g_get 59 C in_X6_load_X5 4 2 rfl rfl (by decide) fl_X6_load_39 rfl rfl dX6_load_59 ?_
      refine g_iload_n 62 C 2 dX6_load_62 rfl rfl ?_
      obtain ⟨o3, h⟩ := ob_e h
      refine g_iald 63 C 5 rfl o3 dX6_load_63 ?_
      refine g_iadd 64 C dX6_load_64 ?_
      obtain ⟨o4, h⟩ := ob_e h
      refine g_iast 65 C (W_X6_load k h_t h_t_worths h_t_ends h_t_order h_a0 h_a0_value h_t_notes h_t_lookedAt h_a0_first h_a0_size s_whole s_pieceCount s_lookedBack (upd s_worths (v3 + v4).toNatClampNeg ((s_worths v4.toNatClampNeg) + (s_a0_value v2.toNatClampNeg))) s_ends s_order s_a0_count s_a0_value) 1 rfl o4 rfl dX6_load_65 ?_
      refine g_iinc 66 C 4 (1 : Int32) [(4, .int (v4 + (1 : Int32))), (0, .ref h_t), (1, .ref h_a0), (2, .int v2), (3, .int v3)] dX6_load_66 rfl (by decide) (by decide) rfl ?_
      refine g_goto 69 37 C dX6_load_69 (by decide) ?_
      refine GG.sub (lv' := [(0, .ref h_t), (1, .ref h_a0), (2, .int v2), (3, .int v3), (4, .int (v4 + (1 : Int32)))]) [1, 2, 3, 4, 0] rfl ?_
      exact hr ((v4 + (1 : Int32)), (upd s_worths (v3 + v4).toNatClampNeg ((s_worths v4.toNatClampNeg) + (s_a0_value v2.toNatClampNeg)))) h
set_option maxHeartbeats 4000000 in
set_option maxRecDepth 100000 in
theorem ok_B_X6_load_72 {h_t : Nat} {h_t_worths : Nat} {h_t_ends : Nat} {h_t_order : Nat} {h_a0 : Nat} {h_a0_value : Nat} {h_t_notes : Nat} {h_t_lookedAt : Nat} {h_a0_first : Nat} {h_a0_size : Nat} {s_whole : Int32} {s_pieceCount : Int32} {s_lookedBack : Int32} {s_worths : Nat → Int32} {s_ends : Nat → Int32} {s_order : Nat → Int32} {s_a0_count : Int32} {s_a0_value : Nat → Int32} {v2 : Int32} {res : Int32 × Int32 × Int32 × (Nat → Int32) × (Nat → Int32) × (Nat → Int32)} {kx rec : Int32 × (Nat → Int32) → Option (Int32 × Int32 × Int32 × (Nat → Int32) × (Nat → Int32) × (Nat → Int32))} (C : CX p s m args meth c cX6_load wsX6_load RX6 5 D k A none) (hA : A = va_A w0 sz) (hx : ∀ t : Int32 × (Nat → Int32), kx t = some res → GG p l e rm_X6_load s m args below meth c (MQ below (cQv D w0 sz (W_X6_load k h_t h_t_worths h_t_ends h_t_order h_a0 h_a0_value h_t_notes h_t_lookedAt h_a0_first h_a0_size res.1 res.2.1 res.2.2.1 res.2.2.2.1 res.2.2.2.2.1 res.2.2.2.2.2 s_a0_count s_a0_value)) args s 0 0 A) D A 5 0 0 78 [(0, .ref h_t), (1, .ref h_a0)] [] (W_X6_load k h_t h_t_worths h_t_ends h_t_order h_a0 h_a0_value h_t_notes h_t_lookedAt h_a0_first h_a0_size s_whole s_pieceCount s_lookedBack t.2 s_ends s_order s_a0_count s_a0_value)) (hr : ∀ t : Int32 × (Nat → Int32), rec t = some res → GG p l e rm_X6_load s m args below meth c (MQ below (cQv D w0 sz (W_X6_load k h_t h_t_worths h_t_ends h_t_order h_a0 h_a0_value h_t_notes h_t_lookedAt h_a0_first h_a0_size res.1 res.2.1 res.2.2.1 res.2.2.2.1 res.2.2.2.2.1 res.2.2.2.2.2 s_a0_count s_a0_value)) args s 0 0 A) D A 5 0 0 22 [(0, .ref h_t), (1, .ref h_a0), (2, .int t.1)] [] (W_X6_load k h_t h_t_worths h_t_ends h_t_order h_a0 h_a0_value h_t_notes h_t_lookedAt h_a0_first h_a0_size s_whole s_pieceCount s_lookedBack t.2 s_ends s_order s_a0_count s_a0_value))  (h : B_X6_load_72 kx rec s_worths v2 = some res) : GG p l e rm_X6_load s m args below meth c (MQ below (cQv D w0 sz (W_X6_load k h_t h_t_worths h_t_ends h_t_order h_a0 h_a0_value h_t_notes h_t_lookedAt h_a0_first h_a0_size res.1 res.2.1 res.2.2.1 res.2.2.2.1 res.2.2.2.2.1 res.2.2.2.2.2 s_a0_count s_a0_value)) args s 0 0 A) D A 5 0 0 72 [(0, .ref h_t), (1, .ref h_a0), (2, .int v2)] [] (W_X6_load k h_t h_t_worths h_t_ends h_t_order h_a0 h_a0_value h_t_notes h_t_lookedAt h_a0_first h_a0_size s_whole s_pieceCount s_lookedBack s_worths s_ends s_order s_a0_count s_a0_value) := by
  unfold B_X6_load_72 at h
  refine g_iinc 72 C 2 (1 : Int32) [(2, .int (v2 + (1 : Int32))), (0, .ref h_t), (1, .ref h_a0)] dX6_load_72 rfl (by decide) (by decide) rfl ?_
  refine g_goto 75 22 C dX6_load_75 (by decide) ?_
  refine GG.sub (lv' := [(0, .ref h_t), (1, .ref h_a0), (2, .int (v2 + (1 : Int32)))]) [1, 2, 0] rfl ?_
  exact hr ((v2 + (1 : Int32)), s_worths) h
set_option maxHeartbeats 4000000 in
set_option maxRecDepth 100000 in
theorem ok_L_X6_load_22 {h_t : Nat} {h_t_worths : Nat} {h_t_ends : Nat} {h_t_order : Nat} {h_a0 : Nat} {h_a0_value : Nat} {h_t_notes : Nat} {h_t_lookedAt : Nat} {h_a0_first : Nat} {h_a0_size : Nat} {s_whole : Int32} {s_pieceCount : Int32} {s_lookedBack : Int32} {s_ends : Nat → Int32} {s_order : Nat → Int32} {s_a0_count : Int32} {s_a0_value : Nat → Int32} {res : Int32 × Int32 × Int32 × (Nat → Int32) × (Nat → Int32) × (Nat → Int32)} (C : CX p s m args meth c cX6_load wsX6_load RX6 5 D k A none) (hA : A = va_A w0 sz) {kx : Int32 × (Nat → Int32) → Option (Int32 × Int32 × Int32 × (Nat → Int32) × (Nat → Int32) × (Nat → Int32))} (hx : ∀ t : Int32 × (Nat → Int32), kx t = some res → GG p l e rm_X6_load s m args below meth c (MQ below (cQv D w0 sz (W_X6_load k h_t h_t_worths h_t_ends h_t_order h_a0 h_a0_value h_t_notes h_t_lookedAt h_a0_first h_a0_size res.1 res.2.1 res.2.2.1 res.2.2.2.1 res.2.2.2.2.1 res.2.2.2.2.2 s_a0_count s_a0_value)) args s 0 0 A) D A 5 0 0 78 [(0, .ref h_t), (1, .ref h_a0)] [] (W_X6_load k h_t h_t_worths h_t_ends h_t_order h_a0 h_a0_value h_t_notes h_t_lookedAt h_a0_first h_a0_size s_whole s_pieceCount s_lookedBack t.2 s_ends s_order s_a0_count s_a0_value)) : ∀ (n : Nat) (t : Int32 × (Nat → Int32)), L_X6_load_22 s_a0_count s_a0_value kx n t = some res → GG p l e rm_X6_load s m args below meth c (MQ below (cQv D w0 sz (W_X6_load k h_t h_t_worths h_t_ends h_t_order h_a0 h_a0_value h_t_notes h_t_lookedAt h_a0_first h_a0_size res.1 res.2.1 res.2.2.1 res.2.2.2.1 res.2.2.2.2.1 res.2.2.2.2.2 s_a0_count s_a0_value)) args s 0 0 A) D A 5 0 0 22 [(0, .ref h_t), (1, .ref h_a0), (2, .int t.1)] [] (W_X6_load k h_t h_t_worths h_t_ends h_t_order h_a0 h_a0_value h_t_notes h_t_lookedAt h_a0_first h_a0_size s_whole s_pieceCount s_lookedBack t.2 s_ends s_order s_a0_count s_a0_value) := by
  intro n
  induction n with
  | zero => intro t h; cases h
  | succ n ih =>
    intro t h
    obtain ⟨v2, s_worths⟩ := t
    replace h : LB_X6_load_22 s_a0_count s_a0_value kx (L_X6_load_22 s_a0_count s_a0_value kx n) v2 s_worths = some res := h
    have hr := ih
    unfold LB_X6_load_22 at h
    refine g_iload_n 22 C 2 dX6_load_22 rfl rfl ?_
    refine g_aload_n 23 C 1 dX6_load_23 rfl rfl ?_
    refine g_get 24 C in_X6_load_X5 4 3 rfl rfl (by decide) fl_X6_load_27 rfl rfl dX6_load_24 ?_
    refine g_icmp_ge 27 78 C dX6_load_27 (by decide) (fun c => ?_) (fun c => ?_)
    · replace h := it_e c h
      refine GG.sub (lv' := [(0, .ref h_t), (1, .ref h_a0)]) [0, 1] rfl ?_
      exact hx (v2, s_worths) h
    · replace h := if_e c h
      refine g_iconst 30 C (1 : Int32) dX6_load_30 (by decide) ?_
      refine g_iload_n 31 C 2 dX6_load_31 rfl rfl ?_
      refine g_ishl 32 C dX6_load_32 ?_
      refine g_istore_n 33 C [(3, .int ((1 : Int32) <<< (v2 &&& 31))), (0, .ref h_t), (1, .ref h_a0), (2, .int v2)] dX6_load_33 rfl (by decide) rfl ?_
      refine g_iconst 34 C (0 : Int32) dX6_load_34 (by decide) ?_
      refine g_istore 35 C [(4, .int (0 : Int32)), (3, .int ((1 : Int32) <<< (v2 &&& 31))), (0, .ref h_t), (1, .ref h_a0), (2, .int v2)] dX6_load_35 (by decide) rfl ?_
      refine GG.sub (lv' := [(0, .ref h_t), (1, .ref h_a0), (2, .int v2), (3, .int ((1 : Int32) <<< (v2 &&& 31))), (4, .int (0 : Int32))]) [2, 3, 4, 1, 0] rfl ?_
      exact ok_L_X6_load_37 C hA (fun t h => by
        refine GG.sub (lv' := [(0, .ref h_t), (1, .ref h_a0), (2, .int v2)]) [0, 1, 2] rfl ?_
        exact ok_B_X6_load_72 C hA hx hr h) FUEL ((0 : Int32), s_worths) h
set_option maxHeartbeats 4000000 in
set_option maxRecDepth 100000 in
theorem ok_B_X6_load_78 {h_t : Nat} {h_t_worths : Nat} {h_t_ends : Nat} {h_t_order : Nat} {h_a0 : Nat} {h_a0_value : Nat} {h_t_notes : Nat} {h_t_lookedAt : Nat} {h_a0_first : Nat} {h_a0_size : Nat} {s_whole : Int32} {s_pieceCount : Int32} {s_lookedBack : Int32} {s_worths : Nat → Int32} {s_ends : Nat → Int32} {s_order : Nat → Int32} {s_a0_count : Int32} {s_a0_value : Nat → Int32} {res : Int32 × Int32 × Int32 × (Nat → Int32) × (Nat → Int32) × (Nat → Int32)} (C : CX p s m args meth c cX6_load wsX6_load RX6 5 D k A none) (hA : A = va_A w0 sz)  (h : B_X6_load_78 s_pieceCount s_lookedBack s_worths s_ends s_order s_a0_count = some res) : GG p l e rm_X6_load s m args below meth c (MQ below (cQv D w0 sz (W_X6_load k h_t h_t_worths h_t_ends h_t_order h_a0 h_a0_value h_t_notes h_t_lookedAt h_a0_first h_a0_size res.1 res.2.1 res.2.2.1 res.2.2.2.1 res.2.2.2.2.1 res.2.2.2.2.2 s_a0_count s_a0_value)) args s 0 0 A) D A 5 0 0 78 [(0, .ref h_t), (1, .ref h_a0)] [] (W_X6_load k h_t h_t_worths h_t_ends h_t_order h_a0 h_a0_value h_t_notes h_t_lookedAt h_a0_first h_a0_size s_whole s_pieceCount s_lookedBack s_worths s_ends s_order s_a0_count s_a0_value) := by
  unfold B_X6_load_78 at h
  refine g_iconst 78 C (1 : Int32) dX6_load_78 (by decide) ?_
  refine g_aload_n 79 C 1 dX6_load_79 rfl rfl ?_
  refine g_get 80 C in_X6_load_X5 4 3 rfl rfl (by decide) fl_X6_load_27 rfl rfl dX6_load_80 ?_
  refine g_ishl 83 C dX6_load_83 ?_
  refine g_istore_n 84 C [(2, .int ((1 : Int32) <<< (s_a0_count &&& 31))), (0, .ref h_t), (1, .ref h_a0)] dX6_load_84 rfl (by decide) rfl ?_
  refine g_aload_n 85 C 1 dX6_load_85 rfl rfl ?_
  refine g_aload_n 86 C 1 dX6_load_86 rfl rfl ?_
  refine g_get 87 C in_X6_load_X6 0 0 rfl rfl (by decide) fl_X6_load_9 rfl rfl dX6_load_87 ?_
  refine g_iload_n 90 C 0 dX6_load_90 rfl rfl ?_
  refine g_iconst 91 C (1 : Int32) dX6_load_91 (by decide) ?_
  refine g_isub 92 C dX6_load_92 ?_
  obtain ⟨o5, h⟩ := ob_e h
  refine g_iald 93 C 1 rfl o5 dX6_load_93 ?_
  refine g_put 94 C (W_X6_load k h_t h_t_worths h_t_ends h_t_order h_a0 h_a0_value h_t_notes h_t_lookedAt h_a0_first h_a0_size (s_worths (((1 : Int32) <<< (s_a0_count &&& 31)) - (1 : Int32)).toNatClampNeg) s_pieceCount s_lookedBack s_worths s_ends s_order s_a0_count s_a0_value) in_X6_load_X6 tyX6 tyX6_ok nmX6 0 4 rfl rfl (by decide) fl_X6_load_42 rfl rfl (tyX6_ok 4 (by decide)) rfl rfl (Nat.le_of_ble_eq_true rfl) rfl dX6_load_94 ?_
  refine g_aload_n 97 C 1 dX6_load_97 rfl rfl ?_
  refine g_iload_n 98 C 0 dX6_load_98 rfl rfl ?_
  obtain ⟨q6, e7, h⟩ := bi_e h
  refine g_callVv 99 C (As := [.int ((1 : Int32) <<< (s_a0_count &&& 31))]) [0, 2, 1, 3] [4, 5] [2, 4, 3, 5, 0, 1] (W_X6_load k h_t h_t_worths h_t_ends h_t_order h_a0 h_a0_value h_t_notes h_t_lookedAt h_a0_first h_a0_size (s_worths (((1 : Int32) <<< (s_a0_count &&& 31)) - (1 : Int32)).toNatClampNeg) s_pieceCount s_lookedBack s_worths q6.1 q6.2 s_a0_count s_a0_value) 0 (fun sz => k_X6_sortGroups h_t h_t_ends h_t_worths h_t_order h_t_notes h_t_lookedAt (s_worths (((1 : Int32) <<< (s_a0_count &&& 31)) - (1 : Int32)).toNatClampNeg) s_pieceCount s_lookedBack s_ends s_worths s_order ((1 : Int32) <<< (s_a0_count &&& 31)) q6 e7 sz) gX6_load_X6_sortGroups rfl pd_X6_sortGroups rfl rfl rfl ⟨rfl, rfl, Nat.le_of_ble_eq_true rfl, Nat.le_of_ble_eq_true rfl⟩ (Nat.le_of_ble_eq_true rfl) ⟨Nat.zero_le _, Nat.zero_le _⟩ ⟨rfl, rfl, rfl, rfl, rfl, by decide, rfl⟩ rfl dX6_load_99 ?_
  obtain rfl := Option.some.inj h
  exact g_vret 102 C hA dX6_load_102 rfl
set_option maxHeartbeats 4000000 in
set_option maxRecDepth 100000 in
theorem k_X6_load {l : Launch} {D : va_G} {k : Nat → ClassId} (h_t : Nat) (h_t_worths : Nat) (h_t_ends : Nat) (h_t_order : Nat) (h_a0 : Nat) (h_a0_value : Nat) (h_t_notes : Nat) (h_t_lookedAt : Nat) (h_a0_first : Nat) (h_a0_size : Nat) (s_whole : Int32) (s_pieceCount : Int32) (s_lookedBack : Int32) (s_worths : Nat → Int32) (s_ends : Nat → Int32) (s_order : Nat → Int32) (s_a0_count : Int32) (s_a0_value : Nat → Int32) (res : Int32 × Int32 × Int32 × (Nat → Int32) × (Nat → Int32) × (Nat → Int32)) (h : f_X6_load s_worths s_ends s_order s_a0_count s_a0_value = some res) (sz : Nat) : Met l yX6_load wsX6_load rm_X6_load (cPre D k [.ref h_t, .ref h_a0] (W_X6_load k h_t h_t_worths h_t_ends h_t_order h_a0 h_a0_value h_t_notes h_t_lookedAt h_a0_first h_a0_size s_whole s_pieceCount s_lookedBack s_worths s_ends s_order s_a0_count s_a0_value) sz) (cQv D (W_X6_load k h_t h_t_worths h_t_ends h_t_order h_a0 h_a0_value h_t_notes h_t_lookedAt h_a0_first h_a0_size s_whole s_pieceCount s_lookedBack s_worths s_ends s_order s_a0_count s_a0_value) sz (W_X6_load k h_t h_t_worths h_t_ends h_t_order h_a0 h_a0_value h_t_notes h_t_lookedAt h_a0_first h_a0_size res.1 res.2.1 res.2.2.1 res.2.2.2.1 res.2.2.2.2.1 res.2.2.2.2.2 s_a0_count s_a0_value)) 0 0 (va_A (W_X6_load k h_t h_t_worths h_t_ends h_t_order h_a0 h_a0_value h_t_notes h_t_lookedAt h_a0_first h_a0_size s_whole s_pieceCount s_lookedBack s_worths s_ends s_order s_a0_count s_a0_value) sz) := by
  refine met_of [(0, .ref h_t), (1, .ref h_a0)] (by decide) rfl rfl (Nat.le_of_ble_eq_true rfl) rfl ?_
  intro p e s m args below meth c A hA hsz C
  unfold f_X6_load at h
  refine g_aload_n 0 C 0 dX6_load_0 rfl rfl ?_
  refine g_aload_n 1 C 1 dX6_load_1 rfl rfl ?_
  refine g_get 2 C in_X6_load_X5 4 3 rfl rfl (by decide) fl_X6_load_27 rfl rfl dX6_load_2 ?_
  refine g_put 5 C (W_X6_load k h_t h_t_worths h_t_ends h_t_order h_a0 h_a0_value h_t_notes h_t_lookedAt h_a0_first h_a0_size s_whole s_a0_count s_lookedBack s_worths s_ends s_order s_a0_count s_a0_value) in_X6_load_X6 tyX6 tyX6_ok nmX6 0 5 rfl rfl (by decide) fl_X6_load_33 rfl rfl (tyX6_ok 5 (by decide)) rfl rfl (Nat.le_of_ble_eq_true rfl) rfl dX6_load_5 ?_
  refine g_aload_n 8 C 0 dX6_load_8 rfl rfl ?_
  refine g_iconst 9 C (0 : Int32) dX6_load_9 (by decide) ?_
  refine g_put 10 C (W_X6_load k h_t h_t_worths h_t_ends h_t_order h_a0 h_a0_value h_t_notes h_t_lookedAt h_a0_first h_a0_size s_whole s_a0_count (0 : Int32) s_worths s_ends s_order s_a0_count s_a0_value) in_X6_load_X6 tyX6 tyX6_ok nmX6 0 6 rfl rfl (by decide) fl_X6_load_36 rfl rfl (tyX6_ok 6 (by decide)) rfl rfl (Nat.le_of_ble_eq_true rfl) rfl dX6_load_10 ?_
  refine g_aload_n 13 C 0 dX6_load_13 rfl rfl ?_
  refine g_get 14 C in_X6_load_X6 0 0 rfl rfl (by decide) fl_X6_load_9 rfl rfl dX6_load_14 ?_
  refine g_iconst 17 C (0 : Int32) dX6_load_17 (by decide) ?_
  refine g_iconst 18 C (0 : Int32) dX6_load_18 (by decide) ?_
  obtain ⟨o1, h⟩ := ob_e h
  refine g_iast 19 C (W_X6_load k h_t h_t_worths h_t_ends h_t_order h_a0 h_a0_value h_t_notes h_t_lookedAt h_a0_first h_a0_size s_whole s_a0_count (0 : Int32) (upd s_worths (0 : Int32).toNatClampNeg (0 : Int32)) s_ends s_order s_a0_count s_a0_value) 1 rfl o1 rfl dX6_load_19 ?_
  refine g_iconst 20 C (0 : Int32) dX6_load_20 (by decide) ?_
  refine g_istore_n 21 C [(2, .int (0 : Int32)), (0, .ref h_t), (1, .ref h_a0)] dX6_load_21 rfl (by decide) rfl ?_
  refine GG.sub (lv' := [(0, .ref h_t), (1, .ref h_a0), (2, .int (0 : Int32))]) [1, 2, 0] rfl ?_
  exact ok_L_X6_load_22 C hA (fun t h => by
    refine GG.sub (lv' := [(0, .ref h_t), (1, .ref h_a0)]) [0, 1] rfl ?_
    exact ok_B_X6_load_78 C hA h) FUEL ((0 : Int32), (upd s_worths (0 : Int32).toNatClampNeg (0 : Int32))) h
end
