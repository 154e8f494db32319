/-! X10_within -/
abbrev W_X10_within (k : Nat → ClassId) : va_W := []
def rm_X10_within : Room := { frames := 0, cells := 0, slots := 0, locals := 0 }
theorem pd_X10_within : yX10_within.cls ≠ "java/lang/invoke/MethodHandle" ∧ yX10_within.cls ≠ "java/lang/invoke/VarHandle" ∧ (parseMethodDescriptor yX10_within.desc).map (fun d => d.parameters.length) = some 3 := by decide +kernel
section
variable {p : Program} {l : Launch} {e : Env} {s : State} {m : MethodId} {args : Array Value} {below : List Frame} {meth : Method} {c : Code} {D : va_G} {k : Nat → ClassId} {A : Nat → Prop} {w0 : va_W} {sz : Nat}
set_option maxHeartbeats 4000000 in
set_option maxRecDepth 100000 in
theorem ok_B_X10_within_15 {x0 : Int32} {res : Int32} (C : CX p s m args meth c cX10_within wsX10_within RX10 3 D k A (some .boolean)) (hA : A = va_A w0 sz)  (h : B_X10_within_15 x0 = some res) : GG p l e rm_X10_within s m args below meth c (MQ below (cQi D w0 sz res (W_X10_within k)) args s 0 0 A) D A 3 0 0 15 [] [.int x0] (W_X10_within k) := by
  unfold B_X10_within_15 at h
  obtain ⟨o1, h⟩ := ob_e h
  obtain rfl := Option.some.inj h
  exact g_zret 15 C hA rfl (zb_n o1) dX10_within_15 rfl
set_option maxHeartbeats 4000000 in
set_option maxRecDepth 100000 in
theorem ok_B_X10_within_14 {res : Int32} (C : CX p s m args meth c cX10_within wsX10_within RX10 3 D k A (some .boolean)) (hA : A = va_A w0 sz)  (h : B_X10_within_14 = some res) : GG p l e rm_X10_within s m args below meth c (MQ below (cQi D w0 sz res (W_X10_within k)) args s 0 0 A) D A 3 0 0 14 [] [] (W_X10_within k) := by
  unfold B_X10_within_14 at h
  refine g_iconst 14 C (0 : Int32) dX10_within_14 (by decide) ?_
  refine GG.sub (lv' := []) [] rfl ?_
  exact ok_B_X10_within_15 C hA h
set_option maxHeartbeats 4000000 in
set_option maxRecDepth 100000 in
theorem k_X10_within {l : Launch} {D : va_G} {k : Nat → ClassId} (v0 : Int32) (v1 : Int32) (v2 : Int32) (res : Int32) (h : f_X10_within v0 v1 v2 = some res) (sz : Nat) : Met l yX10_within wsX10_within rm_X10_within (cPre D k [.int v0, .int v1, .int v2] (W_X10_within k) sz) (cQi D (W_X10_within k) sz res (W_X10_within k)) 0 0 (va_A (W_X10_within k) sz) := by
  refine met_of [(0, .int v0), (1, .int v1), (2, .int v2)] (by decide) rfl rfl (Nat.le_of_ble_eq_true rfl) rfl ?_
  intro p e s m args below meth c A hA hsz C
  unfold f_X10_within at h
  refine g_iload_n 0 C 0 dX10_within_0 rfl rfl ?_
  refine g_iload_n 1 C 1 dX10_within_1 rfl rfl ?_
  refine g_icmp_lt 2 14 C dX10_within_2 (by decide) (fun c => ?_) (fun c => ?_)
  · replace h := it_e c h
    refine GG.sub (lv' := []) [] rfl ?_
    exact ok_B_X10_within_14 C hA h
  · replace h := if_e c h
    refine g_iload_n 5 C 0 dX10_within_5 rfl rfl ?_
    refine g_iload_n 6 C 2 dX10_within_6 rfl rfl ?_
    refine g_icmp_gt 7 14 C dX10_within_7 (by decide) (fun c => ?_) (fun c => ?_)
    · replace h := it_e c h
      refine GG.sub (lv' := []) [] rfl ?_
      exact ok_B_X10_within_14 C hA h
    · replace h := if_e c h
      refine g_iconst 10 C (1 : Int32) dX10_within_10 (by decide) ?_
      refine g_goto 11 15 C dX10_within_11 (by decide) ?_
      refine GG.sub (lv' := []) [] rfl ?_
      exact ok_B_X10_within_15 C hA h
end

/-! X6_from -/
abbrev W_X6_from (k : Nat → ClassId) (h_t : Nat) (h_t_ends : Nat) (h_t_worths : Nat) (h_t_order : Nat) (h_t_notes : Nat) (h_t_lookedAt : Nat) (s_whole : Int32) (s_pieceCount : Int32) (s_lookedBack : Int32) (s_ends : Nat → Int32) : va_W := [(h_t, .inr (6, [.ref h_t_worths, .ref h_t_order, .ref h_t_ends, .ref h_t_notes, .int s_whole, .int s_pieceCount, .int s_lookedBack, .ref h_t_lookedAt])), (h_t_ends, .inl (k 0, 218, .inl s_ends))]
def rm_X6_from : Room := { frames := 1, cells := 0, slots := 0, locals := 22 }
theorem in_X6_from_X6 : ∀ w ∈ u_ws RX6 TX6 8, w ∈ wsX6_from := by decide +kernel
theorem fl_X6_from_18 : Cond.fieldLink RX6 18 "LinkDays$Sets" "ends" "[I" ∈ wsX6_from := by decide +kernel
theorem fl_X6_from_42 : Cond.fieldLink RX6 42 "LinkDays$Sets" "whole" "I" ∈ wsX6_from := by decide +kernel
theorem ini_X6_from_X10_within : Cond.initialized RX10 ∈ wsX6_from := by decide +kernel
theorem sta_X6_from_X10_within : Cond.static yX10_within ∈ wsX6_from := by decide +kernel
theorem pd_X6_from : yX6_from.cls = RX6 ∧ yX6_from.cls ≠ "java/lang/invoke/MethodHandle" ∧ yX6_from.cls ≠ "java/lang/invoke/VarHandle" ∧ (parseMethodDescriptor yX6_from.desc).map (fun d => d.parameters.length) = some 1 := by decide +kernel
section
variable {p : Program} {l : Launch} {e : Env} {s : State} {m : MethodId} {args : Array Value} {below : List Frame} {meth : Method} {c : Code} {D : va_G} {k : Nat → ClassId} {A : Nat → Prop} {w0 : va_W} {sz : Nat}
set_option maxHeartbeats 4000000 in
set_option maxRecDepth 100000 in
theorem ok_B_X6_from_22 {h_t : Nat} {h_t_ends : Nat} {h_t_worths : Nat} {h_t_order : Nat} {h_t_notes : Nat} {h_t_lookedAt : Nat} {s_whole : Int32} {s_pieceCount : Int32} {s_lookedBack : Int32} {s_ends : Nat → Int32} {x0 : Int32} {res : Int32} (C : CX p s m args meth c cX6_from wsX6_from RX6 2 D k A (some .int)) (hA : A = va_A w0 sz)  (h : B_X6_from_22 x0 = some res) : GG p l e rm_X6_from s m args below meth c (MQ below (cQi D w0 sz res (W_X6_from k h_t h_t_ends h_t_worths h_t_order h_t_notes h_t_lookedAt s_whole s_pieceCount s_lookedBack s_ends)) args s 0 0 A) D A 2 0 0 22 [] [.int x0] (W_X6_from k h_t h_t_ends h_t_worths h_t_order h_t_notes h_t_lookedAt s_whole s_pieceCount s_lookedBack s_ends) := by
  unfold B_X6_from_22 at h
  obtain rfl := Option.some.inj h
  exact g_iret 22 C hA rfl dX6_from_22 rfl
set_option maxHeartbeats 4000000 in
set_option maxRecDepth 100000 in
theorem k_X6_from {l : Launch} {D : va_G} {k : Nat → ClassId} (h_t : Nat) (h_t_ends : Nat) (h_t_worths : Nat) (h_t_order : Nat) (h_t_notes : Nat) (h_t_lookedAt : Nat) (s_whole : Int32) (s_pieceCount : Int32) (s_lookedBack : Int32) (s_ends : Nat → Int32) (v1 : Int32) (res : Int32) (h : f_X6_from s_whole s_ends v1 = some res) (sz : Nat) : Met l yX6_from wsX6_from rm_X6_from (cPre D k [.ref h_t, .int v1] (W_X6_from k h_t h_t_ends h_t_worths h_t_order h_t_notes h_t_lookedAt s_whole s_pieceCount s_lookedBack s_ends) sz) (cQi D (W_X6_from k h_t h_t_ends h_t_worths h_t_order h_t_notes h_t_lookedAt s_whole s_pieceCount s_lookedBack s_ends) sz res (W_X6_from k h_t h_t_ends h_t_worths h_t_order h_t_notes h_t_lookedAt s_whole s_pieceCount s_lookedBack s_ends)) 0 0 (va_A (W_X6_from k h_t h_t_ends h_t_worths h_t_order h_t_notes h_t_lookedAt s_whole s_pieceCount s_lookedBack s_ends) sz) := by
  refine met_of [(0, .ref h_t), (1, .int v1)] (by decide) rfl rfl (Nat.le_of_ble_eq_true rfl) rfl ?_
  intro p e s m args below meth c A hA hsz C
  unfold f_X6_from at h
  refine g_iload_n 0 C 1 dX6_from_0 rfl rfl ?_
  refine g_iconst 1 C (0 : Int32) dX6_from_1 (by decide) ?_
  refine g_aload_n 2 C 0 dX6_from_2 rfl rfl ?_
  refine g_get 3 C in_X6_from_X6 0 4 rfl rfl (by decide) fl_X6_from_42 rfl rfl dX6_from_3 ?_
  obtain ⟨q1, e2, h⟩ := bi_e h
  refine g_callNi 6 C (As := [.int v1, .int (0 : Int32), .int s_whole]) [] [0, 1] [0, 1] (W_X6_from k h_t h_t_ends h_t_worths h_t_order h_t_notes h_t_lookedAt s_whole s_pieceCount s_lookedBack s_ends) (fun sz => k_X10_within v1 (0 : Int32) s_whole q1 e2 sz) gX6_from_X10_within_n49 rfl C.2.2.2.2.2.2.2.2.2.1 ini_X6_from_X10_within sta_X6_from_X10_within pd_X10_within rfl ⟨rfl, rfl, Nat.le_of_ble_eq_true rfl, Nat.le_of_ble_eq_true rfl⟩ (Nat.le_of_ble_eq_true rfl) ⟨Nat.zero_le _, Nat.zero_le _⟩ ⟨rfl, rfl, rfl, rfl, rfl, by decide, rfl⟩ rfl dX6_from_6 ?_
  refine g_if_eq 9 21 C dX6_from_9 (by decide) (fun c => ?_) (fun c => ?_)
  · replace h := it_e c h
    refine g_iconst 21 C (0 : Int32) dX6_from_21 (by decide) ?_
    refine GG.sub (lv' := []) [] rfl ?_
    exact ok_B_X6_from_22 C hA h
  · replace h := if_e c h
    refine g_aload_n 12 C 0 dX6_from_12 rfl rfl ?_
    refine g_get 13 C in_X6_from_X6 0 2 rfl rfl (by decide) fl_X6_from_18 rfl rfl dX6_from_13 ?_
    refine g_iload_n 16 C 1 dX6_from_16 rfl rfl ?_
    obtain ⟨o3, h⟩ := ob_e h
    refine g_iald 17 C 1 rfl o3 dX6_from_17 ?_
    refine g_goto 18 22 C dX6_from_18 (by decide) ?_
    refine GG.sub (lv' := []) [] rfl ?_
    exact ok_B_X6_from_22 C hA h
end

/-! X6_to -/
abbrev W_X6_to (k : Nat → ClassId) (h_t : Nat) (h_t_ends : Nat) (h_t_worths : Nat) (h_t_order : Nat) (h_t_notes : Nat) (h_t_lookedAt : Nat) (s_whole : Int32) (s_pieceCount : Int32) (s_lookedBack : Int32) (s_ends : Nat → Int32) : va_W := [(h_t, .inr (6, [.ref h_t_worths, .ref h_t_order, .ref h_t_ends, .ref h_t_notes, .int s_whole, .int s_pieceCount, .int s_lookedBack, .ref h_t_lookedAt])), (h_t_ends, .inl (k 0, 218, .inl s_ends))]
def rm_X6_to : Room := { frames := 1, cells := 0, slots := 0, locals := 22 }
theorem in_X6_to_X6 : ∀ w ∈ u_ws RX6 TX6 8, w ∈ wsX6_to := by decide +kernel
theorem fl_X6_to_18 : Cond.fieldLink RX6 18 "LinkDays$Sets" "ends" "[I" ∈ wsX6_to := by decide +kernel
theorem fl_X6_to_42 : Cond.fieldLink RX6 42 "LinkDays$Sets" "whole" "I" ∈ wsX6_to := by decide +kernel
theorem ini_X6_to_X10_within : Cond.initialized RX10 ∈ wsX6_to := by decide +kernel
theorem sta_X6_to_X10_within : Cond.static yX10_within ∈ wsX6_to := by decide +kernel
theorem pd_X6_to : yX6_to.cls = RX6 ∧ yX6_to.cls ≠ "java/lang/invoke/MethodHandle" ∧ yX6_to.cls ≠ "java/lang/invoke/VarHandle" ∧ (parseMethodDescriptor yX6_to.desc).map (fun d => d.parameters.length) = some 1 := by decide +kernel
section
variable {p : Program} {l : Launch} {e : Env} {s : State} {m : MethodId} {args : Array Value} {below : List Frame} {meth : Method} {c : Code} {D : va_G} {k : Nat → ClassId} {A : Nat → Prop} {w0 : va_W} {sz : Nat}
set_option maxHeartbeats 4000000 in
set_option maxRecDepth 100000 in
theorem ok_B_X6_to_24 {h_t : Nat} {h_t_ends : Nat} {h_t_worths : Nat} {h_t_order : Nat} {h_t_notes : Nat} {h_t_lookedAt : Nat} {s_whole : Int32} {s_pieceCount : Int32} {s_lookedBack : Int32} {s_ends : Nat → Int32} {x0 : Int32} {res : Int32} (C : CX p s m args meth c cX6_to wsX6_to RX6 2 D k A (some .int)) (hA : A = va_A w0 sz)  (h : B_X6_to_24 x0 = some res) : GG p l e rm_X6_to s m args below meth c (MQ below (cQi D w0 sz res (W_X6_to k h_t h_t_ends h_t_worths h_t_order h_t_notes h_t_lookedAt s_whole s_pieceCount s_lookedBack s_ends)) args s 0 0 A) D A 2 0 0 24 [] [.int x0] (W_X6_to k h_t h_t_ends h_t_worths h_t_order h_t_notes h_t_lookedAt s_whole s_pieceCount s_lookedBack s_ends) := by
  unfold B_X6_to_24 at h
  obtain rfl := Option.some.inj h
  exact g_iret 24 C hA rfl dX6_to_24 rfl
set_option maxHeartbeats 4000000 in
set_option maxRecDepth 100000 in
theorem k_X6_to {l : Launch} {D : va_G} {k : Nat → ClassId} (h_t : Nat) (h_t_ends : Nat) (h_t_worths : Nat) (h_t_order : Nat) (h_t_notes : Nat) (h_t_lookedAt : Nat) (s_whole : Int32) (s_pieceCount : Int32) (s_lookedBack : Int32) (s_ends : Nat → Int32) (v1 : Int32) (res : Int32) (h : f_X6_to s_whole s_ends v1 = some res) (sz : Nat) : Met l yX6_to wsX6_to rm_X6_to (cPre D k [.ref h_t, .int v1] (W_X6_to k h_t h_t_ends h_t_worths h_t_order h_t_notes h_t_lookedAt s_whole s_pieceCount s_lookedBack s_ends) sz) (cQi D (W_X6_to k h_t h_t_ends h_t_worths h_t_order h_t_notes h_t_lookedAt s_whole s_pieceCount s_lookedBack s_ends) sz res (W_X6_to k h_t h_t_ends h_t_worths h_t_order h_t_notes h_t_lookedAt s_whole s_pieceCount s_lookedBack s_ends)) 0 0 (va_A (W_X6_to k h_t h_t_ends h_t_worths h_t_order h_t_notes h_t_lookedAt s_whole s_pieceCount s_lookedBack s_ends) sz) := by
  refine met_of [(0, .ref h_t), (1, .int v1)] (by decide) rfl rfl (Nat.le_of_ble_eq_true rfl) rfl ?_
  intro p e s m args below meth c A hA hsz C
  unfold f_X6_to at h
  refine g_iload_n 0 C 1 dX6_to_0 rfl rfl ?_
  refine g_iconst 1 C (0 : Int32) dX6_to_1 (by decide) ?_
  refine g_aload_n 2 C 0 dX6_to_2 rfl rfl ?_
  refine g_get 3 C in_X6_to_X6 0 4 rfl rfl (by decide) fl_X6_to_42 rfl rfl dX6_to_3 ?_
  obtain ⟨q1, e2, h⟩ := bi_e h
  refine g_callNi 6 C (As := [.int v1, .int (0 : Int32), .int s_whole]) [] [0, 1] [0, 1] (W_X6_to k h_t h_t_ends h_t_worths h_t_order h_t_notes h_t_lookedAt s_whole s_pieceCount s_lookedBack s_ends) (fun sz => k_X10_within v1 (0 : Int32) s_whole q1 e2 sz) gX6_to_X10_within_n49 rfl C.2.2.2.2.2.2.2.2.2.1 ini_X6_to_X10_within sta_X6_to_X10_within pd_X10_within rfl ⟨rfl, rfl, Nat.le_of_ble_eq_true rfl, Nat.le_of_ble_eq_true rfl⟩ (Nat.le_of_ble_eq_true rfl) ⟨Nat.zero_le _, Nat.zero_le _⟩ ⟨rfl, rfl, rfl, rfl, rfl, by decide, rfl⟩ rfl dX6_to_6 ?_
  refine g_if_eq 9 23 C dX6_to_9 (by decide) (fun c => ?_) (fun c => ?_)
  · replace h := it_e c h
    refine g_iconst 23 C (0 : Int32) dX6_to_23 (by decide) ?_
    refine GG.sub (lv' := []) [] rfl ?_
    exact ok_B_X6_to_24 C hA h
  · replace h := if_e c h
    refine g_aload_n 12 C 0 dX6_to_12 rfl rfl ?_
    refine g_get 13 C in_X6_to_X6 0 2 rfl rfl (by decide) fl_X6_to_18 rfl rfl dX6_to_13 ?_
    refine g_iload_n 16 C 1 dX6_to_16 rfl rfl ?_
    refine g_iconst 17 C (1 : Int32) dX6_to_17 (by decide) ?_
    refine g_iadd 18 C dX6_to_18 ?_
    obtain ⟨o3, h⟩ := ob_e h
    refine g_iald 19 C 1 rfl o3 dX6_to_19 ?_
    refine g_goto 20 24 C dX6_to_20 (by decide) ?_
    refine GG.sub (lv' := []) [] rfl ?_
    exact ok_B_X6_to_24 C hA h
end

/-! X6_holdsReached -/
abbrev W_X6_holdsReached (k : Nat → ClassId) (h_t : Nat) (h_t_ends : Nat) (h_t_order : Nat) (h_t_notes : Nat) (h_t_worths : Nat) (h_t_lookedAt : Nat) (s_whole : Int32) (s_pieceCount : Int32) (s_lookedBack : Int32) (s_ends : Nat → Int32) (s_order : Nat → Int32) (s_notes : Nat → Int32) : va_W := [(h_t, .inr (6, [.ref h_t_worths, .ref h_t_order, .ref h_t_ends, .ref h_t_notes, .int s_whole, .int s_pieceCount, .int s_lookedBack, .ref h_t_lookedAt])), (h_t_ends, .inl (k 0, 218, .inl s_ends)), (h_t_order, .inl (k 0, 2048, .inl s_order)), (h_t_notes, .inl (k 0, 2048, .inl s_notes))]
def rm_X6_holdsReached : Room := { frames := 2, cells := 0, slots := 0, locals := 43 }
theorem in_X6_holdsReached_X6 : ∀ w ∈ u_ws RX6 TX6 8, w ∈ wsX6_holdsReached := by decide +kernel
theorem fl_X6_holdsReached_15 : Cond.fieldLink RX6 15 "LinkDays$Sets" "order" "[I" ∈ wsX6_holdsReached := by decide +kernel
theorem fl_X6_holdsReached_21 : Cond.fieldLink RX6 21 "LinkDays$Sets" "notes" "[I" ∈ wsX6_holdsReached := by decide +kernel
theorem pd_X6_holdsReached : yX6_holdsReached.cls = RX6 ∧ yX6_holdsReached.cls ≠ "java/lang/invoke/MethodHandle" ∧ yX6_holdsReached.cls ≠ "java/lang/invoke/VarHandle" ∧ (parseMethodDescriptor yX6_holdsReached.desc).map (fun d => d.parameters.length) = some 2 := by decide +kernel
section
variable {p : Program} {l : Launch} {e : Env} {s : State} {m : MethodId} {args : Array Value} {below : List Frame} {meth : Method} {c : Code} {D : va_G} {k : Nat → ClassId} {A : Nat → Prop} {w0 : va_W} {sz : Nat}
set_option maxHeartbeats 4000000 in
set_option maxRecDepth 100000 in
theorem ok_B_X6_holdsReached_51 {h_t : Nat} {h_t_ends : Nat} {h_t_order : Nat} {h_t_notes : Nat} {h_t_worths : Nat} {h_t_lookedAt : Nat} {s_whole : Int32} {s_pieceCount : Int32} {s_lookedBack : Int32} {s_ends : Nat → Int32} {s_order : Nat → Int32} {s_notes : Nat → Int32} {v1 : Int32} {v3 : Int32} {v4 : Int32} {res : Int32} {kx rec : Int32 → Option (Int32)} (C : CX p s m args meth c cX6_holdsReached wsX6_holdsReached RX6 5 D k A (some .boolean)) (hA : A = va_A w0 sz) (hx : ∀ t : Int32, kx t = some res → GG p l e rm_X6_holdsReached s m args below meth c (MQ below (cQi D w0 sz res (W_X6_holdsReached k h_t h_t_ends h_t_order h_t_notes h_t_worths h_t_lookedAt s_whole s_pieceCount s_lookedBack s_ends s_order s_notes)) args s 0 0 A) D A 5 0 0 57 [] [] (W_X6_holdsReached k h_t h_t_ends h_t_order h_t_notes h_t_worths h_t_lookedAt s_whole s_pieceCount s_lookedBack s_ends s_order s_notes)) (hr : ∀ t : Int32, rec t = some res → GG p l e rm_X6_holdsReached s m args below meth c (MQ below (cQi D w0 sz res (W_X6_holdsReached k h_t h_t_ends h_t_order h_t_notes h_t_worths h_t_lookedAt s_whole s_pieceCount s_lookedBack s_ends s_order s_notes)) args s 0 0 A) D A 5 0 0 13 [(0, .ref h_t), (1, .int v1), (3, .int v3), (4, .int t)] [] (W_X6_holdsReached k h_t h_t_ends h_t_order h_t_notes h_t_worths h_t_lookedAt s_whole s_pieceCount s_lookedBack s_ends s_order s_notes))  (h : B_X6_holdsReached_51 kx rec v4 = some res) : GG p l e rm_X6_holdsReached s m args below meth c (MQ below (cQi D w0 sz res (W_X6_holdsReached k h_t h_t_ends h_t_order h_t_notes h_t_worths h_t_lookedAt s_whole s_pieceCount s_lookedBack s_ends s_order s_notes)) args s 0 0 A) D A 5 0 0 51 [(0, .ref h_t), (1, .int v1), (3, .int v3), (4, .int v4)] [] (W_X6_holdsReached k h_t h_t_ends h_t_order h_t_notes h_t_worths h_t_lookedAt s_whole s_pieceCount s_lookedBack s_ends s_order s_notes) := by
  unfold B_X6_holdsReached_51 at h
  refine g_iinc 51 C 3 (1 : Int32) [(4, .int (v4 + (1 : Int32))), (0, .ref h_t), (1, .int v1), (3, .int v3)] dX6_holdsReached_51 rfl (by decide) (by decide) rfl ?_
  refine g_goto 54 13 C dX6_holdsReached_54 (by decide) ?_
  refine GG.sub (lv' := [(0, .ref h_t), (1, .int v1), (3, .int v3), (4, .int (v4 + (1 : Int32)))]) [1, 2, 3, 0] rfl ?_
  exact hr (v4 + (1 : Int32)) h
set_option maxHeartbeats 4000000 in
set_option maxRecDepth 100000 in
theorem ok_L_X6_holdsReached_13 {h_t : Nat} {h_t_ends : Nat} {h_t_order : Nat} {h_t_notes : Nat} {h_t_worths : Nat} {h_t_lookedAt : Nat} {s_whole : Int32} {s_pieceCount : Int32} {s_lookedBack : Int32} {s_ends : Nat → Int32} {s_order : Nat → Int32} {s_notes : Nat → Int32} {v1 : Int32} {v3 : Int32} {res : Int32} (C : CX p s m args meth c cX6_holdsReached wsX6_holdsReached RX6 5 D k A (some .boolean)) (hA : A = va_A w0 sz) {kx : Int32 → Option (Int32)} (hx : ∀ t : Int32, kx t = some res → GG p l e rm_X6_holdsReached s m args below meth c (MQ below (cQi D w0 sz res (W_X6_holdsReached k h_t h_t_ends h_t_order h_t_notes h_t_worths h_t_lookedAt s_whole s_pieceCount s_lookedBack s_ends s_order s_notes)) args s 0 0 A) D A 5 0 0 57 [] [] (W_X6_holdsReached k h_t h_t_ends h_t_order h_t_notes h_t_worths h_t_lookedAt s_whole s_pieceCount s_lookedBack s_ends s_order s_notes)) : ∀ (n : Nat) (t : Int32), L_X6_holdsReached_13 s_order s_notes v1 v3 kx n t = some res → GG p l e rm_X6_holdsReached s m args below meth c (MQ below (cQi D w0 sz res (W_X6_holdsReached k h_t h_t_ends h_t_order h_t_notes h_t_worths h_t_lookedAt s_whole s_pieceCount s_lookedBack s_ends s_order s_notes)) args s 0 0 A) D A 5 0 0 13 [(0, .ref h_t), (1, .int v1), (3, .int v3), (4, .int t)] [] (W_X6_holdsReached k h_t h_t_ends h_t_order h_t_notes h_t_worths h_t_lookedAt s_whole s_pieceCount s_lookedBack s_ends s_order s_notes) := by
  intro n
  induction n with
  | zero => intro t h; cases h
  | succ n ih =>
    intro t h
    obtain ⟨v4, rfl⟩ : ∃ z, z = t := ⟨_, rfl⟩
    replace h : LB_X6_holdsReached_13 s_order s_notes v1 v3 kx (L_X6_holdsReached_13 s_order s_notes v1 v3 kx n) v4 = some res := h
    have hr := ih
    unfold LB_X6_holdsReached_13 at h
    refine g_iload 13 C 3 dX6_holdsReached_13 rfl ?_
    refine g_iload_n 15 C 2 dX6_holdsReached_15 rfl rfl ?_
    refine g_icmp_ge 16 57 C dX6_holdsReached_16 (by decide) (fun c => ?_) (fun c => ?_)
    · replace h := it_e c h
      refine GG.sub (lv' := []) [] rfl ?_
      exact hx v4 h
    · replace h := if_e c h
      refine g_aload_n 19 C 0 dX6_holdsReached_19 rfl rfl ?_
      refine g_get 20 C in_X6_holdsReached_X6 0 1 rfl rfl (by decide) fl_X6_holdsReached_15 rfl rfl dX6_holdsReached_20 ?_
      refine g_iload 23 C 3 dX6_holdsReached_23 rfl ?_
      obtain ⟨o5, h⟩ := ob_e h
      refine g_iald 25 C 2 rfl o5 dX6_holdsReached_25 ?_
      refine g_iload_n 26 C 1 dX6_holdsReached_26 rfl rfl ?_
      refine g_iconst 27 C (-1 : Int32) dX6_holdsReached_27 (by decide) ?_
      refine g_ixor 28 C dX6_holdsReached_28 ?_
      refine g_iand 29 C dX6_holdsReached_29 ?_
      refine g_if_ne 30 51 C dX6_holdsReached_30 (by decide) (fun c => ?_) (fun c => ?_)
      · replace h := if_e c h
        refine GG.sub (lv' := [(0, .ref h_t), (1, .int v1), (3, .int v3), (4, .int v4)]) [0, 1, 2, 3] rfl ?_
        exact ok_B_X6_holdsReached_51 C hA hx hr h
      · replace h := it_e c h
        refine g_aload_n 33 C 0 dX6_holdsReached_33 rfl rfl ?_
        refine g_get 34 C in_X6_holdsReached_X6 0 3 rfl rfl (by decide) fl_X6_holdsReached_21 rfl rfl dX6_holdsReached_34 ?_
        refine g_aload_n 37 C 0 dX6_holdsReached_37 rfl rfl ?_
        refine g_get 38 C in_X6_holdsReached_X6 0 1 rfl rfl (by decide) fl_X6_holdsReached_15 rfl rfl dX6_holdsReached_38 ?_
        refine g_iload 41 C 3 dX6_holdsReached_41 rfl ?_
        obtain ⟨o6, h⟩ := ob_e h
        refine g_iald 43 C 2 rfl o6 dX6_holdsReached_43 ?_
        obtain ⟨o7, h⟩ := ob_e h
        refine g_iald 44 C 3 rfl o7 dX6_holdsReached_44 ?_
        refine g_iconst 45 C (1 : Int32) dX6_holdsReached_45 (by decide) ?_
        refine g_icmp_ne 46 51 C dX6_holdsReached_46 (by decide) (fun c => ?_) (fun c => ?_)
        · replace h := if_e c h
          refine GG.sub (lv' := [(0, .ref h_t), (1, .int v1), (3, .int v3), (4, .int v4)]) [0, 1, 2, 3] rfl ?_
          exact ok_B_X6_holdsReached_51 C hA hx hr h
        · replace h := it_e c h
          refine g_iconst 49 C (1 : Int32) dX6_holdsReached_49 (by decide) ?_
          obtain rfl := Option.some.inj h
          exact g_zret 50 C hA rfl rfl dX6_holdsReached_50 rfl
set_option maxHeartbeats 4000000 in
set_option maxRecDepth 100000 in
theorem ok_B_X6_holdsReached_57 {h_t : Nat} {h_t_ends : Nat} {h_t_order : Nat} {h_t_notes : Nat} {h_t_worths : Nat} {h_t_lookedAt : Nat} {s_whole : Int32} {s_pieceCount : Int32} {s_lookedBack : Int32} {s_ends : Nat → Int32} {s_order : Nat → Int32} {s_notes : Nat → Int32} {res : Int32} (C : CX p s m args meth c cX6_holdsReached wsX6_holdsReached RX6 5 D k A (some .boolean)) (hA : A = va_A w0 sz)  (h : B_X6_holdsReached_57 = some res) : GG p l e rm_X6_holdsReached s m args below meth c (MQ below (cQi D w0 sz res (W_X6_holdsReached k h_t h_t_ends h_t_order h_t_notes h_t_worths h_t_lookedAt s_whole s_pieceCount s_lookedBack s_ends s_order s_notes)) args s 0 0 A) D A 5 0 0 57 [] [] (W_X6_holdsReached k h_t h_t_ends h_t_order h_t_notes h_t_worths h_t_lookedAt s_whole s_pieceCount s_lookedBack s_ends s_order s_notes) := by
  unfold B_X6_holdsReached_57 at h
  refine g_iconst 57 C (0 : Int32) dX6_holdsReached_57 (by decide) ?_
  obtain rfl := Option.some.inj h
  exact g_zret 58 C hA rfl rfl dX6_holdsReached_58 rfl
set_option maxHeartbeats 4000000 in
set_option maxRecDepth 100000 in
theorem k_X6_holdsReached {l : Launch} {D : va_G} {k : Nat → ClassId} (h_t : Nat) (h_t_ends : Nat) (h_t_order : Nat) (h_t_notes : Nat) (h_t_worths : Nat) (h_t_lookedAt : Nat) (s_whole : Int32) (s_pieceCount : Int32) (s_lookedBack : Int32) (s_ends : Nat → Int32) (s_order : Nat → Int32) (s_notes : Nat → Int32) (v1 : Int32) (v2 : Int32) (res : Int32) (h : f_X6_holdsReached s_whole s_ends s_order s_notes v1 v2 = some res) (sz : Nat) : Met l yX6_holdsReached wsX6_holdsReached rm_X6_holdsReached (cPre D k [.ref h_t, .int v1, .int v2] (W_X6_holdsReached k h_t h_t_ends h_t_order h_t_notes h_t_worths h_t_lookedAt s_whole s_pieceCount s_lookedBack s_ends s_order s_notes) sz) (cQi D (W_X6_holdsReached k h_t h_t_ends h_t_order h_t_notes h_t_worths h_t_lookedAt s_whole s_pieceCount s_lookedBack s_ends s_order s_notes) sz res (W_X6_holdsReached k h_t h_t_ends h_t_order h_t_notes h_t_worths h_t_lookedAt s_whole s_pieceCount s_lookedBack s_ends s_order s_notes)) 0 0 (va_A (W_X6_holdsReached k h_t h_t_ends h_t_order h_t_notes h_t_worths h_t_lookedAt s_whole s_pieceCount s_lookedBack s_ends s_order s_notes) sz) := by
  refine met_of [(0, .ref h_t), (1, .int v1), (2, .int v2)] (by decide) rfl rfl (Nat.le_of_ble_eq_true rfl) rfl ?_
  intro p e s m args below meth c A hA hsz C
  unfold f_X6_holdsReached at h
  refine g_aload_n 0 C 0 dX6_holdsReached_0 rfl rfl ?_
  refine g_iload_n 1 C 2 dX6_holdsReached_1 rfl rfl ?_
  obtain ⟨q1, e2, h⟩ := bi_e h
  refine g_callVi 2 C (As := [.int v2]) [0, 1] [2, 3] [2, 3, 0, 1] (W_X6_holdsReached k h_t h_t_ends h_t_order h_t_notes h_t_worths h_t_lookedAt s_whole s_pieceCount s_lookedBack s_ends s_order s_notes) 0 (fun sz => k_X6_to h_t h_t_ends h_t_worths h_t_order h_t_notes h_t_lookedAt s_whole s_pieceCount s_lookedBack s_ends v2 q1 e2 sz) gX6_holdsReached_X6_to rfl pd_X6_to rfl rfl rfl ⟨rfl, rfl, Nat.le_of_ble_eq_true rfl, Nat.le_of_ble_eq_true rfl⟩ (Nat.le_of_ble_eq_true rfl) ⟨Nat.zero_le _, Nat.zero_le _⟩ ⟨rfl, rfl, rfl, rfl, rfl, by decide, rfl⟩ rfl dX6_holdsReached_2 ?_
  refine g_istore_n 5 C [(3, .int q1), (0, .ref h_t), (1, .int v1), (2, .int v2)] dX6_holdsReached_5 rfl (by decide) rfl ?_
  refine g_aload_n 6 C 1 dX6_holdsReached_6 rfl rfl ?_
  refine g_iload_n 7 C 3 dX6_holdsReached_7 rfl rfl ?_
  obtain ⟨q3, e4, h⟩ := bi_e h
  refine g_callVi 8 C (As := [.int v2]) [0, 1] [2, 3] [2, 3, 0, 1] (W_X6_holdsReached k h_t h_t_ends h_t_order h_t_notes h_t_worths h_t_lookedAt s_whole s_pieceCount s_lookedBack s_ends s_order s_notes) 0 (fun sz => k_X6_from h_t h_t_ends h_t_worths h_t_order h_t_notes h_t_lookedAt s_whole s_pieceCount s_lookedBack s_ends v2 q3 e4 sz) gX6_holdsReached_X6_from rfl pd_X6_from rfl rfl rfl ⟨rfl, rfl, Nat.le_of_ble_eq_true rfl, Nat.le_of_ble_eq_true rfl⟩ (Nat.le_of_ble_eq_true rfl) ⟨Nat.zero_le _, Nat.zero_le _⟩ ⟨rfl, rfl, rfl, rfl, rfl, by decide, rfl⟩ rfl dX6_holdsReached_8 ?_
  refine g_istore 11 C [(4, .int q3), (3, .int q1), (0, .ref h_t), (1, .int v1), (2, .int v2)] dX6_holdsReached_11 (by decide) rfl ?_
  refine GG.sub (lv' := [(0, .ref h_t), (1, .int v1), (3, .int q1), (4, .int q3)]) [2, 3, 1, 0] rfl ?_
  exact ok_L_X6_holdsReached_13 C hA (fun t h => by
    refine GG.sub (lv' := []) [] rfl ?_
    exact ok_B_X6_holdsReached_57 C hA h) FUEL q3 h
end

/-! X6_grow -/
abbrev W_X6_grow (k : Nat → ClassId) (h_t : Nat) (h_t_ends : Nat) (h_t_order : Nat) (h_t_notes : Nat) (h_t_worths : Nat) (h_t_lookedAt : Nat) (s_whole : Int32) (s_pieceCount : Int32) (s_lookedBack : Int32) (s_ends : Nat → Int32) (s_order : Nat → Int32) (s_notes : Nat → Int32) : va_W := [(h_t, .inr (6, [.ref h_t_worths, .ref h_t_order, .ref h_t_ends, .ref h_t_notes, .int s_whole, .int s_pieceCount, .int s_lookedBack, .ref h_t_lookedAt])), (h_t_ends, .inl (k 0, 218, .inl s_ends)), (h_t_order, .inl (k 0, 2048, .inl s_order)), (h_t_notes, .inl (k 0, 2048, .inl s_notes))]
def rm_X6_grow : Room := { frames := 3, cells := 0, slots := 0, locals := 67 }
theorem in_X6_grow_X6 : ∀ w ∈ u_ws RX6 TX6 8, w ∈ wsX6_grow := by decide +kernel
theorem fl_X6_grow_15 : Cond.fieldLink RX6 15 "LinkDays$Sets" "order" "[I" ∈ wsX6_grow := by decide +kernel
theorem fl_X6_grow_21 : Cond.fieldLink RX6 21 "LinkDays$Sets" "notes" "[I" ∈ wsX6_grow := by decide +kernel
theorem pd_X6_grow : yX6_grow.cls = RX6 ∧ yX6_grow.cls ≠ "java/lang/invoke/MethodHandle" ∧ yX6_grow.cls ≠ "java/lang/invoke/VarHandle" ∧ (parseMethodDescriptor yX6_grow.desc).map (fun d => d.parameters.length) = some 2 := by decide +kernel
section
variable {p : Program} {l : Launch} {e : Env} {s : State} {m : MethodId} {args : Array Value} {below : List Frame} {meth : Method} {c : Code} {D : va_G} {k : Nat → ClassId} {A : Nat → Prop} {w0 : va_W} {sz : Nat}
set_option maxHeartbeats 4000000 in
set_option maxRecDepth 100000 in
theorem ok_B_X6_grow_70 {h_t : Nat} {h_t_ends : Nat} {h_t_order : Nat} {h_t_notes : Nat} {h_t_worths : Nat} {h_t_lookedAt : Nat} {s_whole : Int32} {s_pieceCount : Int32} {s_lookedBack : Int32} {s_ends : Nat → Int32} {s_order : Nat → Int32} {s_notes : Nat → Int32} {v1 : Int32} {v2 : Int32} {v4 : Int32} {x0 : Int32} {res : Int32 × (Nat → Int32)} {kx rec : Int32 × Int32 × (Nat → Int32) → Option (Int32 × (Nat → Int32))} (C : CX p s m args meth c cX6_grow wsX6_grow RX6 6 D k A (some .boolean)) (hA : A = va_A w0 sz) (hx : ∀ t : Int32 × Int32 × (Nat → Int32), kx t = some res → GG p l e rm_X6_grow s m args below meth c (MQ below (cQi D w0 sz res.1 (W_X6_grow k h_t h_t_ends h_t_order h_t_notes h_t_worths h_t_lookedAt s_whole s_pieceCount s_lookedBack s_ends s_order res.2)) args s 0 0 A) D A 6 0 0 77 [(3, .int t.1)] [] (W_X6_grow k h_t h_t_ends h_t_order h_t_notes h_t_worths h_t_lookedAt s_whole s_pieceCount s_lookedBack s_ends s_order t.2.2)) (hr : ∀ t : Int32 × Int32 × (Nat → Int32), rec t = some res → GG p l e rm_X6_grow s m args below meth c (MQ below (cQi D w0 sz res.1 (W_X6_grow k h_t h_t_ends h_t_order h_t_notes h_t_worths h_t_lookedAt s_whole s_pieceCount s_lookedBack s_ends s_order res.2)) args s 0 0 A) D A 6 0 0 9 [(0, .ref h_t), (1, .int v1), (2, .int v2), (3, .int t.1), (4, .int t.2.1)] [] (W_X6_grow k h_t h_t_ends h_t_order h_t_notes h_t_worths h_t_lookedAt s_whole s_pieceCount s_lookedBack s_ends s_order t.2.2))  (h : B_X6_grow_70 kx rec s_notes v4 x0 = some res) : GG p l e rm_X6_grow s m args below meth c (MQ below (cQi D w0 sz res.1 (W_X6_grow k h_t h_t_ends h_t_order h_t_notes h_t_worths h_t_lookedAt s_whole s_pieceCount s_lookedBack s_ends s_order res.2)) args s 0 0 A) D A 6 0 0 70 [(0, .ref h_t), (1, .int v1), (2, .int v2), (4, .int v4)] [.int x0] (W_X6_grow k h_t h_t_ends h_t_order h_t_notes h_t_worths h_t_lookedAt s_whole s_pieceCount s_lookedBack s_ends s_order s_notes) := by
  unfold B_X6_grow_70 at h
  refine g_istore_n 70 C [(3, .int x0), (0, .ref h_t), (1, .int v1), (2, .int v2), (4, .int v4)] dX6_grow_70 rfl (by decide) rfl ?_
  refine g_iinc 71 C 4 (1 : Int32) [(4, .int (v4 + (1 : Int32))), (3, .int x0), (0, .ref h_t), (1, .int v1), (2, .int v2)] dX6_grow_71 rfl (by decide) (by decide) rfl ?_
  refine g_goto 74 9 C dX6_grow_74 (by decide) ?_
  refine GG.sub (lv' := [(0, .ref h_t), (1, .int v1), (2, .int v2), (3, .int x0), (4, .int (v4 + (1 : Int32)))]) [2, 3, 4, 1, 0] rfl ?_
  exact hr (x0, (v4 + (1 : Int32)), s_notes) h
set_option maxHeartbeats 4000000 in
set_option maxRecDepth 100000 in
theorem ok_B_X6_grow_65 {h_t : Nat} {h_t_ends : Nat} {h_t_order : Nat} {h_t_notes : Nat} {h_t_worths : Nat} {h_t_lookedAt : Nat} {s_whole : Int32} {s_pieceCount : Int32} {s_lookedBack : Int32} {s_ends : Nat → Int32} {s_order : Nat → Int32} {s_notes : Nat → Int32} {v1 : Int32} {v2 : Int32} {v4 : Int32} {res : Int32 × (Nat → Int32)} {kx rec : Int32 × Int32 × (Nat → Int32) → Option (Int32 × (Nat → Int32))} (C : CX p s m args meth c cX6_grow wsX6_grow RX6 6 D k A (some .boolean)) (hA : A = va_A w0 sz) (hx : ∀ t : Int32 × Int32 × (Nat → Int32), kx t = some res → GG p l e rm_X6_grow s m args below meth c (MQ below (cQi D w0 sz res.1 (W_X6_grow k h_t h_t_ends h_t_order h_t_notes h_t_worths h_t_lookedAt s_whole s_pieceCount s_lookedBack s_ends s_order res.2)) args s 0 0 A) D A 6 0 0 77 [(3, .int t.1)] [] (W_X6_grow k h_t h_t_ends h_t_order h_t_notes h_t_worths h_t_lookedAt s_whole s_pieceCount s_lookedBack s_ends s_order t.2.2)) (hr : ∀ t : Int32 × Int32 × (Nat → Int32), rec t = some res → GG p l e rm_X6_grow s m args below meth c (MQ below (cQi D w0 sz res.1 (W_X6_grow k h_t h_t_ends h_t_order h_t_notes h_t_worths h_t_lookedAt s_whole s_pieceCount s_lookedBack s_ends s_order res.2)) args s 0 0 A) D A 6 0 0 9 [(0, .ref h_t), (1, .int v1), (2, .int v2), (3, .int t.1), (4, .int t.2.1)] [] (W_X6_grow k h_t h_t_ends h_t_order h_t_notes h_t_worths h_t_lookedAt s_whole s_pieceCount s_lookedBack s_ends s_order t.2.2))  (h : B_X6_grow_65 kx rec s_notes v4 = some res) : GG p l e rm_X6_grow s m args below meth c (MQ below (cQi D w0 sz res.1 (W_X6_grow k h_t h_t_ends h_t_order h_t_notes h_t_worths h_t_lookedAt s_whole s_pieceCount s_lookedBack s_ends s_order res.2)) args s 0 0 A) D A 6 0 0 65 [(0, .ref h_t), (1, .int v1), (2, .int v2), (4, .int v4)] [] (W_X6_grow k h_t h_t_ends h_t_order h_t_notes h_t_worths h_t_lookedAt s_whole s_pieceCount s_lookedBack s_ends s_order s_notes) := by
  unfold B_X6_grow_65 at h
  refine g_iconst 65 C (1 : Int32) dX6_grow_65 (by decide) ?_
  refine g_goto 66 70 C dX6_grow_66 (by decide) ?_
  refine GG.sub (lv' := [(0, .ref h_t), (1, .int v1), (2, .int v2), (4, .int v4)]) [0, 1, 2, 3] rfl ?_
  exact ok_B_X6_grow_70 C hA hx hr h
set_option maxHeartbeats 4000000 in
set_option maxRecDepth 100000 in
theorem ok_B_X6_grow_49 {h_t : Nat} {h_t_ends : Nat} {h_t_order : Nat} {h_t_notes : Nat} {h_t_worths : Nat} {h_t_lookedAt : Nat} {s_whole : Int32} {s_pieceCount : Int32} {s_lookedBack : Int32} {s_ends : Nat → Int32} {s_order : Nat → Int32} {s_notes : Nat → Int32} {v1 : Int32} {v2 : Int32} {v3 : Int32} {v4 : Int32} {v5 : Int32} {x0 : Int32} {x1 : Int32} {res : Int32 × (Nat → Int32)} {kx rec : Int32 × Int32 × (Nat → Int32) → Option (Int32 × (Nat → Int32))} (C : CX p s m args meth c cX6_grow wsX6_grow RX6 6 D k A (some .boolean)) (hA : A = va_A w0 sz) (hx : ∀ t : Int32 × Int32 × (Nat → Int32), kx t = some res → GG p l e rm_X6_grow s m args below meth c (MQ below (cQi D w0 sz res.1 (W_X6_grow k h_t h_t_ends h_t_order h_t_notes h_t_worths h_t_lookedAt s_whole s_pieceCount s_lookedBack s_ends s_order res.2)) args s 0 0 A) D A 6 0 0 77 [(3, .int t.1)] [] (W_X6_grow k h_t h_t_ends h_t_order h_t_notes h_t_worths h_t_lookedAt s_whole s_pieceCount s_lookedBack s_ends s_order t.2.2)) (hr : ∀ t : Int32 × Int32 × (Nat → Int32), rec t = some res → GG p l e rm_X6_grow s m args below meth c (MQ below (cQi D w0 sz res.1 (W_X6_grow k h_t h_t_ends h_t_order h_t_notes h_t_worths h_t_lookedAt s_whole s_pieceCount s_lookedBack s_ends s_order res.2)) args s 0 0 A) D A 6 0 0 9 [(0, .ref h_t), (1, .int v1), (2, .int v2), (3, .int t.1), (4, .int t.2.1)] [] (W_X6_grow k h_t h_t_ends h_t_order h_t_notes h_t_worths h_t_lookedAt s_whole s_pieceCount s_lookedBack s_ends s_order t.2.2))  (h : B_X6_grow_49 kx rec s_notes v3 v4 v5 x0 x1 = some res) : GG p l e rm_X6_grow s m args below meth c (MQ below (cQi D w0 sz res.1 (W_X6_grow k h_t h_t_ends h_t_order h_t_notes h_t_worths h_t_lookedAt s_whole s_pieceCount s_lookedBack s_ends s_order res.2)) args s 0 0 A) D A 6 0 0 49 [(0, .ref h_t), (1, .int v1), (2, .int v2), (3, .int v3), (4, .int v4), (5, .int v5)] [.int x0, .int x1, .ref h_t_notes] (W_X6_grow k h_t h_t_ends h_t_order h_t_notes h_t_worths h_t_lookedAt s_whole s_pieceCount s_lookedBack s_ends s_order s_notes) := by
  unfold B_X6_grow_49 at h
  obtain ⟨o8, h⟩ := ob_e h
  refine g_iast 49 C (W_X6_grow k h_t h_t_ends h_t_order h_t_notes h_t_worths h_t_lookedAt s_whole s_pieceCount s_lookedBack s_ends s_order (upd s_notes x1.toNatClampNeg x0)) 3 rfl o8 rfl dX6_grow_49 ?_
  refine g_iload_n 50 C 3 dX6_grow_50 rfl rfl ?_
  refine g_if_ne 51 65 C dX6_grow_51 (by decide) (fun c => ?_) (fun c => ?_)
  · replace h := if_e c h
    refine GG.sub (lv' := [(0, .ref h_t), (1, .int v1), (2, .int v2), (4, .int v4)]) [0, 1, 2, 4] rfl ?_
    exact ok_B_X6_grow_65 C hA hx hr h
  · replace h := it_e c h
    refine g_aload_n 54 C 0 dX6_grow_54 rfl rfl ?_
    refine g_get 55 C in_X6_grow_X6 0 3 rfl rfl (by decide) fl_X6_grow_21 rfl rfl dX6_grow_55 ?_
    refine g_iload 58 C 5 dX6_grow_58 rfl ?_
    obtain ⟨o9, h⟩ := ob_e h
    refine g_iald 60 C 3 rfl o9 dX6_grow_60 ?_
    refine g_iconst 61 C (1 : Int32) dX6_grow_61 (by decide) ?_
    refine g_icmp_ne 62 69 C dX6_grow_62 (by decide) (fun c => ?_) (fun c => ?_)
    · replace h := if_e c h
      refine g_iconst 69 C (0 : Int32) dX6_grow_69 (by decide) ?_
      refine GG.sub (lv' := [(0, .ref h_t), (1, .int v1), (2, .int v2), (4, .int v4)]) [0, 1, 2, 4] rfl ?_
      exact ok_B_X6_grow_70 C hA hx hr h
    · replace h := it_e c h
      refine GG.sub (lv' := [(0, .ref h_t), (1, .int v1), (2, .int v2), (4, .int v4)]) [0, 1, 2, 4] rfl ?_
      exact ok_B_X6_grow_65 C hA hx hr h
set_option maxHeartbeats 4000000 in
set_option maxRecDepth 100000 in
theorem ok_L_X6_grow_9 {h_t : Nat} {h_t_ends : Nat} {h_t_order : Nat} {h_t_notes : Nat} {h_t_worths : Nat} {h_t_lookedAt : Nat} {s_whole : Int32} {s_pieceCount : Int32} {s_lookedBack : Int32} {s_ends : Nat → Int32} {s_order : Nat → Int32} {v1 : Int32} {v2 : Int32} {res : Int32 × (Nat → Int32)} (C : CX p s m args meth c cX6_grow wsX6_grow RX6 6 D k A (some .boolean)) (hA : A = va_A w0 sz) {kx : Int32 × Int32 × (Nat → Int32) → Option (Int32 × (Nat → Int32))} (hx : ∀ t : Int32 × Int32 × (Nat → Int32), kx t = some res → GG p l e rm_X6_grow s m args below meth c (MQ below (cQi D w0 sz res.1 (W_X6_grow k h_t h_t_ends h_t_order h_t_notes h_t_worths h_t_lookedAt s_whole s_pieceCount s_lookedBack s_ends s_order res.2)) args s 0 0 A) D A 6 0 0 77 [(3, .int t.1)] [] (W_X6_grow k h_t h_t_ends h_t_order h_t_notes h_t_worths h_t_lookedAt s_whole s_pieceCount s_lookedBack s_ends s_order t.2.2)) : ∀ (n : Nat) (t : Int32 × Int32 × (Nat → Int32)), L_X6_grow_9 s_whole s_ends s_order v1 v2 kx n t = some res → GG p l e rm_X6_grow s m args below meth c (MQ below (cQi D w0 sz res.1 (W_X6_grow k h_t h_t_ends h_t_order h_t_notes h_t_worths h_t_lookedAt s_whole s_pieceCount s_lookedBack s_ends s_order res.2)) args s 0 0 A) D A 6 0 0 9 [(0, .ref h_t), (1, .int v1), (2, .int v2), (3, .int t.1), (4, .int t.2.1)] [] (W_X6_grow k h_t h_t_ends h_t_order h_t_notes h_t_worths h_t_lookedAt s_whole s_pieceCount s_lookedBack s_ends s_order t.2.2) := by
  intro n
  induction n with
  | zero => intro t h; cases h
  | succ n ih =>
    intro t h
    obtain ⟨v3, v4, s_notes⟩ := t
    replace h : LB_X6_grow_9 s_whole s_ends s_order v1 v2 kx (L_X6_grow_9 s_whole s_ends s_order v1 v2 kx n) v3 v4 s_notes = some res := h
    have hr := ih
    unfold LB_X6_grow_9 at h
    refine g_iload 9 C 4 dX6_grow_9 rfl ?_
    refine g_aload_n 11 C 0 dX6_grow_11 rfl rfl ?_
    refine g_iload_n 12 C 2 dX6_grow_12 rfl rfl ?_
    obtain ⟨q3, e4, h⟩ := bi_e h
    refine g_callVi 13 C (As := [.int v2]) [0, 1] [2, 3] [2, 3, 0, 1] (W_X6_grow k h_t h_t_ends h_t_order h_t_notes h_t_worths h_t_lookedAt s_whole s_pieceCount s_lookedBack s_ends s_order s_notes) 0 (fun sz => k_X6_to h_t h_t_ends h_t_worths h_t_order h_t_notes h_t_lookedAt s_whole s_pieceCount s_lookedBack s_ends v2 q3 e4 sz) gX6_grow_X6_to rfl pd_X6_to rfl rfl rfl ⟨rfl, rfl, Nat.le_of_ble_eq_true rfl, Nat.le_of_ble_eq_true rfl⟩ (Nat.le_of_ble_eq_true rfl) ⟨Nat.zero_le _, Nat.zero_le _⟩ ⟨rfl, rfl, rfl, rfl, rfl, by decide, rfl⟩ rfl dX6_grow_13 ?_
    refine g_icmp_ge 16 77 C dX6_grow_16 (by decide) (fun c => ?_) (fun c => ?_)
    · replace h := it_e c h
      refine GG.sub (lv' := [(3, .int v3)]) [3] rfl ?_
      exact hx (v3, v4, s_notes) h
    · replace h := if_e c h
      refine g_aload_n 19 C 0 dX6_grow_19 rfl rfl ?_
      refine g_get 20 C in_X6_grow_X6 0 1 rfl rfl (by decide) fl_X6_grow_15 rfl rfl dX6_grow_20 ?_
      refine g_iload 23 C 4 dX6_grow_23 rfl ?_
      obtain ⟨o5, h⟩ := ob_e h
      refine g_iald 25 C 2 rfl o5 dX6_grow_25 ?_
      refine g_istore 26 C [(5, .int (s_order v4.toNatClampNeg)), (0, .ref h_t), (1, .int v1), (2, .int v2), (3, .int v3), (4, .int v4)] dX6_grow_26 (by decide) rfl ?_
      refine g_aload_n 28 C 1 dX6_grow_28 rfl rfl ?_
      refine g_get 29 C in_X6_grow_X6 0 3 rfl rfl (by decide) fl_X6_grow_21 rfl rfl dX6_grow_29 ?_
      refine g_iload 32 C 0 dX6_grow_32 rfl ?_
      refine g_aload_n 34 C 1 dX6_grow_34 rfl rfl ?_
      refine g_iload 35 C 0 dX6_grow_35 rfl ?_
      refine g_iload_n 37 C 2 dX6_grow_37 rfl rfl ?_
      obtain ⟨q6, e7, h⟩ := bi_e h
      refine g_callVi 38 C (As := [.int (s_order v4.toNatClampNeg), .int v1]) [0, 1, 2, 3] [] [0, 1, 2, 3] (W_X6_grow k h_t h_t_ends h_t_order h_t_notes h_t_worths h_t_lookedAt s_whole s_pieceCount s_lookedBack s_ends s_order s_notes) 0 (fun sz => k_X6_holdsReached h_t h_t_ends h_t_order h_t_notes h_t_worths h_t_lookedAt s_whole s_pieceCount s_lookedBack s_ends s_order s_notes (s_order v4.toNatClampNeg) v1 q6 e7 sz) gX6_grow_X6_holdsReached rfl pd_X6_holdsReached rfl rfl rfl ⟨rfl, rfl, Nat.le_of_ble_eq_true rfl, Nat.le_of_ble_eq_true rfl⟩ (Nat.le_of_ble_eq_true rfl) ⟨Nat.zero_le _, Nat.zero_le _⟩ ⟨rfl, rfl, rfl, rfl, rfl, by decide, rfl⟩ rfl dX6_grow_38 ?_
      refine g_if_eq 41 48 C dX6_grow_41 (by decide) (fun c => ?_) (fun c => ?_)
      · replace h := it_e c h
        refine g_iconst 48 C (0 : Int32) dX6_grow_48 (by decide) ?_
        refine GG.sub (lv' := [(0, .ref h_t), (1, .int v1), (2, .int v2), (3, .int v3), (4, .int v4), (5, .int (s_order v4.toNatClampNeg))]) [1, 2, 3, 4, 5, 0] rfl ?_
        exact ok_B_X6_grow_49 C hA hx hr h
      · replace h := if_e c h
        refine g_iconst 44 C (1 : Int32) dX6_grow_44 (by decide) ?_
        refine g_goto 45 49 C dX6_grow_45 (by decide) ?_
        refine GG.sub (lv' := [(0, .ref h_t), (1, .int v1), (2, .int v2), (3, .int v3), (4, .int v4), (5, .int (s_order v4.toNatClampNeg))]) [1, 2, 3, 4, 5, 0] rfl ?_
        exact ok_B_X6_grow_49 C hA hx hr h
set_option maxHeartbeats 4000000 in
set_option maxRecDepth 100000 in
theorem ok_B_X6_grow_77 {h_t : Nat} {h_t_ends : Nat} {h_t_order : Nat} {h_t_notes : Nat} {h_t_worths : Nat} {h_t_lookedAt : Nat} {s_whole : Int32} {s_pieceCount : Int32} {s_lookedBack : Int32} {s_ends : Nat → Int32} {s_order : Nat → Int32} {s_notes : Nat → Int32} {v3 : Int32} {res : Int32 × (Nat → Int32)} (C : CX p s m args meth c cX6_grow wsX6_grow RX6 6 D k A (some .boolean)) (hA : A = va_A w0 sz)  (h : B_X6_grow_77 s_notes v3 = some res) : GG p l e rm_X6_grow s m args below meth c (MQ below (cQi D w0 sz res.1 (W_X6_grow k h_t h_t_ends h_t_order h_t_notes h_t_worths h_t_lookedAt s_whole s_pieceCount s_lookedBack s_ends s_order res.2)) args s 0 0 A) D A 6 0 0 77 [(3, .int v3)] [] (W_X6_grow k h_t h_t_ends h_t_order h_t_notes h_t_worths h_t_lookedAt s_whole s_pieceCount s_lookedBack s_ends s_order s_notes) := by
  unfold B_X6_grow_77 at h
  refine g_iload_n 77 C 0 dX6_grow_77 rfl rfl ?_
  obtain ⟨o10, h⟩ := ob_e h
  obtain rfl := Option.some.inj h
  exact g_zret 78 C hA rfl (zb_n o10) dX6_grow_78 rfl
set_option maxHeartbeats 4000000 in
set_option maxRecDepth 100000 in
theorem k_X6_grow {l : Launch} {D : va_G} {k : Nat → ClassId} (h_t : Nat) (h_t_ends : Nat) (h_t_order : Nat) (h_t_notes : Nat) (h_t_worths : Nat) (h_t_lookedAt : Nat) (s_whole : Int32) (s_pieceCount : Int32) (s_lookedBack : Int32) (s_ends : Nat → Int32) (s_order : Nat → Int32) (s_notes : Nat → Int32) (v1 : Int32) (v2 : Int32) (res : Int32 × (Nat → Int32)) (h : f_X6_grow s_whole s_ends s_order s_notes v1 v2 = some res) (sz : Nat) : Met l yX6_grow wsX6_grow rm_X6_grow (cPre D k [.ref h_t, .int v1, .int v2] (W_X6_grow k h_t h_t_ends h_t_order h_t_notes h_t_worths h_t_lookedAt s_whole s_pieceCount s_lookedBack s_ends s_order s_notes) sz) (cQi D (W_X6_grow k h_t h_t_ends h_t_order h_t_notes h_t_worths h_t_lookedAt s_whole s_pieceCount s_lookedBack s_ends s_order s_notes) sz res.1 (W_X6_grow k h_t h_t_ends h_t_order h_t_notes h_t_worths h_t_lookedAt s_whole s_pieceCount s_lookedBack s_ends s_order res.2)) 0 0 (va_A (W_X6_grow k h_t h_t_ends h_t_order h_t_notes h_t_worths h_t_lookedAt s_whole s_pieceCount s_lookedBack s_ends s_order s_notes) sz) := by
  refine met_of [(0, .ref h_t), (1, .int v1), (2, .int v2)] (by decide) rfl rfl (Nat.le_of_ble_eq_true rfl) rfl ?_
  intro p e s m args below meth c A hA hsz C
  unfold f_X6_grow at h
  refine g_iconst 0 C (0 : Int32) dX6_grow_0 (by decide) ?_
  refine g_istore_n 1 C [(3, .int (0 : Int32)), (0, .ref h_t), (1, .int v1), (2, .int v2)] dX6_grow_1 rfl (by decide) rfl ?_
  refine g_aload_n 2 C 1 dX6_grow_2 rfl rfl ?_
  refine g_iload_n 3 C 3 dX6_grow_3 rfl rfl ?_
  obtain ⟨q1, e2, h⟩ := bi_e h
  refine g_callVi 4 C (As := [.int v2]) [0, 1] [2, 3] [2, 3, 0, 1] (W_X6_grow k h_t h_t_ends h_t_order h_t_notes h_t_worths h_t_lookedAt s_whole s_pieceCount s_lookedBack s_ends s_order s_notes) 0 (fun sz => k_X6_from h_t h_t_ends h_t_worths h_t_order h_t_notes h_t_lookedAt s_whole s_pieceCount s_lookedBack s_ends v2 q1 e2 sz) gX6_grow_X6_from rfl pd_X6_from rfl rfl rfl ⟨rfl, rfl, Nat.le_of_ble_eq_true rfl, Nat.le_of_ble_eq_true rfl⟩ (Nat.le_of_ble_eq_true rfl) ⟨Nat.zero_le _, Nat.zero_le _⟩ ⟨rfl, rfl, rfl, rfl, rfl, by decide, rfl⟩ rfl dX6_grow_4 ?_
  refine g_istore 7 C [(4, .int q1), (3, .int (0 : Int32)), (0, .ref h_t), (1, .int v1), (2, .int v2)] dX6_grow_7 (by decide) rfl ?_
  refine GG.sub (lv' := [(0, .ref h_t), (1, .int v1), (2, .int v2), (3, .int (0 : Int32)), (4, .int q1)]) [2, 3, 4, 1, 0] rfl ?_
  exact ok_L_X6_grow_9 C hA (fun t h => by
    refine GG.sub (lv' := [(3, .int t.1)]) [0] rfl ?_
    exact ok_B_X6_grow_77 C hA h) FUEL ((0 : Int32), q1, s_notes) h
end

/-! X6_daysGrowing -/
abbrev W_X6_daysGrowing (k : Nat → ClassId) (h_t : Nat) (h_t_notes : Nat) (h_t_ends : Nat) (h_t_order : Nat) (h_a0 : Nat) (h_t_worths : Nat) (h_t_lookedAt : Nat) (z0 : Nat) (s_whole : Int32) (s_pieceCount : Int32) (s_lookedBack : Int32) (s_notes : Nat → Int32) (s_ends : Nat → Int32) (s_order : Nat → Int32) (s_a0 : Nat → Int32) : va_W := [(h_t, .inr (6, [.ref h_t_worths, .ref h_t_order, .ref h_t_ends, .ref h_t_notes, .int s_whole, .int s_pieceCount, .int s_lookedBack, .ref h_t_lookedAt])), (h_t_notes, .inl (k 0, 2048, .inl s_notes)), (h_t_ends, .inl (k 0, 218, .inl s_ends)), (h_t_order, .inl (k 0, 2048, .inl s_order)), (h_a0, .inl (k 0, z0, .inl s_a0))]
def rm_X6_daysGrowing : Room := { frames := 4, cells := 0, slots := 0, locals := 92 }
theorem in_X6_daysGrowing_X6 : ∀ w ∈ u_ws RX6 TX6 8, w ∈ wsX6_daysGrowing := by decide +kernel
theorem fl_X6_daysGrowing_21 : Cond.fieldLink RX6 21 "LinkDays$Sets" "notes" "[I" ∈ wsX6_daysGrowing := by decide +kernel
theorem pd_X6_daysGrowing : yX6_daysGrowing.cls = RX6 ∧ yX6_daysGrowing.cls ≠ "java/lang/invoke/MethodHandle" ∧ yX6_daysGrowing.cls ≠ "java/lang/invoke/VarHandle" ∧ (parseMethodDescriptor yX6_daysGrowing.desc).map (fun d => d.parameters.length) = some 1 := by decide +kernel
section
variable {p : Program} {l : Launch} {e : Env} {s : State} {m : MethodId} {args : Array Value} {below : List Frame} {meth : Method} {c : Code} {D : va_G} {k : Nat → ClassId} {A : Nat → Prop} {w0 : va_W} {sz : Nat}
set_option maxHeartbeats 4000000 in
set_option maxRecDepth 100000 in
theorem ok_B_X6_daysGrowing_45 {h_t : Nat} {h_t_notes : Nat} {h_t_ends : Nat} {h_t_order : Nat} {h_a0 : Nat} {h_t_worths : Nat} {h_t_lookedAt : Nat} {z0 : Nat} {s_whole : Int32} {s_pieceCount : Int32} {s_lookedBack : Int32} {s_notes : Nat → Int32} {s_ends : Nat → Int32} {s_order : Nat → Int32} {s_a0 : Nat → Int32} {v2 : Int32} {res : Int32 × (Nat → Int32)} {kx rec : Int32 × (Nat → Int32) → Option (Int32 × (Nat → Int32))} (C : CX p s m args meth c cX6_daysGrowing wsX6_daysGrowing RX6 3 D k A (some .int)) (hA : A = va_A w0 sz) (hx : ∀ t : Int32 × (Nat → Int32), kx t = some res → GG p l e rm_X6_daysGrowing s m args below meth c (MQ below (cQi D w0 sz res.1 (W_X6_daysGrowing k h_t h_t_notes h_t_ends h_t_order h_a0 h_t_worths h_t_lookedAt z0 s_whole s_pieceCount s_lookedBack res.2 s_ends s_order s_a0)) args s 0 0 A) D A 3 0 0 51 [] [] (W_X6_daysGrowing k h_t h_t_notes h_t_ends h_t_order h_a0 h_t_worths h_t_lookedAt z0 s_whole s_pieceCount s_lookedBack t.2 s_ends s_order s_a0)) (hr : ∀ t : Int32 × (Nat → Int32), rec t = some res → GG p l e rm_X6_daysGrowing s m args below meth c (MQ below (cQi D w0 sz res.1 (W_X6_daysGrowing k h_t h_t_notes h_t_ends h_t_order h_a0 h_t_worths h_t_lookedAt z0 s_whole s_pieceCount s_lookedBack res.2 s_ends s_order s_a0)) args s 0 0 A) D A 3 0 0 9 [(0, .ref h_t), (1, .ref h_a0), (2, .int t.1)] [] (W_X6_daysGrowing k h_t h_t_notes h_t_ends h_t_order h_a0 h_t_worths h_t_lookedAt z0 s_whole s_pieceCount s_lookedBack t.2 s_ends s_order s_a0))  (h : B_X6_daysGrowing_45 kx rec s_notes v2 = some res) : GG p l e rm_X6_daysGrowing s m args below meth c (MQ below (cQi D w0 sz res.1 (W_X6_daysGrowing k h_t h_t_notes h_t_ends h_t_order h_a0 h_t_worths h_t_lookedAt z0 s_whole s_pieceCount s_lookedBack res.2 s_ends s_order s_a0)) args s 0 0 A) D A 3 0 0 45 [(0, .ref h_t), (1, .ref h_a0), (2, .int v2)] [] (W_X6_daysGrowing k h_t h_t_notes h_t_ends h_t_order h_a0 h_t_worths h_t_lookedAt z0 s_whole s_pieceCount s_lookedBack s_notes s_ends s_order s_a0) := by
  unfold B_X6_daysGrowing_45 at h
  refine g_iinc 45 C 2 (1 : Int32) [(2, .int (v2 + (1 : Int32))), (0, .ref h_t), (1, .ref h_a0)] dX6_daysGrowing_45 rfl (by decide) (by decide) rfl ?_
  refine g_goto 48 9 C dX6_daysGrowing_48 (by decide) ?_
  refine GG.sub (lv' := [(0, .ref h_t), (1, .ref h_a0), (2, .int (v2 + (1 : Int32)))]) [1, 2, 0] rfl ?_
  exact hr ((v2 + (1 : Int32)), s_notes) h
set_option maxHeartbeats 4000000 in
set_option maxRecDepth 100000 in
theorem ok_L_X6_daysGrowing_9 {h_t : Nat} {h_t_notes : Nat} {h_t_ends : Nat} {h_t_order : Nat} {h_a0 : Nat} {h_t_worths : Nat} {h_t_lookedAt : Nat} {z0 : Nat} {s_whole : Int32} {s_pieceCount : Int32} {s_lookedBack : Int32} {s_ends : Nat → Int32} {s_order : Nat → Int32} {s_a0 : Nat → Int32} {res : Int32 × (Nat → Int32)} (C : CX p s m args meth c cX6_daysGrowing wsX6_daysGrowing RX6 3 D k A (some .int)) (hA : A = va_A w0 sz) {kx : Int32 × (Nat → Int32) → Option (Int32 × (Nat → Int32))} (hx : ∀ t : Int32 × (Nat → Int32), kx t = some res → GG p l e rm_X6_daysGrowing s m args below meth c (MQ below (cQi D w0 sz res.1 (W_X6_daysGrowing k h_t h_t_notes h_t_ends h_t_order h_a0 h_t_worths h_t_lookedAt z0 s_whole s_pieceCount s_lookedBack res.2 s_ends s_order s_a0)) args s 0 0 A) D A 3 0 0 51 [] [] (W_X6_daysGrowing k h_t h_t_notes h_t_ends h_t_order h_a0 h_t_worths h_t_lookedAt z0 s_whole s_pieceCount s_lookedBack t.2 s_ends s_order s_a0)) : ∀ (n : Nat) (t : Int32 × (Nat → Int32)), L_X6_daysGrowing_9 z0 s_whole s_ends s_order s_a0 kx n t = some res → GG p l e rm_X6_daysGrowing s m args below meth c (MQ below (cQi D w0 sz res.1 (W_X6_daysGrowing k h_t h_t_notes h_t_ends h_t_order h_a0 h_t_worths h_t_lookedAt z0 s_whole s_pieceCount s_lookedBack res.2 s_ends s_order s_a0)) args s 0 0 A) D A 3 0 0 9 [(0, .ref h_t), (1, .ref h_a0), (2, .int t.1)] [] (W_X6_daysGrowing k h_t h_t_notes h_t_ends h_t_order h_a0 h_t_worths h_t_lookedAt z0 s_whole s_pieceCount s_lookedBack t.2 s_ends s_order s_a0) := by
  intro n
  induction n with
  | zero => intro t h; cases h
  | succ n ih =>
    intro t h
    obtain ⟨v2, s_notes⟩ := t
    replace h : LB_X6_daysGrowing_9 z0 s_whole s_ends s_order s_a0 kx (L_X6_daysGrowing_9 z0 s_whole s_ends s_order s_a0 kx n) v2 s_notes = some res := h
    have hr := ih
    unfold LB_X6_daysGrowing_9 at h
    refine g_iload_n 9 C 2 dX6_daysGrowing_9 rfl rfl ?_
    refine g_bipush 10 C (60 : Int32) dX6_daysGrowing_10 (by decide) ?_
    refine g_icmp_gt 12 51 C dX6_daysGrowing_12 (by decide) (fun c => ?_) (fun c => ?_)
    · replace h := it_e c h
      refine GG.sub (lv' := []) [] rfl ?_
      exact hx (v2, s_notes) h
    · replace h := if_e c h
      refine g_aload_n 15 C 1 dX6_daysGrowing_15 rfl rfl ?_
      refine g_iload_n 16 C 2 dX6_daysGrowing_16 rfl rfl ?_
      obtain ⟨o2, h⟩ := ob_e h
      refine g_iald 17 C 4 rfl o2 dX6_daysGrowing_17 ?_
      refine g_aload_n 18 C 1 dX6_daysGrowing_18 rfl rfl ?_
      refine g_iload_n 19 C 2 dX6_daysGrowing_19 rfl rfl ?_
      refine g_iconst 20 C (1 : Int32) dX6_daysGrowing_20 (by decide) ?_
      refine g_isub 21 C dX6_daysGrowing_21 ?_
      obtain ⟨o3, h⟩ := ob_e h
      refine g_iald 22 C 4 rfl o3 dX6_daysGrowing_22 ?_
      refine g_icmp_eq 23 45 C dX6_daysGrowing_23 (by decide) (fun c => ?_) (fun c => ?_)
      · replace h := it_e c h
        refine GG.sub (lv' := [(0, .ref h_t), (1, .ref h_a0), (2, .int v2)]) [0, 1, 2] rfl ?_
        exact ok_B_X6_daysGrowing_45 C hA hx hr h
      · replace h := if_e c h
        refine g_aload_n 26 C 0 dX6_daysGrowing_26 rfl rfl ?_
        refine g_aload_n 27 C 1 dX6_daysGrowing_27 rfl rfl ?_
        refine g_iload_n 28 C 2 dX6_daysGrowing_28 rfl rfl ?_
        refine g_iconst 29 C (1 : Int32) dX6_daysGrowing_29 (by decide) ?_
        refine g_isub 30 C dX6_daysGrowing_30 ?_
        obtain ⟨o4, h⟩ := ob_e h
        refine g_iald 31 C 4 rfl o4 dX6_daysGrowing_31 ?_
        refine g_aload_n 32 C 1 dX6_daysGrowing_32 rfl rfl ?_
        refine g_iload_n 33 C 2 dX6_daysGrowing_33 rfl rfl ?_
        obtain ⟨o5, h⟩ := ob_e h
        refine g_iald 34 C 4 rfl o5 dX6_daysGrowing_34 ?_
        obtain ⟨q6, e7, h⟩ := bi_e h
        refine g_callVi 35 C (As := [.int (s_a0 (v2 - (1 : Int32)).toNatClampNeg), .int (s_a0 v2.toNatClampNeg)]) [0, 2, 3, 1] [4] [1, 4, 2, 3, 0] (W_X6_daysGrowing k h_t h_t_notes h_t_ends h_t_order h_a0 h_t_worths h_t_lookedAt z0 s_whole s_pieceCount s_lookedBack q6.2 s_ends s_order s_a0) 0 (fun sz => k_X6_grow h_t h_t_ends h_t_order h_t_notes h_t_worths h_t_lookedAt s_whole s_pieceCount s_lookedBack s_ends s_order s_notes (s_a0 (v2 - (1 : Int32)).toNatClampNeg) (s_a0 v2.toNatClampNeg) q6 e7 sz) gX6_daysGrowing_X6_grow rfl pd_X6_grow rfl rfl rfl ⟨rfl, rfl, Nat.le_of_ble_eq_true rfl, Nat.le_of_ble_eq_true rfl⟩ (Nat.le_of_ble_eq_true rfl) ⟨Nat.zero_le _, Nat.zero_le _⟩ ⟨rfl, rfl, rfl, rfl, rfl, by decide, rfl⟩ rfl dX6_daysGrowing_35 ?_
        refine g_if_ne 38 45 C dX6_daysGrowing_38 (by decide) (fun c => ?_) (fun c => ?_)
        · replace h := if_e c h
          refine GG.sub (lv' := [(0, .ref h_t), (1, .ref h_a0), (2, .int v2)]) [0, 1, 2] rfl ?_
          exact ok_B_X6_daysGrowing_45 C hA hx hr h
        · replace h := it_e c h
          refine g_iload_n 41 C 2 dX6_daysGrowing_41 rfl rfl ?_
          refine g_iconst 42 C (1 : Int32) dX6_daysGrowing_42 (by decide) ?_
          refine g_isub 43 C dX6_daysGrowing_43 ?_
          obtain rfl := Option.some.inj h
          exact g_iret 44 C hA rfl dX6_daysGrowing_44 rfl
set_option maxHeartbeats 4000000 in
set_option maxRecDepth 100000 in
theorem ok_B_X6_daysGrowing_51 {h_t : Nat} {h_t_notes : Nat} {h_t_ends : Nat} {h_t_order : Nat} {h_a0 : Nat} {h_t_worths : Nat} {h_t_lookedAt : Nat} {z0 : Nat} {s_whole : Int32} {s_pieceCount : Int32} {s_lookedBack : Int32} {s_notes : Nat → Int32} {s_ends : Nat → Int32} {s_order : Nat → Int32} {s_a0 : Nat → Int32} {res : Int32 × (Nat → Int32)} (C : CX p s m args meth c cX6_daysGrowing wsX6_daysGrowing RX6 3 D k A (some .int)) (hA : A = va_A w0 sz)  (h : B_X6_daysGrowing_51 s_notes = some res) : GG p l e rm_X6_daysGrowing s m args below meth c (MQ below (cQi D w0 sz res.1 (W_X6_daysGrowing k h_t h_t_notes h_t_ends h_t_order h_a0 h_t_worths h_t_lookedAt z0 s_whole s_pieceCount s_lookedBack res.2 s_ends s_order s_a0)) args s 0 0 A) D A 3 0 0 51 [] [] (W_X6_daysGrowing k h_t h_t_notes h_t_ends h_t_order h_a0 h_t_worths h_t_lookedAt z0 s_whole s_pieceCount s_lookedBack s_notes s_ends s_order s_a0) := by
  unfold B_X6_daysGrowing_51 at h
  refine g_bipush 51 C (60 : Int32) dX6_daysGrowing_51 (by decide) ?_
  obtain rfl := Option.some.inj h
  exact g_iret 53 C hA rfl dX6_daysGrowing_53 rfl
set_option maxHeartbeats 4000000 in
set_option maxRecDepth 100000 in
theorem k_X6_daysGrowing {l : Launch} {D : va_G} {k : Nat → ClassId} (h_t : Nat) (h_t_notes : Nat) (h_t_ends : Nat) (h_t_order : Nat) (h_a0 : Nat) (h_t_worths : Nat) (h_t_lookedAt : Nat) (z0 : Nat) (s_whole : Int32) (s_pieceCount : Int32) (s_lookedBack : Int32) (s_notes : Nat → Int32) (s_ends : Nat → Int32) (s_order : Nat → Int32) (s_a0 : Nat → Int32) (res : Int32 × (Nat → Int32)) (h : f_X6_daysGrowing z0 s_whole s_notes s_ends s_order s_a0 = some res) (sz : Nat) : Met l yX6_daysGrowing wsX6_daysGrowing rm_X6_daysGrowing (cPre D k [.ref h_t, .ref h_a0] (W_X6_daysGrowing k h_t h_t_notes h_t_ends h_t_order h_a0 h_t_worths h_t_lookedAt z0 s_whole s_pieceCount s_lookedBack s_notes s_ends s_order s_a0) sz) (cQi D (W_X6_daysGrowing k h_t h_t_notes h_t_ends h_t_order h_a0 h_t_worths h_t_lookedAt z0 s_whole s_pieceCount s_lookedBack s_notes s_ends s_order s_a0) sz res.1 (W_X6_daysGrowing k h_t h_t_notes h_t_ends h_t_order h_a0 h_t_worths h_t_lookedAt z0 s_whole s_pieceCount s_lookedBack res.2 s_ends s_order s_a0)) 0 0 (va_A (W_X6_daysGrowing k h_t h_t_notes h_t_ends h_t_order h_a0 h_t_worths h_t_lookedAt z0 s_whole s_pieceCount s_lookedBack s_notes s_ends s_order s_a0) sz) := by
  refine met_of [(0, .ref h_t), (1, .ref h_a0)] (by decide) rfl rfl (Nat.le_of_ble_eq_true rfl) rfl ?_
  intro p e s m args below meth c A hA hsz C
  unfold f_X6_daysGrowing at h
  refine g_aload_n 0 C 0 dX6_daysGrowing_0 rfl rfl ?_
  refine g_get 1 C in_X6_daysGrowing_X6 0 3 rfl rfl (by decide) fl_X6_daysGrowing_21 rfl rfl dX6_daysGrowing_1 ?_
  refine g_iconst 4 C (0 : Int32) dX6_daysGrowing_4 (by decide) ?_
  refine g_iconst 5 C (1 : Int32) dX6_daysGrowing_5 (by decide) ?_
  obtain ⟨o1, h⟩ := ob_e h
  refine g_iast 6 C (W_X6_daysGrowing k h_t h_t_notes h_t_ends h_t_order h_a0 h_t_worths h_t_lookedAt z0 s_whole s_pieceCount s_lookedBack (upd s_notes (0 : Int32).toNatClampNeg (1 : Int32)) s_ends s_order s_a0) 1 rfl o1 rfl dX6_daysGrowing_6 ?_
  refine g_iconst 7 C (1 : Int32) dX6_daysGrowing_7 (by decide) ?_
  refine g_istore_n 8 C [(2, .int (1 : Int32)), (0, .ref h_t), (1, .ref h_a0)] dX6_daysGrowing_8 rfl (by decide) rfl ?_
  refine GG.sub (lv' := [(0, .ref h_t), (1, .ref h_a0), (2, .int (1 : Int32))]) [1, 2, 0] rfl ?_
  exact ok_L_X6_daysGrowing_9 C hA (fun t h => by
    refine GG.sub (lv' := []) [] rfl ?_
    exact ok_B_X6_daysGrowing_51 C hA h) FUEL ((1 : Int32), (upd s_notes (0 : Int32).toNatClampNeg (1 : Int32))) h
end

/-! X6_paysApart -/
abbrev W_X6_paysApart (k : Nat → ClassId) (h_t : Nat) (h_t_ends : Nat) (h_t_order : Nat) (h_t_worths : Nat) (h_t_notes : Nat) (h_t_lookedAt : Nat) (s_whole : Int32) (s_pieceCount : Int32) (s_lookedBack : Int32) (s_ends : Nat → Int32) (s_order : Nat → Int32) : va_W := [(h_t, .inr (6, [.ref h_t_worths, .ref h_t_order, .ref h_t_ends, .ref h_t_notes, .int s_whole, .int s_pieceCount, .int s_lookedBack, .ref h_t_lookedAt])), (h_t_ends, .inl (k 0, 218, .inl s_ends)), (h_t_order, .inl (k 0, 2048, .inl s_order))]
def rm_X6_paysApart : Room := { frames := 2, cells := 0, slots := 0, locals := 43 }
theorem in_X6_paysApart_X6 : ∀ w ∈ u_ws RX6 TX6 8, w ∈ wsX6_paysApart := by decide +kernel
theorem fl_X6_paysApart_15 : Cond.fieldLink RX6 15 "LinkDays$Sets" "order" "[I" ∈ wsX6_paysApart := by decide +kernel
theorem fl_X6_paysApart_42 : Cond.fieldLink RX6 42 "LinkDays$Sets" "whole" "I" ∈ wsX6_paysApart := by decide +kernel
theorem pd_X6_paysApart : yX6_paysApart.cls = RX6 ∧ yX6_paysApart.cls ≠ "java/lang/invoke/MethodHandle" ∧ yX6_paysApart.cls ≠ "java/lang/invoke/VarHandle" ∧ (parseMethodDescriptor yX6_paysApart.desc).map (fun d => d.parameters.length) = some 2 := by decide +kernel
section
variable {p : Program} {l : Launch} {e : Env} {s : State} {m : MethodId} {args : Array Value} {below : List Frame} {meth : Method} {c : Code} {D : va_G} {k : Nat → ClassId} {A : Nat → Prop} {w0 : va_W} {sz : Nat}
set_option maxHeartbeats 4000000 in
set_option maxRecDepth 100000 in
theorem ok_L_X6_paysApart_42 {h_t : Nat} {h_t_ends : Nat} {h_t_order : Nat} {h_t_worths : Nat} {h_t_notes : Nat} {h_t_lookedAt : Nat} {s_whole : Int32} {s_pieceCount : Int32} {s_lookedBack : Int32} {s_ends : Nat → Int32} {s_order : Nat → Int32} {v1 : Int32} {v2 : Int32} {v3 : Int32} {v4 : Int32} {res : Int32} (C : CX p s m args meth c cX6_paysApart wsX6_paysApart RX6 6 D k A (some .boolean)) (hA : A = va_A w0 sz) {kx : Int32 → Option (Int32)} (hx : ∀ t : Int32, kx t = some res → GG p l e rm_X6_paysApart s m args below meth c (MQ below (cQi D w0 sz res (W_X6_paysApart k h_t h_t_ends h_t_order h_t_worths h_t_notes h_t_lookedAt s_whole s_pieceCount s_lookedBack s_ends s_order)) args s 0 0 A) D A 6 0 0 74 [(0, .ref h_t), (1, .int v1), (2, .int v2), (3, .int v3), (4, .int v4)] [] (W_X6_paysApart k h_t h_t_ends h_t_order h_t_worths h_t_notes h_t_lookedAt s_whole s_pieceCount s_lookedBack s_ends s_order)) : ∀ (n : Nat) (t : Int32), L_X6_paysApart_42 s_order v3 v4 kx n t = some res → GG p l e rm_X6_paysApart s m args below meth c (MQ below (cQi D w0 sz res (W_X6_paysApart k h_t h_t_ends h_t_order h_t_worths h_t_notes h_t_lookedAt s_whole s_pieceCount s_lookedBack s_ends s_order)) args s 0 0 A) D A 6 0 0 42 [(0, .ref h_t), (1, .int v1), (2, .int v2), (3, .int v3), (4, .int v4), (5, .int t)] [] (W_X6_paysApart k h_t h_t_ends h_t_order h_t_worths h_t_notes h_t_lookedAt s_whole s_pieceCount s_lookedBack s_ends s_order) := by
  intro n
  induction n with
  | zero => intro t h; cases h
  | succ n ih =>
    intro t h
    obtain ⟨v5, rfl⟩ : ∃ z, z = t := ⟨_, rfl⟩
    replace h : LB_X6_paysApart_42 s_order v3 v4 kx (L_X6_paysApart_42 s_order v3 v4 kx n) v5 = some res := h
    have hr := ih
    unfold LB_X6_paysApart_42 at h
    refine g_iload 42 C 5 dX6_paysApart_42 rfl ?_
    refine g_iload_n 44 C 3 dX6_paysApart_44 rfl rfl ?_
    refine g_icmp_ge 45 74 C dX6_paysApart_45 (by decide) (fun c => ?_) (fun c => ?_)
    · replace h := it_e c h
      refine GG.sub (lv' := [(0, .ref h_t), (1, .int v1), (2, .int v2), (3, .int v3), (4, .int v4)]) [0, 1, 2, 3, 4] rfl ?_
      exact hx v5 h
    · replace h := if_e c h
      refine g_aload_n 48 C 0 dX6_paysApart_48 rfl rfl ?_
      refine g_get 49 C in_X6_paysApart_X6 0 1 rfl rfl (by decide) fl_X6_paysApart_15 rfl rfl dX6_paysApart_49 ?_
      refine g_iload 52 C 4 dX6_paysApart_52 rfl ?_
      obtain ⟨o9, h⟩ := ob_e h
      refine g_iald 54 C 2 rfl o9 dX6_paysApart_54 ?_
      refine g_aload_n 55 C 0 dX6_paysApart_55 rfl rfl ?_
      refine g_get 56 C in_X6_paysApart_X6 0 1 rfl rfl (by decide) fl_X6_paysApart_15 rfl rfl dX6_paysApart_56 ?_
      refine g_iload 59 C 5 dX6_paysApart_59 rfl ?_
      obtain ⟨o10, h⟩ := ob_e h
      refine g_iald 61 C 2 rfl o10 dX6_paysApart_61 ?_
      refine g_iand 62 C dX6_paysApart_62 ?_
      refine g_if_ne 63 68 C dX6_paysApart_63 (by decide) (fun c => ?_) (fun c => ?_)
      · replace h := if_e c h
        refine g_iinc 68 C 5 (1 : Int32) [(5, .int (v5 + (1 : Int32))), (0, .ref h_t), (1, .int v1), (2, .int v2), (3, .int v3), (4, .int v4)] dX6_paysApart_68 rfl (by decide) (by decide) rfl ?_
        refine g_goto 71 42 C dX6_paysApart_71 (by decide) ?_
        refine GG.sub (lv' := [(0, .ref h_t), (1, .int v1), (2, .int v2), (3, .int v3), (4, .int v4), (5, .int (v5 + (1 : Int32)))]) [1, 2, 3, 4, 5, 0] rfl ?_
        exact hr (v5 + (1 : Int32)) h
      · replace h := it_e c h
        refine g_iconst 66 C (1 : Int32) dX6_paysApart_66 (by decide) ?_
        obtain rfl := Option.some.inj h
        exact g_zret 67 C hA rfl rfl dX6_paysApart_67 rfl
set_option maxHeartbeats 4000000 in
set_option maxRecDepth 100000 in
theorem ok_B_X6_paysApart_74 {h_t : Nat} {h_t_ends : Nat} {h_t_order : Nat} {h_t_worths : Nat} {h_t_notes : Nat} {h_t_lookedAt : Nat} {s_whole : Int32} {s_pieceCount : Int32} {s_lookedBack : Int32} {s_ends : Nat → Int32} {s_order : Nat → Int32} {v1 : Int32} {v2 : Int32} {v3 : Int32} {v4 : Int32} {res : Int32} {kx rec : Int32 → Option (Int32)} (C : CX p s m args meth c cX6_paysApart wsX6_paysApart RX6 6 D k A (some .boolean)) (hA : A = va_A w0 sz) (hx : ∀ t : Int32, kx t = some res → GG p l e rm_X6_paysApart s m args below meth c (MQ below (cQi D w0 sz res (W_X6_paysApart k h_t h_t_ends h_t_order h_t_worths h_t_notes h_t_lookedAt s_whole s_pieceCount s_lookedBack s_ends s_order)) args s 0 0 A) D A 6 0 0 80 [] [] (W_X6_paysApart k h_t h_t_ends h_t_order h_t_worths h_t_notes h_t_lookedAt s_whole s_pieceCount s_lookedBack s_ends s_order)) (hr : ∀ t : Int32, rec t = some res → GG p l e rm_X6_paysApart s m args below meth c (MQ below (cQi D w0 sz res (W_X6_paysApart k h_t h_t_ends h_t_order h_t_worths h_t_notes h_t_lookedAt s_whole s_pieceCount s_lookedBack s_ends s_order)) args s 0 0 A) D A 6 0 0 25 [(0, .ref h_t), (1, .int v1), (2, .int v2), (3, .int v3), (4, .int t)] [] (W_X6_paysApart k h_t h_t_ends h_t_order h_t_worths h_t_notes h_t_lookedAt s_whole s_pieceCount s_lookedBack s_ends s_order))  (h : B_X6_paysApart_74 kx rec v4 = some res) : GG p l e rm_X6_paysApart s m args below meth c (MQ below (cQi D w0 sz res (W_X6_paysApart k h_t h_t_ends h_t_order h_t_worths h_t_notes h_t_lookedAt s_whole s_pieceCount s_lookedBack s_ends s_order)) args s 0 0 A) D A 6 0 0 74 [(0, .ref h_t), (1, .int v1), (2, .int v2), (3, .int v3), (4, .int v4)] [] (W_X6_paysApart k h_t h_t_ends h_t_order h_t_worths h_t_notes h_t_lookedAt s_whole s_pieceCount s_lookedBack s_ends s_order) := by
  unfold B_X6_paysApart_74 at h
  refine g_iinc 74 C 4 (1 : Int32) [(4, .int (v4 + (1 : Int32))), (0, .ref h_t), (1, .int v1), (2, .int v2), (3, .int v3)] dX6_paysApart_74 rfl (by decide) (by decide) rfl ?_
  refine g_goto 77 25 C dX6_paysApart_77 (by decide) ?_
  refine GG.sub (lv' := [(0, .ref h_t), (1, .int v1), (2, .int v2), (3, .int v3), (4, .int (v4 + (1 : Int32)))]) [1, 2, 3, 4, 0] rfl ?_
  exact hr (v4 + (1 : Int32)) h
set_option maxHeartbeats 4000000 in
set_option maxRecDepth 100000 in
theorem ok_L_X6_paysApart_25 {h_t : Nat} {h_t_ends : Nat} {h_t_order : Nat} {h_t_worths : Nat} {h_t_notes : Nat} {h_t_lookedAt : Nat} {s_whole : Int32} {s_pieceCount : Int32} {s_lookedBack : Int32} {s_ends : Nat → Int32} {s_order : Nat → Int32} {v1 : Int32} {v2 : Int32} {v3 : Int32} {res : Int32} (C : CX p s m args meth c cX6_paysApart wsX6_paysApart RX6 6 D k A (some .boolean)) (hA : A = va_A w0 sz) {kx : Int32 → Option (Int32)} (hx : ∀ t : Int32, kx t = some res → GG p l e rm_X6_paysApart s m args below meth c (MQ below (cQi D w0 sz res (W_X6_paysApart k h_t h_t_ends h_t_order h_t_worths h_t_notes h_t_lookedAt s_whole s_pieceCount s_lookedBack s_ends s_order)) args s 0 0 A) D A 6 0 0 80 [] [] (W_X6_paysApart k h_t h_t_ends h_t_order h_t_worths h_t_notes h_t_lookedAt s_whole s_pieceCount s_lookedBack s_ends s_order)) : ∀ (n : Nat) (t : Int32), L_X6_paysApart_25 s_whole s_ends s_order v1 v2 v3 kx n t = some res → GG p l e rm_X6_paysApart s m args below meth c (MQ below (cQi D w0 sz res (W_X6_paysApart k h_t h_t_ends h_t_order h_t_worths h_t_notes h_t_lookedAt s_whole s_pieceCount s_lookedBack s_ends s_order)) args s 0 0 A) D A 6 0 0 25 [(0, .ref h_t), (1, .int v1), (2, .int v2), (3, .int v3), (4, .int t)] [] (W_X6_paysApart k h_t h_t_ends h_t_order h_t_worths h_t_notes h_t_lookedAt s_whole s_pieceCount s_lookedBack s_ends s_order) := by
  intro n
  induction n with
  | zero => intro t h; cases h
  | succ n ih =>
    intro t h
    obtain ⟨v4, rfl⟩ : ∃ z, z = t := ⟨_, rfl⟩
    replace h : LB_X6_paysApart_25 s_whole s_ends s_order v1 v2 v3 kx (L_X6_paysApart_25 s_whole s_ends s_order v1 v2 v3 kx n) v4 = some res := h
    have hr := ih
    unfold LB_X6_paysApart_25 at h
    refine g_iload 25 C 4 dX6_paysApart_25 rfl ?_
    refine g_aload_n 27 C 0 dX6_paysApart_27 rfl rfl ?_
    refine g_iload_n 28 C 1 dX6_paysApart_28 rfl rfl ?_
    obtain ⟨q5, e6, h⟩ := bi_e h
    refine g_callVi 29 C (As := [.int v1]) [0, 1] [2] [1, 2, 0] (W_X6_paysApart k h_t h_t_ends h_t_order h_t_worths h_t_notes h_t_lookedAt s_whole s_pieceCount s_lookedBack s_ends s_order) 0 (fun sz => k_X6_to h_t h_t_ends h_t_worths h_t_order h_t_notes h_t_lookedAt s_whole s_pieceCount s_lookedBack s_ends v1 q5 e6 sz) gX6_paysApart_X6_to rfl pd_X6_to rfl rfl rfl ⟨rfl, rfl, Nat.le_of_ble_eq_true rfl, Nat.le_of_ble_eq_true rfl⟩ (Nat.le_of_ble_eq_true rfl) ⟨Nat.zero_le _, Nat.zero_le _⟩ ⟨rfl, rfl, rfl, rfl, rfl, by decide, rfl⟩ rfl dX6_paysApart_29 ?_
    refine g_icmp_ge 32 80 C dX6_paysApart_32 (by decide) (fun c => ?_) (fun c => ?_)
    · replace h := it_e c h
      refine GG.sub (lv' := []) [] rfl ?_
      exact hx v4 h
    · replace h := if_e c h
      refine g_aload_n 35 C 0 dX6_paysApart_35 rfl rfl ?_
      refine g_iload_n 36 C 2 dX6_paysApart_36 rfl rfl ?_
      obtain ⟨q7, e8, h⟩ := bi_e h
      refine g_callVi 37 C (As := [.int v2]) [0, 1] [2] [1, 2, 0] (W_X6_paysApart k h_t h_t_ends h_t_order h_t_worths h_t_notes h_t_lookedAt s_whole s_pieceCount s_lookedBack s_ends s_order) 0 (fun sz => k_X6_from h_t h_t_ends h_t_worths h_t_order h_t_notes h_t_lookedAt s_whole s_pieceCount s_lookedBack s_ends v2 q7 e8 sz) gX6_paysApart_X6_from rfl pd_X6_from rfl rfl rfl ⟨rfl, rfl, Nat.le_of_ble_eq_true rfl, Nat.le_of_ble_eq_true rfl⟩ (Nat.le_of_ble_eq_true rfl) ⟨Nat.zero_le _, Nat.zero_le _⟩ ⟨rfl, rfl, rfl, rfl, rfl, by decide, rfl⟩ rfl dX6_paysApart_37 ?_
      refine g_istore 40 C [(5, .int q7), (0, .ref h_t), (1, .int v1), (2, .int v2), (3, .int v3), (4, .int v4)] dX6_paysApart_40 (by decide) rfl ?_
      refine GG.sub (lv' := [(0, .ref h_t), (1, .int v1), (2, .int v2), (3, .int v3), (4, .int v4), (5, .int q7)]) [1, 2, 3, 4, 5, 0] rfl ?_
      exact ok_L_X6_paysApart_42 C hA (fun t h => by
        refine GG.sub (lv' := [(0, .ref h_t), (1, .int v1), (2, .int v2), (3, .int v3), (4, .int v4)]) [0, 1, 2, 3, 4] rfl ?_
        exact ok_B_X6_paysApart_74 C hA hx hr h) FUEL q7 h
set_option maxHeartbeats 4000000 in
set_option maxRecDepth 100000 in
theorem ok_B_X6_paysApart_80 {h_t : Nat} {h_t_ends : Nat} {h_t_order : Nat} {h_t_worths : Nat} {h_t_notes : Nat} {h_t_lookedAt : Nat} {s_whole : Int32} {s_pieceCount : Int32} {s_lookedBack : Int32} {s_ends : Nat → Int32} {s_order : Nat → Int32} {res : Int32} (C : CX p s m args meth c cX6_paysApart wsX6_paysApart RX6 6 D k A (some .boolean)) (hA : A = va_A w0 sz)  (h : B_X6_paysApart_80 = some res) : GG p l e rm_X6_paysApart s m args below meth c (MQ below (cQi D w0 sz res (W_X6_paysApart k h_t h_t_ends h_t_order h_t_worths h_t_notes h_t_lookedAt s_whole s_pieceCount s_lookedBack s_ends s_order)) args s 0 0 A) D A 6 0 0 80 [] [] (W_X6_paysApart k h_t h_t_ends h_t_order h_t_worths h_t_notes h_t_lookedAt s_whole s_pieceCount s_lookedBack s_ends s_order) := by
  unfold B_X6_paysApart_80 at h
  refine g_iconst 80 C (0 : Int32) dX6_paysApart_80 (by decide) ?_
  obtain rfl := Option.some.inj h
  exact g_zret 81 C hA rfl rfl dX6_paysApart_81 rfl
set_option maxHeartbeats 4000000 in
set_option maxRecDepth 100000 in
theorem k_X6_paysApart {l : Launch} {D : va_G} {k : Nat → ClassId} (h_t : Nat) (h_t_ends : Nat) (h_t_order : Nat) (h_t_worths : Nat) (h_t_notes : Nat) (h_t_lookedAt : Nat) (s_whole : Int32) (s_pieceCount : Int32) (s_lookedBack : Int32) (s_ends : Nat → Int32) (s_order : Nat → Int32) (v1 : Int32) (v2 : Int32) (res : Int32) (h : f_X6_paysApart s_whole s_ends s_order v1 v2 = some res) (sz : Nat) : Met l yX6_paysApart wsX6_paysApart rm_X6_paysApart (cPre D k [.ref h_t, .int v1, .int v2] (W_X6_paysApart k h_t h_t_ends h_t_order h_t_worths h_t_notes h_t_lookedAt s_whole s_pieceCount s_lookedBack s_ends s_order) sz) (cQi D (W_X6_paysApart k h_t h_t_ends h_t_order h_t_worths h_t_notes h_t_lookedAt s_whole s_pieceCount s_lookedBack s_ends s_order) sz res (W_X6_paysApart k h_t h_t_ends h_t_order h_t_worths h_t_notes h_t_lookedAt s_whole s_pieceCount s_lookedBack s_ends s_order)) 0 0 (va_A (W_X6_paysApart k h_t h_t_ends h_t_order h_t_worths h_t_notes h_t_lookedAt s_whole s_pieceCount s_lookedBack s_ends s_order) sz) := by
  refine met_of [(0, .ref h_t), (1, .int v1), (2, .int v2)] (by decide) rfl rfl (Nat.le_of_ble_eq_true rfl) rfl ?_
  intro p e s m args below meth c A hA hsz C
  unfold f_X6_paysApart at h
  refine g_iload_n 0 C 1 dX6_paysApart_0 rfl rfl ?_
  refine g_iload_n 1 C 2 dX6_paysApart_1 rfl rfl ?_
  refine g_iadd 2 C dX6_paysApart_2 ?_
  refine g_aload_n 3 C 0 dX6_paysApart_3 rfl rfl ?_
  refine g_get 4 C in_X6_paysApart_X6 0 4 rfl rfl (by decide) fl_X6_paysApart_42 rfl rfl dX6_paysApart_4 ?_
  refine g_icmp_le 7 12 C dX6_paysApart_7 (by decide) (fun c => ?_) (fun c => ?_)
  · replace h := it_e c h
    refine g_aload_n 12 C 0 dX6_paysApart_12 rfl rfl ?_
    refine g_iload_n 13 C 2 dX6_paysApart_13 rfl rfl ?_
    obtain ⟨q1, e2, h⟩ := bi_e h
    refine g_callVi 14 C (As := [.int v2]) [0, 1] [2] [1, 2, 0] (W_X6_paysApart k h_t h_t_ends h_t_order h_t_worths h_t_notes h_t_lookedAt s_whole s_pieceCount s_lookedBack s_ends s_order) 0 (fun sz => k_X6_to h_t h_t_ends h_t_worths h_t_order h_t_notes h_t_lookedAt s_whole s_pieceCount s_lookedBack s_ends v2 q1 e2 sz) gX6_paysApart_X6_to rfl pd_X6_to rfl rfl rfl ⟨rfl, rfl, Nat.le_of_ble_eq_true rfl, Nat.le_of_ble_eq_true rfl⟩ (Nat.le_of_ble_eq_true rfl) ⟨Nat.zero_le _, Nat.zero_le _⟩ ⟨rfl, rfl, rfl, rfl, rfl, by decide, rfl⟩ rfl dX6_paysApart_14 ?_
    refine g_istore_n 17 C [(3, .int q1), (0, .ref h_t), (1, .int v1), (2, .int v2)] dX6_paysApart_17 rfl (by decide) rfl ?_
    refine g_aload_n 18 C 1 dX6_paysApart_18 rfl rfl ?_
    refine g_iload_n 19 C 2 dX6_paysApart_19 rfl rfl ?_
    obtain ⟨q3, e4, h⟩ := bi_e h
    refine g_callVi 20 C (As := [.int v1]) [0, 1] [2] [1, 2, 0] (W_X6_paysApart k h_t h_t_ends h_t_order h_t_worths h_t_notes h_t_lookedAt s_whole s_pieceCount s_lookedBack s_ends s_order) 0 (fun sz => k_X6_from h_t h_t_ends h_t_worths h_t_order h_t_notes h_t_lookedAt s_whole s_pieceCount s_lookedBack s_ends v1 q3 e4 sz) gX6_paysApart_X6_from rfl pd_X6_from rfl rfl rfl ⟨rfl, rfl, Nat.le_of_ble_eq_true rfl, Nat.le_of_ble_eq_true rfl⟩ (Nat.le_of_ble_eq_true rfl) ⟨Nat.zero_le _, Nat.zero_le _⟩ ⟨rfl, rfl, rfl, rfl, rfl, by decide, rfl⟩ rfl dX6_paysApart_20 ?_
    refine g_istore 23 C [(4, .int q3), (3, .int q1), (0, .ref h_t), (1, .int v1), (2, .int v2)] dX6_paysApart_23 (by decide) rfl ?_
    refine GG.sub (lv' := [(0, .ref h_t), (1, .int v1), (2, .int v2), (3, .int q1), (4, .int q3)]) [2, 3, 4, 1, 0] rfl ?_
    exact ok_L_X6_paysApart_25 C hA (fun t h => by
      refine GG.sub (lv' := []) [] rfl ?_
      exact ok_B_X6_paysApart_80 C hA h) FUEL q3 h
  · replace h := if_e c h
    refine g_iconst 10 C (0 : Int32) dX6_paysApart_10 (by decide) ?_
    obtain rfl := Option.some.inj h
    exact g_zret 11 C hA rfl rfl dX6_paysApart_11 rfl
end

/-! X6_daysApart -/
abbrev W_X6_daysApart (k : Nat → ClassId) (h_t : Nat) (h_t_ends : Nat) (h_t_order : Nat) (h_a0 : Nat) (h_t_worths : Nat) (h_t_notes : Nat) (h_t_lookedAt : Nat) (z0 : Nat) (s_whole : Int32) (s_pieceCount : Int32) (s_lookedBack : Int32) (s_ends : Nat → Int32) (s_order : Nat → Int32) (s_a0 : Nat → Int32) : va_W := [(h_t, .inr (6, [.ref h_t_worths, .ref h_t_order, .ref h_t_ends, .ref h_t_notes, .int s_whole, .int s_pieceCount, .int s_lookedBack, .ref h_t_lookedAt])), (h_t_ends, .inl (k 0, 218, .inl s_ends)), (h_t_order, .inl (k 0, 2048, .inl s_order)), (h_a0, .inl (k 0, z0, .inl s_a0))]
def rm_X6_daysApart : Room := { frames := 3, cells := 0, slots := 0, locals := 68 }
theorem pd_X6_daysApart : yX6_daysApart.cls = RX6 ∧ yX6_daysApart.cls ≠ "java/lang/invoke/MethodHandle" ∧ yX6_daysApart.cls ≠ "java/lang/invoke/VarHandle" ∧ (parseMethodDescriptor yX6_daysApart.desc).map (fun d => d.parameters.length) = some 2 := by decide +kernel
section
variable {p : Program} {l : Launch} {e : Env} {s : State} {m : MethodId} {args : Array Value} {below : List Frame} {meth : Method} {c : Code} {D : va_G} {k : Nat → ClassId} {A : Nat → Prop} {w0 : va_W} {sz : Nat}
set_option maxHeartbeats 4000000 in
set_option maxRecDepth 100000 in
theorem ok_L_X6_daysApart_2 {h_t : Nat} {h_t_ends : Nat} {h_t_order : Nat} {h_a0 : Nat} {h_t_worths : Nat} {h_t_notes : Nat} {h_t_lookedAt : Nat} {z0 : Nat} {s_whole : Int32} {s_pieceCount : Int32} {s_lookedBack : Int32} {s_ends : Nat → Int32} {s_order : Nat → Int32} {s_a0 : Nat → Int32} {v2 : Int32} {res : Int32} (C : CX p s m args meth c cX6_daysApart wsX6_daysApart RX6 4 D k A (some .int)) (hA : A = va_A w0 sz) {kx : Int32 → Option (Int32)} (hx : ∀ t : Int32, kx t = some res → GG p l e rm_X6_daysApart s m args below meth c (MQ below (cQi D w0 sz res (W_X6_daysApart k h_t h_t_ends h_t_order h_a0 h_t_worths h_t_notes h_t_lookedAt z0 s_whole s_pieceCount s_lookedBack s_ends s_order s_a0)) args s 0 0 A) D A 4 0 0 31 [(3, .int t)] [] (W_X6_daysApart k h_t h_t_ends h_t_order h_a0 h_t_worths h_t_notes h_t_lookedAt z0 s_whole s_pieceCount s_lookedBack s_ends s_order s_a0)) : ∀ (n : Nat) (t : Int32), L_X6_daysApart_2 z0 s_whole s_ends s_order s_a0 v2 kx n t = some res → GG p l e rm_X6_daysApart s m args below meth c (MQ below (cQi D w0 sz res (W_X6_daysApart k h_t h_t_ends h_t_order h_a0 h_t_worths h_t_notes h_t_lookedAt z0 s_whole s_pieceCount s_lookedBack s_ends s_order s_a0)) args s 0 0 A) D A 4 0 0 2 [(0, .ref h_t), (1, .ref h_a0), (2, .int v2), (3, .int t)] [] (W_X6_daysApart k h_t h_t_ends h_t_order h_a0 h_t_worths h_t_notes h_t_lookedAt z0 s_whole s_pieceCount s_lookedBack s_ends s_order s_a0) := by
  intro n
  induction n with
  | zero => intro t h; cases h
  | succ n ih =>
    intro t h
    obtain ⟨v3, rfl⟩ : ∃ z, z = t := ⟨_, rfl⟩
    replace h : LB_X6_daysApart_2 z0 s_whole s_ends s_order s_a0 v2 kx (L_X6_daysApart_2 z0 s_whole s_ends s_order s_a0 v2 kx n) v3 = some res := h
    have hr := ih
    unfold LB_X6_daysApart_2 at h
    refine g_iload_n 2 C 3 dX6_daysApart_2 rfl rfl ?_
    refine g_bipush 3 C (60 : Int32) dX6_daysApart_3 (by decide) ?_
    refine g_icmp_ge 5 31 C dX6_daysApart_5 (by decide) (fun c => ?_) (fun c => ?_)
    · replace h := it_e c h
      refine GG.sub (lv' := [(3, .int v3)]) [3] rfl ?_
      exact hx v3 h
    · replace h := if_e c h
      refine g_aload_n 8 C 0 dX6_daysApart_8 rfl rfl ?_
      refine g_aload_n 9 C 1 dX6_daysApart_9 rfl rfl ?_
      refine g_iload_n 10 C 3 dX6_daysApart_10 rfl rfl ?_
      refine g_iconst 11 C (1 : Int32) dX6_daysApart_11 (by decide) ?_
      refine g_iadd 12 C dX6_daysApart_12 ?_
      obtain ⟨o1, h⟩ := ob_e h
      refine g_iald 13 C 3 rfl o1 dX6_daysApart_13 ?_
      refine g_iload_n 14 C 2 dX6_daysApart_14 rfl rfl ?_
      refine g_iload_n 15 C 3 dX6_daysApart_15 rfl rfl ?_
      refine g_iconst 16 C (1 : Int32) dX6_daysApart_16 (by decide) ?_
      refine g_iadd 17 C dX6_daysApart_17 ?_
      refine g_imul 18 C dX6_daysApart_18 ?_
      obtain ⟨q2, e3, h⟩ := bi_e h
      refine g_callVi 19 C (As := [.int (s_a0 (v3 + (1 : Int32)).toNatClampNeg), .int (v2 * (v3 + (1 : Int32)))]) [0, 1, 2] [3] [1, 2, 3, 0] (W_X6_daysApart k h_t h_t_ends h_t_order h_a0 h_t_worths h_t_notes h_t_lookedAt z0 s_whole s_pieceCount s_lookedBack s_ends s_order s_a0) 0 (fun sz => k_X6_paysApart h_t h_t_ends h_t_order h_t_worths h_t_notes h_t_lookedAt s_whole s_pieceCount s_lookedBack s_ends s_order (s_a0 (v3 + (1 : Int32)).toNatClampNeg) (v2 * (v3 + (1 : Int32))) q2 e3 sz) gX6_daysApart_X6_paysApart rfl pd_X6_paysApart rfl rfl rfl ⟨rfl, rfl, Nat.le_of_ble_eq_true rfl, Nat.le_of_ble_eq_true rfl⟩ (Nat.le_of_ble_eq_true rfl) ⟨Nat.zero_le _, Nat.zero_le _⟩ ⟨rfl, rfl, rfl, rfl, rfl, by decide, rfl⟩ rfl dX6_daysApart_19 ?_
      refine g_if_eq 22 31 C dX6_daysApart_22 (by decide) (fun c => ?_) (fun c => ?_)
      · replace h := it_e c h
        refine GG.sub (lv' := [(3, .int v3)]) [3] rfl ?_
        exact hx v3 h
      · replace h := if_e c h
        refine g_iinc 25 C 3 (1 : Int32) [(3, .int (v3 + (1 : Int32))), (0, .ref h_t), (1, .ref h_a0), (2, .int v2)] dX6_daysApart_25 rfl (by decide) (by decide) rfl ?_
        refine g_goto 28 2 C dX6_daysApart_28 (by decide) ?_
        refine GG.sub (lv' := [(0, .ref h_t), (1, .ref h_a0), (2, .int v2), (3, .int (v3 + (1 : Int32)))]) [1, 2, 3, 0] rfl ?_
        exact hr (v3 + (1 : Int32)) h
set_option maxHeartbeats 4000000 in
set_option maxRecDepth 100000 in
theorem ok_B_X6_daysApart_31 {h_t : Nat} {h_t_ends : Nat} {h_t_order : Nat} {h_a0 : Nat} {h_t_worths : Nat} {h_t_notes : Nat} {h_t_lookedAt : Nat} {z0 : Nat} {s_whole : Int32} {s_pieceCount : Int32} {s_lookedBack : Int32} {s_ends : Nat → Int32} {s_order : Nat → Int32} {s_a0 : Nat → Int32} {v3 : Int32} {res : Int32} (C : CX p s m args meth c cX6_daysApart wsX6_daysApart RX6 4 D k A (some .int)) (hA : A = va_A w0 sz)  (h : B_X6_daysApart_31 v3 = some res) : GG p l e rm_X6_daysApart s m args below meth c (MQ below (cQi D w0 sz res (W_X6_daysApart k h_t h_t_ends h_t_order h_a0 h_t_worths h_t_notes h_t_lookedAt z0 s_whole s_pieceCount s_lookedBack s_ends s_order s_a0)) args s 0 0 A) D A 4 0 0 31 [(3, .int v3)] [] (W_X6_daysApart k h_t h_t_ends h_t_order h_a0 h_t_worths h_t_notes h_t_lookedAt z0 s_whole s_pieceCount s_lookedBack s_ends s_order s_a0) := by
  unfold B_X6_daysApart_31 at h
  refine g_iload_n 31 C 0 dX6_daysApart_31 rfl rfl ?_
  obtain rfl := Option.some.inj h
  exact g_iret 32 C hA rfl dX6_daysApart_32 rfl
set_option maxHeartbeats 4000000 in
set_option maxRecDepth 100000 in
theorem k_X6_daysApart {l : Launch} {D : va_G} {k : Nat → ClassId} (h_t : Nat) (h_t_ends : Nat) (h_t_order : Nat) (h_a0 : Nat) (h_t_worths : Nat) (h_t_notes : Nat) (h_t_lookedAt : Nat) (z0 : Nat) (s_whole : Int32) (s_pieceCount : Int32) (s_lookedBack : Int32) (s_ends : Nat → Int32) (s_order : Nat → Int32) (s_a0 : Nat → Int32) (v2 : Int32) (res : Int32) (h : f_X6_daysApart z0 s_whole s_ends s_order s_a0 v2 = some res) (sz : Nat) : Met l yX6_daysApart wsX6_daysApart rm_X6_daysApart (cPre D k [.ref h_t, .ref h_a0, .int v2] (W_X6_daysApart k h_t h_t_ends h_t_order h_a0 h_t_worths h_t_notes h_t_lookedAt z0 s_whole s_pieceCount s_lookedBack s_ends s_order s_a0) sz) (cQi D (W_X6_daysApart k h_t h_t_ends h_t_order h_a0 h_t_worths h_t_notes h_t_lookedAt z0 s_whole s_pieceCount s_lookedBack s_ends s_order s_a0) sz res (W_X6_daysApart k h_t h_t_ends h_t_order h_a0 h_t_worths h_t_notes h_t_lookedAt z0 s_whole s_pieceCount s_lookedBack s_ends s_order s_a0)) 0 0 (va_A (W_X6_daysApart k h_t h_t_ends h_t_order h_a0 h_t_worths h_t_notes h_t_lookedAt z0 s_whole s_pieceCount s_lookedBack s_ends s_order s_a0) sz) := by
  refine met_of [(0, .ref h_t), (1, .ref h_a0), (2, .int v2)] (by decide) rfl rfl (Nat.le_of_ble_eq_true rfl) rfl ?_
  intro p e s m args below meth c A hA hsz C
  unfold f_X6_daysApart at h
  refine g_iconst 0 C (0 : Int32) dX6_daysApart_0 (by decide) ?_
  refine g_istore_n 1 C [(3, .int (0 : Int32)), (0, .ref h_t), (1, .ref h_a0), (2, .int v2)] dX6_daysApart_1 rfl (by decide) rfl ?_
  refine GG.sub (lv' := [(0, .ref h_t), (1, .ref h_a0), (2, .int v2), (3, .int (0 : Int32))]) [1, 2, 3, 0] rfl ?_
  exact ok_L_X6_daysApart_2 C hA (fun t h => by
    refine GG.sub (lv' := [(3, .int t)]) [0] rfl ?_
    exact ok_B_X6_daysApart_31 C hA h) FUEL (0 : Int32) h
end

/-! J6_bitCount_0f7a4 -/
abbrev W_J6_bitCount_0f7a4 (k : Nat → ClassId) : va_W := []
def rm_J6_bitCount_0f7a4 : Room := { frames := 0, cells := 0, slots := 0, locals := 0 }
theorem ct_J6_bitCount_0f7a4_265 : Cond.constant RJ6 265 (1431655765 : Int32) ∈ wsJ6_bitCount_0f7a4 := by decide +kernel
theorem ct_J6_bitCount_0f7a4_266 : Cond.constant RJ6 266 (858993459 : Int32) ∈ wsJ6_bitCount_0f7a4 := by decide +kernel
theorem ct_J6_bitCount_0f7a4_267 : Cond.constant RJ6 267 (252645135 : Int32) ∈ wsJ6_bitCount_0f7a4 := by decide +kernel
theorem pd_J6_bitCount_0f7a4 : yJ6_bitCount_0f7a4.cls ≠ "java/lang/invoke/MethodHandle" ∧ yJ6_bitCount_0f7a4.cls ≠ "java/lang/invoke/VarHandle" ∧ (parseMethodDescriptor yJ6_bitCount_0f7a4.desc).map (fun d => d.parameters.length) = some 1 := by decide +kernel
section
variable {p : Program} {l : Launch} {e : Env} {s : State} {m : MethodId} {args : Array Value} {below : List Frame} {meth : Method} {c : Code} {D : va_G} {k : Nat → ClassId} {A : Nat → Prop} {w0 : va_W} {sz : Nat}
set_option maxHeartbeats 4000000 in
set_option maxRecDepth 100000 in
theorem k_J6_bitCount_0f7a4 {l : Launch} {D : va_G} {k : Nat → ClassId} (v0 : Int32) (res : Int32) (h : f_J6_bitCount_0f7a4 v0 = some res) (sz : Nat) : Met l yJ6_bitCount_0f7a4 wsJ6_bitCount_0f7a4 rm_J6_bitCount_0f7a4 (cPre D k [.int v0] (W_J6_bitCount_0f7a4 k) sz) (cQi D (W_J6_bitCount_0f7a4 k) sz res (W_J6_bitCount_0f7a4 k)) 0 0 (va_A (W_J6_bitCount_0f7a4 k) sz) := by
  refine met_of [(0, .int v0)] (by decide) rfl rfl (Nat.le_of_ble_eq_true rfl) rfl ?_
  intro p e s m args below meth c A hA hsz C
  unfold f_J6_bitCount_0f7a4 at h
  refine g_iload_n 0 C 0 dJ6_bitCount_0f7a4_0 rfl rfl ?_
  refine g_iload_n 1 C 0 dJ6_bitCount_0f7a4_1 rfl rfl ?_
  refine g_iconst 2 C (1 : Int32) dJ6_bitCount_0f7a4_2 (by decide) ?_
  refine g_iushr 3 C dJ6_bitCount_0f7a4_3 ?_
  refine g_ldcw 4 C (1431655765 : Int32) dJ6_bitCount_0f7a4_4 ct_J6_bitCount_0f7a4_265 ?_
  refine g_iand 7 C dJ6_bitCount_0f7a4_7 ?_
  refine g_isub 8 C dJ6_bitCount_0f7a4_8 ?_
  refine g_istore_n 9 C [(0, .int (v0 - ((v0.toUInt32 >>> ((1 : Int32).toUInt32 &&& Int32.toUInt32 31)).toInt32 &&& (1431655765 : Int32))))] dJ6_bitCount_0f7a4_9 rfl (by decide) rfl ?_
  refine g_iload_n 10 C 0 dJ6_bitCount_0f7a4_10 rfl rfl ?_
  refine g_ldcw 11 C (858993459 : Int32) dJ6_bitCount_0f7a4_11 ct_J6_bitCount_0f7a4_266 ?_
  refine g_iand 14 C dJ6_bitCount_0f7a4_14 ?_
  refine g_iload_n 15 C 0 dJ6_bitCount_0f7a4_15 rfl rfl ?_
  refine g_iconst 16 C (2 : Int32) dJ6_bitCount_0f7a4_16 (by decide) ?_
  refine g_iushr 17 C dJ6_bitCount_0f7a4_17 ?_
  refine g_ldcw 18 C (858993459 : Int32) dJ6_bitCount_0f7a4_18 ct_J6_bitCount_0f7a4_266 ?_
  refine g_iand 21 C dJ6_bitCount_0f7a4_21 ?_
  refine g_iadd 22 C dJ6_bitCount_0f7a4_22 ?_
  refine g_istore_n 23 C [(0, .int (((v0 - ((v0.toUInt32 >>> ((1 : Int32).toUInt32 &&& Int32.toUInt32 31)).toInt32 &&& (1431655765 : Int32))) &&& (858993459 : Int32)) + (((v0 - ((v0.toUInt32 >>> ((1 : Int32).toUInt32 &&& Int32.toUInt32 31)).toInt32 &&& (1431655765 : Int32))).toUInt32 >>> ((2 : Int32).toUInt32 &&& Int32.toUInt32 31)).toInt32 &&& (858993459 : Int32))))] dJ6_bitCount_0f7a4_23 rfl (by decide) rfl ?_
  refine g_iload_n 24 C 0 dJ6_bitCount_0f7a4_24 rfl rfl ?_
  refine g_iload_n 25 C 0 dJ6_bitCount_0f7a4_25 rfl rfl ?_
  refine g_iconst 26 C (4 : Int32) dJ6_bitCount_0f7a4_26 (by decide) ?_
  refine g_iushr 27 C dJ6_bitCount_0f7a4_27 ?_
  refine g_iadd 28 C dJ6_bitCount_0f7a4_28 ?_
  refine g_ldcw 29 C (252645135 : Int32) dJ6_bitCount_0f7a4_29 ct_J6_bitCount_0f7a4_267 ?_
  refine g_iand 32 C dJ6_bitCount_0f7a4_32 ?_
  refine g_istore_n 33 C [(0, .int (((((v0 - ((v0.toUInt32 >>> ((1 : Int32).toUInt32 &&& Int32.toUInt32 31)).toInt32 &&& (1431655765 : Int32))) &&& (858993459 : Int32)) + (((v0 - ((v0.toUInt32 >>> ((1 : Int32).toUInt32 &&& Int32.toUInt32 31)).toInt32 &&& (1431655765 : Int32))).toUInt32 >>> ((2 : Int32).toUInt32 &&& Int32.toUInt32 31)).toInt32 &&& (858993459 : Int32))) + ((((v0 - ((v0.toUInt32 >>> ((1 : Int32).toUInt32 &&& Int32.toUInt32 31)).toInt32 &&& (1431655765 : Int32))) &&& (858993459 : Int32)) + (((v0 - ((v0.toUInt32 >>> ((1 : Int32).toUInt32 &&& Int32.toUInt32 31)).toInt32 &&& (1431655765 : Int32))).toUInt32 >>> ((2 : Int32).toUInt32 &&& Int32.toUInt32 31)).toInt32 &&& (858993459 : Int32))).toUInt32 >>> ((4 : Int32).toUInt32 &&& Int32.toUInt32 31)).toInt32) &&& (252645135 : Int32)))] dJ6_bitCount_0f7a4_33 rfl (by decide) rfl ?_
  refine g_iload_n 34 C 0 dJ6_bitCount_0f7a4_34 rfl rfl ?_
  refine g_iload_n 35 C 0 dJ6_bitCount_0f7a4_35 rfl rfl ?_
  refine g_bipush 36 C (8 : Int32) dJ6_bitCount_0f7a4_36 (by decide) ?_
  refine g_iushr 38 C dJ6_bitCount_0f7a4_38 ?_
  refine g_iadd 39 C dJ6_bitCount_0f7a4_39 ?_
  refine g_istore_n 40 C [(0, .int ((((((v0 - ((v0.toUInt32 >>> ((1 : Int32).toUInt32 &&& Int32.toUInt32 31)).toInt32 &&& (1431655765 : Int32))) &&& (858993459 : Int32)) + (((v0 - ((v0.toUInt32 >>> ((1 : Int32).toUInt32 &&& Int32.toUInt32 31)).toInt32 &&& (1431655765 : Int32))).toUInt32 >>> ((2 : Int32).toUInt32 &&& Int32.toUInt32 31)).toInt32 &&& (858993459 : Int32))) + ((((v0 - ((v0.toUInt32 >>> ((1 : Int32).toUInt32 &&& Int32.toUInt32 31)).toInt32 &&& (1431655765 : Int32))) &&& (858993459 : Int32)) + (((v0 - ((v0.toUInt32 >>> ((1 : Int32).toUInt32 &&& Int32.toUInt32 31)).toInt32 &&& (1431655765 : Int32))).toUInt32 >>> ((2 : Int32).toUInt32 &&& Int32.toUInt32 31)).toInt32 &&& (858993459 : Int32))).toUInt32 >>> ((4 : Int32).toUInt32 &&& Int32.toUInt32 31)).toInt32) &&& (252645135 : Int32)) + ((((((v0 - ((v0.toUInt32 >>> ((1 : Int32).toUInt32 &&& Int32.toUInt32 31)).toInt32 &&& (1431655765 : Int32))) &&& (858993459 : Int32)) + (((v0 - ((v0.toUInt32 >>> ((1 : Int32).toUInt32 &&& Int32.toUInt32 31)).toInt32 &&& (1431655765 : Int32))).toUInt32 >>> ((2 : Int32).toUInt32 &&& Int32.toUInt32 31)).toInt32 &&& (858993459 : Int32))) + ((((v0 - ((v0.toUInt32 >>> ((1 : Int32).toUInt32 &&& Int32.toUInt32 31)).toInt32 &&& (1431655765 : Int32))) &&& (858993459 : Int32)) + (((v0 - ((v0.toUInt32 >>> ((1 : Int32).toUInt32 &&& Int32.toUInt32 31)).toInt32 &&& (1431655765 : Int32))).toUInt32 >>> ((2 : Int32).toUInt32 &&& Int32.toUInt32 31)).toInt32 &&& (858993459 : Int32))).toUInt32 >>> ((4 : Int32).toUInt32 &&& Int32.toUInt32 31)).toInt32) &&& (252645135 : Int32)).toUInt32 >>> ((8 : Int32).toUInt32 &&& Int32.toUInt32 31)).toInt32))] dJ6_bitCount_0f7a4_40 rfl (by decide) rfl ?_
  refine g_iload_n 41 C 0 dJ6_bitCount_0f7a4_41 rfl rfl ?_
  refine g_iload_n 42 C 0 dJ6_bitCount_0f7a4_42 rfl rfl ?_
  refine g_bipush 43 C (16 : Int32) dJ6_bitCount_0f7a4_43 (by decide) ?_
  refine g_iushr 45 C dJ6_bitCount_0f7a4_45 ?_
  refine g_iadd 46 C dJ6_bitCount_0f7a4_46 ?_
  refine g_istore_n 47 C [(0, .int (((((((v0 - ((v0.toUInt32 >>> ((1 : Int32).toUInt32 &&& Int32.toUInt32 31)).toInt32 &&& (1431655765 : Int32))) &&& (858993459 : Int32)) + (((v0 - ((v0.toUInt32 >>> ((1 : Int32).toUInt32 &&& Int32.toUInt32 31)).toInt32 &&& (1431655765 : Int32))).toUInt32 >>> ((2 : Int32).toUInt32 &&& Int32.toUInt32 31)).toInt32 &&& (858993459 : Int32))) + ((((v0 - ((v0.toUInt32 >>> ((1 : Int32).toUInt32 &&& Int32.toUInt32 31)).toInt32 &&& (1431655765 : Int32))) &&& (858993459 : Int32)) + (((v0 - ((v0.toUInt32 >>> ((1 : Int32).toUInt32 &&& Int32.toUInt32 31)).toInt32 &&& (1431655765 : Int32))).toUInt32 >>> ((2 : Int32).toUInt32 &&& Int32.toUInt32 31)).toInt32 &&& (858993459 : Int32))).toUInt32 >>> ((4 : Int32).toUInt32 &&& Int32.toUInt32 31)).toInt32) &&& (252645135 : Int32)) + ((((((v0 - ((v0.toUInt32 >>> ((1 : Int32).toUInt32 &&& Int32.toUInt32 31)).toInt32 &&& (1431655765 : Int32))) &&& (858993459 : Int32)) + (((v0 - ((v0.toUInt32 >>> ((1 : Int32).toUInt32 &&& Int32.toUInt32 31)).toInt32 &&& (1431655765 : Int32))).toUInt32 >>> ((2 : Int32).toUInt32 &&& Int32.toUInt32 31)).toInt32 &&& (858993459 : Int32))) + ((((v0 - ((v0.toUInt32 >>> ((1 : Int32).toUInt32 &&& Int32.toUInt32 31)).toInt32 &&& (1431655765 : Int32))) &&& (858993459 : Int32)) + (((v0 - ((v0.toUInt32 >>> ((1 : Int32).toUInt32 &&& Int32.toUInt32 31)).toInt32 &&& (1431655765 : Int32))).toUInt32 >>> ((2 : Int32).toUInt32 &&& Int32.toUInt32 31)).toInt32 &&& (858993459 : Int32))).toUInt32 >>> ((4 : Int32).toUInt32 &&& Int32.toUInt32 31)).toInt32) &&& (252645135 : Int32)).toUInt32 >>> ((8 : Int32).toUInt32 &&& Int32.toUInt32 31)).toInt32) + (((((((v0 - ((v0.toUInt32 >>> ((1 : Int32).toUInt32 &&& Int32.toUInt32 31)).toInt32 &&& (1431655765 : Int32))) &&& (858993459 : Int32)) + (((v0 - ((v0.toUInt32 >>> ((1 : Int32).toUInt32 &&& Int32.toUInt32 31)).toInt32 &&& (1431655765 : Int32))).toUInt32 >>> ((2 : Int32).toUInt32 &&& Int32.toUInt32 31)).toInt32 &&& (858993459 : Int32))) + ((((v0 - ((v0.toUInt32 >>> ((1 : Int32).toUInt32 &&& Int32.toUInt32 31)).toInt32 &&& (1431655765 : Int32))) &&& (858993459 : Int32)) + (((v0 - ((v0.toUInt32 >>> ((1 : Int32).toUInt32 &&& Int32.toUInt32 31)).toInt32 &&& (1431655765 : Int32))).toUInt32 >>> ((2 : Int32).toUInt32 &&& Int32.toUInt32 31)).toInt32 &&& (858993459 : Int32))).toUInt32 >>> ((4 : Int32).toUInt32 &&& Int32.toUInt32 31)).toInt32) &&& (252645135 : Int32)) + ((((((v0 - ((v0.toUInt32 >>> ((1 : Int32).toUInt32 &&& Int32.toUInt32 31)).toInt32 &&& (1431655765 : Int32))) &&& (858993459 : Int32)) + (((v0 - ((v0.toUInt32 >>> ((1 : Int32).toUInt32 &&& Int32.toUInt32 31)).toInt32 &&& (1431655765 : Int32))).toUInt32 >>> ((2 : Int32).toUInt32 &&& Int32.toUInt32 31)).toInt32 &&& (858993459 : Int32))) + ((((v0 - ((v0.toUInt32 >>> ((1 : Int32).toUInt32 &&& Int32.toUInt32 31)).toInt32 &&& (1431655765 : Int32))) &&& (858993459 : Int32)) + (((v0 - ((v0.toUInt32 >>> ((1 : Int32).toUInt32 &&& Int32.toUInt32 31)).toInt32 &&& (1431655765 : Int32))).toUInt32 >>> ((2 : Int32).toUInt32 &&& Int32.toUInt32 31)).toInt32 &&& (858993459 : Int32))).toUInt32 >>> ((4 : Int32).toUInt32 &&& Int32.toUInt32 31)).toInt32) &&& (252645135 : Int32)).toUInt32 >>> ((8 : Int32).toUInt32 &&& Int32.toUInt32 31)).toInt32).toUInt32 >>> ((16 : Int32).toUInt32 &&& Int32.toUInt32 31)).toInt32))] dJ6_bitCount_0f7a4_47 rfl (by decide) rfl ?_
  refine g_iload_n 48 C 0 dJ6_bitCount_0f7a4_48 rfl rfl ?_
  refine g_bipush 49 C (63 : Int32) dJ6_bitCount_0f7a4_49 (by decide) ?_
  refine g_iand 51 C dJ6_bitCount_0f7a4_51 ?_
  obtain rfl := Option.some.inj h
  exact g_iret 52 C hA rfl dJ6_bitCount_0f7a4_52 rfl
end

/-! X6_handedTo -/
abbrev W_X6_handedTo (k : Nat → ClassId) (h_t : Nat) (h_t_notes : Nat) (h_t_worths : Nat) (h_t_order : Nat) (h_t_ends : Nat) (h_t_lookedAt : Nat) (s_whole : Int32) (s_pieceCount : Int32) (s_lookedBack : Int32) (s_notes : Nat → Int32) : va_W := [(h_t, .inr (6, [.ref h_t_worths, .ref h_t_order, .ref h_t_ends, .ref h_t_notes, .int s_whole, .int s_pieceCount, .int s_lookedBack, .ref h_t_lookedAt])), (h_t_notes, .inl (k 0, 2048, .inl s_notes))]
def rm_X6_handedTo : Room := { frames := 1, cells := 0, slots := 0, locals := 20 }
theorem in_X6_handedTo_X6 : ∀ w ∈ u_ws RX6 TX6 8, w ∈ wsX6_handedTo := by decide +kernel
theorem fl_X6_handedTo_21 : Cond.fieldLink RX6 21 "LinkDays$Sets" "notes" "[I" ∈ wsX6_handedTo := by decide +kernel
theorem pd_X6_handedTo : yX6_handedTo.cls = RX6 ∧ yX6_handedTo.cls ≠ "java/lang/invoke/MethodHandle" ∧ yX6_handedTo.cls ≠ "java/lang/invoke/VarHandle" ∧ (parseMethodDescriptor yX6_handedTo.desc).map (fun d => d.parameters.length) = some 2 := by decide +kernel
section
variable {p : Program} {l : Launch} {e : Env} {s : State} {m : MethodId} {args : Array Value} {below : List Frame} {meth : Method} {c : Code} {D : va_G} {k : Nat → ClassId} {A : Nat → Prop} {w0 : va_W} {sz : Nat}
set_option maxHeartbeats 4000000 in
set_option maxRecDepth 100000 in
theorem k_X6_handedTo {l : Launch} {D : va_G} {k : Nat → ClassId} (h_t : Nat) (h_t_notes : Nat) (h_t_worths : Nat) (h_t_order : Nat) (h_t_ends : Nat) (h_t_lookedAt : Nat) (s_whole : Int32) (s_pieceCount : Int32) (s_lookedBack : Int32) (s_notes : Nat → Int32) (v1 : Int32) (v2 : Int32) (res : Int32) (h : f_X6_handedTo s_notes v1 v2 = some res) (sz : Nat) : Met l yX6_handedTo wsX6_handedTo rm_X6_handedTo (cPre D k [.ref h_t, .int v1, .int v2] (W_X6_handedTo k h_t h_t_notes h_t_worths h_t_order h_t_ends h_t_lookedAt s_whole s_pieceCount s_lookedBack s_notes) sz) (cQi D (W_X6_handedTo k h_t h_t_notes h_t_worths h_t_order h_t_ends h_t_lookedAt s_whole s_pieceCount s_lookedBack s_notes) sz res (W_X6_handedTo k h_t h_t_notes h_t_worths h_t_order h_t_ends h_t_lookedAt s_whole s_pieceCount s_lookedBack s_notes)) 0 0 (va_A (W_X6_handedTo k h_t h_t_notes h_t_worths h_t_order h_t_ends h_t_lookedAt s_whole s_pieceCount s_lookedBack s_notes) sz) := by
  refine met_of [(0, .ref h_t), (1, .int v1), (2, .int v2)] (by decide) rfl rfl (Nat.le_of_ble_eq_true rfl) rfl ?_
  intro p e s m args below meth c A hA hsz C
  unfold f_X6_handedTo at h
  refine g_iload_n 0 C 1 dX6_handedTo_0 rfl rfl ?_
  refine g_iload_n 1 C 2 dX6_handedTo_1 rfl rfl ?_
  refine g_ixor 2 C dX6_handedTo_2 ?_
  obtain ⟨q1, e2, h⟩ := bi_e h
  refine g_callSi 3 C (As := [.int (v1 ^^^ v2)]) [] [0, 1] [0, 1] (W_X6_handedTo k h_t h_t_notes h_t_worths h_t_order h_t_ends h_t_lookedAt s_whole s_pieceCount s_lookedBack s_notes) (fun sz => k_J6_bitCount_0f7a4 (v1 ^^^ v2) q1 e2 sz) gX6_handedTo_J6_bitCount_0f7a4 rfl pd_J6_bitCount_0f7a4 rfl ⟨rfl, rfl, Nat.le_of_ble_eq_true rfl, Nat.le_of_ble_eq_true rfl⟩ (Nat.le_of_ble_eq_true rfl) ⟨Nat.zero_le _, Nat.zero_le _⟩ ⟨rfl, rfl, rfl, rfl, rfl, by decide, rfl⟩ rfl dX6_handedTo_3 ?_
  refine g_aload_n 6 C 0 dX6_handedTo_6 rfl rfl ?_
  refine g_get 7 C in_X6_handedTo_X6 0 3 rfl rfl (by decide) fl_X6_handedTo_21 rfl rfl dX6_handedTo_7 ?_
  refine g_iload_n 10 C 2 dX6_handedTo_10 rfl rfl ?_
  obtain ⟨o3, h⟩ := ob_e h
  refine g_iald 11 C 1 rfl o3 dX6_handedTo_11 ?_
  refine g_iadd 12 C dX6_handedTo_12 ?_
  obtain rfl := Option.some.inj h
  exact g_iret 13 C hA rfl dX6_handedTo_13 rfl
end

/-! X6_follower -/
abbrev W_X6_follower (k : Nat → ClassId) (h_t : Nat) (h_t_ends : Nat) (h_t_order : Nat) (h_t_notes : Nat) (h_t_worths : Nat) (h_t_lookedAt : Nat) (s_whole : Int32) (s_pieceCount : Int32) (s_lookedBack : Int32) (s_ends : Nat → Int32) (s_order : Nat → Int32) (s_notes : Nat → Int32) : va_W := [(h_t, .inr (6, [.ref h_t_worths, .ref h_t_order, .ref h_t_ends, .ref h_t_notes, .int s_whole, .int s_pieceCount, .int s_lookedBack, .ref h_t_lookedAt])), (h_t_ends, .inl (k 0, 218, .inl s_ends)), (h_t_order, .inl (k 0, 2048, .inl s_order)), (h_t_notes, .inl (k 0, 2048, .inl s_notes))]
def rm_X6_follower : Room := { frames := 2, cells := 0, slots := 0, locals := 43 }
theorem in_X6_follower_X6 : ∀ w ∈ u_ws RX6 TX6 8, w ∈ wsX6_follower := by decide +kernel
theorem ct_X6_follower_92 : Cond.constant RX6 92 (2147483647 : Int32) ∈ wsX6_follower := by decide +kernel
theorem fl_X6_follower_15 : Cond.fieldLink RX6 15 "LinkDays$Sets" "order" "[I" ∈ wsX6_follower := by decide +kernel
theorem pd_X6_follower : yX6_follower.cls = RX6 ∧ yX6_follower.cls ≠ "java/lang/invoke/MethodHandle" ∧ yX6_follower.cls ≠ "java/lang/invoke/VarHandle" ∧ (parseMethodDescriptor yX6_follower.desc).map (fun d => d.parameters.length) = some 2 := by decide +kernel
section
variable {p : Program} {l : Launch} {e : Env} {s : State} {m : MethodId} {args : Array Value} {below : List Frame} {meth : Method} {c : Code} {D : va_G} {k : Nat → ClassId} {A : Nat → Prop} {w0 : va_W} {sz : Nat}
set_option maxHeartbeats 4000000 in
set_option maxRecDepth 100000 in
theorem ok_B_X6_follower_60 {h_t : Nat} {h_t_ends : Nat} {h_t_order : Nat} {h_t_notes : Nat} {h_t_worths : Nat} {h_t_lookedAt : Nat} {s_whole : Int32} {s_pieceCount : Int32} {s_lookedBack : Int32} {s_ends : Nat → Int32} {s_order : Nat → Int32} {s_notes : Nat → Int32} {v1 : Int32} {v3 : Int32} {v4 : Int32} {v5 : Int32} {v6 : Int32} {res : Int32} {kx rec : Int32 × Int32 × Int32 → Option (Int32)} (C : CX p s m args meth c cX6_follower wsX6_follower RX6 8 D k A (some .int)) (hA : A = va_A w0 sz) (hx : ∀ t : Int32 × Int32 × Int32, kx t = some res → GG p l e rm_X6_follower s m args below meth c (MQ below (cQi D w0 sz res (W_X6_follower k h_t h_t_ends h_t_order h_t_notes h_t_worths h_t_lookedAt s_whole s_pieceCount s_lookedBack s_ends s_order s_notes)) args s 0 0 A) D A 8 0 0 66 [(3, .int t.1)] [] (W_X6_follower k h_t h_t_ends h_t_order h_t_notes h_t_worths h_t_lookedAt s_whole s_pieceCount s_lookedBack s_ends s_order s_notes)) (hr : ∀ t : Int32 × Int32 × Int32, rec t = some res → GG p l e rm_X6_follower s m args below meth c (MQ below (cQi D w0 sz res (W_X6_follower k h_t h_t_ends h_t_order h_t_notes h_t_worths h_t_lookedAt s_whole s_pieceCount s_lookedBack s_ends s_order s_notes)) args s 0 0 A) D A 8 0 0 20 [(0, .ref h_t), (1, .int v1), (3, .int t.1), (4, .int t.2.1), (5, .int v5), (6, .int t.2.2)] [] (W_X6_follower k h_t h_t_ends h_t_order h_t_notes h_t_worths h_t_lookedAt s_whole s_pieceCount s_lookedBack s_ends s_order s_notes))  (h : B_X6_follower_60 kx rec v3 v4 v6 = some res) : GG p l e rm_X6_follower s m args below meth c (MQ below (cQi D w0 sz res (W_X6_follower k h_t h_t_ends h_t_order h_t_notes h_t_worths h_t_lookedAt s_whole s_pieceCount s_lookedBack s_ends s_order s_notes)) args s 0 0 A) D A 8 0 0 60 [(0, .ref h_t), (1, .int v1), (3, .int v3), (4, .int v4), (5, .int v5), (6, .int v6)] [] (W_X6_follower k h_t h_t_ends h_t_order h_t_notes h_t_worths h_t_lookedAt s_whole s_pieceCount s_lookedBack s_ends s_order s_notes) := by
  unfold B_X6_follower_60 at h
  refine g_iinc 60 C 5 (1 : Int32) [(6, .int (v6 + (1 : Int32))), (0, .ref h_t), (1, .int v1), (3, .int v3), (4, .int v4), (5, .int v5)] dX6_follower_60 rfl (by decide) (by decide) rfl ?_
  refine g_goto 63 20 C dX6_follower_63 (by decide) ?_
  refine GG.sub (lv' := [(0, .ref h_t), (1, .int v1), (3, .int v3), (4, .int v4), (5, .int v5), (6, .int (v6 + (1 : Int32)))]) [1, 2, 3, 4, 5, 0] rfl ?_
  exact hr (v3, v4, (v6 + (1 : Int32))) h
set_option maxHeartbeats 4000000 in
set_option maxRecDepth 100000 in
theorem ok_L_X6_follower_20 {h_t : Nat} {h_t_ends : Nat} {h_t_order : Nat} {h_t_notes : Nat} {h_t_worths : Nat} {h_t_lookedAt : Nat} {s_whole : Int32} {s_pieceCount : Int32} {s_lookedBack : Int32} {s_ends : Nat → Int32} {s_order : Nat → Int32} {s_notes : Nat → Int32} {v1 : Int32} {v5 : Int32} {res : Int32} (C : CX p s m args meth c cX6_follower wsX6_follower RX6 8 D k A (some .int)) (hA : A = va_A w0 sz) {kx : Int32 × Int32 × Int32 → Option (Int32)} (hx : ∀ t : Int32 × Int32 × Int32, kx t = some res → GG p l e rm_X6_follower s m args below meth c (MQ below (cQi D w0 sz res (W_X6_follower k h_t h_t_ends h_t_order h_t_notes h_t_worths h_t_lookedAt s_whole s_pieceCount s_lookedBack s_ends s_order s_notes)) args s 0 0 A) D A 8 0 0 66 [(3, .int t.1)] [] (W_X6_follower k h_t h_t_ends h_t_order h_t_notes h_t_worths h_t_lookedAt s_whole s_pieceCount s_lookedBack s_ends s_order s_notes)) : ∀ (n : Nat) (t : Int32 × Int32 × Int32), L_X6_follower_20 s_order s_notes v1 v5 kx n t = some res → GG p l e rm_X6_follower s m args below meth c (MQ below (cQi D w0 sz res (W_X6_follower k h_t h_t_ends h_t_order h_t_notes h_t_worths h_t_lookedAt s_whole s_pieceCount s_lookedBack s_ends s_order s_notes)) args s 0 0 A) D A 8 0 0 20 [(0, .ref h_t), (1, .int v1), (3, .int t.1), (4, .int t.2.1), (5, .int v5), (6, .int t.2.2)] [] (W_X6_follower k h_t h_t_ends h_t_order h_t_notes h_t_worths h_t_lookedAt s_whole s_pieceCount s_lookedBack s_ends s_order s_notes) := by
  intro n
  induction n with
  | zero => intro t h; cases h
  | succ n ih =>
    intro t h
    obtain ⟨v3, v4, v6⟩ := t
    replace h : LB_X6_follower_20 s_order s_notes v1 v5 kx (L_X6_follower_20 s_order s_notes v1 v5 kx n) v3 v4 v6 = some res := h
    have hr := ih
    unfold LB_X6_follower_20 at h
    refine g_iload 20 C 5 dX6_follower_20 rfl ?_
    refine g_iload 22 C 4 dX6_follower_22 rfl ?_
    refine g_icmp_ge 24 66 C dX6_follower_24 (by decide) (fun c => ?_) (fun c => ?_)
    · replace h := it_e c h
      refine GG.sub (lv' := [(3, .int v3)]) [2] rfl ?_
      exact hx (v3, v4, v6) h
    · replace h := if_e c h
      refine g_aload_n 27 C 0 dX6_follower_27 rfl rfl ?_
      refine g_iload_n 28 C 1 dX6_follower_28 rfl rfl ?_
      refine g_aload_n 29 C 0 dX6_follower_29 rfl rfl ?_
      refine g_get 30 C in_X6_follower_X6 0 1 rfl rfl (by decide) fl_X6_follower_15 rfl rfl dX6_follower_30 ?_
      refine g_iload 33 C 5 dX6_follower_33 rfl ?_
      obtain ⟨o5, h⟩ := ob_e h
      refine g_iald 35 C 2 rfl o5 dX6_follower_35 ?_
      obtain ⟨q6, e7, h⟩ := bi_e h
      refine g_callVi 36 C (As := [.int v1, .int (s_order v6.toNatClampNeg)]) [0, 3] [1, 2] [2, 0, 1, 3] (W_X6_follower k h_t h_t_ends h_t_order h_t_notes h_t_worths h_t_lookedAt s_whole s_pieceCount s_lookedBack s_ends s_order s_notes) 0 (fun sz => k_X6_handedTo h_t h_t_notes h_t_worths h_t_order h_t_ends h_t_lookedAt s_whole s_pieceCount s_lookedBack s_notes v1 (s_order v6.toNatClampNeg) q6 e7 sz) gX6_follower_X6_handedTo rfl pd_X6_handedTo rfl rfl rfl ⟨rfl, rfl, Nat.le_of_ble_eq_true rfl, Nat.le_of_ble_eq_true rfl⟩ (Nat.le_of_ble_eq_true rfl) ⟨Nat.zero_le _, Nat.zero_le _⟩ ⟨rfl, rfl, rfl, rfl, rfl, by decide, rfl⟩ rfl dX6_follower_36 ?_
      refine g_istore 39 C [(7, .int q6), (0, .ref h_t), (1, .int v1), (3, .int v3), (4, .int v4), (5, .int v5), (6, .int v6)] dX6_follower_39 (by decide) rfl ?_
      refine g_iload 41 C 0 dX6_follower_41 rfl ?_
      refine g_iload 43 C 4 dX6_follower_43 rfl ?_
      refine g_icmp_ge 45 60 C dX6_follower_45 (by decide) (fun c => ?_) (fun c => ?_)
      · replace h := it_e c h
        refine GG.sub (lv' := [(0, .ref h_t), (1, .int v1), (3, .int v3), (4, .int v4), (5, .int v5), (6, .int v6)]) [1, 2, 3, 4, 5, 6] rfl ?_
        exact ok_B_X6_follower_60 C hA hx hr h
      · replace h := if_e c h
        refine g_iload 48 C 0 dX6_follower_48 rfl ?_
        refine g_istore 50 C [(4, .int q6), (7, .int q6), (0, .ref h_t), (1, .int v1), (3, .int v3), (5, .int v5), (6, .int v6)] dX6_follower_50 (by decide) rfl ?_
        refine g_aload_n 52 C 2 dX6_follower_52 rfl rfl ?_
        refine g_get 53 C in_X6_follower_X6 0 1 rfl rfl (by decide) fl_X6_follower_15 rfl rfl dX6_follower_53 ?_
        refine g_iload 56 C 6 dX6_follower_56 rfl ?_
        obtain ⟨o8, h⟩ := ob_e h
        refine g_iald 58 C 2 rfl o8 dX6_follower_58 ?_
        refine g_istore_n 59 C [(3, .int (s_order v6.toNatClampNeg)), (4, .int q6), (7, .int q6), (0, .ref h_t), (1, .int v1), (5, .int v5), (6, .int v6)] dX6_follower_59 rfl (by decide) rfl ?_
        refine GG.sub (lv' := [(0, .ref h_t), (1, .int v1), (3, .int (s_order v6.toNatClampNeg)), (4, .int q6), (5, .int v5), (6, .int v6)]) [3, 4, 0, 1, 5, 6] rfl ?_
        exact ok_B_X6_follower_60 C hA hx hr h
set_option maxHeartbeats 4000000 in
set_option maxRecDepth 100000 in
theorem ok_B_X6_follower_66 {h_t : Nat} {h_t_ends : Nat} {h_t_order : Nat} {h_t_notes : Nat} {h_t_worths : Nat} {h_t_lookedAt : Nat} {s_whole : Int32} {s_pieceCount : Int32} {s_lookedBack : Int32} {s_ends : Nat → Int32} {s_order : Nat → Int32} {s_notes : Nat → Int32} {v3 : Int32} {res : Int32} (C : CX p s m args meth c cX6_follower wsX6_follower RX6 8 D k A (some .int)) (hA : A = va_A w0 sz)  (h : B_X6_follower_66 v3 = some res) : GG p l e rm_X6_follower s m args below meth c (MQ below (cQi D w0 sz res (W_X6_follower k h_t h_t_ends h_t_order h_t_notes h_t_worths h_t_lookedAt s_whole s_pieceCount s_lookedBack s_ends s_order s_notes)) args s 0 0 A) D A 8 0 0 66 [(3, .int v3)] [] (W_X6_follower k h_t h_t_ends h_t_order h_t_notes h_t_worths h_t_lookedAt s_whole s_pieceCount s_lookedBack s_ends s_order s_notes) := by
  unfold B_X6_follower_66 at h
  refine g_iload_n 66 C 0 dX6_follower_66 rfl rfl ?_
  obtain rfl := Option.some.inj h
  exact g_iret 67 C hA rfl dX6_follower_67 rfl
set_option maxHeartbeats 4000000 in
set_option maxRecDepth 100000 in
theorem k_X6_follower {l : Launch} {D : va_G} {k : Nat → ClassId} (h_t : Nat) (h_t_ends : Nat) (h_t_order : Nat) (h_t_notes : Nat) (h_t_worths : Nat) (h_t_lookedAt : Nat) (s_whole : Int32) (s_pieceCount : Int32) (s_lookedBack : Int32) (s_ends : Nat → Int32) (s_order : Nat → Int32) (s_notes : Nat → Int32) (v1 : Int32) (v2 : Int32) (res : Int32) (h : f_X6_follower s_whole s_ends s_order s_notes v1 v2 = some res) (sz : Nat) : Met l yX6_follower wsX6_follower rm_X6_follower (cPre D k [.ref h_t, .int v1, .int v2] (W_X6_follower k h_t h_t_ends h_t_order h_t_notes h_t_worths h_t_lookedAt s_whole s_pieceCount s_lookedBack s_ends s_order s_notes) sz) (cQi D (W_X6_follower k h_t h_t_ends h_t_order h_t_notes h_t_worths h_t_lookedAt s_whole s_pieceCount s_lookedBack s_ends s_order s_notes) sz res (W_X6_follower k h_t h_t_ends h_t_order h_t_notes h_t_worths h_t_lookedAt s_whole s_pieceCount s_lookedBack s_ends s_order s_notes)) 0 0 (va_A (W_X6_follower k h_t h_t_ends h_t_order h_t_notes h_t_worths h_t_lookedAt s_whole s_pieceCount s_lookedBack s_ends s_order s_notes) sz) := by
  refine met_of [(0, .ref h_t), (1, .int v1), (2, .int v2)] (by decide) rfl rfl (Nat.le_of_ble_eq_true rfl) rfl ?_
  intro p e s m args below meth c A hA hsz C
  unfold f_X6_follower at h
  refine g_iconst 0 C (0 : Int32) dX6_follower_0 (by decide) ?_
  refine g_istore_n 1 C [(3, .int (0 : Int32)), (0, .ref h_t), (1, .int v1), (2, .int v2)] dX6_follower_1 rfl (by decide) rfl ?_
  refine g_ldc 2 C (2147483647 : Int32) dX6_follower_2 ct_X6_follower_92 ?_
  refine g_istore 4 C [(4, .int (2147483647 : Int32)), (3, .int (0 : Int32)), (0, .ref h_t), (1, .int v1), (2, .int v2)] dX6_follower_4 (by decide) rfl ?_
  refine g_aload_n 6 C 2 dX6_follower_6 rfl rfl ?_
  refine g_iload_n 7 C 4 dX6_follower_7 rfl rfl ?_
  obtain ⟨q1, e2, h⟩ := bi_e h
  refine g_callVi 8 C (As := [.int v2]) [0, 1] [2, 3] [2, 3, 0, 1] (W_X6_follower k h_t h_t_ends h_t_order h_t_notes h_t_worths h_t_lookedAt s_whole s_pieceCount s_lookedBack s_ends s_order s_notes) 0 (fun sz => k_X6_to h_t h_t_ends h_t_worths h_t_order h_t_notes h_t_lookedAt s_whole s_pieceCount s_lookedBack s_ends v2 q1 e2 sz) gX6_follower_X6_to rfl pd_X6_to rfl rfl rfl ⟨rfl, rfl, Nat.le_of_ble_eq_true rfl, Nat.le_of_ble_eq_true rfl⟩ (Nat.le_of_ble_eq_true rfl) ⟨Nat.zero_le _, Nat.zero_le _⟩ ⟨rfl, rfl, rfl, rfl, rfl, by decide, rfl⟩ rfl dX6_follower_8 ?_
  refine g_istore 11 C [(5, .int q1), (4, .int (2147483647 : Int32)), (3, .int (0 : Int32)), (0, .ref h_t), (1, .int v1), (2, .int v2)] dX6_follower_11 (by decide) rfl ?_
  refine g_aload_n 13 C 3 dX6_follower_13 rfl rfl ?_
  refine g_iload_n 14 C 5 dX6_follower_14 rfl rfl ?_
  obtain ⟨q3, e4, h⟩ := bi_e h
  refine g_callVi 15 C (As := [.int v2]) [0, 1] [2, 3] [2, 3, 0, 1] (W_X6_follower k h_t h_t_ends h_t_order h_t_notes h_t_worths h_t_lookedAt s_whole s_pieceCount s_lookedBack s_ends s_order s_notes) 0 (fun sz => k_X6_from h_t h_t_ends h_t_worths h_t_order h_t_notes h_t_lookedAt s_whole s_pieceCount s_lookedBack s_ends v2 q3 e4 sz) gX6_follower_X6_from rfl pd_X6_from rfl rfl rfl ⟨rfl, rfl, Nat.le_of_ble_eq_true rfl, Nat.le_of_ble_eq_true rfl⟩ (Nat.le_of_ble_eq_true rfl) ⟨Nat.zero_le _, Nat.zero_le _⟩ ⟨rfl, rfl, rfl, rfl, rfl, by decide, rfl⟩ rfl dX6_follower_15 ?_
  refine g_istore 18 C [(6, .int q3), (5, .int q1), (4, .int (2147483647 : Int32)), (3, .int (0 : Int32)), (0, .ref h_t), (1, .int v1), (2, .int v2)] dX6_follower_18 (by decide) rfl ?_
  refine GG.sub (lv' := [(0, .ref h_t), (1, .int v1), (3, .int (0 : Int32)), (4, .int (2147483647 : Int32)), (5, .int q1), (6, .int q3)]) [4, 5, 3, 2, 1, 0] rfl ?_
  exact ok_L_X6_follower_20 C hA (fun t h => by
    refine GG.sub (lv' := [(3, .int t.1)]) [0] rfl ?_
    exact ok_B_X6_follower_66 C hA h) FUEL ((0 : Int32), (2147483647 : Int32), q3) h
end

/-! X6_lookAhead -/
abbrev W_X6_lookAhead (k : Nat → ClassId) (h_t : Nat) (h_t_ends : Nat) (h_t_order : Nat) (h_t_notes : Nat) (h_t_worths : Nat) (h_t_lookedAt : Nat) (s_whole : Int32) (s_pieceCount : Int32) (s_lookedBack : Int32) (s_ends : Nat → Int32) (s_order : Nat → Int32) (s_notes : Nat → Int32) : va_W := [(h_t, .inr (6, [.ref h_t_worths, .ref h_t_order, .ref h_t_ends, .ref h_t_notes, .int s_whole, .int s_pieceCount, .int s_lookedBack, .ref h_t_lookedAt])), (h_t_ends, .inl (k 0, 218, .inl s_ends)), (h_t_order, .inl (k 0, 2048, .inl s_order)), (h_t_notes, .inl (k 0, 2048, .inl s_notes))]
def rm_X6_lookAhead : Room := { frames := 3, cells := 0, slots := 0, locals := 70 }
theorem in_X6_lookAhead_X6 : ∀ w ∈ u_ws RX6 TX6 8, w ∈ wsX6_lookAhead := by decide +kernel
theorem fl_X6_lookAhead_15 : Cond.fieldLink RX6 15 "LinkDays$Sets" "order" "[I" ∈ wsX6_lookAhead := by decide +kernel
theorem fl_X6_lookAhead_21 : Cond.fieldLink RX6 21 "LinkDays$Sets" "notes" "[I" ∈ wsX6_lookAhead := by decide +kernel
theorem pd_X6_lookAhead : yX6_lookAhead.cls = RX6 ∧ yX6_lookAhead.cls ≠ "java/lang/invoke/MethodHandle" ∧ yX6_lookAhead.cls ≠ "java/lang/invoke/VarHandle" ∧ (parseMethodDescriptor yX6_lookAhead.desc).map (fun d => d.parameters.length) = some 2 := by decide +kernel
section
variable {p : Program} {l : Launch} {e : Env} {s : State} {m : MethodId} {args : Array Value} {below : List Frame} {meth : Method} {c : Code} {D : va_G} {k : Nat → ClassId} {A : Nat → Prop} {w0 : va_W} {sz : Nat}
set_option maxHeartbeats 4000000 in
set_option maxRecDepth 100000 in
theorem ok_L_X6_lookAhead_6 {h_t : Nat} {h_t_ends : Nat} {h_t_order : Nat} {h_t_notes : Nat} {h_t_worths : Nat} {h_t_lookedAt : Nat} {s_whole : Int32} {s_pieceCount : Int32} {s_lookedBack : Int32} {s_ends : Nat → Int32} {s_order : Nat → Int32} {v1 : Int32} {v2 : Int32} {res : (Nat → Int32)} (C : CX p s m args meth c cX6_lookAhead wsX6_lookAhead RX6 5 D k A none) (hA : A = va_A w0 sz) {kx : Int32 × (Nat → Int32) → Option ((Nat → Int32))} (hx : ∀ t : Int32 × (Nat → Int32), kx t = some res → GG p l e rm_X6_lookAhead s m args below meth c (MQ below (cQv D w0 sz (W_X6_lookAhead k h_t h_t_ends h_t_order h_t_notes h_t_worths h_t_lookedAt s_whole s_pieceCount s_lookedBack s_ends s_order res)) args s 0 0 A) D A 5 0 0 49 [] [] (W_X6_lookAhead k h_t h_t_ends h_t_order h_t_notes h_t_worths h_t_lookedAt s_whole s_pieceCount s_lookedBack s_ends s_order t.2)) : ∀ (n : Nat) (t : Int32 × (Nat → Int32)), L_X6_lookAhead_6 s_whole s_ends s_order v1 v2 kx n t = some res → GG p l e rm_X6_lookAhead s m args below meth c (MQ below (cQv D w0 sz (W_X6_lookAhead k h_t h_t_ends h_t_order h_t_notes h_t_worths h_t_lookedAt s_whole s_pieceCount s_lookedBack s_ends s_order res)) args s 0 0 A) D A 5 0 0 6 [(0, .ref h_t), (1, .int v1), (2, .int v2), (3, .int t.1)] [] (W_X6_lookAhead k h_t h_t_ends h_t_order h_t_notes h_t_worths h_t_lookedAt s_whole s_pieceCount s_lookedBack s_ends s_order t.2) := by
  intro n
  induction n with
  | zero => intro t h; cases h
  | succ n ih =>
    intro t h
    obtain ⟨v3, s_notes⟩ := t
    replace h : LB_X6_lookAhead_6 s_whole s_ends s_order v1 v2 kx (L_X6_lookAhead_6 s_whole s_ends s_order v1 v2 kx n) v3 s_notes = some res := h
    have hr := ih
    unfold LB_X6_lookAhead_6 at h
    refine g_iload_n 6 C 3 dX6_lookAhead_6 rfl rfl ?_
    refine g_aload_n 7 C 0 dX6_lookAhead_7 rfl rfl ?_
    refine g_iload_n 8 C 1 dX6_lookAhead_8 rfl rfl ?_
    obtain ⟨q3, e4, h⟩ := bi_e h
    refine g_callVi 9 C (As := [.int v1]) [0, 1] [2, 3] [2, 3, 0, 1] (W_X6_lookAhead k h_t h_t_ends h_t_order h_t_notes h_t_worths h_t_lookedAt s_whole s_pieceCount s_lookedBack s_ends s_order s_notes) 0 (fun sz => k_X6_to h_t h_t_ends h_t_worths h_t_order h_t_notes h_t_lookedAt s_whole s_pieceCount s_lookedBack s_ends v1 q3 e4 sz) gX6_lookAhead_X6_to rfl pd_X6_to rfl rfl rfl ⟨rfl, rfl, Nat.le_of_ble_eq_true rfl, Nat.le_of_ble_eq_true rfl⟩ (Nat.le_of_ble_eq_true rfl) ⟨Nat.zero_le _, Nat.zero_le _⟩ ⟨rfl, rfl, rfl, rfl, rfl, by decide, rfl⟩ rfl dX6_lookAhead_9 ?_
    refine g_icmp_ge 12 49 C dX6_lookAhead_12 (by decide) (fun c => ?_) (fun c => ?_)
    · replace h := it_e c h
      refine GG.sub (lv' := []) [] rfl ?_
      exact hx (v3, s_notes) h
    · replace h := if_e c h
      refine g_aload_n 15 C 0 dX6_lookAhead_15 rfl rfl ?_
      refine g_get 16 C in_X6_lookAhead_X6 0 1 rfl rfl (by decide) fl_X6_lookAhead_15 rfl rfl dX6_lookAhead_16 ?_
      refine g_iload_n 19 C 3 dX6_lookAhead_19 rfl rfl ?_
      obtain ⟨o5, h⟩ := ob_e h
      refine g_iald 20 C 2 rfl o5 dX6_lookAhead_20 ?_
      refine g_istore 21 C [(4, .int (s_order v3.toNatClampNeg)), (0, .ref h_t), (1, .int v1), (2, .int v2), (3, .int v3)] dX6_lookAhead_21 (by decide) rfl ?_
      refine g_aload_n 23 C 1 dX6_lookAhead_23 rfl rfl ?_
      refine g_get 24 C in_X6_lookAhead_X6 0 3 rfl rfl (by decide) fl_X6_lookAhead_21 rfl rfl dX6_lookAhead_24 ?_
      refine g_iload 27 C 0 dX6_lookAhead_27 rfl ?_
      refine g_aload_n 29 C 1 dX6_lookAhead_29 rfl rfl ?_
      refine g_iload 30 C 0 dX6_lookAhead_30 rfl ?_
      refine g_aload_n 32 C 1 dX6_lookAhead_32 rfl rfl ?_
      refine g_iload 33 C 0 dX6_lookAhead_33 rfl ?_
      refine g_iload_n 35 C 3 dX6_lookAhead_35 rfl rfl ?_
      obtain ⟨q6, e7, h⟩ := bi_e h
      refine g_callVi 36 C (As := [.int (s_order v3.toNatClampNeg), .int v2]) [0, 1, 2, 3] [] [0, 1, 2, 3] (W_X6_lookAhead k h_t h_t_ends h_t_order h_t_notes h_t_worths h_t_lookedAt s_whole s_pieceCount s_lookedBack s_ends s_order s_notes) 0 (fun sz => k_X6_follower h_t h_t_ends h_t_order h_t_notes h_t_worths h_t_lookedAt s_whole s_pieceCount s_lookedBack s_ends s_order s_notes (s_order v3.toNatClampNeg) v2 q6 e7 sz) gX6_lookAhead_X6_follower rfl pd_X6_follower rfl rfl rfl ⟨rfl, rfl, Nat.le_of_ble_eq_true rfl, Nat.le_of_ble_eq_true rfl⟩ (Nat.le_of_ble_eq_true rfl) ⟨Nat.zero_le _, Nat.zero_le _⟩ ⟨rfl, rfl, rfl, rfl, rfl, by decide, rfl⟩ rfl dX6_lookAhead_36 ?_
      obtain ⟨q8, e9, h⟩ := bi_e h
      refine g_callVi 39 C (As := [.int (s_order v3.toNatClampNeg), .int q6]) [0, 3] [1, 2] [2, 0, 1, 3] (W_X6_lookAhead k h_t h_t_ends h_t_order h_t_notes h_t_worths h_t_lookedAt s_whole s_pieceCount s_lookedBack s_ends s_order s_notes) 0 (fun sz => k_X6_handedTo h_t h_t_notes h_t_worths h_t_order h_t_ends h_t_lookedAt s_whole s_pieceCount s_lookedBack s_notes (s_order v3.toNatClampNeg) q6 q8 e9 sz) gX6_lookAhead_X6_handedTo rfl pd_X6_handedTo rfl rfl rfl ⟨rfl, rfl, Nat.le_of_ble_eq_true rfl, Nat.le_of_ble_eq_true rfl⟩ (Nat.le_of_ble_eq_true rfl) ⟨Nat.zero_le _, Nat.zero_le _⟩ ⟨rfl, rfl, rfl, rfl, rfl, by decide, rfl⟩ rfl dX6_lookAhead_39 ?_
      obtain ⟨o10, h⟩ := ob_e h
      refine g_iast 42 C (W_X6_lookAhead k h_t h_t_ends h_t_order h_t_notes h_t_worths h_t_lookedAt s_whole s_pieceCount s_lookedBack s_ends s_order (upd s_notes (s_order v3.toNatClampNeg).toNatClampNeg q8)) 3 rfl o10 rfl dX6_lookAhead_42 ?_
      refine g_iinc 43 C 4 (1 : Int32) [(3, .int (v3 + (1 : Int32))), (4, .int (s_order v3.toNatClampNeg)), (0, .ref h_t), (1, .int v1), (2, .int v2)] dX6_lookAhead_43 rfl (by decide) (by decide) rfl ?_
      refine g_goto 46 6 C dX6_lookAhead_46 (by decide) ?_
      refine GG.sub (lv' := [(0, .ref h_t), (1, .int v1), (2, .int v2), (3, .int (v3 + (1 : Int32)))]) [2, 3, 4, 0] rfl ?_
      exact hr ((v3 + (1 : Int32)), (upd s_notes (s_order v3.toNatClampNeg).toNatClampNeg q8)) h
set_option maxHeartbeats 4000000 in
set_option maxRecDepth 100000 in
theorem ok_B_X6_lookAhead_49 {h_t : Nat} {h_t_ends : Nat} {h_t_order : Nat} {h_t_notes : Nat} {h_t_worths : Nat} {h_t_lookedAt : Nat} {s_whole : Int32} {s_pieceCount : Int32} {s_lookedBack : Int32} {s_ends : Nat → Int32} {s_order : Nat → Int32} {s_notes : Nat → Int32} {res : (Nat → Int32)} (C : CX p s m args meth c cX6_lookAhead wsX6_lookAhead RX6 5 D k A none) (hA : A = va_A w0 sz)  (h : B_X6_lookAhead_49 s_notes = some res) : GG p l e rm_X6_lookAhead s m args below meth c (MQ below (cQv D w0 sz (W_X6_lookAhead k h_t h_t_ends h_t_order h_t_notes h_t_worths h_t_lookedAt s_whole s_pieceCount s_lookedBack s_ends s_order res)) args s 0 0 A) D A 5 0 0 49 [] [] (W_X6_lookAhead k h_t h_t_ends h_t_order h_t_notes h_t_worths h_t_lookedAt s_whole s_pieceCount s_lookedBack s_ends s_order s_notes) := by
  unfold B_X6_lookAhead_49 at h
  obtain rfl := Option.some.inj h
  exact g_vret 49 C hA dX6_lookAhead_49 rfl
set_option maxHeartbeats 4000000 in
set_option maxRecDepth 100000 in
theorem k_X6_lookAhead {l : Launch} {D : va_G} {k : Nat → ClassId} (h_t : Nat) (h_t_ends : Nat) (h_t_order : Nat) (h_t_notes : Nat) (h_t_worths : Nat) (h_t_lookedAt : Nat) (s_whole : Int32) (s_pieceCount : Int32) (s_lookedBack : Int32) (s_ends : Nat → Int32) (s_order : Nat → Int32) (s_notes : Nat → Int32) (v1 : Int32) (v2 : Int32) (res : (Nat → Int32)) (h : f_X6_lookAhead s_whole s_ends s_order s_notes v1 v2 = some res) (sz : Nat) : Met l yX6_lookAhead wsX6_lookAhead rm_X6_lookAhead (cPre D k [.ref h_t, .int v1, .int v2] (W_X6_lookAhead k h_t h_t_ends h_t_order h_t_notes h_t_worths h_t_lookedAt s_whole s_pieceCount s_lookedBack s_ends s_order s_notes) sz) (cQv D (W_X6_lookAhead k h_t h_t_ends h_t_order h_t_notes h_t_worths h_t_lookedAt s_whole s_pieceCount s_lookedBack s_ends s_order s_notes) sz (W_X6_lookAhead k h_t h_t_ends h_t_order h_t_notes h_t_worths h_t_lookedAt s_whole s_pieceCount s_lookedBack s_ends s_order res)) 0 0 (va_A (W_X6_lookAhead k h_t h_t_ends h_t_order h_t_notes h_t_worths h_t_lookedAt s_whole s_pieceCount s_lookedBack s_ends s_order s_notes) sz) := by
  refine met_of [(0, .ref h_t), (1, .int v1), (2, .int v2)] (by decide) rfl rfl (Nat.le_of_ble_eq_true rfl) rfl ?_
  intro p e s m args below meth c A hA hsz C
  unfold f_X6_lookAhead at h
  refine g_aload_n 0 C 0 dX6_lookAhead_0 rfl rfl ?_
  refine g_iload_n 1 C 1 dX6_lookAhead_1 rfl rfl ?_
  obtain ⟨q1, e2, h⟩ := bi_e h
  refine g_callVi 2 C (As := [.int v1]) [0, 1] [2, 3] [2, 3, 0, 1] (W_X6_lookAhead k h_t h_t_ends h_t_order h_t_notes h_t_worths h_t_lookedAt s_whole s_pieceCount s_lookedBack s_ends s_order s_notes) 0 (fun sz => k_X6_from h_t h_t_ends h_t_worths h_t_order h_t_notes h_t_lookedAt s_whole s_pieceCount s_lookedBack s_ends v1 q1 e2 sz) gX6_lookAhead_X6_from rfl pd_X6_from rfl rfl rfl ⟨rfl, rfl, Nat.le_of_ble_eq_true rfl, Nat.le_of_ble_eq_true rfl⟩ (Nat.le_of_ble_eq_true rfl) ⟨Nat.zero_le _, Nat.zero_le _⟩ ⟨rfl, rfl, rfl, rfl, rfl, by decide, rfl⟩ rfl dX6_lookAhead_2 ?_
  refine g_istore_n 5 C [(3, .int q1), (0, .ref h_t), (1, .int v1), (2, .int v2)] dX6_lookAhead_5 rfl (by decide) rfl ?_
  refine GG.sub (lv' := [(0, .ref h_t), (1, .int v1), (2, .int v2), (3, .int q1)]) [1, 2, 3, 0] rfl ?_
  exact ok_L_X6_lookAhead_6 C hA (fun t h => by
    refine GG.sub (lv' := []) [] rfl ?_
    exact ok_B_X6_lookAhead_49 C hA h) FUEL (q1, s_notes) h
end

/-! X6_lookBack -/
abbrev W_X6_lookBack (k : Nat → ClassId) (h_t : Nat) (h_t_ends : Nat) (h_t_order : Nat) (h_t_notes : Nat) (h_t_lookedAt : Nat) (h_a0 : Nat) (h_t_worths : Nat) (z0 : Nat) (s_whole : Int32) (s_pieceCount : Int32) (s_lookedBack : Int32) (s_ends : Nat → Int32) (s_order : Nat → Int32) (s_notes : Nat → Int32) (s_lookedAt : Nat → Int32) (s_a0 : Nat → Int32) : va_W := [(h_t, .inr (6, [.ref h_t_worths, .ref h_t_order, .ref h_t_ends, .ref h_t_notes, .int s_whole, .int s_pieceCount, .int s_lookedBack, .ref h_t_lookedAt])), (h_t_ends, .inl (k 0, 218, .inl s_ends)), (h_t_order, .inl (k 0, 2048, .inl s_order)), (h_t_notes, .inl (k 0, 2048, .inl s_notes)), (h_t_lookedAt, .inl (k 0, 61, .inl s_lookedAt)), (h_a0, .inl (k 0, z0, .inl s_a0))]
def rm_X6_lookBack : Room := { frames := 4, cells := 0, slots := 0, locals := 94 }
theorem in_X6_lookBack_X6 : ∀ w ∈ u_ws RX6 TX6 8, w ∈ wsX6_lookBack := by decide +kernel
theorem cl_X6_lookBack_74 : Cond.methodLink RX6 74 arraycopyName ∈ wsX6_lookBack := by decide +kernel
theorem fl_X6_lookBack_15 : Cond.fieldLink RX6 15 "LinkDays$Sets" "order" "[I" ∈ wsX6_lookBack := by decide +kernel
theorem fl_X6_lookBack_21 : Cond.fieldLink RX6 21 "LinkDays$Sets" "notes" "[I" ∈ wsX6_lookBack := by decide +kernel
theorem fl_X6_lookBack_24 : Cond.fieldLink RX6 24 "LinkDays$Sets" "lookedAt" "[I" ∈ wsX6_lookBack := by decide +kernel
theorem fl_X6_lookBack_36 : Cond.fieldLink RX6 36 "LinkDays$Sets" "lookedBack" "I" ∈ wsX6_lookBack := by decide +kernel
theorem init_X6_lookBack_copy : Cond.initialized "java/lang/System" ∈ wsX6_lookBack := by decide +kernel
theorem native_X6_lookBack_copy : Cond.native arraycopyName ∈ wsX6_lookBack := by decide +kernel
theorem static_X6_lookBack_copy : Cond.static arraycopyName ∈ wsX6_lookBack := by decide +kernel
theorem pd_X6_lookBack : yX6_lookBack.cls = RX6 ∧ yX6_lookBack.cls ≠ "java/lang/invoke/MethodHandle" ∧ yX6_lookBack.cls ≠ "java/lang/invoke/VarHandle" ∧ (parseMethodDescriptor yX6_lookBack.desc).map (fun d => d.parameters.length) = some 2 := by decide +kernel
section
variable {p : Program} {l : Launch} {e : Env} {s : State} {m : MethodId} {args : Array Value} {below : List Frame} {meth : Method} {c : Code} {D : va_G} {k : Nat → ClassId} {A : Nat → Prop} {w0 : va_W} {sz : Nat}
set_option maxHeartbeats 4000000 in
set_option maxRecDepth 100000 in
theorem ok_L_X6_lookBack_8 {h_t : Nat} {h_t_ends : Nat} {h_t_order : Nat} {h_t_notes : Nat} {h_t_lookedAt : Nat} {h_a0 : Nat} {h_t_worths : Nat} {z0 : Nat} {s_whole : Int32} {s_pieceCount : Int32} {s_lookedBack : Int32} {s_ends : Nat → Int32} {s_order : Nat → Int32} {s_lookedAt : Nat → Int32} {s_a0 : Nat → Int32} {v2 : Int32} {res : Int32 × (Nat → Int32) × (Nat → Int32)} (C : CX p s m args meth c cX6_lookBack wsX6_lookBack RX6 4 D k A none) (hA : A = va_A w0 sz) {kx : Int32 × (Nat → Int32) → Option (Int32 × (Nat → Int32) × (Nat → Int32))} (hx : ∀ t : Int32 × (Nat → Int32), kx t = some res → GG p l e rm_X6_lookBack s m args below meth c (MQ below (cQv D w0 sz (W_X6_lookBack k h_t h_t_ends h_t_order h_t_notes h_t_lookedAt h_a0 h_t_worths z0 s_whole s_pieceCount res.1 s_ends s_order res.2.1 res.2.2 s_a0)) args s 0 0 A) D A 4 0 0 37 [(0, .ref h_t), (1, .ref h_a0), (2, .int v2)] [] (W_X6_lookBack k h_t h_t_ends h_t_order h_t_notes h_t_lookedAt h_a0 h_t_worths z0 s_whole s_pieceCount s_lookedBack s_ends s_order t.2 s_lookedAt s_a0)) : ∀ (n : Nat) (t : Int32 × (Nat → Int32)), L_X6_lookBack_8 z0 s_whole s_ends s_order s_a0 v2 kx n t = some res → GG p l e rm_X6_lookBack s m args below meth c (MQ below (cQv D w0 sz (W_X6_lookBack k h_t h_t_ends h_t_order h_t_notes h_t_lookedAt h_a0 h_t_worths z0 s_whole s_pieceCount res.1 s_ends s_order res.2.1 res.2.2 s_a0)) args s 0 0 A) D A 4 0 0 8 [(0, .ref h_t), (1, .ref h_a0), (2, .int v2), (3, .int t.1)] [] (W_X6_lookBack k h_t h_t_ends h_t_order h_t_notes h_t_lookedAt h_a0 h_t_worths z0 s_whole s_pieceCount s_lookedBack s_ends s_order t.2 s_lookedAt s_a0) := by
  intro n
  induction n with
  | zero => intro t h; cases h
  | succ n ih =>
    intro t h
    obtain ⟨v3, s_notes⟩ := t
    replace h : LB_X6_lookBack_8 z0 s_whole s_ends s_order s_a0 v2 kx (L_X6_lookBack_8 z0 s_whole s_ends s_order s_a0 v2 kx n) v3 s_notes = some res := h
    have hr := ih
    unfold LB_X6_lookBack_8 at h
    refine g_iload_n 8 C 3 dX6_lookBack_8 rfl rfl ?_
    refine g_aload_n 9 C 0 dX6_lookBack_9 rfl rfl ?_
    refine g_aload_n 10 C 1 dX6_lookBack_10 rfl rfl ?_
    refine g_iload_n 11 C 2 dX6_lookBack_11 rfl rfl ?_
    obtain ⟨o4, h⟩ := ob_e h
    refine g_iald 12 C 5 rfl o4 dX6_lookBack_12 ?_
    obtain ⟨q5, e6, h⟩ := bi_e h
    refine g_callVi 13 C (As := [.int (s_a0 v2.toNatClampNeg)]) [0, 1] [2, 3, 4, 5] [4, 5, 0, 1, 2, 3] (W_X6_lookBack k h_t h_t_ends h_t_order h_t_notes h_t_lookedAt h_a0 h_t_worths z0 s_whole s_pieceCount s_lookedBack s_ends s_order s_notes s_lookedAt s_a0) 0 (fun sz => k_X6_to h_t h_t_ends h_t_worths h_t_order h_t_notes h_t_lookedAt s_whole s_pieceCount s_lookedBack s_ends (s_a0 v2.toNatClampNeg) q5 e6 sz) gX6_lookBack_X6_to rfl pd_X6_to rfl rfl rfl ⟨rfl, rfl, Nat.le_of_ble_eq_true rfl, Nat.le_of_ble_eq_true rfl⟩ (Nat.le_of_ble_eq_true rfl) ⟨Nat.zero_le _, Nat.zero_le _⟩ ⟨rfl, rfl, rfl, rfl, rfl, by decide, rfl⟩ rfl dX6_lookBack_13 ?_
    refine g_icmp_ge 16 37 C dX6_lookBack_16 (by decide) (fun c => ?_) (fun c => ?_)
    · replace h := it_e c h
      refine GG.sub (lv' := [(0, .ref h_t), (1, .ref h_a0), (2, .int v2)]) [0, 1, 2] rfl ?_
      exact hx (v3, s_notes) h
    · replace h := if_e c h
      refine g_aload_n 19 C 0 dX6_lookBack_19 rfl rfl ?_
      refine g_get 20 C in_X6_lookBack_X6 0 3 rfl rfl (by decide) fl_X6_lookBack_21 rfl rfl dX6_lookBack_20 ?_
      refine g_aload_n 23 C 0 dX6_lookBack_23 rfl rfl ?_
      refine g_get 24 C in_X6_lookBack_X6 0 1 rfl rfl (by decide) fl_X6_lookBack_15 rfl rfl dX6_lookBack_24 ?_
      refine g_iload_n 27 C 3 dX6_lookBack_27 rfl rfl ?_
      obtain ⟨o7, h⟩ := ob_e h
      refine g_iald 28 C 2 rfl o7 dX6_lookBack_28 ?_
      refine g_iconst 29 C (0 : Int32) dX6_lookBack_29 (by decide) ?_
      obtain ⟨o8, h⟩ := ob_e h
      refine g_iast 30 C (W_X6_lookBack k h_t h_t_ends h_t_order h_t_notes h_t_lookedAt h_a0 h_t_worths z0 s_whole s_pieceCount s_lookedBack s_ends s_order (upd s_notes (s_order v3.toNatClampNeg).toNatClampNeg (0 : Int32)) s_lookedAt s_a0) 3 rfl o8 rfl dX6_lookBack_30 ?_
      refine g_iinc 31 C 3 (1 : Int32) [(3, .int (v3 + (1 : Int32))), (0, .ref h_t), (1, .ref h_a0), (2, .int v2)] dX6_lookBack_31 rfl (by decide) (by decide) rfl ?_
      refine g_goto 34 8 C dX6_lookBack_34 (by decide) ?_
      refine GG.sub (lv' := [(0, .ref h_t), (1, .ref h_a0), (2, .int v2), (3, .int (v3 + (1 : Int32)))]) [1, 2, 3, 0] rfl ?_
      exact hr ((v3 + (1 : Int32)), (upd s_notes (s_order v3.toNatClampNeg).toNatClampNeg (0 : Int32))) h
set_option maxHeartbeats 4000000 in
set_option maxRecDepth 100000 in
theorem ok_B_X6_lookBack_69 {h_t : Nat} {h_t_ends : Nat} {h_t_order : Nat} {h_t_notes : Nat} {h_t_lookedAt : Nat} {h_a0 : Nat} {h_t_worths : Nat} {z0 : Nat} {s_whole : Int32} {s_pieceCount : Int32} {s_lookedBack : Int32} {s_ends : Nat → Int32} {s_order : Nat → Int32} {s_notes : Nat → Int32} {s_lookedAt : Nat → Int32} {s_a0 : Nat → Int32} {v2 : Int32} {v3 : Int32} {res : Int32 × (Nat → Int32) × (Nat → Int32)} {kx rec : Int32 × (Nat → Int32) → Option (Int32 × (Nat → Int32) × (Nat → Int32))} (C : CX p s m args meth c cX6_lookBack wsX6_lookBack RX6 4 D k A none) (hA : A = va_A w0 sz) (hx : ∀ t : Int32 × (Nat → Int32), kx t = some res → GG p l e rm_X6_lookBack s m args below meth c (MQ below (cQv D w0 sz (W_X6_lookBack k h_t h_t_ends h_t_order h_t_notes h_t_lookedAt h_a0 h_t_worths z0 s_whole s_pieceCount res.1 s_ends s_order res.2.1 res.2.2 s_a0)) args s 0 0 A) D A 4 0 0 75 [(0, .ref h_t), (1, .ref h_a0), (2, .int v2)] [] (W_X6_lookBack k h_t h_t_ends h_t_order h_t_notes h_t_lookedAt h_a0 h_t_worths z0 s_whole s_pieceCount s_lookedBack s_ends s_order t.2 s_lookedAt s_a0)) (hr : ∀ t : Int32 × (Nat → Int32), rec t = some res → GG p l e rm_X6_lookBack s m args below meth c (MQ below (cQv D w0 sz (W_X6_lookBack k h_t h_t_ends h_t_order h_t_notes h_t_lookedAt h_a0 h_t_worths z0 s_whole s_pieceCount res.1 s_ends s_order res.2.1 res.2.2 s_a0)) args s 0 0 A) D A 4 0 0 41 [(0, .ref h_t), (1, .ref h_a0), (2, .int v2), (3, .int t.1)] [] (W_X6_lookBack k h_t h_t_ends h_t_order h_t_notes h_t_lookedAt h_a0 h_t_worths z0 s_whole s_pieceCount s_lookedBack s_ends s_order t.2 s_lookedAt s_a0))  (h : B_X6_lookBack_69 kx rec s_notes v3 = some res) : GG p l e rm_X6_lookBack s m args below meth c (MQ below (cQv D w0 sz (W_X6_lookBack k h_t h_t_ends h_t_order h_t_notes h_t_lookedAt h_a0 h_t_worths z0 s_whole s_pieceCount res.1 s_ends s_order res.2.1 res.2.2 s_a0)) args s 0 0 A) D A 4 0 0 69 [(0, .ref h_t), (1, .ref h_a0), (2, .int v2), (3, .int v3)] [] (W_X6_lookBack k h_t h_t_ends h_t_order h_t_notes h_t_lookedAt h_a0 h_t_worths z0 s_whole s_pieceCount s_lookedBack s_ends s_order s_notes s_lookedAt s_a0) := by
  unfold B_X6_lookBack_69 at h
  refine g_iinc 69 C 3 (-1 : Int32) [(3, .int (v3 + (-1 : Int32))), (0, .ref h_t), (1, .ref h_a0), (2, .int v2)] dX6_lookBack_69 rfl (by decide) (by decide) rfl ?_
  refine g_goto 72 41 C dX6_lookBack_72 (by decide) ?_
  refine GG.sub (lv' := [(0, .ref h_t), (1, .ref h_a0), (2, .int v2), (3, .int (v3 + (-1 : Int32)))]) [1, 2, 3, 0] rfl ?_
  exact hr ((v3 + (-1 : Int32)), s_notes) h
set_option maxHeartbeats 4000000 in
set_option maxRecDepth 100000 in
theorem ok_L_X6_lookBack_41 {h_t : Nat} {h_t_ends : Nat} {h_t_order : Nat} {h_t_notes : Nat} {h_t_lookedAt : Nat} {h_a0 : Nat} {h_t_worths : Nat} {z0 : Nat} {s_whole : Int32} {s_pieceCount : Int32} {s_lookedBack : Int32} {s_ends : Nat → Int32} {s_order : Nat → Int32} {s_lookedAt : Nat → Int32} {s_a0 : Nat → Int32} {v2 : Int32} {res : Int32 × (Nat → Int32) × (Nat → Int32)} (C : CX p s m args meth c cX6_lookBack wsX6_lookBack RX6 4 D k A none) (hA : A = va_A w0 sz) {kx : Int32 × (Nat → Int32) → Option (Int32 × (Nat → Int32) × (Nat → Int32))} (hx : ∀ t : Int32 × (Nat → Int32), kx t = some res → GG p l e rm_X6_lookBack s m args below meth c (MQ below (cQv D w0 sz (W_X6_lookBack k h_t h_t_ends h_t_order h_t_notes h_t_lookedAt h_a0 h_t_worths z0 s_whole s_pieceCount res.1 s_ends s_order res.2.1 res.2.2 s_a0)) args s 0 0 A) D A 4 0 0 75 [(0, .ref h_t), (1, .ref h_a0), (2, .int v2)] [] (W_X6_lookBack k h_t h_t_ends h_t_order h_t_notes h_t_lookedAt h_a0 h_t_worths z0 s_whole s_pieceCount s_lookedBack s_ends s_order t.2 s_lookedAt s_a0)) : ∀ (n : Nat) (t : Int32 × (Nat → Int32)), L_X6_lookBack_41 z0 s_whole s_ends s_order s_a0 kx n t = some res → GG p l e rm_X6_lookBack s m args below meth c (MQ below (cQv D w0 sz (W_X6_lookBack k h_t h_t_ends h_t_order h_t_notes h_t_lookedAt h_a0 h_t_worths z0 s_whole s_pieceCount res.1 s_ends s_order res.2.1 res.2.2 s_a0)) args s 0 0 A) D A 4 0 0 41 [(0, .ref h_t), (1, .ref h_a0), (2, .int v2), (3, .int t.1)] [] (W_X6_lookBack k h_t h_t_ends h_t_order h_t_notes h_t_lookedAt h_a0 h_t_worths z0 s_whole s_pieceCount s_lookedBack s_ends s_order t.2 s_lookedAt s_a0) := by
  intro n
  induction n with
  | zero => intro t h; cases h
  | succ n ih =>
    intro t h
    obtain ⟨v3, s_notes⟩ := t
    replace h : LB_X6_lookBack_41 z0 s_whole s_ends s_order s_a0 kx (L_X6_lookBack_41 z0 s_whole s_ends s_order s_a0 kx n) v3 s_notes = some res := h
    have hr := ih
    unfold LB_X6_lookBack_41 at h
    refine g_iload_n 41 C 3 dX6_lookBack_41 rfl rfl ?_
    refine g_iconst 42 C (1 : Int32) dX6_lookBack_42 (by decide) ?_
    refine g_icmp_lt 43 75 C dX6_lookBack_43 (by decide) (fun c => ?_) (fun c => ?_)
    · replace h := it_e c h
      refine GG.sub (lv' := [(0, .ref h_t), (1, .ref h_a0), (2, .int v2)]) [0, 1, 2] rfl ?_
      exact hx (v3, s_notes) h
    · replace h := if_e c h
      refine g_aload_n 46 C 1 dX6_lookBack_46 rfl rfl ?_
      refine g_iload_n 47 C 3 dX6_lookBack_47 rfl rfl ?_
      obtain ⟨o9, h⟩ := ob_e h
      refine g_iald 48 C 5 rfl o9 dX6_lookBack_48 ?_
      refine g_aload_n 49 C 1 dX6_lookBack_49 rfl rfl ?_
      refine g_iload_n 50 C 3 dX6_lookBack_50 rfl rfl ?_
      refine g_iconst 51 C (1 : Int32) dX6_lookBack_51 (by decide) ?_
      refine g_iadd 52 C dX6_lookBack_52 ?_
      obtain ⟨o10, h⟩ := ob_e h
      refine g_iald 53 C 5 rfl o10 dX6_lookBack_53 ?_
      refine g_icmp_eq 54 69 C dX6_lookBack_54 (by decide) (fun c => ?_) (fun c => ?_)
      · replace h := it_e c h
        refine GG.sub (lv' := [(0, .ref h_t), (1, .ref h_a0), (2, .int v2), (3, .int v3)]) [0, 1, 2, 3] rfl ?_
        exact ok_B_X6_lookBack_69 C hA hx hr h
      · replace h := if_e c h
        refine g_aload_n 57 C 0 dX6_lookBack_57 rfl rfl ?_
        refine g_aload_n 58 C 1 dX6_lookBack_58 rfl rfl ?_
        refine g_iload_n 59 C 3 dX6_lookBack_59 rfl rfl ?_
        obtain ⟨o11, h⟩ := ob_e h
        refine g_iald 60 C 5 rfl o11 dX6_lookBack_60 ?_
        refine g_aload_n 61 C 1 dX6_lookBack_61 rfl rfl ?_
        refine g_iload_n 62 C 3 dX6_lookBack_62 rfl rfl ?_
        refine g_iconst 63 C (1 : Int32) dX6_lookBack_63 (by decide) ?_
        refine g_iadd 64 C dX6_lookBack_64 ?_
        obtain ⟨o12, h⟩ := ob_e h
        refine g_iald 65 C 5 rfl o12 dX6_lookBack_65 ?_
        obtain ⟨q13, e14, h⟩ := bi_e h
        refine g_callVv 66 C (As := [.int (s_a0 v3.toNatClampNeg), .int (s_a0 (v3 + (1 : Int32)).toNatClampNeg)]) [0, 1, 2, 3] [4, 5] [2, 3, 4, 5, 0, 1] (W_X6_lookBack k h_t h_t_ends h_t_order h_t_notes h_t_lookedAt h_a0 h_t_worths z0 s_whole s_pieceCount s_lookedBack s_ends s_order q13 s_lookedAt s_a0) 0 (fun sz => k_X6_lookAhead h_t h_t_ends h_t_order h_t_notes h_t_worths h_t_lookedAt s_whole s_pieceCount s_lookedBack s_ends s_order s_notes (s_a0 v3.toNatClampNeg) (s_a0 (v3 + (1 : Int32)).toNatClampNeg) q13 e14 sz) gX6_lookBack_X6_lookAhead rfl pd_X6_lookAhead rfl rfl rfl ⟨rfl, rfl, Nat.le_of_ble_eq_true rfl, Nat.le_of_ble_eq_true rfl⟩ (Nat.le_of_ble_eq_true rfl) ⟨Nat.zero_le _, Nat.zero_le _⟩ ⟨rfl, rfl, rfl, rfl, rfl, by decide, rfl⟩ rfl dX6_lookBack_66 ?_
        refine GG.sub (lv' := [(0, .ref h_t), (1, .ref h_a0), (2, .int v2), (3, .int v3)]) [0, 1, 2, 3] rfl ?_
        exact ok_B_X6_lookBack_69 C hA hx hr h
set_option maxHeartbeats 4000000 in
set_option maxRecDepth 100000 in
theorem ok_B_X6_lookBack_75 {h_t : Nat} {h_t_ends : Nat} {h_t_order : Nat} {h_t_notes : Nat} {h_t_lookedAt : Nat} {h_a0 : Nat} {h_t_worths : Nat} {z0 : Nat} {s_whole : Int32} {s_pieceCount : Int32} {s_lookedBack : Int32} {s_ends : Nat → Int32} {s_order : Nat → Int32} {s_notes : Nat → Int32} {s_lookedAt : Nat → Int32} {s_a0 : Nat → Int32} {v2 : Int32} {res : Int32 × (Nat → Int32) × (Nat → Int32)} (C : CX p s m args meth c cX6_lookBack wsX6_lookBack RX6 4 D k A none) (hA : A = va_A w0 sz)  (h : B_X6_lookBack_75 z0 s_notes s_lookedAt s_a0 v2 = some res) : GG p l e rm_X6_lookBack s m args below meth c (MQ below (cQv D w0 sz (W_X6_lookBack k h_t h_t_ends h_t_order h_t_notes h_t_lookedAt h_a0 h_t_worths z0 s_whole s_pieceCount res.1 s_ends s_order res.2.1 res.2.2 s_a0)) args s 0 0 A) D A 4 0 0 75 [(0, .ref h_t), (1, .ref h_a0), (2, .int v2)] [] (W_X6_lookBack k h_t h_t_ends h_t_order h_t_notes h_t_lookedAt h_a0 h_t_worths z0 s_whole s_pieceCount s_lookedBack s_ends s_order s_notes s_lookedAt s_a0) := by
  unfold B_X6_lookBack_75 at h
  refine g_aload_n 75 C 1 dX6_lookBack_75 rfl rfl ?_
  refine g_iconst 76 C (0 : Int32) dX6_lookBack_76 (by decide) ?_
  refine g_aload_n 77 C 0 dX6_lookBack_77 rfl rfl ?_
  refine g_get 78 C in_X6_lookBack_X6 0 7 rfl rfl (by decide) fl_X6_lookBack_24 rfl rfl dX6_lookBack_78 ?_
  refine g_iconst 81 C (0 : Int32) dX6_lookBack_81 (by decide) ?_
  refine g_bipush 82 C (61 : Int32) dX6_lookBack_82 (by decide) ?_
  obtain ⟨o15, h⟩ := ob_e h
  refine g_copyI 84 C (W_X6_lookBack k h_t h_t_ends h_t_order h_t_notes h_t_lookedAt h_a0 h_t_worths z0 s_whole s_pieceCount s_lookedBack s_ends s_order s_notes (va_cpy s_a0 s_lookedAt (0 : Int32).toNatClampNeg (0 : Int32).toNatClampNeg (61 : Int32).toNatClampNeg) s_a0) 5 4 cl_X6_lookBack_74 native_X6_lookBack_copy static_X6_lookBack_copy init_X6_lookBack_copy rfl rfl o15 (Nat.le_of_ble_eq_true rfl) (by decide) rfl dX6_lookBack_84 ?_
  refine g_aload_n 87 C 0 dX6_lookBack_87 rfl rfl ?_
  refine g_iload_n 88 C 2 dX6_lookBack_88 rfl rfl ?_
  refine g_put 89 C (W_X6_lookBack k h_t h_t_ends h_t_order h_t_notes h_t_lookedAt h_a0 h_t_worths z0 s_whole s_pieceCount v2 s_ends s_order s_notes (va_cpy s_a0 s_lookedAt (0 : Int32).toNatClampNeg (0 : Int32).toNatClampNeg (61 : Int32).toNatClampNeg) s_a0) in_X6_lookBack_X6 tyX6 tyX6_ok nmX6 0 6 rfl rfl (by decide) fl_X6_lookBack_36 rfl rfl (tyX6_ok 6 (by decide)) rfl rfl (Nat.le_of_ble_eq_true rfl) rfl dX6_lookBack_89 ?_
  obtain rfl := Option.some.inj h
  exact g_vret 92 C hA dX6_lookBack_92 rfl
set_option maxHeartbeats 4000000 in
set_option maxRecDepth 100000 in
theorem ok_B_X6_lookBack_37 {h_t : Nat} {h_t_ends : Nat} {h_t_order : Nat} {h_t_notes : Nat} {h_t_lookedAt : Nat} {h_a0 : Nat} {h_t_worths : Nat} {z0 : Nat} {s_whole : Int32} {s_pieceCount : Int32} {s_lookedBack : Int32} {s_ends : Nat → Int32} {s_order : Nat → Int32} {s_notes : Nat → Int32} {s_lookedAt : Nat → Int32} {s_a0 : Nat → Int32} {v2 : Int32} {res : Int32 × (Nat → Int32) × (Nat → Int32)} (C : CX p s m args meth c cX6_lookBack wsX6_lookBack RX6 4 D k A none) (hA : A = va_A w0 sz)  (h : B_X6_lookBack_37 z0 s_whole s_ends s_order s_notes s_lookedAt s_a0 v2 = some res) : GG p l e rm_X6_lookBack s m args below meth c (MQ below (cQv D w0 sz (W_X6_lookBack k h_t h_t_ends h_t_order h_t_notes h_t_lookedAt h_a0 h_t_worths z0 s_whole s_pieceCount res.1 s_ends s_order res.2.1 res.2.2 s_a0)) args s 0 0 A) D A 4 0 0 37 [(0, .ref h_t), (1, .ref h_a0), (2, .int v2)] [] (W_X6_lookBack k h_t h_t_ends h_t_order h_t_notes h_t_lookedAt h_a0 h_t_worths z0 s_whole s_pieceCount s_lookedBack s_ends s_order s_notes s_lookedAt s_a0) := by
  unfold B_X6_lookBack_37 at h
  refine g_iload_n 37 C 2 dX6_lookBack_37 rfl rfl ?_
  refine g_iconst 38 C (1 : Int32) dX6_lookBack_38 (by decide) ?_
  refine g_isub 39 C dX6_lookBack_39 ?_
  refine g_istore_n 40 C [(3, .int (v2 - (1 : Int32))), (0, .ref h_t), (1, .ref h_a0), (2, .int v2)] dX6_lookBack_40 rfl (by decide) rfl ?_
  refine GG.sub (lv' := [(0, .ref h_t), (1, .ref h_a0), (2, .int v2), (3, .int (v2 - (1 : Int32)))]) [1, 2, 3, 0] rfl ?_
  exact ok_L_X6_lookBack_41 C hA (fun t h => by
    refine GG.sub (lv' := [(0, .ref h_t), (1, .ref h_a0), (2, .int v2)]) [0, 1, 2] rfl ?_
    exact ok_B_X6_lookBack_75 C hA h) FUEL ((v2 - (1 : Int32)), s_notes) h
set_option maxHeartbeats 4000000 in
set_option maxRecDepth 100000 in
theorem k_X6_lookBack {l : Launch} {D : va_G} {k : Nat → ClassId} (h_t : Nat) (h_t_ends : Nat) (h_t_order : Nat) (h_t_notes : Nat) (h_t_lookedAt : Nat) (h_a0 : Nat) (h_t_worths : Nat) (z0 : Nat) (s_whole : Int32) (s_pieceCount : Int32) (s_lookedBack : Int32) (s_ends : Nat → Int32) (s_order : Nat → Int32) (s_notes : Nat → Int32) (s_lookedAt : Nat → Int32) (s_a0 : Nat → Int32) (v2 : Int32) (res : Int32 × (Nat → Int32) × (Nat → Int32)) (h : f_X6_lookBack z0 s_whole s_ends s_order s_notes s_lookedAt s_a0 v2 = some res) (sz : Nat) : Met l yX6_lookBack wsX6_lookBack rm_X6_lookBack (cPre D k [.ref h_t, .ref h_a0, .int v2] (W_X6_lookBack k h_t h_t_ends h_t_order h_t_notes h_t_lookedAt h_a0 h_t_worths z0 s_whole s_pieceCount s_lookedBack s_ends s_order s_notes s_lookedAt s_a0) sz) (cQv D (W_X6_lookBack k h_t h_t_ends h_t_order h_t_notes h_t_lookedAt h_a0 h_t_worths z0 s_whole s_pieceCount s_lookedBack s_ends s_order s_notes s_lookedAt s_a0) sz (W_X6_lookBack k h_t h_t_ends h_t_order h_t_notes h_t_lookedAt h_a0 h_t_worths z0 s_whole s_pieceCount res.1 s_ends s_order res.2.1 res.2.2 s_a0)) 0 0 (va_A (W_X6_lookBack k h_t h_t_ends h_t_order h_t_notes h_t_lookedAt h_a0 h_t_worths z0 s_whole s_pieceCount s_lookedBack s_ends s_order s_notes s_lookedAt s_a0) sz) := by
  refine met_of [(0, .ref h_t), (1, .ref h_a0), (2, .int v2)] (by decide) rfl rfl (Nat.le_of_ble_eq_true rfl) rfl ?_
  intro p e s m args below meth c A hA hsz C
  unfold f_X6_lookBack at h
  refine g_aload_n 0 C 0 dX6_lookBack_0 rfl rfl ?_
  refine g_aload_n 1 C 1 dX6_lookBack_1 rfl rfl ?_
  refine g_iload_n 2 C 2 dX6_lookBack_2 rfl rfl ?_
  obtain ⟨o1, h⟩ := ob_e h
  refine g_iald 3 C 5 rfl o1 dX6_lookBack_3 ?_
  obtain ⟨q2, e3, h⟩ := bi_e h
  refine g_callVi 4 C (As := [.int (s_a0 v2.toNatClampNeg)]) [0, 1] [2, 3, 4, 5] [4, 5, 0, 1, 2, 3] (W_X6_lookBack k h_t h_t_ends h_t_order h_t_notes h_t_lookedAt h_a0 h_t_worths z0 s_whole s_pieceCount s_lookedBack s_ends s_order s_notes s_lookedAt s_a0) 0 (fun sz => k_X6_from h_t h_t_ends h_t_worths h_t_order h_t_notes h_t_lookedAt s_whole s_pieceCount s_lookedBack s_ends (s_a0 v2.toNatClampNeg) q2 e3 sz) gX6_lookBack_X6_from rfl pd_X6_from rfl rfl rfl ⟨rfl, rfl, Nat.le_of_ble_eq_true rfl, Nat.le_of_ble_eq_true rfl⟩ (Nat.le_of_ble_eq_true rfl) ⟨Nat.zero_le _, Nat.zero_le _⟩ ⟨rfl, rfl, rfl, rfl, rfl, by decide, rfl⟩ rfl dX6_lookBack_4 ?_
  refine g_istore_n 7 C [(3, .int q2), (0, .ref h_t), (1, .ref h_a0), (2, .int v2)] dX6_lookBack_7 rfl (by decide) rfl ?_
  refine GG.sub (lv' := [(0, .ref h_t), (1, .ref h_a0), (2, .int v2), (3, .int q2)]) [1, 2, 3, 0] rfl ?_
  exact ok_L_X6_lookBack_8 C hA (fun t h => by
    refine GG.sub (lv' := [(0, .ref h_t), (1, .ref h_a0), (2, .int v2)]) [0, 1, 2] rfl ?_
    exact ok_B_X6_lookBack_37 C hA h) FUEL (q2, s_notes) h
end

/-! X6_hasLookedBack -/
abbrev W_X6_hasLookedBack (k : Nat → ClassId) (h_t : Nat) (h_t_worths : Nat) (h_t_lookedAt : Nat) (h_a0 : Nat) (h_a0_value : Nat) (h_a1 : Nat) (h_t_order : Nat) (h_t_ends : Nat) (h_t_notes : Nat) (h_a0_first : Nat) (h_a0_size : Nat) (z1 : Nat) (s_whole : Int32) (s_pieceCount : Int32) (s_lookedBack : Int32) (s_worths : Nat → Int32) (s_lookedAt : Nat → Int32) (s_a0_count : Int32) (s_a0_value : Nat → Int32) (s_a1 : Nat → Int32) : va_W := [(h_t, .inr (6, [.ref h_t_worths, .ref h_t_order, .ref h_t_ends, .ref h_t_notes, .int s_whole, .int s_pieceCount, .int s_lookedBack, .ref h_t_lookedAt])), (h_t_worths, .inl (k 0, 2048, .inl s_worths)), (h_t_lookedAt, .inl (k 0, 61, .inl s_lookedAt)), (h_a0, .inr (5, [.ref h_a0_first, .ref h_a0_size, .ref h_a0_value, .int s_a0_count])), (h_a0_value, .inl (k 0, 11, .inl s_a0_value)), (h_a1, .inl (k 0, z1, .inl s_a1))]
def rm_X6_hasLookedBack : Room := { frames := 0, cells := 0, slots := 0, locals := 0 }
theorem in_X6_hasLookedBack_X5 : ∀ w ∈ u_ws RX5 TX5 4, w ∈ wsX6_hasLookedBack := by decide +kernel
theorem in_X6_hasLookedBack_X6 : ∀ w ∈ u_ws RX6 TX6 8, w ∈ wsX6_hasLookedBack := by decide +kernel
theorem fl_X6_hasLookedBack_24 : Cond.fieldLink RX6 24 "LinkDays$Sets" "lookedAt" "[I" ∈ wsX6_hasLookedBack := by decide +kernel
theorem fl_X6_hasLookedBack_27 : Cond.fieldLink RX6 27 "LinkDays$Pieces" "count" "I" ∈ wsX6_hasLookedBack := by decide +kernel
theorem fl_X6_hasLookedBack_33 : Cond.fieldLink RX6 33 "LinkDays$Sets" "pieceCount" "I" ∈ wsX6_hasLookedBack := by decide +kernel
theorem fl_X6_hasLookedBack_36 : Cond.fieldLink RX6 36 "LinkDays$Sets" "lookedBack" "I" ∈ wsX6_hasLookedBack := by decide +kernel
theorem fl_X6_hasLookedBack_39 : Cond.fieldLink RX6 39 "LinkDays$Pieces" "value" "[I" ∈ wsX6_hasLookedBack := by decide +kernel
theorem fl_X6_hasLookedBack_9 : Cond.fieldLink RX6 9 "LinkDays$Sets" "worths" "[I" ∈ wsX6_hasLookedBack := by decide +kernel
theorem pd_X6_hasLookedBack : yX6_hasLookedBack.cls = RX6 ∧ yX6_hasLookedBack.cls ≠ "java/lang/invoke/MethodHandle" ∧ yX6_hasLookedBack.cls ≠ "java/lang/invoke/VarHandle" ∧ (parseMethodDescriptor yX6_hasLookedBack.desc).map (fun d => d.parameters.length) = some 3 := by decide +kernel
section
variable {p : Program} {l : Launch} {e : Env} {s : State} {m : MethodId} {args : Array Value} {below : List Frame} {meth : Method} {c : Code} {D : va_G} {k : Nat → ClassId} {A : Nat → Prop} {w0 : va_W} {sz : Nat}
set_option maxHeartbeats 4000000 in
set_option maxRecDepth 100000 in
theorem ok_B_X6_hasLookedBack_19 {h_t : Nat} {h_t_worths : Nat} {h_t_lookedAt : Nat} {h_a0 : Nat} {h_a0_value : Nat} {h_a1 : Nat} {h_t_order : Nat} {h_t_ends : Nat} {h_t_notes : Nat} {h_a0_first : Nat} {h_a0_size : Nat} {z1 : Nat} {s_whole : Int32} {s_pieceCount : Int32} {s_lookedBack : Int32} {s_worths : Nat → Int32} {s_lookedAt : Nat → Int32} {s_a0_count : Int32} {s_a0_value : Nat → Int32} {s_a1 : Nat → Int32} {res : Int32} (C : CX p s m args meth c cX6_hasLookedBack wsX6_hasLookedBack RX6 5 D k A (some .boolean)) (hA : A = va_A w0 sz)  (h : B_X6_hasLookedBack_19 = some res) : GG p l e rm_X6_hasLookedBack s m args below meth c (MQ below (cQi D w0 sz res (W_X6_hasLookedBack k h_t h_t_worths h_t_lookedAt h_a0 h_a0_value h_a1 h_t_order h_t_ends h_t_notes h_a0_first h_a0_size z1 s_whole s_pieceCount s_lookedBack s_worths s_lookedAt s_a0_count s_a0_value s_a1)) args s 0 0 A) D A 5 0 0 19 [] [] (W_X6_hasLookedBack k h_t h_t_worths h_t_lookedAt h_a0 h_a0_value h_a1 h_t_order h_t_ends h_t_notes h_a0_first h_a0_size z1 s_whole s_pieceCount s_lookedBack s_worths s_lookedAt s_a0_count s_a0_value s_a1) := by
  unfold B_X6_hasLookedBack_19 at h
  refine g_iconst 19 C (0 : Int32) dX6_hasLookedBack_19 (by decide) ?_
  obtain rfl := Option.some.inj h
  exact g_zret 20 C hA rfl rfl dX6_hasLookedBack_20 rfl
set_option maxHeartbeats 4000000 in
set_option maxRecDepth 100000 in
theorem ok_L_X6_hasLookedBack_24 {h_t : Nat} {h_t_worths : Nat} {h_t_lookedAt : Nat} {h_a0 : Nat} {h_a0_value : Nat} {h_a1 : Nat} {h_t_order : Nat} {h_t_ends : Nat} {h_t_notes : Nat} {h_a0_first : Nat} {h_a0_size : Nat} {z1 : Nat} {s_whole : Int32} {s_pieceCount : Int32} {s_lookedBack : Int32} {s_worths : Nat → Int32} {s_lookedAt : Nat → Int32} {s_a0_count : Int32} {s_a0_value : Nat → Int32} {s_a1 : Nat → Int32} {v3 : Int32} {res : Int32} (C : CX p s m args meth c cX6_hasLookedBack wsX6_hasLookedBack RX6 5 D k A (some .boolean)) (hA : A = va_A w0 sz) {kx : Int32 → Option (Int32)} (hx : ∀ t : Int32, kx t = some res → GG p l e rm_X6_hasLookedBack s m args below meth c (MQ below (cQi D w0 sz res (W_X6_hasLookedBack k h_t h_t_worths h_t_lookedAt h_a0 h_a0_value h_a1 h_t_order h_t_ends h_t_notes h_a0_first h_a0_size z1 s_whole s_pieceCount s_lookedBack s_worths s_lookedAt s_a0_count s_a0_value s_a1)) args s 0 0 A) D A 5 0 0 60 [(0, .ref h_t), (2, .ref h_a1), (3, .int v3)] [] (W_X6_hasLookedBack k h_t h_t_worths h_t_lookedAt h_a0 h_a0_value h_a1 h_t_order h_t_ends h_t_notes h_a0_first h_a0_size z1 s_whole s_pieceCount s_lookedBack s_worths s_lookedAt s_a0_count s_a0_value s_a1)) : ∀ (n : Nat) (t : Int32), L_X6_hasLookedBack_24 s_pieceCount s_worths s_a0_value kx n t = some res → GG p l e rm_X6_hasLookedBack s m args below meth c (MQ below (cQi D w0 sz res (W_X6_hasLookedBack k h_t h_t_worths h_t_lookedAt h_a0 h_a0_value h_a1 h_t_order h_t_ends h_t_notes h_a0_first h_a0_size z1 s_whole s_pieceCount s_lookedBack s_worths s_lookedAt s_a0_count s_a0_value s_a1)) args s 0 0 A) D A 5 0 0 24 [(0, .ref h_t), (1, .ref h_a0), (2, .ref h_a1), (3, .int v3), (4, .int t)] [] (W_X6_hasLookedBack k h_t h_t_worths h_t_lookedAt h_a0 h_a0_value h_a1 h_t_order h_t_ends h_t_notes h_a0_first h_a0_size z1 s_whole s_pieceCount s_lookedBack s_worths s_lookedAt s_a0_count s_a0_value s_a1) := by
  intro n
  induction n with
  | zero => intro t h; cases h
  | succ n ih =>
    intro t h
    obtain ⟨v4, rfl⟩ : ∃ z, z = t := ⟨_, rfl⟩
    replace h : LB_X6_hasLookedBack_24 s_pieceCount s_worths s_a0_value kx (L_X6_hasLookedBack_24 s_pieceCount s_worths s_a0_value kx n) v4 = some res := h
    have hr := ih
    unfold LB_X6_hasLookedBack_24 at h
    refine g_iload 24 C 4 dX6_hasLookedBack_24 rfl ?_
    refine g_aload_n 26 C 0 dX6_hasLookedBack_26 rfl rfl ?_
    refine g_get 27 C in_X6_hasLookedBack_X6 0 5 rfl rfl (by decide) fl_X6_hasLookedBack_33 rfl rfl dX6_hasLookedBack_27 ?_
    refine g_icmp_ge 30 60 C dX6_hasLookedBack_30 (by decide) (fun c => ?_) (fun c => ?_)
    · replace h := it_e c h
      refine GG.sub (lv' := [(0, .ref h_t), (2, .ref h_a1), (3, .int v3)]) [0, 2, 3] rfl ?_
      exact hx v4 h
    · replace h := if_e c h
      refine g_aload_n 33 C 0 dX6_hasLookedBack_33 rfl rfl ?_
      refine g_get 34 C in_X6_hasLookedBack_X6 0 0 rfl rfl (by decide) fl_X6_hasLookedBack_9 rfl rfl dX6_hasLookedBack_34 ?_
      refine g_iconst 37 C (1 : Int32) dX6_hasLookedBack_37 (by decide) ?_
      refine g_iload 38 C 4 dX6_hasLookedBack_38 rfl ?_
      refine g_ishl 40 C dX6_hasLookedBack_40 ?_
      obtain ⟨o1, h⟩ := ob_e h
      refine g_iald 41 C 1 rfl o1 dX6_hasLookedBack_41 ?_
      refine g_aload_n 42 C 1 dX6_hasLookedBack_42 rfl rfl ?_
      refine g_get 43 C in_X6_hasLookedBack_X5 3 2 rfl rfl (by decide) fl_X6_hasLookedBack_39 rfl rfl dX6_hasLookedBack_43 ?_
      refine g_iload 46 C 4 dX6_hasLookedBack_46 rfl ?_
      obtain ⟨o2, h⟩ := ob_e h
      refine g_iald 48 C 4 rfl o2 dX6_hasLookedBack_48 ?_
      refine g_icmp_eq 49 54 C dX6_hasLookedBack_49 (by decide) (fun c => ?_) (fun c => ?_)
      · replace h := it_e c h
        refine g_iinc 54 C 4 (1 : Int32) [(4, .int (v4 + (1 : Int32))), (0, .ref h_t), (1, .ref h_a0), (2, .ref h_a1), (3, .int v3)] dX6_hasLookedBack_54 rfl (by decide) (by decide) rfl ?_
        refine g_goto 57 24 C dX6_hasLookedBack_57 (by decide) ?_
        refine GG.sub (lv' := [(0, .ref h_t), (1, .ref h_a0), (2, .ref h_a1), (3, .int v3), (4, .int (v4 + (1 : Int32)))]) [1, 2, 3, 4, 0] rfl ?_
        exact hr (v4 + (1 : Int32)) h
      · replace h := if_e c h
        refine g_iconst 52 C (0 : Int32) dX6_hasLookedBack_52 (by decide) ?_
        obtain rfl := Option.some.inj h
        exact g_zret 53 C hA rfl rfl dX6_hasLookedBack_53 rfl
set_option maxHeartbeats 4000000 in
set_option maxRecDepth 100000 in
theorem ok_L_X6_hasLookedBack_63 {h_t : Nat} {h_t_worths : Nat} {h_t_lookedAt : Nat} {h_a0 : Nat} {h_a0_value : Nat} {h_a1 : Nat} {h_t_order : Nat} {h_t_ends : Nat} {h_t_notes : Nat} {h_a0_first : Nat} {h_a0_size : Nat} {z1 : Nat} {s_whole : Int32} {s_pieceCount : Int32} {s_lookedBack : Int32} {s_worths : Nat → Int32} {s_lookedAt : Nat → Int32} {s_a0_count : Int32} {s_a0_value : Nat → Int32} {s_a1 : Nat → Int32} {v3 : Int32} {res : Int32} (C : CX p s m args meth c cX6_hasLookedBack wsX6_hasLookedBack RX6 5 D k A (some .boolean)) (hA : A = va_A w0 sz) {kx : Int32 → Option (Int32)} (hx : ∀ t : Int32, kx t = some res → GG p l e rm_X6_hasLookedBack s m args below meth c (MQ below (cQi D w0 sz res (W_X6_hasLookedBack k h_t h_t_worths h_t_lookedAt h_a0 h_a0_value h_a1 h_t_order h_t_ends h_t_notes h_a0_first h_a0_size z1 s_whole s_pieceCount s_lookedBack s_worths s_lookedAt s_a0_count s_a0_value s_a1)) args s 0 0 A) D A 5 0 0 91 [] [] (W_X6_hasLookedBack k h_t h_t_worths h_t_lookedAt h_a0 h_a0_value h_a1 h_t_order h_t_ends h_t_notes h_a0_first h_a0_size z1 s_whole s_pieceCount s_lookedBack s_worths s_lookedAt s_a0_count s_a0_value s_a1)) : ∀ (n : Nat) (t : Int32), L_X6_hasLookedBack_63 z1 s_lookedAt s_a1 v3 kx n t = some res → GG p l e rm_X6_hasLookedBack s m args below meth c (MQ below (cQi D w0 sz res (W_X6_hasLookedBack k h_t h_t_worths h_t_lookedAt h_a0 h_a0_value h_a1 h_t_order h_t_ends h_t_notes h_a0_first h_a0_size z1 s_whole s_pieceCount s_lookedBack s_worths s_lookedAt s_a0_count s_a0_value s_a1)) args s 0 0 A) D A 5 0 0 63 [(0, .ref h_t), (2, .ref h_a1), (3, .int v3), (4, .int t)] [] (W_X6_hasLookedBack k h_t h_t_worths h_t_lookedAt h_a0 h_a0_value h_a1 h_t_order h_t_ends h_t_notes h_a0_first h_a0_size z1 s_whole s_pieceCount s_lookedBack s_worths s_lookedAt s_a0_count s_a0_value s_a1) := by
  intro n
  induction n with
  | zero => intro t h; cases h
  | succ n ih =>
    intro t h
    obtain ⟨v4, rfl⟩ : ∃ z, z = t := ⟨_, rfl⟩
    replace h : LB_X6_hasLookedBack_63 z1 s_lookedAt s_a1 v3 kx (L_X6_hasLookedBack_63 z1 s_lookedAt s_a1 v3 kx n) v4 = some res := h
    have hr := ih
    unfold LB_X6_hasLookedBack_63 at h
    refine g_iload 63 C 3 dX6_hasLookedBack_63 rfl ?_
    refine g_iload_n 65 C 2 dX6_hasLookedBack_65 rfl rfl ?_
    refine g_icmp_gt 66 91 C dX6_hasLookedBack_66 (by decide) (fun c => ?_) (fun c => ?_)
    · replace h := it_e c h
      refine GG.sub (lv' := []) [] rfl ?_
      exact hx v4 h
    · replace h := if_e c h
      refine g_aload_n 69 C 0 dX6_hasLookedBack_69 rfl rfl ?_
      refine g_get 70 C in_X6_hasLookedBack_X6 0 7 rfl rfl (by decide) fl_X6_hasLookedBack_24 rfl rfl dX6_hasLookedBack_70 ?_
      refine g_iload 73 C 3 dX6_hasLookedBack_73 rfl ?_
      obtain ⟨o3, h⟩ := ob_e h
      refine g_iald 75 C 2 rfl o3 dX6_hasLookedBack_75 ?_
      refine g_aload_n 76 C 1 dX6_hasLookedBack_76 rfl rfl ?_
      refine g_iload 77 C 3 dX6_hasLookedBack_77 rfl ?_
      obtain ⟨o4, h⟩ := ob_e h
      refine g_iald 79 C 5 rfl o4 dX6_hasLookedBack_79 ?_
      refine g_icmp_eq 80 85 C dX6_hasLookedBack_80 (by decide) (fun c => ?_) (fun c => ?_)
      · replace h := it_e c h
        refine g_iinc 85 C 3 (1 : Int32) [(4, .int (v4 + (1 : Int32))), (0, .ref h_t), (2, .ref h_a1), (3, .int v3)] dX6_hasLookedBack_85 rfl (by decide) (by decide) rfl ?_
        refine g_goto 88 63 C dX6_hasLookedBack_88 (by decide) ?_
        refine GG.sub (lv' := [(0, .ref h_t), (2, .ref h_a1), (3, .int v3), (4, .int (v4 + (1 : Int32)))]) [1, 2, 3, 0] rfl ?_
        exact hr (v4 + (1 : Int32)) h
      · replace h := if_e c h
        refine g_iconst 83 C (0 : Int32) dX6_hasLookedBack_83 (by decide) ?_
        obtain rfl := Option.some.inj h
        exact g_zret 84 C hA rfl rfl dX6_hasLookedBack_84 rfl
set_option maxHeartbeats 4000000 in
set_option maxRecDepth 100000 in
theorem ok_B_X6_hasLookedBack_91 {h_t : Nat} {h_t_worths : Nat} {h_t_lookedAt : Nat} {h_a0 : Nat} {h_a0_value : Nat} {h_a1 : Nat} {h_t_order : Nat} {h_t_ends : Nat} {h_t_notes : Nat} {h_a0_first : Nat} {h_a0_size : Nat} {z1 : Nat} {s_whole : Int32} {s_pieceCount : Int32} {s_lookedBack : Int32} {s_worths : Nat → Int32} {s_lookedAt : Nat → Int32} {s_a0_count : Int32} {s_a0_value : Nat → Int32} {s_a1 : Nat → Int32} {res : Int32} (C : CX p s m args meth c cX6_hasLookedBack wsX6_hasLookedBack RX6 5 D k A (some .boolean)) (hA : A = va_A w0 sz)  (h : B_X6_hasLookedBack_91 = some res) : GG p l e rm_X6_hasLookedBack s m args below meth c (MQ below (cQi D w0 sz res (W_X6_hasLookedBack k h_t h_t_worths h_t_lookedAt h_a0 h_a0_value h_a1 h_t_order h_t_ends h_t_notes h_a0_first h_a0_size z1 s_whole s_pieceCount s_lookedBack s_worths s_lookedAt s_a0_count s_a0_value s_a1)) args s 0 0 A) D A 5 0 0 91 [] [] (W_X6_hasLookedBack k h_t h_t_worths h_t_lookedAt h_a0 h_a0_value h_a1 h_t_order h_t_ends h_t_notes h_a0_first h_a0_size z1 s_whole s_pieceCount s_lookedBack s_worths s_lookedAt s_a0_count s_a0_value s_a1) := by
  unfold B_X6_hasLookedBack_91 at h
  refine g_iconst 91 C (1 : Int32) dX6_hasLookedBack_91 (by decide) ?_
  obtain rfl := Option.some.inj h
  exact g_zret 92 C hA rfl rfl dX6_hasLookedBack_92 rfl
set_option maxHeartbeats 4000000 in
set_option maxRecDepth 100000 in
theorem ok_B_X6_hasLookedBack_60 {h_t : Nat} {h_t_worths : Nat} {h_t_lookedAt : Nat} {h_a0 : Nat} {h_a0_value : Nat} {h_a1 : Nat} {h_t_order : Nat} {h_t_ends : Nat} {h_t_notes : Nat} {h_a0_first : Nat} {h_a0_size : Nat} {z1 : Nat} {s_whole : Int32} {s_pieceCount : Int32} {s_lookedBack : Int32} {s_worths : Nat → Int32} {s_lookedAt : Nat → Int32} {s_a0_count : Int32} {s_a0_value : Nat → Int32} {s_a1 : Nat → Int32} {v3 : Int32} {res : Int32} (C : CX p s m args meth c cX6_hasLookedBack wsX6_hasLookedBack RX6 5 D k A (some .boolean)) (hA : A = va_A w0 sz)  (h : B_X6_hasLookedBack_60 z1 s_lookedAt s_a1 v3 = some res) : GG p l e rm_X6_hasLookedBack s m args below meth c (MQ below (cQi D w0 sz res (W_X6_hasLookedBack k h_t h_t_worths h_t_lookedAt h_a0 h_a0_value h_a1 h_t_order h_t_ends h_t_notes h_a0_first h_a0_size z1 s_whole s_pieceCount s_lookedBack s_worths s_lookedAt s_a0_count s_a0_value s_a1)) args s 0 0 A) D A 5 0 0 60 [(0, .ref h_t), (2, .ref h_a1), (3, .int v3)] [] (W_X6_hasLookedBack k h_t h_t_worths h_t_lookedAt h_a0 h_a0_value h_a1 h_t_order h_t_ends h_t_notes h_a0_first h_a0_size z1 s_whole s_pieceCount s_lookedBack s_worths s_lookedAt s_a0_count s_a0_value s_a1) := by
  unfold B_X6_hasLookedBack_60 at h
  refine g_iconst 60 C (1 : Int32) dX6_hasLookedBack_60 (by decide) ?_
  refine g_istore 61 C [(4, .int (1 : Int32)), (0, .ref h_t), (2, .ref h_a1), (3, .int v3)] dX6_hasLookedBack_61 (by decide) rfl ?_
  refine GG.sub (lv' := [(0, .ref h_t), (2, .ref h_a1), (3, .int v3), (4, .int (1 : Int32))]) [1, 2, 3, 0] rfl ?_
  exact ok_L_X6_hasLookedBack_63 C hA (fun t h => by
    refine GG.sub (lv' := []) [] rfl ?_
    exact ok_B_X6_hasLookedBack_91 C hA h) FUEL (1 : Int32) h
set_option maxHeartbeats 4000000 in
set_option maxRecDepth 100000 in
theorem k_X6_hasLookedBack {l : Launch} {D : va_G} {k : Nat → ClassId} (h_t : Nat) (h_t_worths : Nat) (h_t_lookedAt : Nat) (h_a0 : Nat) (h_a0_value : Nat) (h_a1 : Nat) (h_t_order : Nat) (h_t_ends : Nat) (h_t_notes : Nat) (h_a0_first : Nat) (h_a0_size : Nat) (z1 : Nat) (s_whole : Int32) (s_pieceCount : Int32) (s_lookedBack : Int32) (s_worths : Nat → Int32) (s_lookedAt : Nat → Int32) (s_a0_count : Int32) (s_a0_value : Nat → Int32) (s_a1 : Nat → Int32) (v3 : Int32) (res : Int32) (h : f_X6_hasLookedBack z1 s_pieceCount s_lookedBack s_worths s_lookedAt s_a0_count s_a0_value s_a1 v3 = some res) (sz : Nat) : Met l yX6_hasLookedBack wsX6_hasLookedBack rm_X6_hasLookedBack (cPre D k [.ref h_t, .ref h_a0, .ref h_a1, .int v3] (W_X6_hasLookedBack k h_t h_t_worths h_t_lookedAt h_a0 h_a0_value h_a1 h_t_order h_t_ends h_t_notes h_a0_first h_a0_size z1 s_whole s_pieceCount s_lookedBack s_worths s_lookedAt s_a0_count s_a0_value s_a1) sz) (cQi D (W_X6_hasLookedBack k h_t h_t_worths h_t_lookedAt h_a0 h_a0_value h_a1 h_t_order h_t_ends h_t_notes h_a0_first h_a0_size z1 s_whole s_pieceCount s_lookedBack s_worths s_lookedAt s_a0_count s_a0_value s_a1) sz res (W_X6_hasLookedBack k h_t h_t_worths h_t_lookedAt h_a0 h_a0_value h_a1 h_t_order h_t_ends h_t_notes h_a0_first h_a0_size z1 s_whole s_pieceCount s_lookedBack s_worths s_lookedAt s_a0_count s_a0_value s_a1)) 0 0 (va_A (W_X6_hasLookedBack k h_t h_t_worths h_t_lookedAt h_a0 h_a0_value h_a1 h_t_order h_t_ends h_t_notes h_a0_first h_a0_size z1 s_whole s_pieceCount s_lookedBack s_worths s_lookedAt s_a0_count s_a0_value s_a1) sz) := by
  refine met_of [(0, .ref h_t), (1, .ref h_a0), (2, .ref h_a1), (3, .int v3)] (by decide) rfl rfl (Nat.le_of_ble_eq_true rfl) rfl ?_
  intro p e s m args below meth c A hA hsz C
  unfold f_X6_hasLookedBack at h
  refine g_aload_n 0 C 0 dX6_hasLookedBack_0 rfl rfl ?_
  refine g_get 1 C in_X6_hasLookedBack_X6 0 6 rfl rfl (by decide) fl_X6_hasLookedBack_36 rfl rfl dX6_hasLookedBack_1 ?_
  refine g_iload_n 4 C 3 dX6_hasLookedBack_4 rfl rfl ?_
  refine g_icmp_ne 5 19 C dX6_hasLookedBack_5 (by decide) (fun c => ?_) (fun c => ?_)
  · replace h := if_e c h
    refine GG.sub (lv' := []) [] rfl ?_
    exact ok_B_X6_hasLookedBack_19 C hA h
  · replace h := it_e c h
    refine g_aload_n 8 C 0 dX6_hasLookedBack_8 rfl rfl ?_
    refine g_get 9 C in_X6_hasLookedBack_X6 0 5 rfl rfl (by decide) fl_X6_hasLookedBack_33 rfl rfl dX6_hasLookedBack_9 ?_
    refine g_aload_n 12 C 1 dX6_hasLookedBack_12 rfl rfl ?_
    refine g_get 13 C in_X6_hasLookedBack_X5 3 3 rfl rfl (by decide) fl_X6_hasLookedBack_27 rfl rfl dX6_hasLookedBack_13 ?_
    refine g_icmp_eq 16 21 C dX6_hasLookedBack_16 (by decide) (fun c => ?_) (fun c => ?_)
    · replace h := it_e c h
      refine g_iconst 21 C (0 : Int32) dX6_hasLookedBack_21 (by decide) ?_
      refine g_istore 22 C [(4, .int (0 : Int32)), (0, .ref h_t), (1, .ref h_a0), (2, .ref h_a1), (3, .int v3)] dX6_hasLookedBack_22 (by decide) rfl ?_
      refine GG.sub (lv' := [(0, .ref h_t), (1, .ref h_a0), (2, .ref h_a1), (3, .int v3), (4, .int (0 : Int32))]) [1, 2, 3, 4, 0] rfl ?_
      exact ok_L_X6_hasLookedBack_24 C hA (fun t h => by
        refine GG.sub (lv' := [(0, .ref h_t), (2, .ref h_a1), (3, .int v3)]) [0, 1, 2] rfl ?_
        exact ok_B_X6_hasLookedBack_60 C hA h) FUEL (0 : Int32) h
    · replace h := if_e c h
      refine GG.sub (lv' := []) [] rfl ?_
      exact ok_B_X6_hasLookedBack_19 C hA h
end

/-! X6_handedInAll -/
abbrev W_X6_handedInAll (k : Nat → ClassId) (h_t : Nat) (h_t_ends : Nat) (h_t_order : Nat) (h_t_notes : Nat) (h_a0 : Nat) (h_t_worths : Nat) (h_t_lookedAt : Nat) (z0 : Nat) (s_whole : Int32) (s_pieceCount : Int32) (s_lookedBack : Int32) (s_ends : Nat → Int32) (s_order : Nat → Int32) (s_notes : Nat → Int32) (s_a0 : Nat → Int32) : va_W := [(h_t, .inr (6, [.ref h_t_worths, .ref h_t_order, .ref h_t_ends, .ref h_t_notes, .int s_whole, .int s_pieceCount, .int s_lookedBack, .ref h_t_lookedAt])), (h_t_ends, .inl (k 0, 218, .inl s_ends)), (h_t_order, .inl (k 0, 2048, .inl s_order)), (h_t_notes, .inl (k 0, 2048, .inl s_notes)), (h_a0, .inl (k 0, z0, .inl s_a0))]
def rm_X6_handedInAll : Room := { frames := 3, cells := 0, slots := 0, locals := 70 }
theorem pd_X6_handedInAll : yX6_handedInAll.cls = RX6 ∧ yX6_handedInAll.cls ≠ "java/lang/invoke/MethodHandle" ∧ yX6_handedInAll.cls ≠ "java/lang/invoke/VarHandle" ∧ (parseMethodDescriptor yX6_handedInAll.desc).map (fun d => d.parameters.length) = some 1 := by decide +kernel
section
variable {p : Program} {l : Launch} {e : Env} {s : State} {m : MethodId} {args : Array Value} {below : List Frame} {meth : Method} {c : Code} {D : va_G} {k : Nat → ClassId} {A : Nat → Prop} {w0 : va_W} {sz : Nat}
set_option maxHeartbeats 4000000 in
set_option maxRecDepth 100000 in
theorem k_X6_handedInAll {l : Launch} {D : va_G} {k : Nat → ClassId} (h_t : Nat) (h_t_ends : Nat) (h_t_order : Nat) (h_t_notes : Nat) (h_a0 : Nat) (h_t_worths : Nat) (h_t_lookedAt : Nat) (z0 : Nat) (s_whole : Int32) (s_pieceCount : Int32) (s_lookedBack : Int32) (s_ends : Nat → Int32) (s_order : Nat → Int32) (s_notes : Nat → Int32) (s_a0 : Nat → Int32) (res : Int32) (h : f_X6_handedInAll z0 s_whole s_ends s_order s_notes s_a0 = some res) (sz : Nat) : Met l yX6_handedInAll wsX6_handedInAll rm_X6_handedInAll (cPre D k [.ref h_t, .ref h_a0] (W_X6_handedInAll k h_t h_t_ends h_t_order h_t_notes h_a0 h_t_worths h_t_lookedAt z0 s_whole s_pieceCount s_lookedBack s_ends s_order s_notes s_a0) sz) (cQi D (W_X6_handedInAll k h_t h_t_ends h_t_order h_t_notes h_a0 h_t_worths h_t_lookedAt z0 s_whole s_pieceCount s_lookedBack s_ends s_order s_notes s_a0) sz res (W_X6_handedInAll k h_t h_t_ends h_t_order h_t_notes h_a0 h_t_worths h_t_lookedAt z0 s_whole s_pieceCount s_lookedBack s_ends s_order s_notes s_a0)) 0 0 (va_A (W_X6_handedInAll k h_t h_t_ends h_t_order h_t_notes h_a0 h_t_worths h_t_lookedAt z0 s_whole s_pieceCount s_lookedBack s_ends s_order s_notes s_a0) sz) := by
  refine met_of [(0, .ref h_t), (1, .ref h_a0)] (by decide) rfl rfl (Nat.le_of_ble_eq_true rfl) rfl ?_
  intro p e s m args below meth c A hA hsz C
  unfold f_X6_handedInAll at h
  refine g_aload_n 0 C 0 dX6_handedInAll_0 rfl rfl ?_
  refine g_iconst 1 C (0 : Int32) dX6_handedInAll_1 (by decide) ?_
  refine g_aload_n 2 C 0 dX6_handedInAll_2 rfl rfl ?_
  refine g_iconst 3 C (0 : Int32) dX6_handedInAll_3 (by decide) ?_
  refine g_aload_n 4 C 1 dX6_handedInAll_4 rfl rfl ?_
  refine g_iconst 5 C (1 : Int32) dX6_handedInAll_5 (by decide) ?_
  obtain ⟨o1, h⟩ := ob_e h
  refine g_iald 6 C 4 rfl o1 dX6_handedInAll_6 ?_
  obtain ⟨q2, e3, h⟩ := bi_e h
  refine g_callVi 7 C (As := [.int (0 : Int32), .int (s_a0 (1 : Int32).toNatClampNeg)]) [0, 1, 2, 3] [4] [1, 2, 3, 4, 0] (W_X6_handedInAll k h_t h_t_ends h_t_order h_t_notes h_a0 h_t_worths h_t_lookedAt z0 s_whole s_pieceCount s_lookedBack s_ends s_order s_notes s_a0) 0 (fun sz => k_X6_follower h_t h_t_ends h_t_order h_t_notes h_t_worths h_t_lookedAt s_whole s_pieceCount s_lookedBack s_ends s_order s_notes (0 : Int32) (s_a0 (1 : Int32).toNatClampNeg) q2 e3 sz) gX6_handedInAll_X6_follower rfl pd_X6_follower rfl rfl rfl ⟨rfl, rfl, Nat.le_of_ble_eq_true rfl, Nat.le_of_ble_eq_true rfl⟩ (Nat.le_of_ble_eq_true rfl) ⟨Nat.zero_le _, Nat.zero_le _⟩ ⟨rfl, rfl, rfl, rfl, rfl, by decide, rfl⟩ rfl dX6_handedInAll_7 ?_
  obtain ⟨q4, e5, h⟩ := bi_e h
  refine g_callVi 10 C (As := [.int (0 : Int32), .int q2]) [0, 3] [1, 2, 4] [3, 0, 1, 4, 2] (W_X6_handedInAll k h_t h_t_ends h_t_order h_t_notes h_a0 h_t_worths h_t_lookedAt z0 s_whole s_pieceCount s_lookedBack s_ends s_order s_notes s_a0) 0 (fun sz => k_X6_handedTo h_t h_t_notes h_t_worths h_t_order h_t_ends h_t_lookedAt s_whole s_pieceCount s_lookedBack s_notes (0 : Int32) q2 q4 e5 sz) gX6_handedInAll_X6_handedTo rfl pd_X6_handedTo rfl rfl rfl ⟨rfl, rfl, Nat.le_of_ble_eq_true rfl, Nat.le_of_ble_eq_true rfl⟩ (Nat.le_of_ble_eq_true rfl) ⟨Nat.zero_le _, Nat.zero_le _⟩ ⟨rfl, rfl, rfl, rfl, rfl, by decide, rfl⟩ rfl dX6_handedInAll_10 ?_
  obtain rfl := Option.some.inj h
  exact g_iret 13 C hA rfl dX6_handedInAll_13 rfl
end

/-! X6_onCounter -/
abbrev W_X6_onCounter (k : Nat → ClassId) (h_t : Nat) (h_t_ends : Nat) (h_t_order : Nat) (h_t_notes : Nat) (h_a0 : Nat) (h_t_worths : Nat) (h_t_lookedAt : Nat) (z0 : Nat) (s_whole : Int32) (s_pieceCount : Int32) (s_lookedBack : Int32) (s_ends : Nat → Int32) (s_order : Nat → Int32) (s_notes : Nat → Int32) (s_a0 : Nat → Int32) : va_W := [(h_t, .inr (6, [.ref h_t_worths, .ref h_t_order, .ref h_t_ends, .ref h_t_notes, .int s_whole, .int s_pieceCount, .int s_lookedBack, .ref h_t_lookedAt])), (h_t_ends, .inl (k 0, 218, .inl s_ends)), (h_t_order, .inl (k 0, 2048, .inl s_order)), (h_t_notes, .inl (k 0, 2048, .inl s_notes)), (h_a0, .inl (k 0, z0, .inl s_a0))]
def rm_X6_onCounter : Room := { frames := 3, cells := 0, slots := 0, locals := 70 }
theorem pd_X6_onCounter : yX6_onCounter.cls = RX6 ∧ yX6_onCounter.cls ≠ "java/lang/invoke/MethodHandle" ∧ yX6_onCounter.cls ≠ "java/lang/invoke/VarHandle" ∧ (parseMethodDescriptor yX6_onCounter.desc).map (fun d => d.parameters.length) = some 2 := by decide +kernel
section
variable {p : Program} {l : Launch} {e : Env} {s : State} {m : MethodId} {args : Array Value} {below : List Frame} {meth : Method} {c : Code} {D : va_G} {k : Nat → ClassId} {A : Nat → Prop} {w0 : va_W} {sz : Nat}
set_option maxHeartbeats 4000000 in
set_option maxRecDepth 100000 in
theorem ok_L_X6_onCounter_5 {h_t : Nat} {h_t_ends : Nat} {h_t_order : Nat} {h_t_notes : Nat} {h_a0 : Nat} {h_t_worths : Nat} {h_t_lookedAt : Nat} {z0 : Nat} {s_whole : Int32} {s_pieceCount : Int32} {s_lookedBack : Int32} {s_ends : Nat → Int32} {s_order : Nat → Int32} {s_notes : Nat → Int32} {s_a0 : Nat → Int32} {v2 : Int32} {res : Int32} (C : CX p s m args meth c cX6_onCounter wsX6_onCounter RX6 5 D k A (some .int)) (hA : A = va_A w0 sz) {kx : Int32 × Int32 → Option (Int32)} (hx : ∀ t : Int32 × Int32, kx t = some res → GG p l e rm_X6_onCounter s m args below meth c (MQ below (cQi D w0 sz res (W_X6_onCounter k h_t h_t_ends h_t_order h_t_notes h_a0 h_t_worths h_t_lookedAt z0 s_whole s_pieceCount s_lookedBack s_ends s_order s_notes s_a0)) args s 0 0 A) D A 5 0 0 27 [(3, .int t.1)] [] (W_X6_onCounter k h_t h_t_ends h_t_order h_t_notes h_a0 h_t_worths h_t_lookedAt z0 s_whole s_pieceCount s_lookedBack s_ends s_order s_notes s_a0)) : ∀ (n : Nat) (t : Int32 × Int32), L_X6_onCounter_5 z0 s_whole s_ends s_order s_notes s_a0 v2 kx n t = some res → GG p l e rm_X6_onCounter s m args below meth c (MQ below (cQi D w0 sz res (W_X6_onCounter k h_t h_t_ends h_t_order h_t_notes h_a0 h_t_worths h_t_lookedAt z0 s_whole s_pieceCount s_lookedBack s_ends s_order s_notes s_a0)) args s 0 0 A) D A 5 0 0 5 [(0, .ref h_t), (1, .ref h_a0), (2, .int v2), (3, .int t.1), (4, .int t.2)] [] (W_X6_onCounter k h_t h_t_ends h_t_order h_t_notes h_a0 h_t_worths h_t_lookedAt z0 s_whole s_pieceCount s_lookedBack s_ends s_order s_notes s_a0) := by
  intro n
  induction n with
  | zero => intro t h; cases h
  | succ n ih =>
    intro t h
    obtain ⟨v3, v4⟩ := t
    replace h : LB_X6_onCounter_5 z0 s_whole s_ends s_order s_notes s_a0 v2 kx (L_X6_onCounter_5 z0 s_whole s_ends s_order s_notes s_a0 v2 kx n) v3 v4 = some res := h
    have hr := ih
    unfold LB_X6_onCounter_5 at h
    refine g_iload 5 C 4 dX6_onCounter_5 rfl ?_
    refine g_iload_n 7 C 2 dX6_onCounter_7 rfl rfl ?_
    refine g_icmp_gt 8 27 C dX6_onCounter_8 (by decide) (fun c => ?_) (fun c => ?_)
    · replace h := it_e c h
      refine GG.sub (lv' := [(3, .int v3)]) [3] rfl ?_
      exact hx (v3, v4) h
    · replace h := if_e c h
      refine g_aload_n 11 C 0 dX6_onCounter_11 rfl rfl ?_
      refine g_iload_n 12 C 3 dX6_onCounter_12 rfl rfl ?_
      refine g_aload_n 13 C 1 dX6_onCounter_13 rfl rfl ?_
      refine g_iload 14 C 4 dX6_onCounter_14 rfl ?_
      obtain ⟨o1, h⟩ := ob_e h
      refine g_iald 16 C 4 rfl o1 dX6_onCounter_16 ?_
      obtain ⟨q2, e3, h⟩ := bi_e h
      refine g_callVi 17 C (As := [.int v3, .int (s_a0 v4.toNatClampNeg)]) [0, 1, 2, 3] [4] [1, 2, 3, 4, 0] (W_X6_onCounter k h_t h_t_ends h_t_order h_t_notes h_a0 h_t_worths h_t_lookedAt z0 s_whole s_pieceCount s_lookedBack s_ends s_order s_notes s_a0) 0 (fun sz => k_X6_follower h_t h_t_ends h_t_order h_t_notes h_t_worths h_t_lookedAt s_whole s_pieceCount s_lookedBack s_ends s_order s_notes v3 (s_a0 v4.toNatClampNeg) q2 e3 sz) gX6_onCounter_X6_follower rfl pd_X6_follower rfl rfl rfl ⟨rfl, rfl, Nat.le_of_ble_eq_true rfl, Nat.le_of_ble_eq_true rfl⟩ (Nat.le_of_ble_eq_true rfl) ⟨Nat.zero_le _, Nat.zero_le _⟩ ⟨rfl, rfl, rfl, rfl, rfl, by decide, rfl⟩ rfl dX6_onCounter_17 ?_
      refine g_istore_n 20 C [(3, .int q2), (0, .ref h_t), (1, .ref h_a0), (2, .int v2), (4, .int v4)] dX6_onCounter_20 rfl (by decide) rfl ?_
      refine g_iinc 21 C 4 (1 : Int32) [(4, .int (v4 + (1 : Int32))), (3, .int q2), (0, .ref h_t), (1, .ref h_a0), (2, .int v2)] dX6_onCounter_21 rfl (by decide) (by decide) rfl ?_
      refine g_goto 24 5 C dX6_onCounter_24 (by decide) ?_
      refine GG.sub (lv' := [(0, .ref h_t), (1, .ref h_a0), (2, .int v2), (3, .int q2), (4, .int (v4 + (1 : Int32)))]) [2, 3, 4, 1, 0] rfl ?_
      exact hr (q2, (v4 + (1 : Int32))) h
set_option maxHeartbeats 4000000 in
set_option maxRecDepth 100000 in
theorem ok_B_X6_onCounter_27 {h_t : Nat} {h_t_ends : Nat} {h_t_order : Nat} {h_t_notes : Nat} {h_a0 : Nat} {h_t_worths : Nat} {h_t_lookedAt : Nat} {z0 : Nat} {s_whole : Int32} {s_pieceCount : Int32} {s_lookedBack : Int32} {s_ends : Nat → Int32} {s_order : Nat → Int32} {s_notes : Nat → Int32} {s_a0 : Nat → Int32} {v3 : Int32} {res : Int32} (C : CX p s m args meth c cX6_onCounter wsX6_onCounter RX6 5 D k A (some .int)) (hA : A = va_A w0 sz)  (h : B_X6_onCounter_27 v3 = some res) : GG p l e rm_X6_onCounter s m args below meth c (MQ below (cQi D w0 sz res (W_X6_onCounter k h_t h_t_ends h_t_order h_t_notes h_a0 h_t_worths h_t_lookedAt z0 s_whole s_pieceCount s_lookedBack s_ends s_order s_notes s_a0)) args s 0 0 A) D A 5 0 0 27 [(3, .int v3)] [] (W_X6_onCounter k h_t h_t_ends h_t_order h_t_notes h_a0 h_t_worths h_t_lookedAt z0 s_whole s_pieceCount s_lookedBack s_ends s_order s_notes s_a0) := by
  unfold B_X6_onCounter_27 at h
  refine g_iload_n 27 C 0 dX6_onCounter_27 rfl rfl ?_
  obtain rfl := Option.some.inj h
  exact g_iret 28 C hA rfl dX6_onCounter_28 rfl
set_option maxHeartbeats 4000000 in
set_option maxRecDepth 100000 in
theorem k_X6_onCounter {l : Launch} {D : va_G} {k : Nat → ClassId} (h_t : Nat) (h_t_ends : Nat) (h_t_order : Nat) (h_t_notes : Nat) (h_a0 : Nat) (h_t_worths : Nat) (h_t_lookedAt : Nat) (z0 : Nat) (s_whole : Int32) (s_pieceCount : Int32) (s_lookedBack : Int32) (s_ends : Nat → Int32) (s_order : Nat → Int32) (s_notes : Nat → Int32) (s_a0 : Nat → Int32) (v2 : Int32) (res : Int32) (h : f_X6_onCounter z0 s_whole s_ends s_order s_notes s_a0 v2 = some res) (sz : Nat) : Met l yX6_onCounter wsX6_onCounter rm_X6_onCounter (cPre D k [.ref h_t, .ref h_a0, .int v2] (W_X6_onCounter k h_t h_t_ends h_t_order h_t_notes h_a0 h_t_worths h_t_lookedAt z0 s_whole s_pieceCount s_lookedBack s_ends s_order s_notes s_a0) sz) (cQi D (W_X6_onCounter k h_t h_t_ends h_t_order h_t_notes h_a0 h_t_worths h_t_lookedAt z0 s_whole s_pieceCount s_lookedBack s_ends s_order s_notes s_a0) sz res (W_X6_onCounter k h_t h_t_ends h_t_order h_t_notes h_a0 h_t_worths h_t_lookedAt z0 s_whole s_pieceCount s_lookedBack s_ends s_order s_notes s_a0)) 0 0 (va_A (W_X6_onCounter k h_t h_t_ends h_t_order h_t_notes h_a0 h_t_worths h_t_lookedAt z0 s_whole s_pieceCount s_lookedBack s_ends s_order s_notes s_a0) sz) := by
  refine met_of [(0, .ref h_t), (1, .ref h_a0), (2, .int v2)] (by decide) rfl rfl (Nat.le_of_ble_eq_true rfl) rfl ?_
  intro p e s m args below meth c A hA hsz C
  unfold f_X6_onCounter at h
  refine g_iconst 0 C (0 : Int32) dX6_onCounter_0 (by decide) ?_
  refine g_istore_n 1 C [(3, .int (0 : Int32)), (0, .ref h_t), (1, .ref h_a0), (2, .int v2)] dX6_onCounter_1 rfl (by decide) rfl ?_
  refine g_iconst 2 C (1 : Int32) dX6_onCounter_2 (by decide) ?_
  refine g_istore 3 C [(4, .int (1 : Int32)), (3, .int (0 : Int32)), (0, .ref h_t), (1, .ref h_a0), (2, .int v2)] dX6_onCounter_3 (by decide) rfl ?_
  refine GG.sub (lv' := [(0, .ref h_t), (1, .ref h_a0), (2, .int v2), (3, .int (0 : Int32)), (4, .int (1 : Int32))]) [2, 3, 4, 1, 0] rfl ?_
  exact ok_L_X6_onCounter_5 C hA (fun t h => by
    refine GG.sub (lv' := [(3, .int t.1)]) [0] rfl ?_
    exact ok_B_X6_onCounter_27 C hA h) FUEL ((0 : Int32), (1 : Int32)) h
end
