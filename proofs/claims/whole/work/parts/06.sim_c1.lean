/-! X7_renew -/
abbrev W_X7_renew (k : Nat → ClassId) (h_t : Nat) (h_t_items : Nat) (s_there : Int32) (s_lane : Int32) (s_length : Int32) (s_items : Nat → Int64) : va_W := [(h_t, .inr (7, [.ref h_t_items, .int s_there, .int s_lane, .int s_length])), (h_t_items, .inl (k 1, 24, .inr (.inl s_items)))]
def rm_X7_renew : Room := { frames := 0, cells := 0, slots := 0, locals := 0 }
theorem in_X7_renew_X7 : ∀ w ∈ u_ws RX7 TX7 4, w ∈ wsX7_renew := by decide +kernel
theorem fl_X7_renew_15 : Cond.fieldLink RX7 15 "LinkDays$Sheet" "there" "Z" ∈ wsX7_renew := by decide +kernel
theorem fl_X7_renew_19 : Cond.fieldLink RX7 19 "LinkDays$Sheet" "lane" "I" ∈ wsX7_renew := by decide +kernel
theorem fl_X7_renew_23 : Cond.fieldLink RX7 23 "LinkDays$Sheet" "length" "I" ∈ wsX7_renew := by decide +kernel
theorem fl_X7_renew_9 : Cond.fieldLink RX7 9 "LinkDays$Sheet" "items" "[J" ∈ wsX7_renew := by decide +kernel
theorem pd_X7_renew : yX7_renew.cls = RX7 ∧ yX7_renew.cls ≠ "java/lang/invoke/MethodHandle" ∧ yX7_renew.cls ≠ "java/lang/invoke/VarHandle" ∧ (parseMethodDescriptor yX7_renew.desc).map (fun d => d.parameters.length) = some 2 := by decide +kernel
section
variable {p : Program} {l : Launch} {e : Env} {s : State} {m : MethodId} {args : Array Value} {below : List Frame} {meth : Method} {c : Code} {D : va_G} {k : Nat → ClassId} {A : Nat → Prop} {w0 : va_W} {sz : Nat}
set_option maxHeartbeats 4000000 in
set_option maxRecDepth 100000 in
theorem ok_L_X7_renew_17 {h_t : Nat} {h_t_items : Nat} {s_there : Int32} {s_lane : Int32} {s_length : Int32} {res : Int32 × Int32 × Int32 × (Nat → Int64)} (C : CX p s m args meth c cX7_renew wsX7_renew RX7 4 D k A none) (hA : A = va_A w0 sz) {kx : Int32 × (Nat → Int64) → Option (Int32 × Int32 × Int32 × (Nat → Int64))} (hx : ∀ t : Int32 × (Nat → Int64), kx t = some res → GG p l e rm_X7_renew s m args below meth c (MQ below (cQv D w0 sz (W_X7_renew k h_t h_t_items res.1 res.2.1 res.2.2.1 res.2.2.2)) args s 0 0 A) D A 4 0 0 36 [] [] (W_X7_renew k h_t h_t_items s_there s_lane s_length t.2)) : ∀ (n : Nat) (t : Int32 × (Nat → Int64)), L_X7_renew_17 kx n t = some res → GG p l e rm_X7_renew s m args below meth c (MQ below (cQv D w0 sz (W_X7_renew k h_t h_t_items res.1 res.2.1 res.2.2.1 res.2.2.2)) args s 0 0 A) D A 4 0 0 17 [(0, .ref h_t), (3, .int t.1)] [] (W_X7_renew k h_t h_t_items s_there s_lane s_length t.2) := by
  intro n
  induction n with
  | zero => intro t h; cases h
  | succ n ih =>
    intro t h
    obtain ⟨v3, s_items⟩ := t
    replace h : LB_X7_renew_17 kx (L_X7_renew_17 kx n) v3 s_items = some res := h
    have hr := ih
    unfold LB_X7_renew_17 at h
    refine g_iload_n 17 C 1 dX7_renew_17 rfl rfl ?_
    refine g_bipush 18 C (24 : Int32) dX7_renew_18 (by decide) ?_
    refine g_icmp_ge 20 36 C dX7_renew_20 (by decide) (fun c => ?_) (fun c => ?_)
    · replace h := it_e c h
      refine GG.sub (lv' := []) [] rfl ?_
      exact hx (v3, s_items) h
    · replace h := if_e c h
      refine g_aload_n 23 C 0 dX7_renew_23 rfl rfl ?_
      refine g_get 24 C in_X7_renew_X7 0 0 rfl rfl (by decide) fl_X7_renew_9 rfl rfl dX7_renew_24 ?_
      refine g_iload_n 27 C 1 dX7_renew_27 rfl rfl ?_
      refine g_lconst 28 C (0 : Int64) dX7_renew_28 (by decide) ?_
      obtain ⟨o1, h⟩ := ob_e h
      refine g_last 29 C (W_X7_renew k h_t h_t_items s_there s_lane s_length (vp_updL s_items v3.toNatClampNeg (0 : Int64))) 1 rfl o1 rfl dX7_renew_29 ?_
      refine g_iinc 30 C 1 (1 : Int32) [(3, .int (v3 + (1 : Int32))), (0, .ref h_t)] dX7_renew_30 rfl (by decide) (by decide) rfl ?_
      refine g_goto 33 17 C dX7_renew_33 (by decide) ?_
      refine GG.sub (lv' := [(0, .ref h_t), (3, .int (v3 + (1 : Int32)))]) [1, 0] rfl ?_
      exact hr ((v3 + (1 : Int32)), (vp_updL s_items v3.toNatClampNeg (0 : Int64))) h
set_option maxHeartbeats 4000000 in
set_option maxRecDepth 100000 in
theorem ok_B_X7_renew_36 {h_t : Nat} {h_t_items : Nat} {s_there : Int32} {s_lane : Int32} {s_length : Int32} {s_items : Nat → Int64} {res : Int32 × Int32 × Int32 × (Nat → Int64)} (C : CX p s m args meth c cX7_renew wsX7_renew RX7 4 D k A none) (hA : A = va_A w0 sz)  (h : B_X7_renew_36 s_there s_lane s_length s_items = some res) : GG p l e rm_X7_renew s m args below meth c (MQ below (cQv D w0 sz (W_X7_renew k h_t h_t_items res.1 res.2.1 res.2.2.1 res.2.2.2)) args s 0 0 A) D A 4 0 0 36 [] [] (W_X7_renew k h_t h_t_items s_there s_lane s_length s_items) := by
  unfold B_X7_renew_36 at h
  obtain rfl := Option.some.inj h
  exact g_vret 36 C hA dX7_renew_36 rfl
set_option maxHeartbeats 4000000 in
set_option maxRecDepth 100000 in
theorem k_X7_renew {l : Launch} {D : va_G} {k : Nat → ClassId} (h_t : Nat) (h_t_items : Nat) (s_there : Int32) (s_lane : Int32) (s_length : Int32) (s_items : Nat → Int64) (v1 : Int32) (v2 : Int32) (res : Int32 × Int32 × Int32 × (Nat → Int64)) (h : f_X7_renew s_items v1 v2 = some res) (sz : Nat) : Met l yX7_renew wsX7_renew rm_X7_renew (cPre D k [.ref h_t, .int v1, .int v2] (W_X7_renew k h_t h_t_items s_there s_lane s_length s_items) sz) (cQv D (W_X7_renew k h_t h_t_items s_there s_lane s_length s_items) sz (W_X7_renew k h_t h_t_items res.1 res.2.1 res.2.2.1 res.2.2.2)) 0 0 (va_A (W_X7_renew k h_t h_t_items s_there s_lane s_length s_items) sz) := by
  refine met_of [(0, .ref h_t), (1, .int v1), (2, .int v2)] (by decide) rfl rfl (Nat.le_of_ble_eq_true rfl) rfl ?_
  intro p e s m args below meth c A hA hsz C
  unfold f_X7_renew at h
  refine g_aload_n 0 C 0 dX7_renew_0 rfl rfl ?_
  refine g_iconst 1 C (1 : Int32) dX7_renew_1 (by decide) ?_
  refine g_put 2 C (W_X7_renew k h_t h_t_items (1 : Int32) s_lane s_length s_items) in_X7_renew_X7 tyX7 tyX7_ok nmX7 0 1 rfl rfl (by decide) fl_X7_renew_15 rfl rfl (tyX7_ok 1 (by decide)) rfl rfl (Nat.le_of_ble_eq_true rfl) rfl dX7_renew_2 ?_
  refine g_aload_n 5 C 0 dX7_renew_5 rfl rfl ?_
  refine g_iload_n 6 C 1 dX7_renew_6 rfl rfl ?_
  refine g_put 7 C (W_X7_renew k h_t h_t_items (1 : Int32) v1 s_length s_items) in_X7_renew_X7 tyX7 tyX7_ok nmX7 0 2 rfl rfl (by decide) fl_X7_renew_19 rfl rfl (tyX7_ok 2 (by decide)) rfl rfl (Nat.le_of_ble_eq_true rfl) rfl dX7_renew_7 ?_
  refine g_aload_n 10 C 0 dX7_renew_10 rfl rfl ?_
  refine g_iload_n 11 C 2 dX7_renew_11 rfl rfl ?_
  refine g_put 12 C (W_X7_renew k h_t h_t_items (1 : Int32) v1 v2 s_items) in_X7_renew_X7 tyX7 tyX7_ok nmX7 0 3 rfl rfl (by decide) fl_X7_renew_23 rfl rfl (tyX7_ok 3 (by decide)) rfl rfl (Nat.le_of_ble_eq_true rfl) rfl dX7_renew_12 ?_
  refine g_iconst 15 C (0 : Int32) dX7_renew_15 (by decide) ?_
  refine g_istore_n 16 C [(3, .int (0 : Int32)), (0, .ref h_t), (1, .int v1), (2, .int v2)] dX7_renew_16 rfl (by decide) rfl ?_
  refine GG.sub (lv' := [(0, .ref h_t), (3, .int (0 : Int32))]) [1, 0] rfl ?_
  exact ok_L_X7_renew_17 C hA (fun t h => by
    refine GG.sub (lv' := []) [] rfl ?_
    exact ok_B_X7_renew_36 C hA h) FUEL ((0 : Int32), s_items) h
end

/-! X7_spans -/
abbrev W_X7_spans (k : Nat → ClassId) (h_t : Nat) (h_t_items : Nat) (s_there : Int32) (s_lane : Int32) (s_length : Int32) : va_W := [(h_t, .inr (7, [.ref h_t_items, .int s_there, .int s_lane, .int s_length]))]
def rm_X7_spans : Room := { frames := 0, cells := 0, slots := 0, locals := 0 }
theorem in_X7_spans_X7 : ∀ w ∈ u_ws RX7 TX7 4, w ∈ wsX7_spans := by decide +kernel
theorem fl_X7_spans_23 : Cond.fieldLink RX7 23 "LinkDays$Sheet" "length" "I" ∈ wsX7_spans := by decide +kernel
theorem pd_X7_spans : yX7_spans.cls = RX7 ∧ yX7_spans.cls ≠ "java/lang/invoke/MethodHandle" ∧ yX7_spans.cls ≠ "java/lang/invoke/VarHandle" ∧ (parseMethodDescriptor yX7_spans.desc).map (fun d => d.parameters.length) = some 2 := by decide +kernel
section
variable {p : Program} {l : Launch} {e : Env} {s : State} {m : MethodId} {args : Array Value} {below : List Frame} {meth : Method} {c : Code} {D : va_G} {k : Nat → ClassId} {A : Nat → Prop} {w0 : va_W} {sz : Nat}
set_option maxHeartbeats 4000000 in
set_option maxRecDepth 100000 in
theorem ok_B_X7_spans_31 {h_t : Nat} {h_t_items : Nat} {s_there : Int32} {s_lane : Int32} {s_length : Int32} {x0 : Int32} {res : Int32} (C : CX p s m args meth c cX7_spans wsX7_spans RX7 3 D k A (some .boolean)) (hA : A = va_A w0 sz)  (h : B_X7_spans_31 x0 = some res) : GG p l e rm_X7_spans s m args below meth c (MQ below (cQi D w0 sz res (W_X7_spans k h_t h_t_items s_there s_lane s_length)) args s 0 0 A) D A 3 0 0 31 [] [.int x0] (W_X7_spans k h_t h_t_items s_there s_lane s_length) := by
  unfold B_X7_spans_31 at h
  obtain ⟨o1, h⟩ := ob_e h
  obtain rfl := Option.some.inj h
  exact g_zret 31 C hA rfl (zb_n o1) dX7_spans_31 rfl
set_option maxHeartbeats 4000000 in
set_option maxRecDepth 100000 in
theorem ok_B_X7_spans_30 {h_t : Nat} {h_t_items : Nat} {s_there : Int32} {s_lane : Int32} {s_length : Int32} {res : Int32} (C : CX p s m args meth c cX7_spans wsX7_spans RX7 3 D k A (some .boolean)) (hA : A = va_A w0 sz)  (h : B_X7_spans_30 = some res) : GG p l e rm_X7_spans s m args below meth c (MQ below (cQi D w0 sz res (W_X7_spans k h_t h_t_items s_there s_lane s_length)) args s 0 0 A) D A 3 0 0 30 [] [] (W_X7_spans k h_t h_t_items s_there s_lane s_length) := by
  unfold B_X7_spans_30 at h
  refine g_iconst 30 C (0 : Int32) dX7_spans_30 (by decide) ?_
  refine GG.sub (lv' := []) [] rfl ?_
  exact ok_B_X7_spans_31 C hA h
set_option maxHeartbeats 4000000 in
set_option maxRecDepth 100000 in
theorem k_X7_spans {l : Launch} {D : va_G} {k : Nat → ClassId} (h_t : Nat) (h_t_items : Nat) (s_there : Int32) (s_lane : Int32) (s_length : Int32) (v1 : Int32) (v2 : Int32) (res : Int32) (h : f_X7_spans s_length v1 v2 = some res) (sz : Nat) : Met l yX7_spans wsX7_spans rm_X7_spans (cPre D k [.ref h_t, .int v1, .int v2] (W_X7_spans k h_t h_t_items s_there s_lane s_length) sz) (cQi D (W_X7_spans k h_t h_t_items s_there s_lane s_length) sz res (W_X7_spans k h_t h_t_items s_there s_lane s_length)) 0 0 (va_A (W_X7_spans k h_t h_t_items s_there s_lane s_length) sz) := by
  refine met_of [(0, .ref h_t), (1, .int v1), (2, .int v2)] (by decide) rfl rfl (Nat.le_of_ble_eq_true rfl) rfl ?_
  intro p e s m args below meth c A hA hsz C
  unfold f_X7_spans at h
  refine g_iload_n 0 C 1 dX7_spans_0 rfl rfl ?_
  refine g_if_lt 1 30 C dX7_spans_1 (by decide) (fun c => ?_) (fun c => ?_)
  · replace h := it_e c h
    refine GG.sub (lv' := []) [] rfl ?_
    exact ok_B_X7_spans_30 C hA h
  · replace h := if_e c h
    refine g_iload_n 4 C 2 dX7_spans_4 rfl rfl ?_
    refine g_if_lt 5 30 C dX7_spans_5 (by decide) (fun c => ?_) (fun c => ?_)
    · replace h := it_e c h
      refine GG.sub (lv' := []) [] rfl ?_
      exact ok_B_X7_spans_30 C hA h
    · replace h := if_e c h
      refine g_iload_n 8 C 2 dX7_spans_8 rfl rfl ?_
      refine g_aload_n 9 C 0 dX7_spans_9 rfl rfl ?_
      refine g_get 10 C in_X7_spans_X7 0 3 rfl rfl (by decide) fl_X7_spans_23 rfl rfl dX7_spans_10 ?_
      refine g_icmp_gt 13 30 C dX7_spans_13 (by decide) (fun c => ?_) (fun c => ?_)
      · replace h := it_e c h
        refine GG.sub (lv' := []) [] rfl ?_
        exact ok_B_X7_spans_30 C hA h
      · replace h := if_e c h
        refine g_iload_n 16 C 1 dX7_spans_16 rfl rfl ?_
        refine g_aload_n 17 C 0 dX7_spans_17 rfl rfl ?_
        refine g_get 18 C in_X7_spans_X7 0 3 rfl rfl (by decide) fl_X7_spans_23 rfl rfl dX7_spans_18 ?_
        refine g_iload_n 21 C 2 dX7_spans_21 rfl rfl ?_
        refine g_isub 22 C dX7_spans_22 ?_
        refine g_icmp_gt 23 30 C dX7_spans_23 (by decide) (fun c => ?_) (fun c => ?_)
        · replace h := it_e c h
          refine GG.sub (lv' := []) [] rfl ?_
          exact ok_B_X7_spans_30 C hA h
        · replace h := if_e c h
          refine g_iconst 26 C (1 : Int32) dX7_spans_26 (by decide) ?_
          refine g_goto 27 31 C dX7_spans_27 (by decide) ?_
          refine GG.sub (lv' := []) [] rfl ?_
          exact ok_B_X7_spans_31 C hA h
end

/-! X7_refusal -/
abbrev W_X7_refusal (k : Nat → ClassId) (h_t : Nat) (h_t_items : Nat) (s_there : Int32) (s_lane : Int32) (s_length : Int32) : va_W := [(h_t, .inr (7, [.ref h_t_items, .int s_there, .int s_lane, .int s_length]))]
def rm_X7_refusal : Room := { frames := 1, cells := 0, slots := 0, locals := 22 }
theorem in_X7_refusal_X7 : ∀ w ∈ u_ws RX7 TX7 4, w ∈ wsX7_refusal := by decide +kernel
theorem fl_X7_refusal_15 : Cond.fieldLink RX7 15 "LinkDays$Sheet" "there" "Z" ∈ wsX7_refusal := by decide +kernel
theorem fl_X7_refusal_19 : Cond.fieldLink RX7 19 "LinkDays$Sheet" "lane" "I" ∈ wsX7_refusal := by decide +kernel
theorem pd_X7_refusal : yX7_refusal.cls = RX7 ∧ yX7_refusal.cls ≠ "java/lang/invoke/MethodHandle" ∧ yX7_refusal.cls ≠ "java/lang/invoke/VarHandle" ∧ (parseMethodDescriptor yX7_refusal.desc).map (fun d => d.parameters.length) = some 3 := by decide +kernel
section
variable {p : Program} {l : Launch} {e : Env} {s : State} {m : MethodId} {args : Array Value} {below : List Frame} {meth : Method} {c : Code} {D : va_G} {k : Nat → ClassId} {A : Nat → Prop} {w0 : va_W} {sz : Nat}
set_option maxHeartbeats 4000000 in
set_option maxRecDepth 100000 in
theorem ok_B_X7_refusal_36 {h_t : Nat} {h_t_items : Nat} {s_there : Int32} {s_lane : Int32} {s_length : Int32} {x0 : Int32} {res : Int32} (C : CX p s m args meth c cX7_refusal wsX7_refusal RX7 4 D k A (some .int)) (hA : A = va_A w0 sz)  (h : B_X7_refusal_36 x0 = some res) : GG p l e rm_X7_refusal s m args below meth c (MQ below (cQi D w0 sz res (W_X7_refusal k h_t h_t_items s_there s_lane s_length)) args s 0 0 A) D A 4 0 0 36 [] [.int x0] (W_X7_refusal k h_t h_t_items s_there s_lane s_length) := by
  unfold B_X7_refusal_36 at h
  obtain rfl := Option.some.inj h
  exact g_iret 36 C hA rfl dX7_refusal_36 rfl
set_option maxHeartbeats 4000000 in
set_option maxRecDepth 100000 in
theorem k_X7_refusal {l : Launch} {D : va_G} {k : Nat → ClassId} (h_t : Nat) (h_t_items : Nat) (s_there : Int32) (s_lane : Int32) (s_length : Int32) (v1 : Int32) (v2 : Int32) (v3 : Int32) (res : Int32) (h : f_X7_refusal s_there s_lane s_length v1 v2 v3 = some res) (sz : Nat) : Met l yX7_refusal wsX7_refusal rm_X7_refusal (cPre D k [.ref h_t, .int v1, .int v2, .int v3] (W_X7_refusal k h_t h_t_items s_there s_lane s_length) sz) (cQi D (W_X7_refusal k h_t h_t_items s_there s_lane s_length) sz res (W_X7_refusal k h_t h_t_items s_there s_lane s_length)) 0 0 (va_A (W_X7_refusal k h_t h_t_items s_there s_lane s_length) sz) := by
  refine met_of [(0, .ref h_t), (1, .int v1), (2, .int v2), (3, .int v3)] (by decide) rfl rfl (Nat.le_of_ble_eq_true rfl) rfl ?_
  intro p e s m args below meth c A hA hsz C
  unfold f_X7_refusal at h
  refine g_aload_n 0 C 0 dX7_refusal_0 rfl rfl ?_
  refine g_get 1 C in_X7_refusal_X7 0 1 rfl rfl (by decide) fl_X7_refusal_15 rfl rfl dX7_refusal_1 ?_
  refine g_if_ne 4 10 C dX7_refusal_4 (by decide) (fun c => ?_) (fun c => ?_)
  · replace h := if_e c h
    refine g_aload_n 10 C 0 dX7_refusal_10 rfl rfl ?_
    refine g_get 11 C in_X7_refusal_X7 0 2 rfl rfl (by decide) fl_X7_refusal_19 rfl rfl dX7_refusal_11 ?_
    refine g_iload_n 14 C 1 dX7_refusal_14 rfl rfl ?_
    refine g_icmp_eq 15 21 C dX7_refusal_15 (by decide) (fun c => ?_) (fun c => ?_)
    · replace h := it_e c h
      refine g_aload_n 21 C 0 dX7_refusal_21 rfl rfl ?_
      refine g_iload_n 22 C 2 dX7_refusal_22 rfl rfl ?_
      refine g_iload_n 23 C 3 dX7_refusal_23 rfl rfl ?_
      obtain ⟨q1, e2, h⟩ := bi_e h
      refine g_callVi 24 C (As := [.int v2, .int v3]) [0] [] [0] (W_X7_refusal k h_t h_t_items s_there s_lane s_length) 0 (fun sz => k_X7_spans h_t h_t_items s_there s_lane s_length v2 v3 q1 e2 sz) gX7_refusal_X7_spans rfl pd_X7_spans rfl rfl rfl ⟨rfl, rfl, Nat.le_of_ble_eq_true rfl, Nat.le_of_ble_eq_true rfl⟩ (Nat.le_of_ble_eq_true rfl) ⟨Nat.zero_le _, Nat.zero_le _⟩ ⟨rfl, rfl, rfl, rfl, rfl, by decide, rfl⟩ rfl dX7_refusal_24 ?_
      refine g_if_eq 27 34 C dX7_refusal_27 (by decide) (fun c => ?_) (fun c => ?_)
      · replace h := it_e c h
        refine g_bipush 34 C (-13 : Int32) dX7_refusal_34 (by decide) ?_
        refine GG.sub (lv' := []) [] rfl ?_
        exact ok_B_X7_refusal_36 C hA h
      · replace h := if_e c h
        refine g_iconst 30 C (0 : Int32) dX7_refusal_30 (by decide) ?_
        refine g_goto 31 36 C dX7_refusal_31 (by decide) ?_
        refine GG.sub (lv' := []) [] rfl ?_
        exact ok_B_X7_refusal_36 C hA h
    · replace h := if_e c h
      refine g_bipush 18 C (-12 : Int32) dX7_refusal_18 (by decide) ?_
      obtain rfl := Option.some.inj h
      exact g_iret 20 C hA rfl dX7_refusal_20 rfl
  · replace h := it_e c h
    refine g_bipush 7 C (-11 : Int32) dX7_refusal_7 (by decide) ?_
    obtain rfl := Option.some.inj h
    exact g_iret 9 C hA rfl dX7_refusal_9 rfl
end

/-! X7_put -/
abbrev W_X7_put (k : Nat → ClassId) (h_t : Nat) (h_t_items : Nat) (s_there : Int32) (s_lane : Int32) (s_length : Int32) (s_items : Nat → Int64) : va_W := [(h_t, .inr (7, [.ref h_t_items, .int s_there, .int s_lane, .int s_length])), (h_t_items, .inl (k 1, 24, .inr (.inl s_items)))]
def rm_X7_put : Room := { frames := 0, cells := 0, slots := 0, locals := 0 }
theorem in_X7_put_X7 : ∀ w ∈ u_ws RX7 TX7 4, w ∈ wsX7_put := by decide +kernel
theorem fl_X7_put_19 : Cond.fieldLink RX7 19 "LinkDays$Sheet" "lane" "I" ∈ wsX7_put := by decide +kernel
theorem fl_X7_put_9 : Cond.fieldLink RX7 9 "LinkDays$Sheet" "items" "[J" ∈ wsX7_put := by decide +kernel
theorem pd_X7_put : yX7_put.cls = RX7 ∧ yX7_put.cls ≠ "java/lang/invoke/MethodHandle" ∧ yX7_put.cls ≠ "java/lang/invoke/VarHandle" ∧ (parseMethodDescriptor yX7_put.desc).map (fun d => d.parameters.length) = some 2 := by decide +kernel
section
variable {p : Program} {l : Launch} {e : Env} {s : State} {m : MethodId} {args : Array Value} {below : List Frame} {meth : Method} {c : Code} {D : va_G} {k : Nat → ClassId} {A : Nat → Prop} {w0 : va_W} {sz : Nat}
set_option maxHeartbeats 4000000 in
set_option maxRecDepth 100000 in
theorem ok_B_X7_put_34 {h_t : Nat} {h_t_items : Nat} {s_there : Int32} {s_lane : Int32} {s_length : Int32} {s_items : Nat → Int64} {x0 : Int64} {x1 : Int32} {res : (Nat → Int64)} (C : CX p s m args meth c cX7_put wsX7_put RX7 4 D k A none) (hA : A = va_A w0 sz)  (h : B_X7_put_34 s_items x0 x1 = some res) : GG p l e rm_X7_put s m args below meth c (MQ below (cQv D w0 sz (W_X7_put k h_t h_t_items s_there s_lane s_length res)) args s 0 0 A) D A 4 0 0 34 [] [.long x0, .int x1, .ref h_t_items] (W_X7_put k h_t h_t_items s_there s_lane s_length s_items) := by
  unfold B_X7_put_34 at h
  obtain ⟨o1, h⟩ := ob_e h
  refine g_last 34 C (W_X7_put k h_t h_t_items s_there s_lane s_length (vp_updL s_items x1.toNatClampNeg x0)) 1 rfl o1 rfl dX7_put_34 ?_
  obtain rfl := Option.some.inj h
  exact g_vret 35 C hA dX7_put_35 rfl
set_option maxHeartbeats 4000000 in
set_option maxRecDepth 100000 in
theorem k_X7_put {l : Launch} {D : va_G} {k : Nat → ClassId} (h_t : Nat) (h_t_items : Nat) (s_there : Int32) (s_lane : Int32) (s_length : Int32) (s_items : Nat → Int64) (v1 : Int32) (v2 : Int64) (res : (Nat → Int64)) (h : f_X7_put s_lane s_items v1 v2 = some res) (sz : Nat) : Met l yX7_put wsX7_put rm_X7_put (cPre D k [.ref h_t, .int v1, .long v2] (W_X7_put k h_t h_t_items s_there s_lane s_length s_items) sz) (cQv D (W_X7_put k h_t h_t_items s_there s_lane s_length s_items) sz (W_X7_put k h_t h_t_items s_there s_lane s_length res)) 0 0 (va_A (W_X7_put k h_t h_t_items s_there s_lane s_length s_items) sz) := by
  refine met_of [(0, .ref h_t), (1, .int v1), (2, .long v2)] (by decide) rfl rfl (Nat.le_of_ble_eq_true rfl) rfl ?_
  intro p e s m args below meth c A hA hsz C
  unfold f_X7_put at h
  refine g_aload_n 0 C 0 dX7_put_0 rfl rfl ?_
  refine g_get 1 C in_X7_put_X7 0 0 rfl rfl (by decide) fl_X7_put_9 rfl rfl dX7_put_1 ?_
  refine g_iload_n 4 C 1 dX7_put_4 rfl rfl ?_
  refine g_aload_n 5 C 0 dX7_put_5 rfl rfl ?_
  refine g_get 6 C in_X7_put_X7 0 2 rfl rfl (by decide) fl_X7_put_19 rfl rfl dX7_put_6 ?_
  refine g_if_ne 9 19 C dX7_put_9 (by decide) (fun c => ?_) (fun c => ?_)
  · replace h := if_e c h
    refine g_aload_n 19 C 0 dX7_put_19 rfl rfl ?_
    refine g_get 20 C in_X7_put_X7 0 2 rfl rfl (by decide) fl_X7_put_19 rfl rfl dX7_put_20 ?_
    refine g_iconst 23 C (1 : Int32) dX7_put_23 (by decide) ?_
    refine g_icmp_ne 24 33 C dX7_put_24 (by decide) (fun c => ?_) (fun c => ?_)
    · replace h := if_e c h
      refine g_lload_n 33 C 2 dX7_put_33 rfl rfl ?_
      refine GG.sub (lv' := []) [] rfl ?_
      exact ok_B_X7_put_34 C hA h
    · replace h := it_e c h
      refine g_lload_n 27 C 2 dX7_put_27 rfl rfl ?_
      refine g_l2i 28 C dX7_put_28 ?_
      refine g_i2l 29 C dX7_put_29 ?_
      refine g_goto 30 34 C dX7_put_30 (by decide) ?_
      refine GG.sub (lv' := []) [] rfl ?_
      exact ok_B_X7_put_34 C hA h
  · replace h := it_e c h
    refine g_lload_n 12 C 2 dX7_put_12 rfl rfl ?_
    refine g_l2i 13 C dX7_put_13 ?_
    refine g_i2b 14 C dX7_put_14 ?_
    refine g_i2l 15 C dX7_put_15 ?_
    refine g_goto 16 34 C dX7_put_16 (by decide) ?_
    refine GG.sub (lv' := []) [] rfl ?_
    exact ok_B_X7_put_34 C hA h
end

/-! X8_addPiece -/
abbrev W_X8_addPiece (k : Nat → ClassId) (h_t : Nat) (h_t_bits : Nat) (s_words : Int32) (s_bits : Nat → Int64) : va_W := [(h_t, .inr (8, [.ref h_t_bits, .int s_words])), (h_t_bits, .inl (k 1, 4, .inr (.inl s_bits)))]
def rm_X8_addPiece : Room := { frames := 0, cells := 0, slots := 0, locals := 0 }
theorem in_X8_addPiece_X8 : ∀ w ∈ u_ws RX8 TX8 2, w ∈ wsX8_addPiece := by decide +kernel
theorem fl_X8_addPiece_21 : Cond.fieldLink RX8 21 "LinkDays$Sums" "words" "I" ∈ wsX8_addPiece := by decide +kernel
theorem fl_X8_addPiece_9 : Cond.fieldLink RX8 9 "LinkDays$Sums" "bits" "[J" ∈ wsX8_addPiece := by decide +kernel
theorem pd_X8_addPiece : yX8_addPiece.cls = RX8 ∧ yX8_addPiece.cls ≠ "java/lang/invoke/MethodHandle" ∧ yX8_addPiece.cls ≠ "java/lang/invoke/VarHandle" ∧ (parseMethodDescriptor yX8_addPiece.desc).map (fun d => d.parameters.length) = some 1 := by decide +kernel
section
variable {p : Program} {l : Launch} {e : Env} {s : State} {m : MethodId} {args : Array Value} {below : List Frame} {meth : Method} {c : Code} {D : va_G} {k : Nat → ClassId} {A : Nat → Prop} {w0 : va_W} {sz : Nat}
set_option maxHeartbeats 4000000 in
set_option maxRecDepth 100000 in
theorem ok_B_X8_addPiece_68 {h_t : Nat} {h_t_bits : Nat} {s_words : Int32} {s_bits : Nat → Int64} {v2 : Int32} {v3 : Int32} {v4 : Int32} {v5 : Int64} {res : (Nat → Int64)} {kx rec : Int32 × (Nat → Int64) → Option ((Nat → Int64))} (C : CX p s m args meth c cX8_addPiece wsX8_addPiece RX8 7 D k A none) (hA : A = va_A w0 sz) (hx : ∀ t : Int32 × (Nat → Int64), kx t = some res → GG p l e rm_X8_addPiece s m args below meth c (MQ below (cQv D w0 sz (W_X8_addPiece k h_t h_t_bits s_words res)) args s 0 0 A) D A 7 0 0 86 [] [] (W_X8_addPiece k h_t h_t_bits s_words t.2)) (hr : ∀ t : Int32 × (Nat → Int64), rec t = some res → GG p l e rm_X8_addPiece s m args below meth c (MQ below (cQv D w0 sz (W_X8_addPiece k h_t h_t_bits s_words res)) args s 0 0 A) D A 7 0 0 18 [(0, .ref h_t), (2, .int v2), (3, .int v3), (4, .int t.1)] [] (W_X8_addPiece k h_t h_t_bits s_words t.2))  (h : B_X8_addPiece_68 kx rec s_bits v4 v5 = some res) : GG p l e rm_X8_addPiece s m args below meth c (MQ below (cQv D w0 sz (W_X8_addPiece k h_t h_t_bits s_words res)) args s 0 0 A) D A 7 0 0 68 [(0, .ref h_t), (2, .int v2), (3, .int v3), (4, .int v4), (5, .long v5)] [] (W_X8_addPiece k h_t h_t_bits s_words s_bits) := by
  unfold B_X8_addPiece_68 at h
  refine g_aload_n 68 C 0 dX8_addPiece_68 rfl rfl ?_
  refine g_get 69 C in_X8_addPiece_X8 0 0 rfl rfl (by decide) fl_X8_addPiece_9 rfl rfl dX8_addPiece_69 ?_
  refine g_iload 72 C 3 dX8_addPiece_72 rfl ?_
  refine g_dup2 74 C dX8_addPiece_74 rfl rfl ?_
  obtain ⟨o2, h⟩ := ob_e h
  refine g_lald 75 C 1 rfl o2 dX8_addPiece_75 ?_
  refine g_lload 76 C 4 dX8_addPiece_76 rfl ?_
  refine g_lor 78 C dX8_addPiece_78 ?_
  obtain ⟨o3, h⟩ := ob_e h
  refine g_last 79 C (W_X8_addPiece k h_t h_t_bits s_words (vp_updL s_bits v4.toNatClampNeg ((s_bits v4.toNatClampNeg) ||| v5))) 1 rfl o3 rfl dX8_addPiece_79 ?_
  refine g_iinc 80 C 3 (-1 : Int32) [(4, .int (v4 + (-1 : Int32))), (0, .ref h_t), (2, .int v2), (3, .int v3), (5, .long v5)] dX8_addPiece_80 rfl (by decide) (by decide) rfl ?_
  refine g_goto 83 18 C dX8_addPiece_83 (by decide) ?_
  refine GG.sub (lv' := [(0, .ref h_t), (2, .int v2), (3, .int v3), (4, .int (v4 + (-1 : Int32)))]) [1, 2, 3, 0] rfl ?_
  exact hr ((v4 + (-1 : Int32)), (vp_updL s_bits v4.toNatClampNeg ((s_bits v4.toNatClampNeg) ||| v5))) h
set_option maxHeartbeats 4000000 in
set_option maxRecDepth 100000 in
theorem ok_L_X8_addPiece_18 {h_t : Nat} {h_t_bits : Nat} {s_words : Int32} {v2 : Int32} {v3 : Int32} {res : (Nat → Int64)} (C : CX p s m args meth c cX8_addPiece wsX8_addPiece RX8 7 D k A none) (hA : A = va_A w0 sz) {kx : Int32 × (Nat → Int64) → Option ((Nat → Int64))} (hx : ∀ t : Int32 × (Nat → Int64), kx t = some res → GG p l e rm_X8_addPiece s m args below meth c (MQ below (cQv D w0 sz (W_X8_addPiece k h_t h_t_bits s_words res)) args s 0 0 A) D A 7 0 0 86 [] [] (W_X8_addPiece k h_t h_t_bits s_words t.2)) : ∀ (n : Nat) (t : Int32 × (Nat → Int64)), L_X8_addPiece_18 v2 v3 kx n t = some res → GG p l e rm_X8_addPiece s m args below meth c (MQ below (cQv D w0 sz (W_X8_addPiece k h_t h_t_bits s_words res)) args s 0 0 A) D A 7 0 0 18 [(0, .ref h_t), (2, .int v2), (3, .int v3), (4, .int t.1)] [] (W_X8_addPiece k h_t h_t_bits s_words t.2) := by
  intro n
  induction n with
  | zero => intro t h; cases h
  | succ n ih =>
    intro t h
    obtain ⟨v4, s_bits⟩ := t
    replace h : LB_X8_addPiece_18 v2 v3 kx (L_X8_addPiece_18 v2 v3 kx n) v4 s_bits = some res := h
    have hr := ih
    unfold LB_X8_addPiece_18 at h
    refine g_iload 18 C 3 dX8_addPiece_18 rfl ?_
    refine g_iload_n 20 C 1 dX8_addPiece_20 rfl rfl ?_
    refine g_icmp_lt 21 86 C dX8_addPiece_21 (by decide) (fun c => ?_) (fun c => ?_)
    · replace h := it_e c h
      refine GG.sub (lv' := []) [] rfl ?_
      exact hx (v4, s_bits) h
    · replace h := if_e c h
      refine g_aload_n 24 C 0 dX8_addPiece_24 rfl rfl ?_
      refine g_get 25 C in_X8_addPiece_X8 0 0 rfl rfl (by decide) fl_X8_addPiece_9 rfl rfl dX8_addPiece_25 ?_
      refine g_iload 28 C 3 dX8_addPiece_28 rfl ?_
      refine g_iload_n 30 C 1 dX8_addPiece_30 rfl rfl ?_
      refine g_isub 31 C dX8_addPiece_31 ?_
      obtain ⟨o1, h⟩ := ob_e h
      refine g_lald 32 C 1 rfl o1 dX8_addPiece_32 ?_
      refine g_iload_n 33 C 2 dX8_addPiece_33 rfl rfl ?_
      refine g_lshl 34 C dX8_addPiece_34 ?_
      refine g_lstore 35 C [(5, .long ((s_bits (v4 - v2).toNatClampNeg) <<< (v3.toInt64 &&& 63))), (0, .ref h_t), (2, .int v2), (3, .int v3), (4, .int v4)] dX8_addPiece_35 (by decide) rfl ?_
      refine g_iload_n 37 C 3 dX8_addPiece_37 rfl rfl ?_
      refine g_if_le 38 68 C dX8_addPiece_38 (by decide) (fun c => ?_) (fun c => ?_)
      · replace h := it_e c h
        refine GG.sub (lv' := [(0, .ref h_t), (2, .int v2), (3, .int v3), (4, .int v4), (5, .long ((s_bits (v4 - v2).toNatClampNeg) <<< (v3.toInt64 &&& 63)))]) [1, 2, 3, 4, 0] rfl ?_
        exact ok_B_X8_addPiece_68 C hA hx hr h
      · replace h := if_e c h
        refine g_iload 41 C 4 dX8_addPiece_41 rfl ?_
        refine g_iload_n 43 C 2 dX8_addPiece_43 rfl rfl ?_
        refine g_icmp_le 44 68 C dX8_addPiece_44 (by decide) (fun c => ?_) (fun c => ?_)
        · replace h := it_e c h
          refine GG.sub (lv' := [(0, .ref h_t), (2, .int v2), (3, .int v3), (4, .int v4), (5, .long ((s_bits (v4 - v2).toNatClampNeg) <<< (v3.toInt64 &&& 63)))]) [1, 2, 3, 4, 0] rfl ?_
          exact ok_B_X8_addPiece_68 C hA hx hr h
        · replace h := if_e c h
          refine g_lload 47 C 0 dX8_addPiece_47 rfl ?_
          refine g_aload_n 49 C 1 dX8_addPiece_49 rfl rfl ?_
          refine g_get 50 C in_X8_addPiece_X8 0 0 rfl rfl (by decide) fl_X8_addPiece_9 rfl rfl dX8_addPiece_50 ?_
          refine g_iload 53 C 4 dX8_addPiece_53 rfl ?_
          refine g_iload_n 55 C 2 dX8_addPiece_55 rfl rfl ?_
          refine g_isub 56 C dX8_addPiece_56 ?_
          refine g_iconst 57 C (1 : Int32) dX8_addPiece_57 (by decide) ?_
          refine g_isub 58 C dX8_addPiece_58 ?_
          obtain ⟨o4, h⟩ := ob_e h
          refine g_lald 59 C 1 rfl o4 dX8_addPiece_59 ?_
          refine g_bipush 60 C (64 : Int32) dX8_addPiece_60 (by decide) ?_
          refine g_iload_n 62 C 3 dX8_addPiece_62 rfl rfl ?_
          refine g_isub 63 C dX8_addPiece_63 ?_
          refine g_lushr 64 C dX8_addPiece_64 ?_
          refine g_lor 65 C dX8_addPiece_65 ?_
          refine g_lstore 66 C [(5, .long (((s_bits (v4 - v2).toNatClampNeg) <<< (v3.toInt64 &&& 63)) ||| ((s_bits ((v4 - v2) - (1 : Int32)).toNatClampNeg).toUInt64 >>> (((64 : Int32) - v3).toInt64.toUInt64 &&& Int64.toUInt64 63)).toInt64)), (0, .ref h_t), (2, .int v2), (3, .int v3), (4, .int v4)] dX8_addPiece_66 (by decide) rfl ?_
          refine GG.sub (lv' := [(0, .ref h_t), (2, .int v2), (3, .int v3), (4, .int v4), (5, .long (((s_bits (v4 - v2).toNatClampNeg) <<< (v3.toInt64 &&& 63)) ||| ((s_bits ((v4 - v2) - (1 : Int32)).toNatClampNeg).toUInt64 >>> (((64 : Int32) - v3).toInt64.toUInt64 &&& Int64.toUInt64 63)).toInt64))]) [1, 2, 3, 4, 0] rfl ?_
          exact ok_B_X8_addPiece_68 C hA hx hr h
set_option maxHeartbeats 4000000 in
set_option maxRecDepth 100000 in
theorem ok_B_X8_addPiece_86 {h_t : Nat} {h_t_bits : Nat} {s_words : Int32} {s_bits : Nat → Int64} {res : (Nat → Int64)} (C : CX p s m args meth c cX8_addPiece wsX8_addPiece RX8 7 D k A none) (hA : A = va_A w0 sz)  (h : B_X8_addPiece_86 s_bits = some res) : GG p l e rm_X8_addPiece s m args below meth c (MQ below (cQv D w0 sz (W_X8_addPiece k h_t h_t_bits s_words res)) args s 0 0 A) D A 7 0 0 86 [] [] (W_X8_addPiece k h_t h_t_bits s_words s_bits) := by
  unfold B_X8_addPiece_86 at h
  obtain rfl := Option.some.inj h
  exact g_vret 86 C hA dX8_addPiece_86 rfl
set_option maxHeartbeats 4000000 in
set_option maxRecDepth 100000 in
theorem k_X8_addPiece {l : Launch} {D : va_G} {k : Nat → ClassId} (h_t : Nat) (h_t_bits : Nat) (s_words : Int32) (s_bits : Nat → Int64) (v1 : Int32) (res : (Nat → Int64)) (h : f_X8_addPiece s_words s_bits v1 = some res) (sz : Nat) : Met l yX8_addPiece wsX8_addPiece rm_X8_addPiece (cPre D k [.ref h_t, .int v1] (W_X8_addPiece k h_t h_t_bits s_words s_bits) sz) (cQv D (W_X8_addPiece k h_t h_t_bits s_words s_bits) sz (W_X8_addPiece k h_t h_t_bits s_words res)) 0 0 (va_A (W_X8_addPiece k h_t h_t_bits s_words s_bits) sz) := by
  refine met_of [(0, .ref h_t), (1, .int v1)] (by decide) rfl rfl (Nat.le_of_ble_eq_true rfl) rfl ?_
  intro p e s m args below meth c A hA hsz C
  unfold f_X8_addPiece at h
  refine g_iload_n 0 C 1 dX8_addPiece_0 rfl rfl ?_
  refine g_bipush 1 C (6 : Int32) dX8_addPiece_1 (by decide) ?_
  refine g_ishr 3 C dX8_addPiece_3 ?_
  refine g_istore_n 4 C [(2, .int (v1 >>> ((6 : Int32) &&& 31))), (0, .ref h_t), (1, .int v1)] dX8_addPiece_4 rfl (by decide) rfl ?_
  refine g_iload_n 5 C 2 dX8_addPiece_5 rfl rfl ?_
  refine g_bipush 6 C (63 : Int32) dX8_addPiece_6 (by decide) ?_
  refine g_iand 8 C dX8_addPiece_8 ?_
  refine g_istore_n 9 C [(3, .int (v1 &&& (63 : Int32))), (2, .int (v1 >>> ((6 : Int32) &&& 31))), (0, .ref h_t), (1, .int v1)] dX8_addPiece_9 rfl (by decide) rfl ?_
  refine g_aload_n 10 C 2 dX8_addPiece_10 rfl rfl ?_
  refine g_get 11 C in_X8_addPiece_X8 0 1 rfl rfl (by decide) fl_X8_addPiece_21 rfl rfl dX8_addPiece_11 ?_
  refine g_iconst 14 C (1 : Int32) dX8_addPiece_14 (by decide) ?_
  refine g_isub 15 C dX8_addPiece_15 ?_
  refine g_istore 16 C [(4, .int (s_words - (1 : Int32))), (3, .int (v1 &&& (63 : Int32))), (2, .int (v1 >>> ((6 : Int32) &&& 31))), (0, .ref h_t), (1, .int v1)] dX8_addPiece_16 (by decide) rfl ?_
  refine GG.sub (lv' := [(0, .ref h_t), (2, .int (v1 >>> ((6 : Int32) &&& 31))), (3, .int (v1 &&& (63 : Int32))), (4, .int (s_words - (1 : Int32)))]) [3, 2, 1, 0] rfl ?_
  exact ok_L_X8_addPiece_18 C hA (fun t h => by
    refine GG.sub (lv' := []) [] rfl ?_
    exact ok_B_X8_addPiece_86 C hA h) FUEL ((s_words - (1 : Int32)), s_bits) h
end

/-! X8_load -/
abbrev W_X8_load (k : Nat → ClassId) (h_t : Nat) (h_t_bits : Nat) (h_a0 : Nat) (h_a0_value : Nat) (h_a0_first : Nat) (h_a0_size : Nat) (s_words : Int32) (s_bits : Nat → Int64) (s_a0_count : Int32) (s_a0_value : Nat → Int32) : va_W := [(h_t, .inr (8, [.ref h_t_bits, .int s_words])), (h_t_bits, .inl (k 1, 4, .inr (.inl s_bits))), (h_a0, .inr (5, [.ref h_a0_first, .ref h_a0_size, .ref h_a0_value, .int s_a0_count])), (h_a0_value, .inl (k 0, 11, .inl s_a0_value))]
def rm_X8_load : Room := { frames := 1, cells := 0, slots := 0, locals := 26 }
theorem in_X8_load_X5 : ∀ w ∈ u_ws RX5 TX5 4, w ∈ wsX8_load := by decide +kernel
theorem in_X8_load_X8 : ∀ w ∈ u_ws RX8 TX8 2, w ∈ wsX8_load := by decide +kernel
theorem fl_X8_load_21 : Cond.fieldLink RX8 21 "LinkDays$Sums" "words" "I" ∈ wsX8_load := by decide +kernel
theorem fl_X8_load_25 : Cond.fieldLink RX8 25 "LinkDays$Pieces" "count" "I" ∈ wsX8_load := by decide +kernel
theorem fl_X8_load_28 : Cond.fieldLink RX8 28 "LinkDays$Pieces" "value" "[I" ∈ wsX8_load := by decide +kernel
theorem fl_X8_load_9 : Cond.fieldLink RX8 9 "LinkDays$Sums" "bits" "[J" ∈ wsX8_load := by decide +kernel
theorem pd_X8_load : yX8_load.cls = RX8 ∧ yX8_load.cls ≠ "java/lang/invoke/MethodHandle" ∧ yX8_load.cls ≠ "java/lang/invoke/VarHandle" ∧ (parseMethodDescriptor yX8_load.desc).map (fun d => d.parameters.length) = some 1 := by decide +kernel
section
variable {p : Program} {l : Launch} {e : Env} {s : State} {m : MethodId} {args : Array Value} {below : List Frame} {meth : Method} {c : Code} {D : va_G} {k : Nat → ClassId} {A : Nat → Prop} {w0 : va_W} {sz : Nat}
set_option maxHeartbeats 4000000 in
set_option maxRecDepth 100000 in
theorem ok_L_X8_load_15 {h_t : Nat} {h_t_bits : Nat} {h_a0 : Nat} {h_a0_value : Nat} {h_a0_first : Nat} {h_a0_size : Nat} {s_words : Int32} {s_a0_count : Int32} {s_a0_value : Nat → Int32} {res : Int32 × (Nat → Int64)} (C : CX p s m args meth c cX8_load wsX8_load RX8 3 D k A none) (hA : A = va_A w0 sz) {kx : Int32 × (Nat → Int64) → Option (Int32 × (Nat → Int64))} (hx : ∀ t : Int32 × (Nat → Int64), kx t = some res → GG p l e rm_X8_load s m args below meth c (MQ below (cQv D w0 sz (W_X8_load k h_t h_t_bits h_a0 h_a0_value h_a0_first h_a0_size res.1 res.2 s_a0_count s_a0_value)) args s 0 0 A) D A 3 0 0 36 [(0, .ref h_t), (1, .ref h_a0)] [] (W_X8_load k h_t h_t_bits h_a0 h_a0_value h_a0_first h_a0_size s_words t.2 s_a0_count s_a0_value)) : ∀ (n : Nat) (t : Int32 × (Nat → Int64)), L_X8_load_15 s_words kx n t = some res → GG p l e rm_X8_load s m args below meth c (MQ below (cQv D w0 sz (W_X8_load k h_t h_t_bits h_a0 h_a0_value h_a0_first h_a0_size res.1 res.2 s_a0_count s_a0_value)) args s 0 0 A) D A 3 0 0 15 [(0, .ref h_t), (1, .ref h_a0), (2, .int t.1)] [] (W_X8_load k h_t h_t_bits h_a0 h_a0_value h_a0_first h_a0_size s_words t.2 s_a0_count s_a0_value) := by
  intro n
  induction n with
  | zero => intro t h; cases h
  | succ n ih =>
    intro t h
    obtain ⟨v2, s_bits⟩ := t
    replace h : LB_X8_load_15 s_words kx (L_X8_load_15 s_words kx n) v2 s_bits = some res := h
    have hr := ih
    unfold LB_X8_load_15 at h
    refine g_iload_n 15 C 2 dX8_load_15 rfl rfl ?_
    refine g_aload_n 16 C 0 dX8_load_16 rfl rfl ?_
    refine g_get 17 C in_X8_load_X8 0 1 rfl rfl (by decide) fl_X8_load_21 rfl rfl dX8_load_17 ?_
    refine g_icmp_ge 20 36 C dX8_load_20 (by decide) (fun c => ?_) (fun c => ?_)
    · replace h := it_e c h
      refine GG.sub (lv' := [(0, .ref h_t), (1, .ref h_a0)]) [0, 1] rfl ?_
      exact hx (v2, s_bits) h
    · replace h := if_e c h
      refine g_aload_n 23 C 0 dX8_load_23 rfl rfl ?_
      refine g_get 24 C in_X8_load_X8 0 0 rfl rfl (by decide) fl_X8_load_9 rfl rfl dX8_load_24 ?_
      refine g_iload_n 27 C 2 dX8_load_27 rfl rfl ?_
      refine g_lconst 28 C (0 : Int64) dX8_load_28 (by decide) ?_
      obtain ⟨o3, h⟩ := ob_e h
      refine g_last 29 C (W_X8_load k h_t h_t_bits h_a0 h_a0_value h_a0_first h_a0_size s_words (vp_updL s_bits v2.toNatClampNeg (0 : Int64)) s_a0_count s_a0_value) 1 rfl o3 rfl dX8_load_29 ?_
      refine g_iinc 30 C 2 (1 : Int32) [(2, .int (v2 + (1 : Int32))), (0, .ref h_t), (1, .ref h_a0)] dX8_load_30 rfl (by decide) (by decide) rfl ?_
      refine g_goto 33 15 C dX8_load_33 (by decide) ?_
      refine GG.sub (lv' := [(0, .ref h_t), (1, .ref h_a0), (2, .int (v2 + (1 : Int32)))]) [1, 2, 0] rfl ?_
      exact hr ((v2 + (1 : Int32)), (vp_updL s_bits v2.toNatClampNeg (0 : Int64))) h
set_option maxHeartbeats 4000000 in
set_option maxRecDepth 100000 in
theorem ok_L_X8_load_45 {h_t : Nat} {h_t_bits : Nat} {h_a0 : Nat} {h_a0_value : Nat} {h_a0_first : Nat} {h_a0_size : Nat} {s_words : Int32} {s_a0_count : Int32} {s_a0_value : Nat → Int32} {res : Int32 × (Nat → Int64)} (C : CX p s m args meth c cX8_load wsX8_load RX8 3 D k A none) (hA : A = va_A w0 sz) {kx : Int32 × (Nat → Int64) → Option (Int32 × (Nat → Int64))} (hx : ∀ t : Int32 × (Nat → Int64), kx t = some res → GG p l e rm_X8_load s m args below meth c (MQ below (cQv D w0 sz (W_X8_load k h_t h_t_bits h_a0 h_a0_value h_a0_first h_a0_size res.1 res.2 s_a0_count s_a0_value)) args s 0 0 A) D A 3 0 0 69 [] [] (W_X8_load k h_t h_t_bits h_a0 h_a0_value h_a0_first h_a0_size s_words t.2 s_a0_count s_a0_value)) : ∀ (n : Nat) (t : Int32 × (Nat → Int64)), L_X8_load_45 s_words s_a0_count s_a0_value kx n t = some res → GG p l e rm_X8_load s m args below meth c (MQ below (cQv D w0 sz (W_X8_load k h_t h_t_bits h_a0 h_a0_value h_a0_first h_a0_size res.1 res.2 s_a0_count s_a0_value)) args s 0 0 A) D A 3 0 0 45 [(0, .ref h_t), (1, .ref h_a0), (2, .int t.1)] [] (W_X8_load k h_t h_t_bits h_a0 h_a0_value h_a0_first h_a0_size s_words t.2 s_a0_count s_a0_value) := by
  intro n
  induction n with
  | zero => intro t h; cases h
  | succ n ih =>
    intro t h
    obtain ⟨v2, s_bits⟩ := t
    replace h : LB_X8_load_45 s_words s_a0_count s_a0_value kx (L_X8_load_45 s_words s_a0_count s_a0_value kx n) v2 s_bits = some res := h
    have hr := ih
    unfold LB_X8_load_45 at h
    refine g_iload_n 45 C 2 dX8_load_45 rfl rfl ?_
    refine g_aload_n 46 C 1 dX8_load_46 rfl rfl ?_
    refine g_get 47 C in_X8_load_X5 2 3 rfl rfl (by decide) fl_X8_load_25 rfl rfl dX8_load_47 ?_
    refine g_icmp_ge 50 69 C dX8_load_50 (by decide) (fun c => ?_) (fun c => ?_)
    · replace h := it_e c h
      refine GG.sub (lv' := []) [] rfl ?_
      exact hx (v2, s_bits) h
    · replace h := if_e c h
      refine g_aload_n 53 C 0 dX8_load_53 rfl rfl ?_
      refine g_aload_n 54 C 1 dX8_load_54 rfl rfl ?_
      refine g_get 55 C in_X8_load_X5 2 2 rfl rfl (by decide) fl_X8_load_28 rfl rfl dX8_load_55 ?_
      refine g_iload_n 58 C 2 dX8_load_58 rfl rfl ?_
      obtain ⟨o5, h⟩ := ob_e h
      refine g_iald 59 C 3 rfl o5 dX8_load_59 ?_
      obtain ⟨q6, e7, h⟩ := bi_e h
      refine g_callVv 60 C (As := [.int (s_a0_value v2.toNatClampNeg)]) [0, 1] [2, 3] [2, 3, 0, 1] (W_X8_load k h_t h_t_bits h_a0 h_a0_value h_a0_first h_a0_size s_words q6 s_a0_count s_a0_value) 0 (fun sz => k_X8_addPiece h_t h_t_bits s_words s_bits (s_a0_value v2.toNatClampNeg) q6 e7 sz) gX8_load_X8_addPiece rfl pd_X8_addPiece rfl rfl rfl ⟨rfl, rfl, Nat.le_of_ble_eq_true rfl, Nat.le_of_ble_eq_true rfl⟩ (Nat.le_of_ble_eq_true rfl) ⟨Nat.zero_le _, Nat.zero_le _⟩ ⟨rfl, rfl, rfl, rfl, rfl, by decide, rfl⟩ rfl dX8_load_60 ?_
      refine g_iinc 63 C 2 (1 : Int32) [(2, .int (v2 + (1 : Int32))), (0, .ref h_t), (1, .ref h_a0)] dX8_load_63 rfl (by decide) (by decide) rfl ?_
      refine g_goto 66 45 C dX8_load_66 (by decide) ?_
      refine GG.sub (lv' := [(0, .ref h_t), (1, .ref h_a0), (2, .int (v2 + (1 : Int32)))]) [1, 2, 0] rfl ?_
      exact hr ((v2 + (1 : Int32)), q6) h
set_option maxHeartbeats 4000000 in
set_option maxRecDepth 100000 in
theorem ok_B_X8_load_69 {h_t : Nat} {h_t_bits : Nat} {h_a0 : Nat} {h_a0_value : Nat} {h_a0_first : Nat} {h_a0_size : Nat} {s_words : Int32} {s_bits : Nat → Int64} {s_a0_count : Int32} {s_a0_value : Nat → Int32} {res : Int32 × (Nat → Int64)} (C : CX p s m args meth c cX8_load wsX8_load RX8 3 D k A none) (hA : A = va_A w0 sz)  (h : B_X8_load_69 s_words s_bits = some res) : GG p l e rm_X8_load s m args below meth c (MQ below (cQv D w0 sz (W_X8_load k h_t h_t_bits h_a0 h_a0_value h_a0_first h_a0_size res.1 res.2 s_a0_count s_a0_value)) args s 0 0 A) D A 3 0 0 69 [] [] (W_X8_load k h_t h_t_bits h_a0 h_a0_value h_a0_first h_a0_size s_words s_bits s_a0_count s_a0_value) := by
  unfold B_X8_load_69 at h
  obtain rfl := Option.some.inj h
  exact g_vret 69 C hA dX8_load_69 rfl
set_option maxHeartbeats 4000000 in
set_option maxRecDepth 100000 in
theorem ok_B_X8_load_36 {h_t : Nat} {h_t_bits : Nat} {h_a0 : Nat} {h_a0_value : Nat} {h_a0_first : Nat} {h_a0_size : Nat} {s_words : Int32} {s_bits : Nat → Int64} {s_a0_count : Int32} {s_a0_value : Nat → Int32} {res : Int32 × (Nat → Int64)} (C : CX p s m args meth c cX8_load wsX8_load RX8 3 D k A none) (hA : A = va_A w0 sz)  (h : B_X8_load_36 s_words s_bits s_a0_count s_a0_value = some res) : GG p l e rm_X8_load s m args below meth c (MQ below (cQv D w0 sz (W_X8_load k h_t h_t_bits h_a0 h_a0_value h_a0_first h_a0_size res.1 res.2 s_a0_count s_a0_value)) args s 0 0 A) D A 3 0 0 36 [(0, .ref h_t), (1, .ref h_a0)] [] (W_X8_load k h_t h_t_bits h_a0 h_a0_value h_a0_first h_a0_size s_words s_bits s_a0_count s_a0_value) := by
  unfold B_X8_load_36 at h
  refine g_aload_n 36 C 0 dX8_load_36 rfl rfl ?_
  refine g_get 37 C in_X8_load_X8 0 0 rfl rfl (by decide) fl_X8_load_9 rfl rfl dX8_load_37 ?_
  refine g_iconst 40 C (0 : Int32) dX8_load_40 (by decide) ?_
  refine g_lconst 41 C (1 : Int64) dX8_load_41 (by decide) ?_
  obtain ⟨o4, h⟩ := ob_e h
  refine g_last 42 C (W_X8_load k h_t h_t_bits h_a0 h_a0_value h_a0_first h_a0_size s_words (vp_updL s_bits (0 : Int32).toNatClampNeg (1 : Int64)) s_a0_count s_a0_value) 1 rfl o4 rfl dX8_load_42 ?_
  refine g_iconst 43 C (0 : Int32) dX8_load_43 (by decide) ?_
  refine g_istore_n 44 C [(2, .int (0 : Int32)), (0, .ref h_t), (1, .ref h_a0)] dX8_load_44 rfl (by decide) rfl ?_
  refine GG.sub (lv' := [(0, .ref h_t), (1, .ref h_a0), (2, .int (0 : Int32))]) [1, 2, 0] rfl ?_
  exact ok_L_X8_load_45 C hA (fun t h => by
    refine GG.sub (lv' := []) [] rfl ?_
    exact ok_B_X8_load_69 C hA h) FUEL ((0 : Int32), (vp_updL s_bits (0 : Int32).toNatClampNeg (1 : Int64))) h
set_option maxHeartbeats 4000000 in
set_option maxRecDepth 100000 in
theorem k_X8_load {l : Launch} {D : va_G} {k : Nat → ClassId} (h_t : Nat) (h_t_bits : Nat) (h_a0 : Nat) (h_a0_value : Nat) (h_a0_first : Nat) (h_a0_size : Nat) (s_words : Int32) (s_bits : Nat → Int64) (s_a0_count : Int32) (s_a0_value : Nat → Int32) (res : Int32 × (Nat → Int64)) (h : f_X8_load s_bits s_a0_count s_a0_value = some res) (sz : Nat) : Met l yX8_load wsX8_load rm_X8_load (cPre D k [.ref h_t, .ref h_a0] (W_X8_load k h_t h_t_bits h_a0 h_a0_value h_a0_first h_a0_size s_words s_bits s_a0_count s_a0_value) sz) (cQv D (W_X8_load k h_t h_t_bits h_a0 h_a0_value h_a0_first h_a0_size s_words s_bits s_a0_count s_a0_value) sz (W_X8_load k h_t h_t_bits h_a0 h_a0_value h_a0_first h_a0_size res.1 res.2 s_a0_count s_a0_value)) 0 0 (va_A (W_X8_load k h_t h_t_bits h_a0 h_a0_value h_a0_first h_a0_size s_words s_bits s_a0_count s_a0_value) sz) := by
  refine met_of [(0, .ref h_t), (1, .ref h_a0)] (by decide) rfl rfl (Nat.le_of_ble_eq_true rfl) rfl ?_
  intro p e s m args below meth c A hA hsz C
  unfold f_X8_load at h
  refine g_aload_n 0 C 0 dX8_load_0 rfl rfl ?_
  refine g_aload_n 1 C 1 dX8_load_1 rfl rfl ?_
  obtain ⟨q1, e2, h⟩ := bi_e h
  refine g_callVi 2 C (As := []) [2, 3] [0, 1] [0, 1, 2, 3] (W_X8_load k h_t h_t_bits h_a0 h_a0_value h_a0_first h_a0_size s_words s_bits s_a0_count s_a0_value) 2 (fun sz => k_X5_whole h_a0 h_a0_value h_a0_first h_a0_size s_a0_count s_a0_value q1 e2 sz) gX8_load_X5_whole rfl pd_X5_whole rfl rfl rfl ⟨rfl, rfl, Nat.le_of_ble_eq_true rfl, Nat.le_of_ble_eq_true rfl⟩ (Nat.le_of_ble_eq_true rfl) ⟨Nat.zero_le _, Nat.zero_le _⟩ ⟨rfl, rfl, rfl, rfl, rfl, by decide, rfl⟩ rfl dX8_load_2 ?_
  refine g_bipush 5 C (6 : Int32) dX8_load_5 (by decide) ?_
  refine g_ishr 7 C dX8_load_7 ?_
  refine g_iconst 8 C (1 : Int32) dX8_load_8 (by decide) ?_
  refine g_iadd 9 C dX8_load_9 ?_
  refine g_put 10 C (W_X8_load k h_t h_t_bits h_a0 h_a0_value h_a0_first h_a0_size ((q1 >>> ((6 : Int32) &&& 31)) + (1 : Int32)) s_bits s_a0_count s_a0_value) in_X8_load_X8 tyX8 tyX8_ok nmX8 0 1 rfl rfl (by decide) fl_X8_load_21 rfl rfl (tyX8_ok 1 (by decide)) rfl rfl (Nat.le_of_ble_eq_true rfl) rfl dX8_load_10 ?_
  refine g_iconst 13 C (0 : Int32) dX8_load_13 (by decide) ?_
  refine g_istore_n 14 C [(2, .int (0 : Int32)), (0, .ref h_t), (1, .ref h_a0)] dX8_load_14 rfl (by decide) rfl ?_
  refine GG.sub (lv' := [(0, .ref h_t), (1, .ref h_a0), (2, .int (0 : Int32))]) [1, 2, 0] rfl ?_
  exact ok_L_X8_load_15 C hA (fun t h => by
    refine GG.sub (lv' := [(0, .ref h_t), (1, .ref h_a0)]) [0, 1] rfl ?_
    exact ok_B_X8_load_36 C hA h) FUEL ((0 : Int32), s_bits) h
end

/-! X8_has -/
abbrev W_X8_has (k : Nat → ClassId) (h_t : Nat) (h_t_bits : Nat) (s_words : Int32) (s_bits : Nat → Int64) : va_W := [(h_t, .inr (8, [.ref h_t_bits, .int s_words])), (h_t_bits, .inl (k 1, 4, .inr (.inl s_bits)))]
def rm_X8_has : Room := { frames := 0, cells := 0, slots := 0, locals := 0 }
theorem in_X8_has_X8 : ∀ w ∈ u_ws RX8 TX8 2, w ∈ wsX8_has := by decide +kernel
theorem fl_X8_has_21 : Cond.fieldLink RX8 21 "LinkDays$Sums" "words" "I" ∈ wsX8_has := by decide +kernel
theorem fl_X8_has_9 : Cond.fieldLink RX8 9 "LinkDays$Sums" "bits" "[J" ∈ wsX8_has := by decide +kernel
theorem pd_X8_has : yX8_has.cls = RX8 ∧ yX8_has.cls ≠ "java/lang/invoke/MethodHandle" ∧ yX8_has.cls ≠ "java/lang/invoke/VarHandle" ∧ (parseMethodDescriptor yX8_has.desc).map (fun d => d.parameters.length) = some 1 := by decide +kernel
section
variable {p : Program} {l : Launch} {e : Env} {s : State} {m : MethodId} {args : Array Value} {below : List Frame} {meth : Method} {c : Code} {D : va_G} {k : Nat → ClassId} {A : Nat → Prop} {w0 : va_W} {sz : Nat}
set_option maxHeartbeats 4000000 in
set_option maxRecDepth 100000 in
theorem ok_B_X8_has_41 {h_t : Nat} {h_t_bits : Nat} {s_words : Int32} {s_bits : Nat → Int64} {x0 : Int32} {res : Int32} (C : CX p s m args meth c cX8_has wsX8_has RX8 2 D k A (some .boolean)) (hA : A = va_A w0 sz)  (h : B_X8_has_41 x0 = some res) : GG p l e rm_X8_has s m args below meth c (MQ below (cQi D w0 sz res (W_X8_has k h_t h_t_bits s_words s_bits)) args s 0 0 A) D A 2 0 0 41 [] [.int x0] (W_X8_has k h_t h_t_bits s_words s_bits) := by
  unfold B_X8_has_41 at h
  obtain ⟨o1, h⟩ := ob_e h
  obtain rfl := Option.some.inj h
  exact g_zret 41 C hA rfl (zb_n o1) dX8_has_41 rfl
set_option maxHeartbeats 4000000 in
set_option maxRecDepth 100000 in
theorem ok_B_X8_has_40 {h_t : Nat} {h_t_bits : Nat} {s_words : Int32} {s_bits : Nat → Int64} {res : Int32} (C : CX p s m args meth c cX8_has wsX8_has RX8 2 D k A (some .boolean)) (hA : A = va_A w0 sz)  (h : B_X8_has_40 = some res) : GG p l e rm_X8_has s m args below meth c (MQ below (cQi D w0 sz res (W_X8_has k h_t h_t_bits s_words s_bits)) args s 0 0 A) D A 2 0 0 40 [] [] (W_X8_has k h_t h_t_bits s_words s_bits) := by
  unfold B_X8_has_40 at h
  refine g_iconst 40 C (0 : Int32) dX8_has_40 (by decide) ?_
  refine GG.sub (lv' := []) [] rfl ?_
  exact ok_B_X8_has_41 C hA h
set_option maxHeartbeats 4000000 in
set_option maxRecDepth 100000 in
theorem k_X8_has {l : Launch} {D : va_G} {k : Nat → ClassId} (h_t : Nat) (h_t_bits : Nat) (s_words : Int32) (s_bits : Nat → Int64) (v1 : Int32) (res : Int32) (h : f_X8_has s_words s_bits v1 = some res) (sz : Nat) : Met l yX8_has wsX8_has rm_X8_has (cPre D k [.ref h_t, .int v1] (W_X8_has k h_t h_t_bits s_words s_bits) sz) (cQi D (W_X8_has k h_t h_t_bits s_words s_bits) sz res (W_X8_has k h_t h_t_bits s_words s_bits)) 0 0 (va_A (W_X8_has k h_t h_t_bits s_words s_bits) sz) := by
  refine met_of [(0, .ref h_t), (1, .int v1)] (by decide) rfl rfl (Nat.le_of_ble_eq_true rfl) rfl ?_
  intro p e s m args below meth c A hA hsz C
  unfold f_X8_has at h
  refine g_iload_n 0 C 1 dX8_has_0 rfl rfl ?_
  refine g_if_lt 1 40 C dX8_has_1 (by decide) (fun c => ?_) (fun c => ?_)
  · replace h := it_e c h
    refine GG.sub (lv' := []) [] rfl ?_
    exact ok_B_X8_has_40 C hA h
  · replace h := if_e c h
    refine g_iload_n 4 C 1 dX8_has_4 rfl rfl ?_
    refine g_bipush 5 C (6 : Int32) dX8_has_5 (by decide) ?_
    refine g_ishr 7 C dX8_has_7 ?_
    refine g_aload_n 8 C 0 dX8_has_8 rfl rfl ?_
    refine g_get 9 C in_X8_has_X8 0 1 rfl rfl (by decide) fl_X8_has_21 rfl rfl dX8_has_9 ?_
    refine g_icmp_ge 12 40 C dX8_has_12 (by decide) (fun c => ?_) (fun c => ?_)
    · replace h := it_e c h
      refine GG.sub (lv' := []) [] rfl ?_
      exact ok_B_X8_has_40 C hA h
    · replace h := if_e c h
      refine g_aload_n 15 C 0 dX8_has_15 rfl rfl ?_
      refine g_get 16 C in_X8_has_X8 0 0 rfl rfl (by decide) fl_X8_has_9 rfl rfl dX8_has_16 ?_
      refine g_iload_n 19 C 1 dX8_has_19 rfl rfl ?_
      refine g_bipush 20 C (6 : Int32) dX8_has_20 (by decide) ?_
      refine g_ishr 22 C dX8_has_22 ?_
      obtain ⟨o2, h⟩ := ob_e h
      refine g_lald 23 C 1 rfl o2 dX8_has_23 ?_
      refine g_iload_n 24 C 1 dX8_has_24 rfl rfl ?_
      refine g_bipush 25 C (63 : Int32) dX8_has_25 (by decide) ?_
      refine g_iand 27 C dX8_has_27 ?_
      refine g_lushr 28 C dX8_has_28 ?_
      refine g_lconst 29 C (1 : Int64) dX8_has_29 (by decide) ?_
      refine g_land 30 C dX8_has_30 ?_
      refine g_lconst 31 C (0 : Int64) dX8_has_31 (by decide) ?_
      refine g_lcmp 32 C dX8_has_32 ?_
      refine g_if_eq 33 40 C dX8_has_33 (by decide) (fun c => ?_) (fun c => ?_)
      · replace h := it_e c h
        refine GG.sub (lv' := []) [] rfl ?_
        exact ok_B_X8_has_40 C hA h
      · replace h := if_e c h
        refine g_iconst 36 C (1 : Int32) dX8_has_36 (by decide) ?_
        refine g_goto 37 41 C dX8_has_37 (by decide) ?_
        refine GG.sub (lv' := []) [] rfl ?_
        exact ok_B_X8_has_41 C hA h
end

/-! X8_daysInRow -/
abbrev W_X8_daysInRow (k : Nat → ClassId) (h_t : Nat) (h_t_bits : Nat) (h_a0 : Nat) (z0 : Nat) (s_words : Int32) (s_bits : Nat → Int64) (s_a0 : Nat → Int32) : va_W := [(h_t, .inr (8, [.ref h_t_bits, .int s_words])), (h_t_bits, .inl (k 1, 4, .inr (.inl s_bits))), (h_a0, .inl (k 0, z0, .inl s_a0))]
def rm_X8_daysInRow : Room := { frames := 1, cells := 0, slots := 0, locals := 21 }
theorem pd_X8_daysInRow : yX8_daysInRow.cls = RX8 ∧ yX8_daysInRow.cls ≠ "java/lang/invoke/MethodHandle" ∧ yX8_daysInRow.cls ≠ "java/lang/invoke/VarHandle" ∧ (parseMethodDescriptor yX8_daysInRow.desc).map (fun d => d.parameters.length) = some 1 := by decide +kernel
section
variable {p : Program} {l : Launch} {e : Env} {s : State} {m : MethodId} {args : Array Value} {below : List Frame} {meth : Method} {c : Code} {D : va_G} {k : Nat → ClassId} {A : Nat → Prop} {w0 : va_W} {sz : Nat}
set_option maxHeartbeats 4000000 in
set_option maxRecDepth 100000 in
theorem ok_L_X8_daysInRow_2 {h_t : Nat} {h_t_bits : Nat} {h_a0 : Nat} {z0 : Nat} {s_words : Int32} {s_bits : Nat → Int64} {s_a0 : Nat → Int32} {res : Int32} (C : CX p s m args meth c cX8_daysInRow wsX8_daysInRow RX8 3 D k A (some .int)) (hA : A = va_A w0 sz) {kx : Int32 → Option (Int32)} (hx : ∀ t : Int32, kx t = some res → GG p l e rm_X8_daysInRow s m args below meth c (MQ below (cQi D w0 sz res (W_X8_daysInRow k h_t h_t_bits h_a0 z0 s_words s_bits s_a0)) args s 0 0 A) D A 3 0 0 26 [(2, .int t)] [] (W_X8_daysInRow k h_t h_t_bits h_a0 z0 s_words s_bits s_a0)) : ∀ (n : Nat) (t : Int32), L_X8_daysInRow_2 z0 s_words s_bits s_a0 kx n t = some res → GG p l e rm_X8_daysInRow s m args below meth c (MQ below (cQi D w0 sz res (W_X8_daysInRow k h_t h_t_bits h_a0 z0 s_words s_bits s_a0)) args s 0 0 A) D A 3 0 0 2 [(0, .ref h_t), (1, .ref h_a0), (2, .int t)] [] (W_X8_daysInRow k h_t h_t_bits h_a0 z0 s_words s_bits s_a0) := by
  intro n
  induction n with
  | zero => intro t h; cases h
  | succ n ih =>
    intro t h
    obtain ⟨v2, rfl⟩ : ∃ z, z = t := ⟨_, rfl⟩
    replace h : LB_X8_daysInRow_2 z0 s_words s_bits s_a0 kx (L_X8_daysInRow_2 z0 s_words s_bits s_a0 kx n) v2 = some res := h
    have hr := ih
    unfold LB_X8_daysInRow_2 at h
    refine g_iload_n 2 C 2 dX8_daysInRow_2 rfl rfl ?_
    refine g_bipush 3 C (60 : Int32) dX8_daysInRow_3 (by decide) ?_
    refine g_icmp_ge 5 26 C dX8_daysInRow_5 (by decide) (fun c => ?_) (fun c => ?_)
    · replace h := it_e c h
      refine GG.sub (lv' := [(2, .int v2)]) [2] rfl ?_
      exact hx v2 h
    · replace h := if_e c h
      refine g_aload_n 8 C 0 dX8_daysInRow_8 rfl rfl ?_
      refine g_aload_n 9 C 1 dX8_daysInRow_9 rfl rfl ?_
      refine g_iload_n 10 C 2 dX8_daysInRow_10 rfl rfl ?_
      refine g_iconst 11 C (1 : Int32) dX8_daysInRow_11 (by decide) ?_
      refine g_iadd 12 C dX8_daysInRow_12 ?_
      obtain ⟨o1, h⟩ := ob_e h
      refine g_iald 13 C 2 rfl o1 dX8_daysInRow_13 ?_
      obtain ⟨q2, e3, h⟩ := bi_e h
      refine g_callVi 14 C (As := [.int (s_a0 (v2 + (1 : Int32)).toNatClampNeg)]) [0, 1] [2] [1, 2, 0] (W_X8_daysInRow k h_t h_t_bits h_a0 z0 s_words s_bits s_a0) 0 (fun sz => k_X8_has h_t h_t_bits s_words s_bits (s_a0 (v2 + (1 : Int32)).toNatClampNeg) q2 e3 sz) gX8_daysInRow_X8_has rfl pd_X8_has rfl rfl rfl ⟨rfl, rfl, Nat.le_of_ble_eq_true rfl, Nat.le_of_ble_eq_true rfl⟩ (Nat.le_of_ble_eq_true rfl) ⟨Nat.zero_le _, Nat.zero_le _⟩ ⟨rfl, rfl, rfl, rfl, rfl, by decide, rfl⟩ rfl dX8_daysInRow_14 ?_
      refine g_if_eq 17 26 C dX8_daysInRow_17 (by decide) (fun c => ?_) (fun c => ?_)
      · replace h := it_e c h
        refine GG.sub (lv' := [(2, .int v2)]) [2] rfl ?_
        exact hx v2 h
      · replace h := if_e c h
        refine g_iinc 20 C 2 (1 : Int32) [(2, .int (v2 + (1 : Int32))), (0, .ref h_t), (1, .ref h_a0)] dX8_daysInRow_20 rfl (by decide) (by decide) rfl ?_
        refine g_goto 23 2 C dX8_daysInRow_23 (by decide) ?_
        refine GG.sub (lv' := [(0, .ref h_t), (1, .ref h_a0), (2, .int (v2 + (1 : Int32)))]) [1, 2, 0] rfl ?_
        exact hr (v2 + (1 : Int32)) h
set_option maxHeartbeats 4000000 in
set_option maxRecDepth 100000 in
theorem ok_B_X8_daysInRow_26 {h_t : Nat} {h_t_bits : Nat} {h_a0 : Nat} {z0 : Nat} {s_words : Int32} {s_bits : Nat → Int64} {s_a0 : Nat → Int32} {v2 : Int32} {res : Int32} (C : CX p s m args meth c cX8_daysInRow wsX8_daysInRow RX8 3 D k A (some .int)) (hA : A = va_A w0 sz)  (h : B_X8_daysInRow_26 v2 = some res) : GG p l e rm_X8_daysInRow s m args below meth c (MQ below (cQi D w0 sz res (W_X8_daysInRow k h_t h_t_bits h_a0 z0 s_words s_bits s_a0)) args s 0 0 A) D A 3 0 0 26 [(2, .int v2)] [] (W_X8_daysInRow k h_t h_t_bits h_a0 z0 s_words s_bits s_a0) := by
  unfold B_X8_daysInRow_26 at h
  refine g_iload_n 26 C 0 dX8_daysInRow_26 rfl rfl ?_
  obtain rfl := Option.some.inj h
  exact g_iret 27 C hA rfl dX8_daysInRow_27 rfl
set_option maxHeartbeats 4000000 in
set_option maxRecDepth 100000 in
theorem k_X8_daysInRow {l : Launch} {D : va_G} {k : Nat → ClassId} (h_t : Nat) (h_t_bits : Nat) (h_a0 : Nat) (z0 : Nat) (s_words : Int32) (s_bits : Nat → Int64) (s_a0 : Nat → Int32) (res : Int32) (h : f_X8_daysInRow z0 s_words s_bits s_a0 = some res) (sz : Nat) : Met l yX8_daysInRow wsX8_daysInRow rm_X8_daysInRow (cPre D k [.ref h_t, .ref h_a0] (W_X8_daysInRow k h_t h_t_bits h_a0 z0 s_words s_bits s_a0) sz) (cQi D (W_X8_daysInRow k h_t h_t_bits h_a0 z0 s_words s_bits s_a0) sz res (W_X8_daysInRow k h_t h_t_bits h_a0 z0 s_words s_bits s_a0)) 0 0 (va_A (W_X8_daysInRow k h_t h_t_bits h_a0 z0 s_words s_bits s_a0) sz) := by
  refine met_of [(0, .ref h_t), (1, .ref h_a0)] (by decide) rfl rfl (Nat.le_of_ble_eq_true rfl) rfl ?_
  intro p e s m args below meth c A hA hsz C
  unfold f_X8_daysInRow at h
  refine g_iconst 0 C (0 : Int32) dX8_daysInRow_0 (by decide) ?_
  refine g_istore_n 1 C [(2, .int (0 : Int32)), (0, .ref h_t), (1, .ref h_a0)] dX8_daysInRow_1 rfl (by decide) rfl ?_
  refine GG.sub (lv' := [(0, .ref h_t), (1, .ref h_a0), (2, .int (0 : Int32))]) [1, 2, 0] rfl ?_
  exact ok_L_X8_daysInRow_2 C hA (fun t h => by
    refine GG.sub (lv' := [(2, .int t)]) [0] rfl ?_
    exact ok_B_X8_daysInRow_26 C hA h) FUEL (0 : Int32) h
end

/-! X8_paidDays -/
abbrev W_X8_paidDays (k : Nat → ClassId) (h_t : Nat) (h_t_bits : Nat) (h_a0 : Nat) (z0 : Nat) (s_words : Int32) (s_bits : Nat → Int64) (s_a0 : Nat → Int32) : va_W := [(h_t, .inr (8, [.ref h_t_bits, .int s_words])), (h_t_bits, .inl (k 1, 4, .inr (.inl s_bits))), (h_a0, .inl (k 0, z0, .inl s_a0))]
def rm_X8_paidDays : Room := { frames := 1, cells := 0, slots := 0, locals := 21 }
theorem pd_X8_paidDays : yX8_paidDays.cls = RX8 ∧ yX8_paidDays.cls ≠ "java/lang/invoke/MethodHandle" ∧ yX8_paidDays.cls ≠ "java/lang/invoke/VarHandle" ∧ (parseMethodDescriptor yX8_paidDays.desc).map (fun d => d.parameters.length) = some 1 := by decide +kernel
section
variable {p : Program} {l : Launch} {e : Env} {s : State} {m : MethodId} {args : Array Value} {below : List Frame} {meth : Method} {c : Code} {D : va_G} {k : Nat → ClassId} {A : Nat → Prop} {w0 : va_W} {sz : Nat}
set_option maxHeartbeats 4000000 in
set_option maxRecDepth 100000 in
theorem ok_B_X8_paidDays_30 {h_t : Nat} {h_t_bits : Nat} {h_a0 : Nat} {z0 : Nat} {s_words : Int32} {s_bits : Nat → Int64} {s_a0 : Nat → Int32} {v2 : Int64} {v4 : Int32} {res : Int64} {kx rec : Int64 × Int32 → Option (Int64)} (C : CX p s m args meth c cX8_paidDays wsX8_paidDays RX8 5 D k A (some .long)) (hA : A = va_A w0 sz) (hx : ∀ t : Int64 × Int32, kx t = some res → GG p l e rm_X8_paidDays s m args below meth c (MQ below (cQl D w0 sz res (W_X8_paidDays k h_t h_t_bits h_a0 z0 s_words s_bits s_a0)) args s 0 0 A) D A 5 0 0 36 [(2, .long t.1)] [] (W_X8_paidDays k h_t h_t_bits h_a0 z0 s_words s_bits s_a0)) (hr : ∀ t : Int64 × Int32, rec t = some res → GG p l e rm_X8_paidDays s m args below meth c (MQ below (cQl D w0 sz res (W_X8_paidDays k h_t h_t_bits h_a0 z0 s_words s_bits s_a0)) args s 0 0 A) D A 5 0 0 5 [(0, .ref h_t), (1, .ref h_a0), (2, .long t.1), (4, .int t.2)] [] (W_X8_paidDays k h_t h_t_bits h_a0 z0 s_words s_bits s_a0))  (h : B_X8_paidDays_30 kx rec v2 v4 = some res) : GG p l e rm_X8_paidDays s m args below meth c (MQ below (cQl D w0 sz res (W_X8_paidDays k h_t h_t_bits h_a0 z0 s_words s_bits s_a0)) args s 0 0 A) D A 5 0 0 30 [(0, .ref h_t), (1, .ref h_a0), (2, .long v2), (4, .int v4)] [] (W_X8_paidDays k h_t h_t_bits h_a0 z0 s_words s_bits s_a0) := by
  unfold B_X8_paidDays_30 at h
  refine g_iinc 30 C 3 (1 : Int32) [(4, .int (v4 + (1 : Int32))), (0, .ref h_t), (1, .ref h_a0), (2, .long v2)] dX8_paidDays_30 rfl (by decide) (by decide) rfl ?_
  refine g_goto 33 5 C dX8_paidDays_33 (by decide) ?_
  refine GG.sub (lv' := [(0, .ref h_t), (1, .ref h_a0), (2, .long v2), (4, .int (v4 + (1 : Int32)))]) [1, 2, 3, 0] rfl ?_
  exact hr (v2, (v4 + (1 : Int32))) h
set_option maxHeartbeats 4000000 in
set_option maxRecDepth 100000 in
theorem ok_L_X8_paidDays_5 {h_t : Nat} {h_t_bits : Nat} {h_a0 : Nat} {z0 : Nat} {s_words : Int32} {s_bits : Nat → Int64} {s_a0 : Nat → Int32} {res : Int64} (C : CX p s m args meth c cX8_paidDays wsX8_paidDays RX8 5 D k A (some .long)) (hA : A = va_A w0 sz) {kx : Int64 × Int32 → Option (Int64)} (hx : ∀ t : Int64 × Int32, kx t = some res → GG p l e rm_X8_paidDays s m args below meth c (MQ below (cQl D w0 sz res (W_X8_paidDays k h_t h_t_bits h_a0 z0 s_words s_bits s_a0)) args s 0 0 A) D A 5 0 0 36 [(2, .long t.1)] [] (W_X8_paidDays k h_t h_t_bits h_a0 z0 s_words s_bits s_a0)) : ∀ (n : Nat) (t : Int64 × Int32), L_X8_paidDays_5 z0 s_words s_bits s_a0 kx n t = some res → GG p l e rm_X8_paidDays s m args below meth c (MQ below (cQl D w0 sz res (W_X8_paidDays k h_t h_t_bits h_a0 z0 s_words s_bits s_a0)) args s 0 0 A) D A 5 0 0 5 [(0, .ref h_t), (1, .ref h_a0), (2, .long t.1), (4, .int t.2)] [] (W_X8_paidDays k h_t h_t_bits h_a0 z0 s_words s_bits s_a0) := by
  intro n
  induction n with
  | zero => intro t h; cases h
  | succ n ih =>
    intro t h
    obtain ⟨v2, v4⟩ := t
    replace h : LB_X8_paidDays_5 z0 s_words s_bits s_a0 kx (L_X8_paidDays_5 z0 s_words s_bits s_a0 kx n) v2 v4 = some res := h
    have hr := ih
    unfold LB_X8_paidDays_5 at h
    refine g_iload 5 C 3 dX8_paidDays_5 rfl ?_
    refine g_bipush 7 C (60 : Int32) dX8_paidDays_7 (by decide) ?_
    refine g_icmp_gt 9 36 C dX8_paidDays_9 (by decide) (fun c => ?_) (fun c => ?_)
    · replace h := it_e c h
      refine GG.sub (lv' := [(2, .long v2)]) [2] rfl ?_
      exact hx (v2, v4) h
    · replace h := if_e c h
      refine g_aload_n 12 C 0 dX8_paidDays_12 rfl rfl ?_
      refine g_aload_n 13 C 1 dX8_paidDays_13 rfl rfl ?_
      refine g_iload 14 C 3 dX8_paidDays_14 rfl ?_
      obtain ⟨o1, h⟩ := ob_e h
      refine g_iald 16 C 2 rfl o1 dX8_paidDays_16 ?_
      obtain ⟨q2, e3, h⟩ := bi_e h
      refine g_callVi 17 C (As := [.int (s_a0 v4.toNatClampNeg)]) [0, 1] [2] [1, 2, 0] (W_X8_paidDays k h_t h_t_bits h_a0 z0 s_words s_bits s_a0) 0 (fun sz => k_X8_has h_t h_t_bits s_words s_bits (s_a0 v4.toNatClampNeg) q2 e3 sz) gX8_paidDays_X8_has rfl pd_X8_has rfl rfl rfl ⟨rfl, rfl, Nat.le_of_ble_eq_true rfl, Nat.le_of_ble_eq_true rfl⟩ (Nat.le_of_ble_eq_true rfl) ⟨Nat.zero_le _, Nat.zero_le _⟩ ⟨rfl, rfl, rfl, rfl, rfl, by decide, rfl⟩ rfl dX8_paidDays_17 ?_
      refine g_if_eq 20 30 C dX8_paidDays_20 (by decide) (fun c => ?_) (fun c => ?_)
      · replace h := it_e c h
        refine GG.sub (lv' := [(0, .ref h_t), (1, .ref h_a0), (2, .long v2), (4, .int v4)]) [0, 1, 2, 3] rfl ?_
        exact ok_B_X8_paidDays_30 C hA hx hr h
      · replace h := if_e c h
        refine g_lload_n 23 C 2 dX8_paidDays_23 rfl rfl ?_
        refine g_lconst 24 C (1 : Int64) dX8_paidDays_24 (by decide) ?_
        refine g_iload 25 C 3 dX8_paidDays_25 rfl ?_
        refine g_lshl 27 C dX8_paidDays_27 ?_
        refine g_lor 28 C dX8_paidDays_28 ?_
        refine g_lstore_n 29 C [(2, .long (v2 ||| ((1 : Int64) <<< (v4.toInt64 &&& 63)))), (0, .ref h_t), (1, .ref h_a0), (4, .int v4)] dX8_paidDays_29 rfl (by decide) rfl ?_
        refine GG.sub (lv' := [(0, .ref h_t), (1, .ref h_a0), (2, .long (v2 ||| ((1 : Int64) <<< (v4.toInt64 &&& 63)))), (4, .int v4)]) [1, 2, 0, 3] rfl ?_
        exact ok_B_X8_paidDays_30 C hA hx hr h
set_option maxHeartbeats 4000000 in
set_option maxRecDepth 100000 in
theorem ok_B_X8_paidDays_36 {h_t : Nat} {h_t_bits : Nat} {h_a0 : Nat} {z0 : Nat} {s_words : Int32} {s_bits : Nat → Int64} {s_a0 : Nat → Int32} {v2 : Int64} {res : Int64} (C : CX p s m args meth c cX8_paidDays wsX8_paidDays RX8 5 D k A (some .long)) (hA : A = va_A w0 sz)  (h : B_X8_paidDays_36 v2 = some res) : GG p l e rm_X8_paidDays s m args below meth c (MQ below (cQl D w0 sz res (W_X8_paidDays k h_t h_t_bits h_a0 z0 s_words s_bits s_a0)) args s 0 0 A) D A 5 0 0 36 [(2, .long v2)] [] (W_X8_paidDays k h_t h_t_bits h_a0 z0 s_words s_bits s_a0) := by
  unfold B_X8_paidDays_36 at h
  refine g_lload_n 36 C 0 dX8_paidDays_36 rfl rfl ?_
  obtain rfl := Option.some.inj h
  exact g_lret 37 C hA rfl dX8_paidDays_37 rfl
set_option maxHeartbeats 4000000 in
set_option maxRecDepth 100000 in
theorem k_X8_paidDays {l : Launch} {D : va_G} {k : Nat → ClassId} (h_t : Nat) (h_t_bits : Nat) (h_a0 : Nat) (z0 : Nat) (s_words : Int32) (s_bits : Nat → Int64) (s_a0 : Nat → Int32) (res : Int64) (h : f_X8_paidDays z0 s_words s_bits s_a0 = some res) (sz : Nat) : Met l yX8_paidDays wsX8_paidDays rm_X8_paidDays (cPre D k [.ref h_t, .ref h_a0] (W_X8_paidDays k h_t h_t_bits h_a0 z0 s_words s_bits s_a0) sz) (cQl D (W_X8_paidDays k h_t h_t_bits h_a0 z0 s_words s_bits s_a0) sz res (W_X8_paidDays k h_t h_t_bits h_a0 z0 s_words s_bits s_a0)) 0 0 (va_A (W_X8_paidDays k h_t h_t_bits h_a0 z0 s_words s_bits s_a0) sz) := by
  refine met_of [(0, .ref h_t), (1, .ref h_a0)] (by decide) rfl rfl (Nat.le_of_ble_eq_true rfl) rfl ?_
  intro p e s m args below meth c A hA hsz C
  unfold f_X8_paidDays at h
  refine g_lconst 0 C (0 : Int64) dX8_paidDays_0 (by decide) ?_
  refine g_lstore_n 1 C [(2, .long (0 : Int64)), (0, .ref h_t), (1, .ref h_a0)] dX8_paidDays_1 rfl (by decide) rfl ?_
  refine g_iconst 2 C (1 : Int32) dX8_paidDays_2 (by decide) ?_
  refine g_istore 3 C [(4, .int (1 : Int32)), (2, .long (0 : Int64)), (0, .ref h_t), (1, .ref h_a0)] dX8_paidDays_3 (by decide) rfl ?_
  refine GG.sub (lv' := [(0, .ref h_t), (1, .ref h_a0), (2, .long (0 : Int64)), (4, .int (1 : Int32))]) [2, 3, 1, 0] rfl ?_
  exact ok_L_X8_paidDays_5 C hA (fun t h => by
    refine GG.sub (lv' := [(2, .long t.1)]) [0] rfl ?_
    exact ok_B_X8_paidDays_36 C hA h) FUEL ((0 : Int64), (1 : Int32)) h
end

/-! X9_byteOf -/
abbrev W_X9_byteOf (k : Nat → ClassId) : va_W := []
def rm_X9_byteOf : Room := { frames := 0, cells := 0, slots := 0, locals := 0 }
theorem ct_X9_byteOf_23 : Cond.constantLong RX9 23 (255 : Int64) ∈ wsX9_byteOf := by decide +kernel
theorem pd_X9_byteOf : yX9_byteOf.cls ≠ "java/lang/invoke/MethodHandle" ∧ yX9_byteOf.cls ≠ "java/lang/invoke/VarHandle" ∧ (parseMethodDescriptor yX9_byteOf.desc).map (fun d => d.parameters.length) = some 2 := by decide +kernel
section
variable {p : Program} {l : Launch} {e : Env} {s : State} {m : MethodId} {args : Array Value} {below : List Frame} {meth : Method} {c : Code} {D : va_G} {k : Nat → ClassId} {A : Nat → Prop} {w0 : va_W} {sz : Nat}
set_option maxHeartbeats 4000000 in
set_option maxRecDepth 100000 in
theorem k_X9_byteOf {l : Launch} {D : va_G} {k : Nat → ClassId} (v0 : Int64) (v2 : Int32) (res : Int32) (h : f_X9_byteOf v0 v2 = some res) (sz : Nat) : Met l yX9_byteOf wsX9_byteOf rm_X9_byteOf (cPre D k [.long v0, .int v2] (W_X9_byteOf k) sz) (cQi D (W_X9_byteOf k) sz res (W_X9_byteOf k)) 0 0 (va_A (W_X9_byteOf k) sz) := by
  refine met_of [(0, .long v0), (2, .int v2)] (by decide) rfl rfl (Nat.le_of_ble_eq_true rfl) rfl ?_
  intro p e s m args below meth c A hA hsz C
  unfold f_X9_byteOf at h
  refine g_lload_n 0 C 0 dX9_byteOf_0 rfl rfl ?_
  refine g_bipush 1 C (8 : Int32) dX9_byteOf_1 (by decide) ?_
  refine g_iload_n 3 C 1 dX9_byteOf_3 rfl rfl ?_
  refine g_imul 4 C dX9_byteOf_4 ?_
  refine g_lushr 5 C dX9_byteOf_5 ?_
  refine g_ldc2 6 C (255 : Int64) dX9_byteOf_6 ct_X9_byteOf_23 ?_
  refine g_land 9 C dX9_byteOf_9 ?_
  refine g_l2i 10 C dX9_byteOf_10 ?_
  obtain rfl := Option.some.inj h
  exact g_iret 11 C hA rfl dX9_byteOf_11 rfl
end

/-! X9_canHold -/
abbrev W_X9_canHold (k : Nat → ClassId) : va_W := []
def rm_X9_canHold : Room := { frames := 1, cells := 0, slots := 0, locals := 22 }
theorem ini_X9_canHold_X10_within : Cond.initialized RX10 ∈ wsX9_canHold := by decide +kernel
theorem sta_X9_canHold_X10_within : Cond.static yX10_within ∈ wsX9_canHold := by decide +kernel
theorem pd_X9_canHold : yX9_canHold.cls ≠ "java/lang/invoke/MethodHandle" ∧ yX9_canHold.cls ≠ "java/lang/invoke/VarHandle" ∧ (parseMethodDescriptor yX9_canHold.desc).map (fun d => d.parameters.length) = some 2 := by decide +kernel
section
variable {p : Program} {l : Launch} {e : Env} {s : State} {m : MethodId} {args : Array Value} {below : List Frame} {meth : Method} {c : Code} {D : va_G} {k : Nat → ClassId} {A : Nat → Prop} {w0 : va_W} {sz : Nat}
set_option maxHeartbeats 4000000 in
set_option maxRecDepth 100000 in
theorem ok_L_X9_canHold_2 {v0 : Int64} {v2 : Int32} {res : Int32} (C : CX p s m args meth c cX9_canHold wsX9_canHold RX9 4 D k A (some .boolean)) (hA : A = va_A w0 sz) {kx : Int32 → Option (Int32)} (hx : ∀ t : Int32, kx t = some res → GG p l e rm_X9_canHold s m args below meth c (MQ below (cQi D w0 sz res (W_X9_canHold k)) args s 0 0 A) D A 4 0 0 30 [] [] (W_X9_canHold k)) : ∀ (n : Nat) (t : Int32), L_X9_canHold_2 v0 v2 kx n t = some res → GG p l e rm_X9_canHold s m args below meth c (MQ below (cQi D w0 sz res (W_X9_canHold k)) args s 0 0 A) D A 4 0 0 2 [(0, .long v0), (2, .int v2), (3, .int t)] [] (W_X9_canHold k) := by
  intro n
  induction n with
  | zero => intro t h; cases h
  | succ n ih =>
    intro t h
    obtain ⟨v3, rfl⟩ : ∃ z, z = t := ⟨_, rfl⟩
    replace h : LB_X9_canHold_2 v0 v2 kx (L_X9_canHold_2 v0 v2 kx n) v3 = some res := h
    have hr := ih
    unfold LB_X9_canHold_2 at h
    refine g_iload_n 2 C 2 dX9_canHold_2 rfl rfl ?_
    refine g_iload_n 3 C 1 dX9_canHold_3 rfl rfl ?_
    refine g_icmp_ge 4 30 C dX9_canHold_4 (by decide) (fun c => ?_) (fun c => ?_)
    · replace h := it_e c h
      refine GG.sub (lv' := []) [] rfl ?_
      exact hx v3 h
    · replace h := if_e c h
      refine g_lload_n 7 C 0 dX9_canHold_7 rfl rfl ?_
      refine g_iload_n 8 C 2 dX9_canHold_8 rfl rfl ?_
      obtain ⟨q1, e2, h⟩ := bi_e h
      refine g_callSi 9 C (As := [.long v0, .int v3]) [] [] [] (W_X9_canHold k) (fun sz => k_X9_byteOf v0 v3 q1 e2 sz) gX9_canHold_X9_byteOf rfl pd_X9_byteOf rfl ⟨rfl, rfl, Nat.le_of_ble_eq_true rfl, Nat.le_of_ble_eq_true rfl⟩ (Nat.le_of_ble_eq_true rfl) ⟨Nat.zero_le _, Nat.zero_le _⟩ ⟨rfl, rfl, rfl, rfl, rfl, by decide, rfl⟩ rfl dX9_canHold_9 ?_
      refine g_bipush 12 C (32 : Int32) dX9_canHold_12 (by decide) ?_
      refine g_bipush 14 C (126 : Int32) dX9_canHold_14 (by decide) ?_
      obtain ⟨q3, e4, h⟩ := bi_e h
      refine g_callNi 16 C (As := [.int q1, .int (32 : Int32), .int (126 : Int32)]) [] [] [] (W_X9_canHold k) (fun sz => k_X10_within q1 (32 : Int32) (126 : Int32) q3 e4 sz) gX9_canHold_X10_within_n19 rfl C.2.2.2.2.2.2.2.2.2.2.1 ini_X9_canHold_X10_within sta_X9_canHold_X10_within pd_X10_within rfl ⟨rfl, rfl, Nat.le_of_ble_eq_true rfl, Nat.le_of_ble_eq_true rfl⟩ (Nat.le_of_ble_eq_true rfl) ⟨Nat.zero_le _, Nat.zero_le _⟩ ⟨rfl, rfl, rfl, rfl, rfl, by decide, rfl⟩ rfl dX9_canHold_16 ?_
      refine g_if_ne 19 24 C dX9_canHold_19 (by decide) (fun c => ?_) (fun c => ?_)
      · replace h := if_e c h
        refine g_iinc 24 C 2 (1 : Int32) [(3, .int (v3 + (1 : Int32))), (0, .long v0), (2, .int v2)] dX9_canHold_24 rfl (by decide) (by decide) rfl ?_
        refine g_goto 27 2 C dX9_canHold_27 (by decide) ?_
        refine GG.sub (lv' := [(0, .long v0), (2, .int v2), (3, .int (v3 + (1 : Int32)))]) [1, 2, 0] rfl ?_
        exact hr (v3 + (1 : Int32)) h
      · replace h := it_e c h
        refine g_iconst 22 C (0 : Int32) dX9_canHold_22 (by decide) ?_
        obtain rfl := Option.some.inj h
        exact g_zret 23 C hA rfl rfl dX9_canHold_23 rfl
set_option maxHeartbeats 4000000 in
set_option maxRecDepth 100000 in
theorem ok_B_X9_canHold_30 {res : Int32} (C : CX p s m args meth c cX9_canHold wsX9_canHold RX9 4 D k A (some .boolean)) (hA : A = va_A w0 sz)  (h : B_X9_canHold_30 = some res) : GG p l e rm_X9_canHold s m args below meth c (MQ below (cQi D w0 sz res (W_X9_canHold k)) args s 0 0 A) D A 4 0 0 30 [] [] (W_X9_canHold k) := by
  unfold B_X9_canHold_30 at h
  refine g_iconst 30 C (1 : Int32) dX9_canHold_30 (by decide) ?_
  obtain rfl := Option.some.inj h
  exact g_zret 31 C hA rfl rfl dX9_canHold_31 rfl
set_option maxHeartbeats 4000000 in
set_option maxRecDepth 100000 in
theorem k_X9_canHold {l : Launch} {D : va_G} {k : Nat → ClassId} (v0 : Int64) (v2 : Int32) (res : Int32) (h : f_X9_canHold v0 v2 = some res) (sz : Nat) : Met l yX9_canHold wsX9_canHold rm_X9_canHold (cPre D k [.long v0, .int v2] (W_X9_canHold k) sz) (cQi D (W_X9_canHold k) sz res (W_X9_canHold k)) 0 0 (va_A (W_X9_canHold k) sz) := by
  refine met_of [(0, .long v0), (2, .int v2)] (by decide) rfl rfl (Nat.le_of_ble_eq_true rfl) rfl ?_
  intro p e s m args below meth c A hA hsz C
  unfold f_X9_canHold at h
  refine g_iconst 0 C (0 : Int32) dX9_canHold_0 (by decide) ?_
  refine g_istore_n 1 C [(3, .int (0 : Int32)), (0, .long v0), (2, .int v2)] dX9_canHold_1 rfl (by decide) rfl ?_
  refine GG.sub (lv' := [(0, .long v0), (2, .int v2), (3, .int (0 : Int32))]) [1, 2, 0] rfl ?_
  exact ok_L_X9_canHold_2 C hA (fun t h => by
    refine GG.sub (lv' := []) [] rfl ?_
    exact ok_B_X9_canHold_30 C hA h) FUEL (0 : Int32) h
end

/-! X9_write -/
abbrev W_X9_write (k : Nat → ClassId) (h_t : Nat) (h_t_bytes : Nat) (s_length : Int32) (s_at : Int32) (s_bytes : Nat → Int32) : va_W := [(h_t, .inr (9, [.ref h_t_bytes, .int s_length, .int s_at])), (h_t_bytes, .inl (k 2, 60, .inl s_bytes))]
def rm_X9_write : Room := { frames := 1, cells := 0, slots := 0, locals := 22 }
theorem in_X9_write_X9 : ∀ w ∈ u_ws RX9 TX9 3, w ∈ wsX9_write := by decide +kernel
theorem fl_X9_write_25 : Cond.fieldLink RX9 25 "LinkDays$Tape" "length" "I" ∈ wsX9_write := by decide +kernel
theorem fl_X9_write_9 : Cond.fieldLink RX9 9 "LinkDays$Tape" "bytes" "[B" ∈ wsX9_write := by decide +kernel
theorem pd_X9_write : yX9_write.cls = RX9 ∧ yX9_write.cls ≠ "java/lang/invoke/MethodHandle" ∧ yX9_write.cls ≠ "java/lang/invoke/VarHandle" ∧ (parseMethodDescriptor yX9_write.desc).map (fun d => d.parameters.length) = some 2 := by decide +kernel
section
variable {p : Program} {l : Launch} {e : Env} {s : State} {m : MethodId} {args : Array Value} {below : List Frame} {meth : Method} {c : Code} {D : va_G} {k : Nat → ClassId} {A : Nat → Prop} {w0 : va_W} {sz : Nat}
set_option maxHeartbeats 4000000 in
set_option maxRecDepth 100000 in
theorem ok_L_X9_write_5 {h_t : Nat} {h_t_bytes : Nat} {s_at : Int32} {v1 : Int64} {res : Int32 × (Nat → Int32)} (C : CX p s m args meth c cX9_write wsX9_write RX9 5 D k A none) (hA : A = va_A w0 sz) {kx : Int32 × Int32 × (Nat → Int32) → Option (Int32 × (Nat → Int32))} (hx : ∀ t : Int32 × Int32 × (Nat → Int32), kx t = some res → GG p l e rm_X9_write s m args below meth c (MQ below (cQv D w0 sz (W_X9_write k h_t h_t_bytes res.1 s_at res.2)) args s 0 0 A) D A 5 0 0 42 [] [] (W_X9_write k h_t h_t_bytes t.2.1 s_at t.2.2)) : ∀ (n : Nat) (t : Int32 × Int32 × (Nat → Int32)), L_X9_write_5 v1 kx n t = some res → GG p l e rm_X9_write s m args below meth c (MQ below (cQv D w0 sz (W_X9_write k h_t h_t_bytes res.1 s_at res.2)) args s 0 0 A) D A 5 0 0 5 [(0, .ref h_t), (1, .long v1), (4, .int t.1)] [] (W_X9_write k h_t h_t_bytes t.2.1 s_at t.2.2) := by
  intro n
  induction n with
  | zero => intro t h; cases h
  | succ n ih =>
    intro t h
    obtain ⟨v4, s_length, s_bytes⟩ := t
    replace h : LB_X9_write_5 v1 kx (L_X9_write_5 v1 kx n) v4 s_length s_bytes = some res := h
    have hr := ih
    unfold LB_X9_write_5 at h
    refine g_iload 5 C 2 dX9_write_5 rfl ?_
    refine g_if_lt 7 42 C dX9_write_7 (by decide) (fun c => ?_) (fun c => ?_)
    · replace h := it_e c h
      refine GG.sub (lv' := []) [] rfl ?_
      exact hx (v4, s_length, s_bytes) h
    · replace h := if_e c h
      refine g_aload_n 10 C 0 dX9_write_10 rfl rfl ?_
      refine g_get 11 C in_X9_write_X9 0 0 rfl rfl (by decide) fl_X9_write_9 rfl rfl dX9_write_11 ?_
      refine g_aload_n 14 C 0 dX9_write_14 rfl rfl ?_
      refine g_get 15 C in_X9_write_X9 0 1 rfl rfl (by decide) fl_X9_write_25 rfl rfl dX9_write_15 ?_
      refine g_lload_n 18 C 1 dX9_write_18 rfl rfl ?_
      refine g_iload 19 C 2 dX9_write_19 rfl ?_
      obtain ⟨q1, e2, h⟩ := bi_e h
      refine g_callSi 21 C (As := [.long v1, .int v4]) [] [0, 1] [0, 1] (W_X9_write k h_t h_t_bytes s_length s_at s_bytes) (fun sz => k_X9_byteOf v1 v4 q1 e2 sz) gX9_write_X9_byteOf rfl pd_X9_byteOf rfl ⟨rfl, rfl, Nat.le_of_ble_eq_true rfl, Nat.le_of_ble_eq_true rfl⟩ (Nat.le_of_ble_eq_true rfl) ⟨Nat.zero_le _, Nat.zero_le _⟩ ⟨rfl, rfl, rfl, rfl, rfl, by decide, rfl⟩ rfl dX9_write_21 ?_
      refine g_i2b 24 C dX9_write_24 ?_
      obtain ⟨o3, h⟩ := ob_e h
      refine g_bast 25 C (W_X9_write k h_t h_t_bytes s_length s_at (upd s_bytes s_length.toNatClampNeg (vp_nar .byte q1.toInt8.toInt32))) 1 rfl o3 rfl dX9_write_25 ?_
      refine g_aload_n 26 C 0 dX9_write_26 rfl rfl ?_
      refine g_dup 27 C dX9_write_27 rfl ?_
      refine g_get 28 C in_X9_write_X9 0 1 rfl rfl (by decide) fl_X9_write_25 rfl rfl dX9_write_28 ?_
      refine g_iconst 31 C (1 : Int32) dX9_write_31 (by decide) ?_
      refine g_iadd 32 C dX9_write_32 ?_
      refine g_put 33 C (W_X9_write k h_t h_t_bytes (s_length + (1 : Int32)) s_at (upd s_bytes s_length.toNatClampNeg (vp_nar .byte q1.toInt8.toInt32))) in_X9_write_X9 tyX9 tyX9_ok nmX9 0 1 rfl rfl (by decide) fl_X9_write_25 rfl rfl (tyX9_ok 1 (by decide)) rfl rfl (Nat.le_of_ble_eq_true rfl) rfl dX9_write_33 ?_
      refine g_iinc 36 C 2 (-1 : Int32) [(4, .int (v4 + (-1 : Int32))), (0, .ref h_t), (1, .long v1)] dX9_write_36 rfl (by decide) (by decide) rfl ?_
      refine g_goto 39 5 C dX9_write_39 (by decide) ?_
      refine GG.sub (lv' := [(0, .ref h_t), (1, .long v1), (4, .int (v4 + (-1 : Int32)))]) [1, 2, 0] rfl ?_
      exact hr ((v4 + (-1 : Int32)), (s_length + (1 : Int32)), (upd s_bytes s_length.toNatClampNeg (vp_nar .byte q1.toInt8.toInt32))) h
set_option maxHeartbeats 4000000 in
set_option maxRecDepth 100000 in
theorem ok_B_X9_write_42 {h_t : Nat} {h_t_bytes : Nat} {s_length : Int32} {s_at : Int32} {s_bytes : Nat → Int32} {res : Int32 × (Nat → Int32)} (C : CX p s m args meth c cX9_write wsX9_write RX9 5 D k A none) (hA : A = va_A w0 sz)  (h : B_X9_write_42 s_length s_bytes = some res) : GG p l e rm_X9_write s m args below meth c (MQ below (cQv D w0 sz (W_X9_write k h_t h_t_bytes res.1 s_at res.2)) args s 0 0 A) D A 5 0 0 42 [] [] (W_X9_write k h_t h_t_bytes s_length s_at s_bytes) := by
  unfold B_X9_write_42 at h
  obtain rfl := Option.some.inj h
  exact g_vret 42 C hA dX9_write_42 rfl
set_option maxHeartbeats 4000000 in
set_option maxRecDepth 100000 in
theorem k_X9_write {l : Launch} {D : va_G} {k : Nat → ClassId} (h_t : Nat) (h_t_bytes : Nat) (s_length : Int32) (s_at : Int32) (s_bytes : Nat → Int32) (v1 : Int64) (v3 : Int32) (res : Int32 × (Nat → Int32)) (h : f_X9_write s_length s_bytes v1 v3 = some res) (sz : Nat) : Met l yX9_write wsX9_write rm_X9_write (cPre D k [.ref h_t, .long v1, .int v3] (W_X9_write k h_t h_t_bytes s_length s_at s_bytes) sz) (cQv D (W_X9_write k h_t h_t_bytes s_length s_at s_bytes) sz (W_X9_write k h_t h_t_bytes res.1 s_at res.2)) 0 0 (va_A (W_X9_write k h_t h_t_bytes s_length s_at s_bytes) sz) := by
  refine met_of [(0, .ref h_t), (1, .long v1), (3, .int v3)] (by decide) rfl rfl (Nat.le_of_ble_eq_true rfl) rfl ?_
  intro p e s m args below meth c A hA hsz C
  unfold f_X9_write at h
  refine g_iload_n 0 C 2 dX9_write_0 rfl rfl ?_
  refine g_iconst 1 C (1 : Int32) dX9_write_1 (by decide) ?_
  refine g_isub 2 C dX9_write_2 ?_
  refine g_istore 3 C [(4, .int (v3 - (1 : Int32))), (0, .ref h_t), (1, .long v1), (3, .int v3)] dX9_write_3 (by decide) rfl ?_
  refine GG.sub (lv' := [(0, .ref h_t), (1, .long v1), (4, .int (v3 - (1 : Int32)))]) [1, 2, 0] rfl ?_
  exact ok_L_X9_write_5 C hA (fun t h => by
    refine GG.sub (lv' := []) [] rfl ?_
    exact ok_B_X9_write_42 C hA h) FUEL ((v3 - (1 : Int32)), s_length, s_bytes) h
end

/-! X9_sight -/
abbrev W_X9_sight (k : Nat → ClassId) (h_t : Nat) (h_t_bytes : Nat) (s_length : Int32) (s_at : Int32) (s_bytes : Nat → Int32) : va_W := [(h_t, .inr (9, [.ref h_t_bytes, .int s_length, .int s_at])), (h_t_bytes, .inl (k 2, 60, .inl s_bytes))]
def rm_X9_sight : Room := { frames := 0, cells := 0, slots := 0, locals := 0 }
theorem in_X9_sight_X9 : ∀ w ∈ u_ws RX9 TX9 3, w ∈ wsX9_sight := by decide +kernel
theorem fl_X9_sight_25 : Cond.fieldLink RX9 25 "LinkDays$Tape" "length" "I" ∈ wsX9_sight := by decide +kernel
theorem fl_X9_sight_29 : Cond.fieldLink RX9 29 "LinkDays$Tape" "at" "I" ∈ wsX9_sight := by decide +kernel
theorem fl_X9_sight_9 : Cond.fieldLink RX9 9 "LinkDays$Tape" "bytes" "[B" ∈ wsX9_sight := by decide +kernel
theorem pd_X9_sight : yX9_sight.cls = RX9 ∧ yX9_sight.cls ≠ "java/lang/invoke/MethodHandle" ∧ yX9_sight.cls ≠ "java/lang/invoke/VarHandle" ∧ (parseMethodDescriptor yX9_sight.desc).map (fun d => d.parameters.length) = some 0 := by decide +kernel
section
variable {p : Program} {l : Launch} {e : Env} {s : State} {m : MethodId} {args : Array Value} {below : List Frame} {meth : Method} {c : Code} {D : va_G} {k : Nat → ClassId} {A : Nat → Prop} {w0 : va_W} {sz : Nat}
set_option maxHeartbeats 4000000 in
set_option maxRecDepth 100000 in
theorem ok_L_X9_sight_0 {h_t : Nat} {h_t_bytes : Nat} {s_length : Int32} {s_bytes : Nat → Int32} {res : Int32 × Int32} (C : CX p s m args meth c cX9_sight wsX9_sight RX9 1 D k A (some .int)) (hA : A = va_A w0 sz) {kx : Int32 → Option (Int32 × Int32)} (hx : ∀ t : Int32, kx t = some res → GG p l e rm_X9_sight s m args below meth c (MQ below (cQi D w0 sz res.1 (W_X9_sight k h_t h_t_bytes s_length res.2 s_bytes)) args s 0 0 A) D A 1 0 0 38 [(0, .ref h_t)] [] (W_X9_sight k h_t h_t_bytes s_length t s_bytes)) : ∀ (n : Nat) (t : Int32), L_X9_sight_0 s_length s_bytes kx n t = some res → GG p l e rm_X9_sight s m args below meth c (MQ below (cQi D w0 sz res.1 (W_X9_sight k h_t h_t_bytes s_length res.2 s_bytes)) args s 0 0 A) D A 1 0 0 0 [(0, .ref h_t)] [] (W_X9_sight k h_t h_t_bytes s_length t s_bytes) := by
  intro n
  induction n with
  | zero => intro t h; cases h
  | succ n ih =>
    intro t h
    obtain ⟨s_at, rfl⟩ : ∃ z, z = t := ⟨_, rfl⟩
    replace h : LB_X9_sight_0 s_length s_bytes kx (L_X9_sight_0 s_length s_bytes kx n) s_at = some res := h
    have hr := ih
    unfold LB_X9_sight_0 at h
    refine g_aload_n 0 C 0 dX9_sight_0 rfl rfl ?_
    refine g_get 1 C in_X9_sight_X9 0 2 rfl rfl (by decide) fl_X9_sight_29 rfl rfl dX9_sight_1 ?_
    refine g_aload_n 4 C 0 dX9_sight_4 rfl rfl ?_
    refine g_get 5 C in_X9_sight_X9 0 1 rfl rfl (by decide) fl_X9_sight_25 rfl rfl dX9_sight_5 ?_
    refine g_icmp_ge 8 38 C dX9_sight_8 (by decide) (fun c => ?_) (fun c => ?_)
    · replace h := it_e c h
      refine GG.sub (lv' := [(0, .ref h_t)]) [0] rfl ?_
      exact hx s_at h
    · replace h := if_e c h
      refine g_aload_n 11 C 0 dX9_sight_11 rfl rfl ?_
      refine g_get 12 C in_X9_sight_X9 0 0 rfl rfl (by decide) fl_X9_sight_9 rfl rfl dX9_sight_12 ?_
      refine g_aload_n 15 C 0 dX9_sight_15 rfl rfl ?_
      refine g_get 16 C in_X9_sight_X9 0 2 rfl rfl (by decide) fl_X9_sight_29 rfl rfl dX9_sight_16 ?_
      obtain ⟨o1, h⟩ := ob_e h
      refine g_bald 19 C 1 rfl o1 dX9_sight_19 ?_
      refine g_bipush 20 C (32 : Int32) dX9_sight_20 (by decide) ?_
      refine g_icmp_ne 22 38 C dX9_sight_22 (by decide) (fun c => ?_) (fun c => ?_)
      · replace h := if_e c h
        refine GG.sub (lv' := [(0, .ref h_t)]) [0] rfl ?_
        exact hx s_at h
      · replace h := it_e c h
        refine g_aload_n 25 C 0 dX9_sight_25 rfl rfl ?_
        refine g_dup 26 C dX9_sight_26 rfl ?_
        refine g_get 27 C in_X9_sight_X9 0 2 rfl rfl (by decide) fl_X9_sight_29 rfl rfl dX9_sight_27 ?_
        refine g_iconst 30 C (1 : Int32) dX9_sight_30 (by decide) ?_
        refine g_iadd 31 C dX9_sight_31 ?_
        refine g_put 32 C (W_X9_sight k h_t h_t_bytes s_length (s_at + (1 : Int32)) s_bytes) in_X9_sight_X9 tyX9 tyX9_ok nmX9 0 2 rfl rfl (by decide) fl_X9_sight_29 rfl rfl (tyX9_ok 2 (by decide)) rfl rfl (Nat.le_of_ble_eq_true rfl) rfl dX9_sight_32 ?_
        refine g_goto 35 0 C dX9_sight_35 (by decide) ?_
        refine GG.sub (lv' := [(0, .ref h_t)]) [0] rfl ?_
        exact hr (s_at + (1 : Int32)) h
set_option maxHeartbeats 4000000 in
set_option maxRecDepth 100000 in
theorem ok_B_X9_sight_62 {h_t : Nat} {h_t_bytes : Nat} {s_length : Int32} {s_at : Int32} {s_bytes : Nat → Int32} {x0 : Int32} {res : Int32 × Int32} (C : CX p s m args meth c cX9_sight wsX9_sight RX9 1 D k A (some .int)) (hA : A = va_A w0 sz)  (h : B_X9_sight_62 s_at x0 = some res) : GG p l e rm_X9_sight s m args below meth c (MQ below (cQi D w0 sz res.1 (W_X9_sight k h_t h_t_bytes s_length res.2 s_bytes)) args s 0 0 A) D A 1 0 0 62 [] [.int x0] (W_X9_sight k h_t h_t_bytes s_length s_at s_bytes) := by
  unfold B_X9_sight_62 at h
  obtain rfl := Option.some.inj h
  exact g_iret 62 C hA rfl dX9_sight_62 rfl
set_option maxHeartbeats 4000000 in
set_option maxRecDepth 100000 in
theorem ok_B_X9_sight_38 {h_t : Nat} {h_t_bytes : Nat} {s_length : Int32} {s_at : Int32} {s_bytes : Nat → Int32} {res : Int32 × Int32} (C : CX p s m args meth c cX9_sight wsX9_sight RX9 1 D k A (some .int)) (hA : A = va_A w0 sz)  (h : B_X9_sight_38 s_length s_at s_bytes = some res) : GG p l e rm_X9_sight s m args below meth c (MQ below (cQi D w0 sz res.1 (W_X9_sight k h_t h_t_bytes s_length res.2 s_bytes)) args s 0 0 A) D A 1 0 0 38 [(0, .ref h_t)] [] (W_X9_sight k h_t h_t_bytes s_length s_at s_bytes) := by
  unfold B_X9_sight_38 at h
  refine g_aload_n 38 C 0 dX9_sight_38 rfl rfl ?_
  refine g_get 39 C in_X9_sight_X9 0 2 rfl rfl (by decide) fl_X9_sight_29 rfl rfl dX9_sight_39 ?_
  refine g_aload_n 42 C 0 dX9_sight_42 rfl rfl ?_
  refine g_get 43 C in_X9_sight_X9 0 1 rfl rfl (by decide) fl_X9_sight_25 rfl rfl dX9_sight_43 ?_
  refine g_icmp_ge 46 61 C dX9_sight_46 (by decide) (fun c => ?_) (fun c => ?_)
  · replace h := it_e c h
    refine g_iconst 61 C (-1 : Int32) dX9_sight_61 (by decide) ?_
    refine GG.sub (lv' := []) [] rfl ?_
    exact ok_B_X9_sight_62 C hA h
  · replace h := if_e c h
    refine g_aload_n 49 C 0 dX9_sight_49 rfl rfl ?_
    refine g_get 50 C in_X9_sight_X9 0 0 rfl rfl (by decide) fl_X9_sight_9 rfl rfl dX9_sight_50 ?_
    refine g_aload_n 53 C 0 dX9_sight_53 rfl rfl ?_
    refine g_get 54 C in_X9_sight_X9 0 2 rfl rfl (by decide) fl_X9_sight_29 rfl rfl dX9_sight_54 ?_
    obtain ⟨o2, h⟩ := ob_e h
    refine g_bald 57 C 1 rfl o2 dX9_sight_57 ?_
    refine g_goto 58 62 C dX9_sight_58 (by decide) ?_
    refine GG.sub (lv' := []) [] rfl ?_
    exact ok_B_X9_sight_62 C hA h
set_option maxHeartbeats 4000000 in
set_option maxRecDepth 100000 in
theorem k_X9_sight {l : Launch} {D : va_G} {k : Nat → ClassId} (h_t : Nat) (h_t_bytes : Nat) (s_length : Int32) (s_at : Int32) (s_bytes : Nat → Int32) (res : Int32 × Int32) (h : f_X9_sight s_length s_at s_bytes = some res) (sz : Nat) : Met l yX9_sight wsX9_sight rm_X9_sight (cPre D k [.ref h_t] (W_X9_sight k h_t h_t_bytes s_length s_at s_bytes) sz) (cQi D (W_X9_sight k h_t h_t_bytes s_length s_at s_bytes) sz res.1 (W_X9_sight k h_t h_t_bytes s_length res.2 s_bytes)) 0 0 (va_A (W_X9_sight k h_t h_t_bytes s_length s_at s_bytes) sz) := by
  refine met_of [(0, .ref h_t)] (by decide) rfl rfl (Nat.le_of_ble_eq_true rfl) rfl ?_
  intro p e s m args below meth c A hA hsz C
  unfold f_X9_sight at h
  refine GG.sub (lv' := [(0, .ref h_t)]) [0] rfl ?_
  exact ok_L_X9_sight_0 C hA (fun t h => by
    refine GG.sub (lv' := [(0, .ref h_t)]) [0] rfl ?_
    exact ok_B_X9_sight_38 C hA h) FUEL s_at h
end

/-! X9_faultAt -/
abbrev W_X9_faultAt (k : Nat → ClassId) : va_W := []
def rm_X9_faultAt : Room := { frames := 0, cells := 0, slots := 0, locals := 0 }
theorem pd_X9_faultAt : yX9_faultAt.cls ≠ "java/lang/invoke/MethodHandle" ∧ yX9_faultAt.cls ≠ "java/lang/invoke/VarHandle" ∧ (parseMethodDescriptor yX9_faultAt.desc).map (fun d => d.parameters.length) = some 1 := by decide +kernel
section
variable {p : Program} {l : Launch} {e : Env} {s : State} {m : MethodId} {args : Array Value} {below : List Frame} {meth : Method} {c : Code} {D : va_G} {k : Nat → ClassId} {A : Nat → Prop} {w0 : va_W} {sz : Nat}
set_option maxHeartbeats 4000000 in
set_option maxRecDepth 100000 in
theorem k_X9_faultAt {l : Launch} {D : va_G} {k : Nat → ClassId} (v0 : Int32) (res : Int32) (h : f_X9_faultAt v0 = some res) (sz : Nat) : Met l yX9_faultAt wsX9_faultAt rm_X9_faultAt (cPre D k [.int v0] (W_X9_faultAt k) sz) (cQi D (W_X9_faultAt k) sz res (W_X9_faultAt k)) 0 0 (va_A (W_X9_faultAt k) sz) := by
  refine met_of [(0, .int v0)] (by decide) rfl rfl (Nat.le_of_ble_eq_true rfl) rfl ?_
  intro p e s m args below meth c A hA hsz C
  unfold f_X9_faultAt at h
  refine g_bipush 0 C (-20 : Int32) dX9_faultAt_0 (by decide) ?_
  refine g_iload_n 2 C 0 dX9_faultAt_2 rfl rfl ?_
  refine g_isub 3 C dX9_faultAt_3 ?_
  obtain rfl := Option.some.inj h
  exact g_iret 4 C hA rfl dX9_faultAt_4 rfl
end

/-! X9_readWorths -/
abbrev W_X9_readWorths (k : Nat → ClassId) (h_t : Nat) (h_t_bytes : Nat) (h_a0 : Nat) (h_a0_worths : Nat) (h_a0_ahead : Nat) (h_a0_cuts : Nat) (s_length : Int32) (s_at : Int32) (s_bytes : Nat → Int32) (s_a0_kind : Int32) (s_a0_links : Int32) (s_a0_cutCount : Int32) (s_a0_worths : Nat → Int32) (s_a0_ahead : Nat → Int32) : va_W := [(h_t, .inr (9, [.ref h_t_bytes, .int s_length, .int s_at])), (h_t_bytes, .inl (k 2, 60, .inl s_bytes)), (h_a0, .inr (1, [.ref h_a0_worths, .ref h_a0_ahead, .ref h_a0_cuts, .int s_a0_kind, .int s_a0_links, .int s_a0_cutCount])), (h_a0_worths, .inl (k 0, 24, .inl s_a0_worths)), (h_a0_ahead, .inl (k 0, 25, .inl s_a0_ahead))]
def rm_X9_readWorths : Room := { frames := 1, cells := 0, slots := 0, locals := 22 }
theorem in_X9_readWorths_X9 : ∀ w ∈ u_ws RX9 TX9 3, w ∈ wsX9_readWorths := by decide +kernel
theorem fl_X9_readWorths_29 : Cond.fieldLink RX9 29 "LinkDays$Tape" "at" "I" ∈ wsX9_readWorths := by decide +kernel
theorem fl_X9_readWorths_9 : Cond.fieldLink RX9 9 "LinkDays$Tape" "bytes" "[B" ∈ wsX9_readWorths := by decide +kernel
theorem ini_X9_readWorths_X10_within : Cond.initialized RX10 ∈ wsX9_readWorths := by decide +kernel
theorem sta_X9_readWorths_X10_within : Cond.static yX10_within ∈ wsX9_readWorths := by decide +kernel
theorem pd_X9_readWorths : yX9_readWorths.cls = RX9 ∧ yX9_readWorths.cls ≠ "java/lang/invoke/MethodHandle" ∧ yX9_readWorths.cls ≠ "java/lang/invoke/VarHandle" ∧ (parseMethodDescriptor yX9_readWorths.desc).map (fun d => d.parameters.length) = some 1 := by decide +kernel
section
variable {p : Program} {l : Launch} {e : Env} {s : State} {m : MethodId} {args : Array Value} {below : List Frame} {meth : Method} {c : Code} {D : va_G} {k : Nat → ClassId} {A : Nat → Prop} {w0 : va_W} {sz : Nat}
set_option maxHeartbeats 4000000 in
set_option maxRecDepth 100000 in
theorem ok_L_X9_readWorths_2 {h_t : Nat} {h_t_bytes : Nat} {h_a0 : Nat} {h_a0_worths : Nat} {h_a0_ahead : Nat} {h_a0_cuts : Nat} {s_length : Int32} {s_bytes : Nat → Int32} {s_a0_kind : Int32} {s_a0_cutCount : Int32} {res : Int32 × Int32 × (Nat → Int32) × (Nat → Int32)} (C : CX p s m args meth c cX9_readWorths wsX9_readWorths RX9 3 D k A none) (hA : A = va_A w0 sz) {kx : Int32 × Int32 × Int32 × (Nat → Int32) × (Nat → Int32) → Option (Int32 × Int32 × (Nat → Int32) × (Nat → Int32))} (hx : ∀ t : Int32 × Int32 × Int32 × (Nat → Int32) × (Nat → Int32), kx t = some res → GG p l e rm_X9_readWorths s m args below meth c (MQ below (cQv D w0 sz (W_X9_readWorths k h_t h_t_bytes h_a0 h_a0_worths h_a0_ahead h_a0_cuts s_length res.1 s_bytes s_a0_kind res.2.1 s_a0_cutCount res.2.2.1 res.2.2.2)) args s 0 0 A) D A 3 0 0 54 [] [] (W_X9_readWorths k h_t h_t_bytes h_a0 h_a0_worths h_a0_ahead h_a0_cuts s_length t.2.1 s_bytes s_a0_kind t.2.2.1 s_a0_cutCount t.2.2.2.1 t.2.2.2.2)) : ∀ (n : Nat) (t : Int32 × Int32 × Int32 × (Nat → Int32) × (Nat → Int32)), L_X9_readWorths_2 s_length s_bytes kx n t = some res → GG p l e rm_X9_readWorths s m args below meth c (MQ below (cQv D w0 sz (W_X9_readWorths k h_t h_t_bytes h_a0 h_a0_worths h_a0_ahead h_a0_cuts s_length res.1 s_bytes s_a0_kind res.2.1 s_a0_cutCount res.2.2.1 res.2.2.2)) args s 0 0 A) D A 3 0 0 2 [(0, .ref h_t), (1, .ref h_a0), (2, .int t.1)] [] (W_X9_readWorths k h_t h_t_bytes h_a0 h_a0_worths h_a0_ahead h_a0_cuts s_length t.2.1 s_bytes s_a0_kind t.2.2.1 s_a0_cutCount t.2.2.2.1 t.2.2.2.2) := by
  intro n
  induction n with
  | zero => intro t h; cases h
  | succ n ih =>
    intro t h
    obtain ⟨v2, s_at, s_a0_links, s_a0_worths, s_a0_ahead⟩ := t
    replace h : LB_X9_readWorths_2 s_length s_bytes kx (L_X9_readWorths_2 s_length s_bytes kx n) v2 s_at s_a0_links s_a0_worths s_a0_ahead = some res := h
    have hr := ih
    unfold LB_X9_readWorths_2 at h
    refine g_iload_n 2 C 2 dX9_readWorths_2 rfl rfl ?_
    refine g_bipush 3 C (24 : Int32) dX9_readWorths_3 (by decide) ?_
    refine g_icmp_ge 5 54 C dX9_readWorths_5 (by decide) (fun c => ?_) (fun c => ?_)
    · replace h := it_e c h
      refine GG.sub (lv' := []) [] rfl ?_
      exact hx (v2, s_at, s_a0_links, s_a0_worths, s_a0_ahead) h
    · replace h := if_e c h
      refine g_aload_n 8 C 0 dX9_readWorths_8 rfl rfl ?_
      obtain ⟨q1, e2, h⟩ := bi_e h
      refine g_callVi 9 C (As := []) [0, 1] [2, 3, 4] [3, 4, 0, 1, 2] (W_X9_readWorths k h_t h_t_bytes h_a0 h_a0_worths h_a0_ahead h_a0_cuts s_length q1.2 s_bytes s_a0_kind s_a0_links s_a0_cutCount s_a0_worths s_a0_ahead) 0 (fun sz => k_X9_sight h_t h_t_bytes s_length s_at s_bytes q1 e2 sz) gX9_readWorths_X9_sight rfl pd_X9_sight rfl rfl rfl ⟨rfl, rfl, Nat.le_of_ble_eq_true rfl, Nat.le_of_ble_eq_true rfl⟩ (Nat.le_of_ble_eq_true rfl) ⟨Nat.zero_le _, Nat.zero_le _⟩ ⟨rfl, rfl, rfl, rfl, rfl, by decide, rfl⟩ rfl dX9_readWorths_9 ?_
      refine g_bipush 12 C (49 : Int32) dX9_readWorths_12 (by decide) ?_
      refine g_bipush 14 C (57 : Int32) dX9_readWorths_14 (by decide) ?_
      obtain ⟨q3, e4, h⟩ := bi_e h
      refine g_callNi 16 C (As := [.int q1.1, .int (49 : Int32), .int (57 : Int32)]) [] [0, 1, 2, 3, 4] [0, 1, 2, 3, 4] (W_X9_readWorths k h_t h_t_bytes h_a0 h_a0_worths h_a0_ahead h_a0_cuts s_length q1.2 s_bytes s_a0_kind s_a0_links s_a0_cutCount s_a0_worths s_a0_ahead) (fun sz => k_X10_within q1.1 (49 : Int32) (57 : Int32) q3 e4 sz) gX9_readWorths_X10_within_n19 rfl C.2.2.2.2.2.2.2.2.2.2.1 ini_X9_readWorths_X10_within sta_X9_readWorths_X10_within pd_X10_within rfl ⟨rfl, rfl, Nat.le_of_ble_eq_true rfl, Nat.le_of_ble_eq_true rfl⟩ (Nat.le_of_ble_eq_true rfl) ⟨Nat.zero_le _, Nat.zero_le _⟩ ⟨rfl, rfl, rfl, rfl, rfl, by decide, rfl⟩ rfl dX9_readWorths_16 ?_
      refine g_if_eq 19 54 C dX9_readWorths_19 (by decide) (fun c => ?_) (fun c => ?_)
      · replace h := it_e c h
        refine GG.sub (lv' := []) [] rfl ?_
        exact hx (v2, q1.2, s_a0_links, s_a0_worths, s_a0_ahead) h
      · replace h := if_e c h
        refine g_aload_n 22 C 1 dX9_readWorths_22 rfl rfl ?_
        refine g_aload_n 23 C 0 dX9_readWorths_23 rfl rfl ?_
        refine g_get 24 C in_X9_readWorths_X9 0 0 rfl rfl (by decide) fl_X9_readWorths_9 rfl rfl dX9_readWorths_24 ?_
        refine g_aload_n 27 C 0 dX9_readWorths_27 rfl rfl ?_
        refine g_get 28 C in_X9_readWorths_X9 0 2 rfl rfl (by decide) fl_X9_readWorths_29 rfl rfl dX9_readWorths_28 ?_
        obtain ⟨o5, h⟩ := ob_e h
        refine g_bald 31 C 1 rfl o5 dX9_readWorths_31 ?_
        refine g_bipush 32 C (48 : Int32) dX9_readWorths_32 (by decide) ?_
        refine g_isub 34 C dX9_readWorths_34 ?_
        obtain ⟨q6, e7, h⟩ := bi_e h
        refine g_callVv 35 C (As := [.int ((s_bytes q1.2.toNatClampNeg) - (48 : Int32))]) [2, 3, 4] [0, 1] [0, 1, 2, 3, 4] (W_X9_readWorths k h_t h_t_bytes h_a0 h_a0_worths h_a0_ahead h_a0_cuts s_length q1.2 s_bytes s_a0_kind q6.1 s_a0_cutCount q6.2.1 q6.2.2) 2 (fun sz => k_X1_append h_a0 h_a0_worths h_a0_ahead h_a0_cuts s_a0_kind s_a0_links s_a0_cutCount s_a0_worths s_a0_ahead ((s_bytes q1.2.toNatClampNeg) - (48 : Int32)) q6 e7 sz) gX9_readWorths_X1_append rfl pd_X1_append rfl rfl rfl ⟨rfl, rfl, Nat.le_of_ble_eq_true rfl, Nat.le_of_ble_eq_true rfl⟩ (Nat.le_of_ble_eq_true rfl) ⟨Nat.zero_le _, Nat.zero_le _⟩ ⟨rfl, rfl, rfl, rfl, rfl, by decide, rfl⟩ rfl dX9_readWorths_35 ?_
        refine g_aload_n 38 C 0 dX9_readWorths_38 rfl rfl ?_
        refine g_dup 39 C dX9_readWorths_39 rfl ?_
        refine g_get 40 C in_X9_readWorths_X9 0 2 rfl rfl (by decide) fl_X9_readWorths_29 rfl rfl dX9_readWorths_40 ?_
        refine g_iconst 43 C (1 : Int32) dX9_readWorths_43 (by decide) ?_
        refine g_iadd 44 C dX9_readWorths_44 ?_
        refine g_put 45 C (W_X9_readWorths k h_t h_t_bytes h_a0 h_a0_worths h_a0_ahead h_a0_cuts s_length (q1.2 + (1 : Int32)) s_bytes s_a0_kind q6.1 s_a0_cutCount q6.2.1 q6.2.2) in_X9_readWorths_X9 tyX9 tyX9_ok nmX9 0 2 rfl rfl (by decide) fl_X9_readWorths_29 rfl rfl (tyX9_ok 2 (by decide)) rfl rfl (Nat.le_of_ble_eq_true rfl) rfl dX9_readWorths_45 ?_
        refine g_iinc 48 C 2 (1 : Int32) [(2, .int (v2 + (1 : Int32))), (0, .ref h_t), (1, .ref h_a0)] dX9_readWorths_48 rfl (by decide) (by decide) rfl ?_
        refine g_goto 51 2 C dX9_readWorths_51 (by decide) ?_
        refine GG.sub (lv' := [(0, .ref h_t), (1, .ref h_a0), (2, .int (v2 + (1 : Int32)))]) [1, 2, 0] rfl ?_
        exact hr ((v2 + (1 : Int32)), (q1.2 + (1 : Int32)), q6.1, q6.2.1, q6.2.2) h
set_option maxHeartbeats 4000000 in
set_option maxRecDepth 100000 in
theorem ok_B_X9_readWorths_54 {h_t : Nat} {h_t_bytes : Nat} {h_a0 : Nat} {h_a0_worths : Nat} {h_a0_ahead : Nat} {h_a0_cuts : Nat} {s_length : Int32} {s_at : Int32} {s_bytes : Nat → Int32} {s_a0_kind : Int32} {s_a0_links : Int32} {s_a0_cutCount : Int32} {s_a0_worths : Nat → Int32} {s_a0_ahead : Nat → Int32} {res : Int32 × Int32 × (Nat → Int32) × (Nat → Int32)} (C : CX p s m args meth c cX9_readWorths wsX9_readWorths RX9 3 D k A none) (hA : A = va_A w0 sz)  (h : B_X9_readWorths_54 s_at s_a0_links s_a0_worths s_a0_ahead = some res) : GG p l e rm_X9_readWorths s m args below meth c (MQ below (cQv D w0 sz (W_X9_readWorths k h_t h_t_bytes h_a0 h_a0_worths h_a0_ahead h_a0_cuts s_length res.1 s_bytes s_a0_kind res.2.1 s_a0_cutCount res.2.2.1 res.2.2.2)) args s 0 0 A) D A 3 0 0 54 [] [] (W_X9_readWorths k h_t h_t_bytes h_a0 h_a0_worths h_a0_ahead h_a0_cuts s_length s_at s_bytes s_a0_kind s_a0_links s_a0_cutCount s_a0_worths s_a0_ahead) := by
  unfold B_X9_readWorths_54 at h
  obtain rfl := Option.some.inj h
  exact g_vret 54 C hA dX9_readWorths_54 rfl
set_option maxHeartbeats 4000000 in
set_option maxRecDepth 100000 in
theorem k_X9_readWorths {l : Launch} {D : va_G} {k : Nat → ClassId} (h_t : Nat) (h_t_bytes : Nat) (h_a0 : Nat) (h_a0_worths : Nat) (h_a0_ahead : Nat) (h_a0_cuts : Nat) (s_length : Int32) (s_at : Int32) (s_bytes : Nat → Int32) (s_a0_kind : Int32) (s_a0_links : Int32) (s_a0_cutCount : Int32) (s_a0_worths : Nat → Int32) (s_a0_ahead : Nat → Int32) (res : Int32 × Int32 × (Nat → Int32) × (Nat → Int32)) (h : f_X9_readWorths s_length s_at s_bytes s_a0_links s_a0_worths s_a0_ahead = some res) (sz : Nat) : Met l yX9_readWorths wsX9_readWorths rm_X9_readWorths (cPre D k [.ref h_t, .ref h_a0] (W_X9_readWorths k h_t h_t_bytes h_a0 h_a0_worths h_a0_ahead h_a0_cuts s_length s_at s_bytes s_a0_kind s_a0_links s_a0_cutCount s_a0_worths s_a0_ahead) sz) (cQv D (W_X9_readWorths k h_t h_t_bytes h_a0 h_a0_worths h_a0_ahead h_a0_cuts s_length s_at s_bytes s_a0_kind s_a0_links s_a0_cutCount s_a0_worths s_a0_ahead) sz (W_X9_readWorths k h_t h_t_bytes h_a0 h_a0_worths h_a0_ahead h_a0_cuts s_length res.1 s_bytes s_a0_kind res.2.1 s_a0_cutCount res.2.2.1 res.2.2.2)) 0 0 (va_A (W_X9_readWorths k h_t h_t_bytes h_a0 h_a0_worths h_a0_ahead h_a0_cuts s_length s_at s_bytes s_a0_kind s_a0_links s_a0_cutCount s_a0_worths s_a0_ahead) sz) := by
  refine met_of [(0, .ref h_t), (1, .ref h_a0)] (by decide) rfl rfl (Nat.le_of_ble_eq_true rfl) rfl ?_
  intro p e s m args below meth c A hA hsz C
  unfold f_X9_readWorths at h
  refine g_iconst 0 C (0 : Int32) dX9_readWorths_0 (by decide) ?_
  refine g_istore_n 1 C [(2, .int (0 : Int32)), (0, .ref h_t), (1, .ref h_a0)] dX9_readWorths_1 rfl (by decide) rfl ?_
  refine GG.sub (lv' := [(0, .ref h_t), (1, .ref h_a0), (2, .int (0 : Int32))]) [1, 2, 0] rfl ?_
  exact ok_L_X9_readWorths_2 C hA (fun t h => by
    refine GG.sub (lv' := []) [] rfl ?_
    exact ok_B_X9_readWorths_54 C hA h) FUEL ((0 : Int32), s_at, s_a0_links, s_a0_worths, s_a0_ahead) h
end

/-! X9_readNumber -/
abbrev W_X9_readNumber (k : Nat → ClassId) (h_t : Nat) (h_t_bytes : Nat) (s_length : Int32) (s_at : Int32) (s_bytes : Nat → Int32) : va_W := [(h_t, .inr (9, [.ref h_t_bytes, .int s_length, .int s_at])), (h_t_bytes, .inl (k 2, 60, .inl s_bytes))]
def rm_X9_readNumber : Room := { frames := 1, cells := 0, slots := 0, locals := 23 }
theorem in_X9_readNumber_X9 : ∀ w ∈ u_ws RX9 TX9 3, w ∈ wsX9_readNumber := by decide +kernel
theorem fl_X9_readNumber_25 : Cond.fieldLink RX9 25 "LinkDays$Tape" "length" "I" ∈ wsX9_readNumber := by decide +kernel
theorem fl_X9_readNumber_29 : Cond.fieldLink RX9 29 "LinkDays$Tape" "at" "I" ∈ wsX9_readNumber := by decide +kernel
theorem fl_X9_readNumber_9 : Cond.fieldLink RX9 9 "LinkDays$Tape" "bytes" "[B" ∈ wsX9_readNumber := by decide +kernel
theorem ini_X9_readNumber_X10_within : Cond.initialized RX10 ∈ wsX9_readNumber := by decide +kernel
theorem mc_X9_readNumber_m80 : Cond.code Lib.Math.min.name Lib.Math.min.code 2 (some .int) ∈ wsX9_readNumber := by decide +kernel
theorem mi_X9_readNumber_m80 : Cond.initialized "java/lang/Math" ∈ wsX9_readNumber := by decide +kernel
theorem ml_X9_readNumber_m80 : Cond.methodLink RX9 80 Lib.Math.min.name ∈ wsX9_readNumber := by decide +kernel
theorem ms_X9_readNumber_m80 : Cond.static Lib.Math.min.name ∈ wsX9_readNumber := by decide +kernel
theorem sta_X9_readNumber_X10_within : Cond.static yX10_within ∈ wsX9_readNumber := by decide +kernel
theorem pd_X9_readNumber : yX9_readNumber.cls = RX9 ∧ yX9_readNumber.cls ≠ "java/lang/invoke/MethodHandle" ∧ yX9_readNumber.cls ≠ "java/lang/invoke/VarHandle" ∧ (parseMethodDescriptor yX9_readNumber.desc).map (fun d => d.parameters.length) = some 0 := by decide +kernel
section
variable {p : Program} {l : Launch} {e : Env} {s : State} {m : MethodId} {args : Array Value} {below : List Frame} {meth : Method} {c : Code} {D : va_G} {k : Nat → ClassId} {A : Nat → Prop} {w0 : va_W} {sz : Nat}
set_option maxHeartbeats 4000000 in
set_option maxRecDepth 100000 in
theorem ok_L_X9_readNumber_2 {h_t : Nat} {h_t_bytes : Nat} {s_length : Int32} {s_bytes : Nat → Int32} {res : Int32 × Int32} (C : CX p s m args meth c cX9_readNumber wsX9_readNumber RX9 2 D k A (some .int)) (hA : A = va_A w0 sz) {kx : Int32 × Int32 → Option (Int32 × Int32)} (hx : ∀ t : Int32 × Int32, kx t = some res → GG p l e rm_X9_readNumber s m args below meth c (MQ below (cQi D w0 sz res.1 (W_X9_readNumber k h_t h_t_bytes s_length res.2 s_bytes)) args s 0 0 A) D A 2 0 0 68 [(1, .int t.1)] [] (W_X9_readNumber k h_t h_t_bytes s_length t.2 s_bytes)) : ∀ (n : Nat) (t : Int32 × Int32), L_X9_readNumber_2 s_length s_bytes kx n t = some res → GG p l e rm_X9_readNumber s m args below meth c (MQ below (cQi D w0 sz res.1 (W_X9_readNumber k h_t h_t_bytes s_length res.2 s_bytes)) args s 0 0 A) D A 2 0 0 2 [(0, .ref h_t), (1, .int t.1)] [] (W_X9_readNumber k h_t h_t_bytes s_length t.2 s_bytes) := by
  intro n
  induction n with
  | zero => intro t h; cases h
  | succ n ih =>
    intro t h
    obtain ⟨v1, s_at⟩ := t
    replace h : LB_X9_readNumber_2 s_length s_bytes kx (L_X9_readNumber_2 s_length s_bytes kx n) v1 s_at = some res := h
    have hr := ih
    unfold LB_X9_readNumber_2 at h
    refine g_aload_n 2 C 0 dX9_readNumber_2 rfl rfl ?_
    refine g_get 3 C in_X9_readNumber_X9 0 2 rfl rfl (by decide) fl_X9_readNumber_29 rfl rfl dX9_readNumber_3 ?_
    refine g_aload_n 6 C 0 dX9_readNumber_6 rfl rfl ?_
    refine g_get 7 C in_X9_readNumber_X9 0 1 rfl rfl (by decide) fl_X9_readNumber_25 rfl rfl dX9_readNumber_7 ?_
    refine g_icmp_ge 10 68 C dX9_readNumber_10 (by decide) (fun c => ?_) (fun c => ?_)
    · replace h := it_e c h
      refine GG.sub (lv' := [(1, .int v1)]) [1] rfl ?_
      exact hx (v1, s_at) h
    · replace h := if_e c h
      refine g_aload_n 13 C 0 dX9_readNumber_13 rfl rfl ?_
      refine g_get 14 C in_X9_readNumber_X9 0 0 rfl rfl (by decide) fl_X9_readNumber_9 rfl rfl dX9_readNumber_14 ?_
      refine g_aload_n 17 C 0 dX9_readNumber_17 rfl rfl ?_
      refine g_get 18 C in_X9_readNumber_X9 0 2 rfl rfl (by decide) fl_X9_readNumber_29 rfl rfl dX9_readNumber_18 ?_
      obtain ⟨o1, h⟩ := ob_e h
      refine g_bald 21 C 1 rfl o1 dX9_readNumber_21 ?_
      refine g_bipush 22 C (48 : Int32) dX9_readNumber_22 (by decide) ?_
      refine g_bipush 24 C (57 : Int32) dX9_readNumber_24 (by decide) ?_
      obtain ⟨q2, e3, h⟩ := bi_e h
      refine g_callNi 26 C (As := [.int (s_bytes s_at.toNatClampNeg), .int (48 : Int32), .int (57 : Int32)]) [] [0, 1] [0, 1] (W_X9_readNumber k h_t h_t_bytes s_length s_at s_bytes) (fun sz => k_X10_within (s_bytes s_at.toNatClampNeg) (48 : Int32) (57 : Int32) q2 e3 sz) gX9_readNumber_X10_within_n19 rfl C.2.2.2.2.2.2.2.2.2.2.1 ini_X9_readNumber_X10_within sta_X9_readNumber_X10_within pd_X10_within rfl ⟨rfl, rfl, Nat.le_of_ble_eq_true rfl, Nat.le_of_ble_eq_true rfl⟩ (Nat.le_of_ble_eq_true rfl) ⟨Nat.zero_le _, Nat.zero_le _⟩ ⟨rfl, rfl, rfl, rfl, rfl, by decide, rfl⟩ rfl dX9_readNumber_26 ?_
      refine g_if_eq 29 68 C dX9_readNumber_29 (by decide) (fun c => ?_) (fun c => ?_)
      · replace h := it_e c h
        refine GG.sub (lv' := [(1, .int v1)]) [1] rfl ?_
        exact hx (v1, s_at) h
      · replace h := if_e c h
        refine g_iload_n 32 C 1 dX9_readNumber_32 rfl rfl ?_
        refine g_bipush 33 C (10 : Int32) dX9_readNumber_33 (by decide) ?_
        refine g_imul 35 C dX9_readNumber_35 ?_
        refine g_aload_n 36 C 0 dX9_readNumber_36 rfl rfl ?_
        refine g_get 37 C in_X9_readNumber_X9 0 0 rfl rfl (by decide) fl_X9_readNumber_9 rfl rfl dX9_readNumber_37 ?_
        refine g_aload_n 40 C 0 dX9_readNumber_40 rfl rfl ?_
        refine g_get 41 C in_X9_readNumber_X9 0 2 rfl rfl (by decide) fl_X9_readNumber_29 rfl rfl dX9_readNumber_41 ?_
        obtain ⟨o4, h⟩ := ob_e h
        refine g_bald 44 C 1 rfl o4 dX9_readNumber_44 ?_
        refine g_iadd 45 C dX9_readNumber_45 ?_
        refine g_bipush 46 C (48 : Int32) dX9_readNumber_46 (by decide) ?_
        refine g_isub 48 C dX9_readNumber_48 ?_
        refine g_bipush 49 C (24 : Int32) dX9_readNumber_49 (by decide) ?_
        refine g_mmin 51 C ml_X9_readNumber_m80 ms_X9_readNumber_m80 mi_X9_readNumber_m80 mc_X9_readNumber_m80 (Nat.le_of_ble_eq_true rfl) (Nat.le_of_ble_eq_true rfl) ⟨Nat.zero_le _, Nat.zero_le _⟩ dX9_readNumber_51 ?_
        refine g_istore_n 54 C [(1, .int (if (24 : Int32) < (((v1 * (10 : Int32)) + (s_bytes s_at.toNatClampNeg)) - (48 : Int32)) then (24 : Int32) else (((v1 * (10 : Int32)) + (s_bytes s_at.toNatClampNeg)) - (48 : Int32)))), (0, .ref h_t)] dX9_readNumber_54 rfl (by decide) rfl ?_
        refine g_aload_n 55 C 1 dX9_readNumber_55 rfl rfl ?_
        refine g_dup 56 C dX9_readNumber_56 rfl ?_
        refine g_get 57 C in_X9_readNumber_X9 0 2 rfl rfl (by decide) fl_X9_readNumber_29 rfl rfl dX9_readNumber_57 ?_
        refine g_iconst 60 C (1 : Int32) dX9_readNumber_60 (by decide) ?_
        refine g_iadd 61 C dX9_readNumber_61 ?_
        refine g_put 62 C (W_X9_readNumber k h_t h_t_bytes s_length (s_at + (1 : Int32)) s_bytes) in_X9_readNumber_X9 tyX9 tyX9_ok nmX9 0 2 rfl rfl (by decide) fl_X9_readNumber_29 rfl rfl (tyX9_ok 2 (by decide)) rfl rfl (Nat.le_of_ble_eq_true rfl) rfl dX9_readNumber_62 ?_
        refine g_goto 65 2 C dX9_readNumber_65 (by decide) ?_
        refine GG.sub (lv' := [(0, .ref h_t), (1, .int (if (24 : Int32) < (((v1 * (10 : Int32)) + (s_bytes s_at.toNatClampNeg)) - (48 : Int32)) then (24 : Int32) else (((v1 * (10 : Int32)) + (s_bytes s_at.toNatClampNeg)) - (48 : Int32))))]) [1, 0] rfl ?_
        exact hr ((if (24 : Int32) < (((v1 * (10 : Int32)) + (s_bytes s_at.toNatClampNeg)) - (48 : Int32)) then (24 : Int32) else (((v1 * (10 : Int32)) + (s_bytes s_at.toNatClampNeg)) - (48 : Int32))), (s_at + (1 : Int32))) h
set_option maxHeartbeats 4000000 in
set_option maxRecDepth 100000 in
theorem ok_B_X9_readNumber_68 {h_t : Nat} {h_t_bytes : Nat} {s_length : Int32} {s_at : Int32} {s_bytes : Nat → Int32} {v1 : Int32} {res : Int32 × Int32} (C : CX p s m args meth c cX9_readNumber wsX9_readNumber RX9 2 D k A (some .int)) (hA : A = va_A w0 sz)  (h : B_X9_readNumber_68 s_at v1 = some res) : GG p l e rm_X9_readNumber s m args below meth c (MQ below (cQi D w0 sz res.1 (W_X9_readNumber k h_t h_t_bytes s_length res.2 s_bytes)) args s 0 0 A) D A 2 0 0 68 [(1, .int v1)] [] (W_X9_readNumber k h_t h_t_bytes s_length s_at s_bytes) := by
  unfold B_X9_readNumber_68 at h
  refine g_iload_n 68 C 0 dX9_readNumber_68 rfl rfl ?_
  obtain rfl := Option.some.inj h
  exact g_iret 69 C hA rfl dX9_readNumber_69 rfl
set_option maxHeartbeats 4000000 in
set_option maxRecDepth 100000 in
theorem k_X9_readNumber {l : Launch} {D : va_G} {k : Nat → ClassId} (h_t : Nat) (h_t_bytes : Nat) (s_length : Int32) (s_at : Int32) (s_bytes : Nat → Int32) (res : Int32 × Int32) (h : f_X9_readNumber s_length s_at s_bytes = some res) (sz : Nat) : Met l yX9_readNumber wsX9_readNumber rm_X9_readNumber (cPre D k [.ref h_t] (W_X9_readNumber k h_t h_t_bytes s_length s_at s_bytes) sz) (cQi D (W_X9_readNumber k h_t h_t_bytes s_length s_at s_bytes) sz res.1 (W_X9_readNumber k h_t h_t_bytes s_length res.2 s_bytes)) 0 0 (va_A (W_X9_readNumber k h_t h_t_bytes s_length s_at s_bytes) sz) := by
  refine met_of [(0, .ref h_t)] (by decide) rfl rfl (Nat.le_of_ble_eq_true rfl) rfl ?_
  intro p e s m args below meth c A hA hsz C
  unfold f_X9_readNumber at h
  refine g_iconst 0 C (0 : Int32) dX9_readNumber_0 (by decide) ?_
  refine g_istore_n 1 C [(1, .int (0 : Int32)), (0, .ref h_t)] dX9_readNumber_1 rfl (by decide) rfl ?_
  refine GG.sub (lv' := [(0, .ref h_t), (1, .int (0 : Int32))]) [1, 0] rfl ?_
  exact ok_L_X9_readNumber_2 C hA (fun t h => by
    refine GG.sub (lv' := [(1, .int t.1)]) [0] rfl ?_
    exact ok_B_X9_readNumber_68 C hA h) FUEL ((0 : Int32), s_at) h
end

/-! X9_readCuts -/
abbrev W_X9_readCuts (k : Nat → ClassId) (h_t : Nat) (h_t_bytes : Nat) (h_a0 : Nat) (h_a0_cuts : Nat) (h_a0_worths : Nat) (h_a0_ahead : Nat) (s_length : Int32) (s_at : Int32) (s_bytes : Nat → Int32) (s_a0_kind : Int32) (s_a0_links : Int32) (s_a0_cutCount : Int32) (s_a0_cuts : Nat → Int32) : va_W := [(h_t, .inr (9, [.ref h_t_bytes, .int s_length, .int s_at])), (h_t_bytes, .inl (k 2, 60, .inl s_bytes)), (h_a0, .inr (1, [.ref h_a0_worths, .ref h_a0_ahead, .ref h_a0_cuts, .int s_a0_kind, .int s_a0_links, .int s_a0_cutCount])), (h_a0_cuts, .inl (k 0, 5, .inl s_a0_cuts))]
def rm_X9_readCuts : Room := { frames := 3, cells := 0, slots := 0, locals := 61 }
theorem in_X9_readCuts_X1 : ∀ w ∈ u_ws RX1 TX1 6, w ∈ wsX9_readCuts := by decide +kernel
theorem in_X9_readCuts_X9 : ∀ w ∈ u_ws RX9 TX9 3, w ∈ wsX9_readCuts := by decide +kernel
theorem fl_X9_readCuts_29 : Cond.fieldLink RX9 29 "LinkDays$Tape" "at" "I" ∈ wsX9_readCuts := by decide +kernel
theorem fl_X9_readCuts_57 : Cond.fieldLink RX9 57 "LinkDays$Chain" "links" "I" ∈ wsX9_readCuts := by decide +kernel
theorem ini_X9_readCuts_X10_within : Cond.initialized RX10 ∈ wsX9_readCuts := by decide +kernel
theorem sta_X9_readCuts_X10_within : Cond.static yX10_within ∈ wsX9_readCuts := by decide +kernel
theorem pd_X9_readCuts : yX9_readCuts.cls = RX9 ∧ yX9_readCuts.cls ≠ "java/lang/invoke/MethodHandle" ∧ yX9_readCuts.cls ≠ "java/lang/invoke/VarHandle" ∧ (parseMethodDescriptor yX9_readCuts.desc).map (fun d => d.parameters.length) = some 1 := by decide +kernel
section
variable {p : Program} {l : Launch} {e : Env} {s : State} {m : MethodId} {args : Array Value} {below : List Frame} {meth : Method} {c : Code} {D : va_G} {k : Nat → ClassId} {A : Nat → Prop} {w0 : va_W} {sz : Nat}
set_option maxHeartbeats 4000000 in
set_option maxRecDepth 100000 in
theorem ok_B_X9_readCuts_58 {h_t : Nat} {h_t_bytes : Nat} {h_a0 : Nat} {h_a0_cuts : Nat} {h_a0_worths : Nat} {h_a0_ahead : Nat} {s_length : Int32} {s_at : Int32} {s_bytes : Nat → Int32} {s_a0_kind : Int32} {s_a0_links : Int32} {s_a0_cutCount : Int32} {s_a0_cuts : Nat → Int32} {v3 : Int32} {res : Int32 × Int32 × Int32 × (Nat → Int32)} {kx rec : Int32 × Int32 × Int32 × (Nat → Int32) → Option (Int32 × Int32 × Int32 × (Nat → Int32))} (C : CX p s m args meth c cX9_readCuts wsX9_readCuts RX9 6 D k A (some .int)) (hA : A = va_A w0 sz) (hx : ∀ t : Int32 × Int32 × Int32 × (Nat → Int32), kx t = some res → GG p l e rm_X9_readCuts s m args below meth c (MQ below (cQi D w0 sz res.1 (W_X9_readCuts k h_t h_t_bytes h_a0 h_a0_cuts h_a0_worths h_a0_ahead s_length res.2.1 s_bytes s_a0_kind s_a0_links res.2.2.1 res.2.2.2)) args s 0 0 A) D A 6 0 0 122 [(0, .ref h_t)] [] (W_X9_readCuts k h_t h_t_bytes h_a0 h_a0_cuts h_a0_worths h_a0_ahead s_length t.2.1 s_bytes s_a0_kind s_a0_links t.2.2.1 t.2.2.2)) (hr : ∀ t : Int32 × Int32 × Int32 × (Nat → Int32), rec t = some res → GG p l e rm_X9_readCuts s m args below meth c (MQ below (cQi D w0 sz res.1 (W_X9_readCuts k h_t h_t_bytes h_a0 h_a0_cuts h_a0_worths h_a0_ahead s_length res.2.1 s_bytes s_a0_kind s_a0_links res.2.2.1 res.2.2.2)) args s 0 0 A) D A 6 0 0 2 [(0, .ref h_t), (1, .ref h_a0), (2, .int t.1)] [] (W_X9_readCuts k h_t h_t_bytes h_a0 h_a0_cuts h_a0_worths h_a0_ahead s_length t.2.1 s_bytes s_a0_kind s_a0_links t.2.2.1 t.2.2.2))  (h : B_X9_readCuts_58 kx rec s_at s_a0_cutCount s_a0_cuts v3 = some res) : GG p l e rm_X9_readCuts s m args below meth c (MQ below (cQi D w0 sz res.1 (W_X9_readCuts k h_t h_t_bytes h_a0 h_a0_cuts h_a0_worths h_a0_ahead s_length res.2.1 s_bytes s_a0_kind s_a0_links res.2.2.1 res.2.2.2)) args s 0 0 A) D A 6 0 0 58 [(3, .int v3)] [] (W_X9_readCuts k h_t h_t_bytes h_a0 h_a0_cuts h_a0_worths h_a0_ahead s_length s_at s_bytes s_a0_kind s_a0_links s_a0_cutCount s_a0_cuts) := by
  unfold B_X9_readCuts_58 at h
  refine g_iload_n 58 C 0 dX9_readCuts_58 rfl rfl ?_
  obtain ⟨q9, e10, h⟩ := bi_e h
  refine g_callSi 59 C (As := [.int v3]) [] [0, 1, 2, 3] [0, 1, 2, 3] (W_X9_readCuts k h_t h_t_bytes h_a0 h_a0_cuts h_a0_worths h_a0_ahead s_length s_at s_bytes s_a0_kind s_a0_links s_a0_cutCount s_a0_cuts) (fun sz => k_X9_faultAt v3 q9 e10 sz) gX9_readCuts_X9_faultAt rfl pd_X9_faultAt rfl ⟨rfl, rfl, Nat.le_of_ble_eq_true rfl, Nat.le_of_ble_eq_true rfl⟩ (Nat.le_of_ble_eq_true rfl) ⟨Nat.zero_le _, Nat.zero_le _⟩ ⟨rfl, rfl, rfl, rfl, rfl, by decide, rfl⟩ rfl dX9_readCuts_59 ?_
  obtain rfl := Option.some.inj h
  exact g_iret 62 C hA rfl dX9_readCuts_62 rfl
set_option maxHeartbeats 4000000 in
set_option maxRecDepth 100000 in
theorem ok_B_X9_readCuts_98 {h_t : Nat} {h_t_bytes : Nat} {h_a0 : Nat} {h_a0_cuts : Nat} {h_a0_worths : Nat} {h_a0_ahead : Nat} {s_length : Int32} {s_at : Int32} {s_bytes : Nat → Int32} {s_a0_kind : Int32} {s_a0_links : Int32} {s_a0_cutCount : Int32} {s_a0_cuts : Nat → Int32} {res : Int32 × Int32 × Int32 × (Nat → Int32)} {kx rec : Int32 × Int32 × Int32 × (Nat → Int32) → Option (Int32 × Int32 × Int32 × (Nat → Int32))} (C : CX p s m args meth c cX9_readCuts wsX9_readCuts RX9 6 D k A (some .int)) (hA : A = va_A w0 sz) (hx : ∀ t : Int32 × Int32 × Int32 × (Nat → Int32), kx t = some res → GG p l e rm_X9_readCuts s m args below meth c (MQ below (cQi D w0 sz res.1 (W_X9_readCuts k h_t h_t_bytes h_a0 h_a0_cuts h_a0_worths h_a0_ahead s_length res.2.1 s_bytes s_a0_kind s_a0_links res.2.2.1 res.2.2.2)) args s 0 0 A) D A 6 0 0 122 [(0, .ref h_t)] [] (W_X9_readCuts k h_t h_t_bytes h_a0 h_a0_cuts h_a0_worths h_a0_ahead s_length t.2.1 s_bytes s_a0_kind s_a0_links t.2.2.1 t.2.2.2)) (hr : ∀ t : Int32 × Int32 × Int32 × (Nat → Int32), rec t = some res → GG p l e rm_X9_readCuts s m args below meth c (MQ below (cQi D w0 sz res.1 (W_X9_readCuts k h_t h_t_bytes h_a0 h_a0_cuts h_a0_worths h_a0_ahead s_length res.2.1 s_bytes s_a0_kind s_a0_links res.2.2.1 res.2.2.2)) args s 0 0 A) D A 6 0 0 2 [(0, .ref h_t), (1, .ref h_a0), (2, .int t.1)] [] (W_X9_readCuts k h_t h_t_bytes h_a0 h_a0_cuts h_a0_worths h_a0_ahead s_length t.2.1 s_bytes s_a0_kind s_a0_links t.2.2.1 t.2.2.2))  (h : B_X9_readCuts_98 kx rec s_at s_a0_cutCount s_a0_cuts = some res) : GG p l e rm_X9_readCuts s m args below meth c (MQ below (cQi D w0 sz res.1 (W_X9_readCuts k h_t h_t_bytes h_a0 h_a0_cuts h_a0_worths h_a0_ahead s_length res.2.1 s_bytes s_a0_kind s_a0_links res.2.2.1 res.2.2.2)) args s 0 0 A) D A 6 0 0 98 [(0, .ref h_t)] [] (W_X9_readCuts k h_t h_t_bytes h_a0 h_a0_cuts h_a0_worths h_a0_ahead s_length s_at s_bytes s_a0_kind s_a0_links s_a0_cutCount s_a0_cuts) := by
  unfold B_X9_readCuts_98 at h
  refine g_aload_n 98 C 0 dX9_readCuts_98 rfl rfl ?_
  refine g_get 99 C in_X9_readCuts_X9 0 2 rfl rfl (by decide) fl_X9_readCuts_29 rfl rfl dX9_readCuts_99 ?_
  obtain ⟨q17, e18, h⟩ := bi_e h
  refine g_callSi 102 C (As := [.int s_at]) [] [0, 1, 2, 3] [0, 1, 2, 3] (W_X9_readCuts k h_t h_t_bytes h_a0 h_a0_cuts h_a0_worths h_a0_ahead s_length s_at s_bytes s_a0_kind s_a0_links s_a0_cutCount s_a0_cuts) (fun sz => k_X9_faultAt s_at q17 e18 sz) gX9_readCuts_X9_faultAt rfl pd_X9_faultAt rfl ⟨rfl, rfl, Nat.le_of_ble_eq_true rfl, Nat.le_of_ble_eq_true rfl⟩ (Nat.le_of_ble_eq_true rfl) ⟨Nat.zero_le _, Nat.zero_le _⟩ ⟨rfl, rfl, rfl, rfl, rfl, by decide, rfl⟩ rfl dX9_readCuts_102 ?_
  obtain rfl := Option.some.inj h
  exact g_iret 105 C hA rfl dX9_readCuts_105 rfl
set_option maxHeartbeats 4000000 in
set_option maxRecDepth 100000 in
theorem ok_L_X9_readCuts_2 {h_t : Nat} {h_t_bytes : Nat} {h_a0 : Nat} {h_a0_cuts : Nat} {h_a0_worths : Nat} {h_a0_ahead : Nat} {s_length : Int32} {s_bytes : Nat → Int32} {s_a0_kind : Int32} {s_a0_links : Int32} {res : Int32 × Int32 × Int32 × (Nat → Int32)} (C : CX p s m args meth c cX9_readCuts wsX9_readCuts RX9 6 D k A (some .int)) (hA : A = va_A w0 sz) {kx : Int32 × Int32 × Int32 × (Nat → Int32) → Option (Int32 × Int32 × Int32 × (Nat → Int32))} (hx : ∀ t : Int32 × Int32 × Int32 × (Nat → Int32), kx t = some res → GG p l e rm_X9_readCuts s m args below meth c (MQ below (cQi D w0 sz res.1 (W_X9_readCuts k h_t h_t_bytes h_a0 h_a0_cuts h_a0_worths h_a0_ahead s_length res.2.1 s_bytes s_a0_kind s_a0_links res.2.2.1 res.2.2.2)) args s 0 0 A) D A 6 0 0 122 [(0, .ref h_t)] [] (W_X9_readCuts k h_t h_t_bytes h_a0 h_a0_cuts h_a0_worths h_a0_ahead s_length t.2.1 s_bytes s_a0_kind s_a0_links t.2.2.1 t.2.2.2)) : ∀ (n : Nat) (t : Int32 × Int32 × Int32 × (Nat → Int32)), L_X9_readCuts_2 s_length s_bytes s_a0_kind s_a0_links kx n t = some res → GG p l e rm_X9_readCuts s m args below meth c (MQ below (cQi D w0 sz res.1 (W_X9_readCuts k h_t h_t_bytes h_a0 h_a0_cuts h_a0_worths h_a0_ahead s_length res.2.1 s_bytes s_a0_kind s_a0_links res.2.2.1 res.2.2.2)) args s 0 0 A) D A 6 0 0 2 [(0, .ref h_t), (1, .ref h_a0), (2, .int t.1)] [] (W_X9_readCuts k h_t h_t_bytes h_a0 h_a0_cuts h_a0_worths h_a0_ahead s_length t.2.1 s_bytes s_a0_kind s_a0_links t.2.2.1 t.2.2.2) := by
  intro n
  induction n with
  | zero => intro t h; cases h
  | succ n ih =>
    intro t h
    obtain ⟨v2, s_at, s_a0_cutCount, s_a0_cuts⟩ := t
    replace h : LB_X9_readCuts_2 s_length s_bytes s_a0_kind s_a0_links kx (L_X9_readCuts_2 s_length s_bytes s_a0_kind s_a0_links kx n) v2 s_at s_a0_cutCount s_a0_cuts = some res := h
    have hr := ih
    unfold LB_X9_readCuts_2 at h
    refine g_iload_n 2 C 2 dX9_readCuts_2 rfl rfl ?_
    refine g_iconst 3 C (5 : Int32) dX9_readCuts_3 (by decide) ?_
    refine g_icmp_gt 4 122 C dX9_readCuts_4 (by decide) (fun c => ?_) (fun c => ?_)
    · replace h := it_e c h
      refine GG.sub (lv' := [(0, .ref h_t)]) [0] rfl ?_
      exact hx (v2, s_at, s_a0_cutCount, s_a0_cuts) h
    · replace h := if_e c h
      refine g_aload_n 7 C 0 dX9_readCuts_7 rfl rfl ?_
      obtain ⟨q1, e2, h⟩ := bi_e h
      refine g_callVi 8 C (As := []) [0, 1] [2, 3] [2, 3, 0, 1] (W_X9_readCuts k h_t h_t_bytes h_a0 h_a0_cuts h_a0_worths h_a0_ahead s_length q1.2 s_bytes s_a0_kind s_a0_links s_a0_cutCount s_a0_cuts) 0 (fun sz => k_X9_sight h_t h_t_bytes s_length s_at s_bytes q1 e2 sz) gX9_readCuts_X9_sight rfl pd_X9_sight rfl rfl rfl ⟨rfl, rfl, Nat.le_of_ble_eq_true rfl, Nat.le_of_ble_eq_true rfl⟩ (Nat.le_of_ble_eq_true rfl) ⟨Nat.zero_le _, Nat.zero_le _⟩ ⟨rfl, rfl, rfl, rfl, rfl, by decide, rfl⟩ rfl dX9_readCuts_8 ?_
      refine g_bipush 11 C (48 : Int32) dX9_readCuts_11 (by decide) ?_
      refine g_bipush 13 C (57 : Int32) dX9_readCuts_13 (by decide) ?_
      obtain ⟨q3, e4, h⟩ := bi_e h
      refine g_callNi 15 C (As := [.int q1.1, .int (48 : Int32), .int (57 : Int32)]) [] [0, 1, 2, 3] [0, 1, 2, 3] (W_X9_readCuts k h_t h_t_bytes h_a0 h_a0_cuts h_a0_worths h_a0_ahead s_length q1.2 s_bytes s_a0_kind s_a0_links s_a0_cutCount s_a0_cuts) (fun sz => k_X10_within q1.1 (48 : Int32) (57 : Int32) q3 e4 sz) gX9_readCuts_X10_within_n19 rfl C.2.2.2.2.2.2.2.2.2.2.1 ini_X9_readCuts_X10_within sta_X9_readCuts_X10_within pd_X10_within rfl ⟨rfl, rfl, Nat.le_of_ble_eq_true rfl, Nat.le_of_ble_eq_true rfl⟩ (Nat.le_of_ble_eq_true rfl) ⟨Nat.zero_le _, Nat.zero_le _⟩ ⟨rfl, rfl, rfl, rfl, rfl, by decide, rfl⟩ rfl dX9_readCuts_15 ?_
      refine g_if_ne 18 29 C dX9_readCuts_18 (by decide) (fun c => ?_) (fun c => ?_)
      · replace h := if_e c h
        refine g_aload_n 29 C 0 dX9_readCuts_29 rfl rfl ?_
        refine g_get 30 C in_X9_readCuts_X9 0 2 rfl rfl (by decide) fl_X9_readCuts_29 rfl rfl dX9_readCuts_30 ?_
        refine g_istore_n 33 C [(3, .int q1.2), (0, .ref h_t), (1, .ref h_a0), (2, .int v2)] dX9_readCuts_33 rfl (by decide) rfl ?_
        refine g_aload_n 34 C 1 dX9_readCuts_34 rfl rfl ?_
        obtain ⟨q5, e6, h⟩ := bi_e h
        refine g_callVi 35 C (As := []) [0, 1] [2, 3] [2, 3, 0, 1] (W_X9_readCuts k h_t h_t_bytes h_a0 h_a0_cuts h_a0_worths h_a0_ahead s_length q5.2 s_bytes s_a0_kind s_a0_links s_a0_cutCount s_a0_cuts) 0 (fun sz => k_X9_readNumber h_t h_t_bytes s_length q1.2 s_bytes q5 e6 sz) gX9_readCuts_X9_readNumber rfl pd_X9_readNumber rfl rfl rfl ⟨rfl, rfl, Nat.le_of_ble_eq_true rfl, Nat.le_of_ble_eq_true rfl⟩ (Nat.le_of_ble_eq_true rfl) ⟨Nat.zero_le _, Nat.zero_le _⟩ ⟨rfl, rfl, rfl, rfl, rfl, by decide, rfl⟩ rfl dX9_readCuts_35 ?_
        refine g_istore 38 C [(4, .int q5.1), (3, .int q1.2), (0, .ref h_t), (1, .ref h_a0), (2, .int v2)] dX9_readCuts_38 (by decide) rfl ?_
        refine g_aload_n 40 C 3 dX9_readCuts_40 rfl rfl ?_
        refine g_iload 41 C 0 dX9_readCuts_41 rfl ?_
        obtain ⟨q7, e8, h⟩ := bi_e h
        refine g_callVi 43 C (As := [.int q5.1]) [2] [0, 1, 3] [0, 1, 3, 2] (W_X9_readCuts k h_t h_t_bytes h_a0 h_a0_cuts h_a0_worths h_a0_ahead s_length q5.2 s_bytes s_a0_kind s_a0_links s_a0_cutCount s_a0_cuts) 2 (fun sz => k_X1_hasNotch h_a0 h_a0_worths h_a0_ahead h_a0_cuts s_a0_kind s_a0_links s_a0_cutCount q5.1 q7 e8 sz) gX9_readCuts_X1_hasNotch rfl pd_X1_hasNotch rfl rfl rfl ⟨rfl, rfl, Nat.le_of_ble_eq_true rfl, Nat.le_of_ble_eq_true rfl⟩ (Nat.le_of_ble_eq_true rfl) ⟨Nat.zero_le _, Nat.zero_le _⟩ ⟨rfl, rfl, rfl, rfl, rfl, by decide, rfl⟩ rfl dX9_readCuts_43 ?_
        refine g_if_eq 46 58 C dX9_readCuts_46 (by decide) (fun c => ?_) (fun c => ?_)
        · replace h := it_e c h
          refine GG.sub (lv' := [(3, .int q1.2)]) [1] rfl ?_
          exact ok_B_X9_readCuts_58 C hA hx hr h
        · replace h := if_e c h
          refine g_aload_n 49 C 3 dX9_readCuts_49 rfl rfl ?_
          refine g_iload 50 C 0 dX9_readCuts_50 rfl ?_
          obtain ⟨q11, e12, h⟩ := bi_e h
          refine g_callVi 52 C (As := [.int q5.1]) [2, 3] [0, 1] [0, 1, 2, 3] (W_X9_readCuts k h_t h_t_bytes h_a0 h_a0_cuts h_a0_worths h_a0_ahead s_length q5.2 s_bytes s_a0_kind s_a0_links s_a0_cutCount s_a0_cuts) 2 (fun sz => k_X1_placeOf h_a0 h_a0_cuts h_a0_worths h_a0_ahead s_a0_kind s_a0_links s_a0_cutCount s_a0_cuts q5.1 q11 e12 sz) gX9_readCuts_X1_placeOf rfl pd_X1_placeOf rfl rfl rfl ⟨rfl, rfl, Nat.le_of_ble_eq_true rfl, Nat.le_of_ble_eq_true rfl⟩ (Nat.le_of_ble_eq_true rfl) ⟨Nat.zero_le _, Nat.zero_le _⟩ ⟨rfl, rfl, rfl, rfl, rfl, by decide, rfl⟩ rfl dX9_readCuts_52 ?_
          refine g_if_lt 55 63 C dX9_readCuts_55 (by decide) (fun c => ?_) (fun c => ?_)
          · replace h := it_e c h
            refine g_aload_n 63 C 3 dX9_readCuts_63 rfl rfl ?_
            refine g_iload 64 C 0 dX9_readCuts_64 rfl ?_
            obtain ⟨q13, e14, h⟩ := bi_e h
            refine g_callVv 66 C (As := [.int q5.1]) [2, 3] [0, 1] [0, 1, 2, 3] (W_X9_readCuts k h_t h_t_bytes h_a0 h_a0_cuts h_a0_worths h_a0_ahead s_length q5.2 s_bytes s_a0_kind s_a0_links q13.1 q13.2) 2 (fun sz => k_X1_open h_a0 h_a0_cuts h_a0_worths h_a0_ahead s_a0_kind s_a0_links s_a0_cutCount s_a0_cuts q5.1 q13 e14 sz) gX9_readCuts_X1_open rfl pd_X1_open rfl rfl rfl ⟨rfl, rfl, Nat.le_of_ble_eq_true rfl, Nat.le_of_ble_eq_true rfl⟩ (Nat.le_of_ble_eq_true rfl) ⟨Nat.zero_le _, Nat.zero_le _⟩ ⟨rfl, rfl, rfl, rfl, rfl, by decide, rfl⟩ rfl dX9_readCuts_66 ?_
            refine g_aload_n 69 C 2 dX9_readCuts_69 rfl rfl ?_
            obtain ⟨q15, e16, h⟩ := bi_e h
            refine g_callVi 70 C (As := []) [0, 1] [2, 3] [2, 3, 0, 1] (W_X9_readCuts k h_t h_t_bytes h_a0 h_a0_cuts h_a0_worths h_a0_ahead s_length q15.2 s_bytes s_a0_kind s_a0_links q13.1 q13.2) 0 (fun sz => k_X9_sight h_t h_t_bytes s_length q5.2 s_bytes q15 e16 sz) gX9_readCuts_X9_sight rfl pd_X9_sight rfl rfl rfl ⟨rfl, rfl, Nat.le_of_ble_eq_true rfl, Nat.le_of_ble_eq_true rfl⟩ (Nat.le_of_ble_eq_true rfl) ⟨Nat.zero_le _, Nat.zero_le _⟩ ⟨rfl, rfl, rfl, rfl, rfl, by decide, rfl⟩ rfl dX9_readCuts_70 ?_
            refine g_istore 73 C [(5, .int q15.1), (4, .int q5.1), (3, .int q1.2), (0, .ref h_t), (1, .ref h_a0), (2, .int v2)] dX9_readCuts_73 (by decide) rfl ?_
            refine g_iload 75 C 0 dX9_readCuts_75 rfl ?_
            refine g_iconst 77 C (-1 : Int32) dX9_readCuts_77 (by decide) ?_
            refine g_icmp_ne 78 86 C dX9_readCuts_78 (by decide) (fun c => ?_) (fun c => ?_)
            · replace h := if_e c h
              refine g_iload 86 C 0 dX9_readCuts_86 rfl ?_
              refine g_bipush 88 C (44 : Int32) dX9_readCuts_88 (by decide) ?_
              refine g_icmp_ne 90 98 C dX9_readCuts_90 (by decide) (fun c => ?_) (fun c => ?_)
              · replace h := if_e c h
                refine GG.sub (lv' := [(0, .ref h_t)]) [3] rfl ?_
                exact ok_B_X9_readCuts_98 C hA hx hr h
              · replace h := it_e c h
                refine g_iload_n 93 C 5 dX9_readCuts_93 rfl rfl ?_
                refine g_iconst 94 C (5 : Int32) dX9_readCuts_94 (by decide) ?_
                refine g_icmp_ne 95 106 C dX9_readCuts_95 (by decide) (fun c => ?_) (fun c => ?_)
                · replace h := if_e c h
                  refine g_aload_n 106 C 3 dX9_readCuts_106 rfl rfl ?_
                  refine g_dup 107 C dX9_readCuts_107 rfl ?_
                  refine g_get 108 C in_X9_readCuts_X9 0 2 rfl rfl (by decide) fl_X9_readCuts_29 rfl rfl dX9_readCuts_108 ?_
                  refine g_iconst 111 C (1 : Int32) dX9_readCuts_111 (by decide) ?_
                  refine g_iadd 112 C dX9_readCuts_112 ?_
                  refine g_put 113 C (W_X9_readCuts k h_t h_t_bytes h_a0 h_a0_cuts h_a0_worths h_a0_ahead s_length (q15.2 + (1 : Int32)) s_bytes s_a0_kind s_a0_links q13.1 q13.2) in_X9_readCuts_X9 tyX9 tyX9_ok nmX9 0 2 rfl rfl (by decide) fl_X9_readCuts_29 rfl rfl (tyX9_ok 2 (by decide)) rfl rfl (Nat.le_of_ble_eq_true rfl) rfl dX9_readCuts_113 ?_
                  refine g_iinc 116 C 5 (1 : Int32) [(2, .int (v2 + (1 : Int32))), (5, .int q15.1), (4, .int q5.1), (3, .int q1.2), (0, .ref h_t), (1, .ref h_a0)] dX9_readCuts_116 rfl (by decide) (by decide) rfl ?_
                  refine g_goto 119 2 C dX9_readCuts_119 (by decide) ?_
                  refine GG.sub (lv' := [(0, .ref h_t), (1, .ref h_a0), (2, .int (v2 + (1 : Int32)))]) [4, 5, 0] rfl ?_
                  exact hr ((v2 + (1 : Int32)), (q15.2 + (1 : Int32)), q13.1, q13.2) h
                · replace h := it_e c h
                  refine GG.sub (lv' := [(0, .ref h_t)]) [3] rfl ?_
                  exact ok_B_X9_readCuts_98 C hA hx hr h
            · replace h := it_e c h
              refine g_aload_n 81 C 4 dX9_readCuts_81 rfl rfl ?_
              refine g_get 82 C in_X9_readCuts_X1 2 4 rfl rfl (by decide) fl_X9_readCuts_57 rfl rfl dX9_readCuts_82 ?_
              obtain rfl := Option.some.inj h
              exact g_iret 85 C hA rfl dX9_readCuts_85 rfl
          · replace h := if_e c h
            refine GG.sub (lv' := [(3, .int q1.2)]) [1] rfl ?_
            exact ok_B_X9_readCuts_58 C hA hx hr h
      · replace h := it_e c h
        refine g_aload_n 21 C 0 dX9_readCuts_21 rfl rfl ?_
        refine g_get 22 C in_X9_readCuts_X9 0 2 rfl rfl (by decide) fl_X9_readCuts_29 rfl rfl dX9_readCuts_22 ?_
        obtain ⟨q19, e20, h⟩ := bi_e h
        refine g_callSi 25 C (As := [.int q1.2]) [] [0, 1, 2, 3] [0, 1, 2, 3] (W_X9_readCuts k h_t h_t_bytes h_a0 h_a0_cuts h_a0_worths h_a0_ahead s_length q1.2 s_bytes s_a0_kind s_a0_links s_a0_cutCount s_a0_cuts) (fun sz => k_X9_faultAt q1.2 q19 e20 sz) gX9_readCuts_X9_faultAt rfl pd_X9_faultAt rfl ⟨rfl, rfl, Nat.le_of_ble_eq_true rfl, Nat.le_of_ble_eq_true rfl⟩ (Nat.le_of_ble_eq_true rfl) ⟨Nat.zero_le _, Nat.zero_le _⟩ ⟨rfl, rfl, rfl, rfl, rfl, by decide, rfl⟩ rfl dX9_readCuts_25 ?_
        obtain rfl := Option.some.inj h
        exact g_iret 28 C hA rfl dX9_readCuts_28 rfl
set_option maxHeartbeats 4000000 in
set_option maxRecDepth 100000 in
theorem ok_B_X9_readCuts_122 {h_t : Nat} {h_t_bytes : Nat} {h_a0 : Nat} {h_a0_cuts : Nat} {h_a0_worths : Nat} {h_a0_ahead : Nat} {s_length : Int32} {s_at : Int32} {s_bytes : Nat → Int32} {s_a0_kind : Int32} {s_a0_links : Int32} {s_a0_cutCount : Int32} {s_a0_cuts : Nat → Int32} {res : Int32 × Int32 × Int32 × (Nat → Int32)} (C : CX p s m args meth c cX9_readCuts wsX9_readCuts RX9 6 D k A (some .int)) (hA : A = va_A w0 sz)  (h : B_X9_readCuts_122 s_at s_a0_cutCount s_a0_cuts = some res) : GG p l e rm_X9_readCuts s m args below meth c (MQ below (cQi D w0 sz res.1 (W_X9_readCuts k h_t h_t_bytes h_a0 h_a0_cuts h_a0_worths h_a0_ahead s_length res.2.1 s_bytes s_a0_kind s_a0_links res.2.2.1 res.2.2.2)) args s 0 0 A) D A 6 0 0 122 [(0, .ref h_t)] [] (W_X9_readCuts k h_t h_t_bytes h_a0 h_a0_cuts h_a0_worths h_a0_ahead s_length s_at s_bytes s_a0_kind s_a0_links s_a0_cutCount s_a0_cuts) := by
  unfold B_X9_readCuts_122 at h
  refine g_aload_n 122 C 0 dX9_readCuts_122 rfl rfl ?_
  refine g_get 123 C in_X9_readCuts_X9 0 2 rfl rfl (by decide) fl_X9_readCuts_29 rfl rfl dX9_readCuts_123 ?_
  obtain ⟨q21, e22, h⟩ := bi_e h
  refine g_callSi 126 C (As := [.int s_at]) [] [0, 1, 2, 3] [0, 1, 2, 3] (W_X9_readCuts k h_t h_t_bytes h_a0 h_a0_cuts h_a0_worths h_a0_ahead s_length s_at s_bytes s_a0_kind s_a0_links s_a0_cutCount s_a0_cuts) (fun sz => k_X9_faultAt s_at q21 e22 sz) gX9_readCuts_X9_faultAt rfl pd_X9_faultAt rfl ⟨rfl, rfl, Nat.le_of_ble_eq_true rfl, Nat.le_of_ble_eq_true rfl⟩ (Nat.le_of_ble_eq_true rfl) ⟨Nat.zero_le _, Nat.zero_le _⟩ ⟨rfl, rfl, rfl, rfl, rfl, by decide, rfl⟩ rfl dX9_readCuts_126 ?_
  obtain rfl := Option.some.inj h
  exact g_iret 129 C hA rfl dX9_readCuts_129 rfl
set_option maxHeartbeats 4000000 in
set_option maxRecDepth 100000 in
theorem k_X9_readCuts {l : Launch} {D : va_G} {k : Nat → ClassId} (h_t : Nat) (h_t_bytes : Nat) (h_a0 : Nat) (h_a0_cuts : Nat) (h_a0_worths : Nat) (h_a0_ahead : Nat) (s_length : Int32) (s_at : Int32) (s_bytes : Nat → Int32) (s_a0_kind : Int32) (s_a0_links : Int32) (s_a0_cutCount : Int32) (s_a0_cuts : Nat → Int32) (res : Int32 × Int32 × Int32 × (Nat → Int32)) (h : f_X9_readCuts s_length s_at s_bytes s_a0_kind s_a0_links s_a0_cutCount s_a0_cuts = some res) (sz : Nat) : Met l yX9_readCuts wsX9_readCuts rm_X9_readCuts (cPre D k [.ref h_t, .ref h_a0] (W_X9_readCuts k h_t h_t_bytes h_a0 h_a0_cuts h_a0_worths h_a0_ahead s_length s_at s_bytes s_a0_kind s_a0_links s_a0_cutCount s_a0_cuts) sz) (cQi D (W_X9_readCuts k h_t h_t_bytes h_a0 h_a0_cuts h_a0_worths h_a0_ahead s_length s_at s_bytes s_a0_kind s_a0_links s_a0_cutCount s_a0_cuts) sz res.1 (W_X9_readCuts k h_t h_t_bytes h_a0 h_a0_cuts h_a0_worths h_a0_ahead s_length res.2.1 s_bytes s_a0_kind s_a0_links res.2.2.1 res.2.2.2)) 0 0 (va_A (W_X9_readCuts k h_t h_t_bytes h_a0 h_a0_cuts h_a0_worths h_a0_ahead s_length s_at s_bytes s_a0_kind s_a0_links s_a0_cutCount s_a0_cuts) sz) := by
  refine met_of [(0, .ref h_t), (1, .ref h_a0)] (by decide) rfl rfl (Nat.le_of_ble_eq_true rfl) rfl ?_
  intro p e s m args below meth c A hA hsz C
  unfold f_X9_readCuts at h
  refine g_iconst 0 C (1 : Int32) dX9_readCuts_0 (by decide) ?_
  refine g_istore_n 1 C [(2, .int (1 : Int32)), (0, .ref h_t), (1, .ref h_a0)] dX9_readCuts_1 rfl (by decide) rfl ?_
  refine GG.sub (lv' := [(0, .ref h_t), (1, .ref h_a0), (2, .int (1 : Int32))]) [1, 2, 0] rfl ?_
  exact ok_L_X9_readCuts_2 C hA (fun t h => by
    refine GG.sub (lv' := [(0, .ref h_t)]) [0] rfl ?_
    exact ok_B_X9_readCuts_122 C hA h) FUEL ((1 : Int32), s_at, s_a0_cutCount, s_a0_cuts) h
end

/-! J0_isLatin1_aae02 -/
abbrev W_J0_isLatin1_aae02 (k : Nat → ClassId) : va_W := []
def rm_J0_isLatin1_aae02 : Room := { frames := 0, cells := 0, slots := 0, locals := 0 }
theorem fl_J0_isLatin1_aae02_15 : Cond.fieldLink RJ0 15 "java/lang/String" "coder" "B" ∈ wsJ0_isLatin1_aae02 := by decide +kernel
theorem fl_J0_isLatin1_aae02_38 : Cond.fieldLink RJ0 38 "java/lang/String" "COMPACT_STRINGS" "Z" ∈ wsJ0_isLatin1_aae02 := by decide +kernel
theorem pd_J0_isLatin1_aae02 : yJ0_isLatin1_aae02.cls = RJ0 ∧ yJ0_isLatin1_aae02.cls ≠ "java/lang/invoke/MethodHandle" ∧ yJ0_isLatin1_aae02.cls ≠ "java/lang/invoke/VarHandle" ∧ (parseMethodDescriptor yJ0_isLatin1_aae02.desc).map (fun d => d.parameters.length) = some 0 := by decide +kernel
section
variable {p : Program} {l : Launch} {e : Env} {s : State} {m : MethodId} {args : Array Value} {below : List Frame} {meth : Method} {c : Code} {D : va_G} {k : Nat → ClassId} {A : Nat → Prop} {w0 : va_W} {sz : Nat}
set_option maxHeartbeats 4000000 in
set_option maxRecDepth 100000 in
theorem ok_B_J0_isLatin1_aae02_18 {x0 : Int32} {res : Int32} (C : CX p s m args meth c cJ0_isLatin1_aae02 wsJ0_isLatin1_aae02 RJ0 1 D k A (some .boolean)) (hA : A = va_A w0 sz)  (h : B_J0_isLatin1_aae02_18 x0 = some res) : GG p l e rm_J0_isLatin1_aae02 s m args below meth c (MQ below (cQi D w0 sz res (W_J0_isLatin1_aae02 k)) args s 0 0 A) D A 1 0 0 18 [] [.int x0] (W_J0_isLatin1_aae02 k) := by
  unfold B_J0_isLatin1_aae02_18 at h
  obtain ⟨o1, h⟩ := ob_e h
  obtain rfl := Option.some.inj h
  exact g_zret 18 C hA rfl (zb_n o1) dJ0_isLatin1_aae02_18 rfl
set_option maxHeartbeats 4000000 in
set_option maxRecDepth 100000 in
theorem ok_B_J0_isLatin1_aae02_17 {res : Int32} (C : CX p s m args meth c cJ0_isLatin1_aae02 wsJ0_isLatin1_aae02 RJ0 1 D k A (some .boolean)) (hA : A = va_A w0 sz)  (h : B_J0_isLatin1_aae02_17 = some res) : GG p l e rm_J0_isLatin1_aae02 s m args below meth c (MQ below (cQi D w0 sz res (W_J0_isLatin1_aae02 k)) args s 0 0 A) D A 1 0 0 17 [] [] (W_J0_isLatin1_aae02 k) := by
  unfold B_J0_isLatin1_aae02_17 at h
  refine g_iconst 17 C (0 : Int32) dJ0_isLatin1_aae02_17 (by decide) ?_
  refine GG.sub (lv' := []) [] rfl ?_
  exact ok_B_J0_isLatin1_aae02_18 C hA h
set_option maxHeartbeats 4000000 in
set_option maxRecDepth 100000 in
theorem k_J0_isLatin1_aae02 {l : Launch} {D : va_G} {k : Nat → ClassId} (res : Int32) (h : f_J0_isLatin1_aae02 = some res) (sz : Nat) : Met l yJ0_isLatin1_aae02 wsJ0_isLatin1_aae02 rm_J0_isLatin1_aae02 (cPre D k [.ref (k 6)] (W_J0_isLatin1_aae02 k) sz) (cQi D (W_J0_isLatin1_aae02 k) sz res (W_J0_isLatin1_aae02 k)) 0 0 (va_A (W_J0_isLatin1_aae02 k) sz) := by
  refine met_of [(0, .ref (k 6))] (by decide) rfl rfl (Nat.le_of_ble_eq_true rfl) rfl ?_
  intro p e s m args below meth c A hA hsz C
  unfold f_J0_isLatin1_aae02 at h
  refine g_compact 0 C fl_J0_isLatin1_aae02_38 dJ0_isLatin1_aae02_0 ?_
  refine g_if_eq 3 17 C dJ0_isLatin1_aae02_3 (by decide) (fun c => ?_) (fun c => ?_)
  · replace h := it_e c h
    refine GG.sub (lv' := []) [] rfl ?_
    exact ok_B_J0_isLatin1_aae02_17 C hA h
  · replace h := if_e c h
    refine g_aload_n 6 C 0 dJ0_isLatin1_aae02_6 rfl rfl ?_
    refine g_str_coder 7 C fl_J0_isLatin1_aae02_15 dJ0_isLatin1_aae02_7 ?_
    refine g_if_ne 10 17 C dJ0_isLatin1_aae02_10 (by decide) (fun c => ?_) (fun c => ?_)
    · replace h := if_e c h
      refine GG.sub (lv' := []) [] rfl ?_
      exact ok_B_J0_isLatin1_aae02_17 C hA h
    · replace h := it_e c h
      refine g_iconst 13 C (1 : Int32) dJ0_isLatin1_aae02_13 (by decide) ?_
      refine g_goto 14 18 C dJ0_isLatin1_aae02_14 (by decide) ?_
      refine GG.sub (lv' := []) [] rfl ?_
      exact ok_B_J0_isLatin1_aae02_18 C hA h
end

/-! J0_coder_7d493 -/
abbrev W_J0_coder_7d493 (k : Nat → ClassId) : va_W := []
def rm_J0_coder_7d493 : Room := { frames := 0, cells := 0, slots := 0, locals := 0 }
theorem fl_J0_coder_7d493_15 : Cond.fieldLink RJ0 15 "java/lang/String" "coder" "B" ∈ wsJ0_coder_7d493 := by decide +kernel
theorem fl_J0_coder_7d493_38 : Cond.fieldLink RJ0 38 "java/lang/String" "COMPACT_STRINGS" "Z" ∈ wsJ0_coder_7d493 := by decide +kernel
theorem pd_J0_coder_7d493 : yJ0_coder_7d493.cls = RJ0 ∧ yJ0_coder_7d493.cls ≠ "java/lang/invoke/MethodHandle" ∧ yJ0_coder_7d493.cls ≠ "java/lang/invoke/VarHandle" ∧ (parseMethodDescriptor yJ0_coder_7d493.desc).map (fun d => d.parameters.length) = some 0 := by decide +kernel
section
variable {p : Program} {l : Launch} {e : Env} {s : State} {m : MethodId} {args : Array Value} {below : List Frame} {meth : Method} {c : Code} {D : va_G} {k : Nat → ClassId} {A : Nat → Prop} {w0 : va_W} {sz : Nat}
set_option maxHeartbeats 4000000 in
set_option maxRecDepth 100000 in
theorem ok_B_J0_coder_7d493_14 {x0 : Int32} {res : Int32} (C : CX p s m args meth c cJ0_coder_7d493 wsJ0_coder_7d493 RJ0 1 D k A (some .byte)) (hA : A = va_A w0 sz)  (h : B_J0_coder_7d493_14 x0 = some res) : GG p l e rm_J0_coder_7d493 s m args below meth c (MQ below (cQi D w0 sz res (W_J0_coder_7d493 k)) args s 0 0 A) D A 1 0 0 14 [] [.int x0] (W_J0_coder_7d493 k) := by
  unfold B_J0_coder_7d493_14 at h
  obtain ⟨o1, h⟩ := ob_e h
  obtain rfl := Option.some.inj h
  exact g_zret 14 C hA rfl (zb_nB o1) dJ0_coder_7d493_14 rfl
set_option maxHeartbeats 4000000 in
set_option maxRecDepth 100000 in
theorem k_J0_coder_7d493 {l : Launch} {D : va_G} {k : Nat → ClassId} (res : Int32) (h : f_J0_coder_7d493 = some res) (sz : Nat) : Met l yJ0_coder_7d493 wsJ0_coder_7d493 rm_J0_coder_7d493 (cPre D k [.ref (k 6)] (W_J0_coder_7d493 k) sz) (cQi D (W_J0_coder_7d493 k) sz res (W_J0_coder_7d493 k)) 0 0 (va_A (W_J0_coder_7d493 k) sz) := by
  refine met_of [(0, .ref (k 6))] (by decide) rfl rfl (Nat.le_of_ble_eq_true rfl) rfl ?_
  intro p e s m args below meth c A hA hsz C
  unfold f_J0_coder_7d493 at h
  refine g_compact 0 C fl_J0_coder_7d493_38 dJ0_coder_7d493_0 ?_
  refine g_if_eq 3 13 C dJ0_coder_7d493_3 (by decide) (fun c => ?_) (fun c => ?_)
  · replace h := it_e c h
    refine g_iconst 13 C (1 : Int32) dJ0_coder_7d493_13 (by decide) ?_
    refine GG.sub (lv' := []) [] rfl ?_
    exact ok_B_J0_coder_7d493_14 C hA h
  · replace h := if_e c h
    refine g_aload_n 6 C 0 dJ0_coder_7d493_6 rfl rfl ?_
    refine g_str_coder 7 C fl_J0_coder_7d493_15 dJ0_coder_7d493_7 ?_
    refine g_goto 10 14 C dJ0_coder_7d493_10 (by decide) ?_
    refine GG.sub (lv' := []) [] rfl ?_
    exact ok_B_J0_coder_7d493_14 C hA h
end

/-! J0_length_8abf5 -/
abbrev W_J0_length_8abf5 (k : Nat → ClassId) : va_W := []
def rm_J0_length_8abf5 : Room := { frames := 1, cells := 0, slots := 0, locals := 20 }
theorem fl_J0_length_8abf5_9 : Cond.fieldLink RJ0 9 "java/lang/String" "value" "[B" ∈ wsJ0_length_8abf5 := by decide +kernel
theorem pd_J0_length_8abf5 : yJ0_length_8abf5.cls = RJ0 ∧ yJ0_length_8abf5.cls ≠ "java/lang/invoke/MethodHandle" ∧ yJ0_length_8abf5.cls ≠ "java/lang/invoke/VarHandle" ∧ (parseMethodDescriptor yJ0_length_8abf5.desc).map (fun d => d.parameters.length) = some 0 := by decide +kernel
section
variable {p : Program} {l : Launch} {e : Env} {s : State} {m : MethodId} {args : Array Value} {below : List Frame} {meth : Method} {c : Code} {D : va_G} {k : Nat → ClassId} {A : Nat → Prop} {w0 : va_W} {sz : Nat}
set_option maxHeartbeats 4000000 in
set_option maxRecDepth 100000 in
theorem k_J0_length_8abf5 {l : Launch} {D : va_G} {k : Nat → ClassId} (res : Int32) (h : f_J0_length_8abf5 = some res) (sz : Nat) : Met l yJ0_length_8abf5 wsJ0_length_8abf5 rm_J0_length_8abf5 (cPre D k [.ref (k 6)] (W_J0_length_8abf5 k) sz) (cQi D (W_J0_length_8abf5 k) sz res (W_J0_length_8abf5 k)) 0 0 (va_A (W_J0_length_8abf5 k) sz) := by
  refine met_of [(0, .ref (k 6))] (by decide) rfl rfl (Nat.le_of_ble_eq_true rfl) rfl ?_
  intro p e s m args below meth c A hA hsz C
  unfold f_J0_length_8abf5 at h
  refine g_aload_n 0 C 0 dJ0_length_8abf5_0 rfl rfl ?_
  refine g_str_value 1 C fl_J0_length_8abf5_9 dJ0_length_8abf5_1 ?_
  refine g_strlen 4 C dJ0_length_8abf5_4 ?_
  refine g_aload_n 5 C 0 dJ0_length_8abf5_5 rfl rfl ?_
  obtain ⟨q1, e2, h⟩ := bi_e h
  refine g_callTi 6 C (As := []) [] [] [] (W_J0_length_8abf5 k) rfl (fun sz => k_J0_coder_7d493 q1 e2 sz) gJ0_length_8abf5_J0_coder_7d493 rfl pd_J0_coder_7d493 rfl ⟨rfl, rfl, Nat.le_of_ble_eq_true rfl, Nat.le_of_ble_eq_true rfl⟩ (Nat.le_of_ble_eq_true rfl) ⟨Nat.zero_le _, Nat.zero_le _⟩ ⟨rfl, rfl, rfl, rfl, rfl, by decide, rfl⟩ rfl dJ0_length_8abf5_6 ?_
  refine g_ishr 9 C dJ0_length_8abf5_9 ?_
  obtain rfl := Option.some.inj h
  exact g_iret 10 C hA rfl dJ0_length_8abf5_10 rfl
end

/-! J1_canEncode_9a6ad -/
abbrev W_J1_canEncode_9a6ad (k : Nat → ClassId) : va_W := []
def rm_J1_canEncode_9a6ad : Room := { frames := 0, cells := 0, slots := 0, locals := 0 }
theorem pd_J1_canEncode_9a6ad : yJ1_canEncode_9a6ad.cls ≠ "java/lang/invoke/MethodHandle" ∧ yJ1_canEncode_9a6ad.cls ≠ "java/lang/invoke/VarHandle" ∧ (parseMethodDescriptor yJ1_canEncode_9a6ad.desc).map (fun d => d.parameters.length) = some 1 := by decide +kernel
section
variable {p : Program} {l : Launch} {e : Env} {s : State} {m : MethodId} {args : Array Value} {below : List Frame} {meth : Method} {c : Code} {D : va_G} {k : Nat → ClassId} {A : Nat → Prop} {w0 : va_W} {sz : Nat}
set_option maxHeartbeats 4000000 in
set_option maxRecDepth 100000 in
theorem ok_B_J1_canEncode_9a6ad_16 {x0 : Int32} {res : Int32} (C : CX p s m args meth c cJ1_canEncode_9a6ad wsJ1_canEncode_9a6ad RJ1 1 D k A (some .boolean)) (hA : A = va_A w0 sz)  (h : B_J1_canEncode_9a6ad_16 x0 = some res) : GG p l e rm_J1_canEncode_9a6ad s m args below meth c (MQ below (cQi D w0 sz res (W_J1_canEncode_9a6ad k)) args s 0 0 A) D A 1 0 0 16 [] [.int x0] (W_J1_canEncode_9a6ad k) := by
  unfold B_J1_canEncode_9a6ad_16 at h
  obtain ⟨o1, h⟩ := ob_e h
  obtain rfl := Option.some.inj h
  exact g_zret 16 C hA rfl (zb_n o1) dJ1_canEncode_9a6ad_16 rfl
set_option maxHeartbeats 4000000 in
set_option maxRecDepth 100000 in
theorem ok_B_J1_canEncode_9a6ad_15 {res : Int32} (C : CX p s m args meth c cJ1_canEncode_9a6ad wsJ1_canEncode_9a6ad RJ1 1 D k A (some .boolean)) (hA : A = va_A w0 sz)  (h : B_J1_canEncode_9a6ad_15 = some res) : GG p l e rm_J1_canEncode_9a6ad s m args below meth c (MQ below (cQi D w0 sz res (W_J1_canEncode_9a6ad k)) args s 0 0 A) D A 1 0 0 15 [] [] (W_J1_canEncode_9a6ad k) := by
  unfold B_J1_canEncode_9a6ad_15 at h
  refine g_iconst 15 C (0 : Int32) dJ1_canEncode_9a6ad_15 (by decide) ?_
  refine GG.sub (lv' := []) [] rfl ?_
  exact ok_B_J1_canEncode_9a6ad_16 C hA h
set_option maxHeartbeats 4000000 in
set_option maxRecDepth 100000 in
theorem k_J1_canEncode_9a6ad {l : Launch} {D : va_G} {k : Nat → ClassId} (v0 : Int32) (res : Int32) (h : f_J1_canEncode_9a6ad v0 = some res) (sz : Nat) : Met l yJ1_canEncode_9a6ad wsJ1_canEncode_9a6ad rm_J1_canEncode_9a6ad (cPre D k [.int v0] (W_J1_canEncode_9a6ad k) sz) (cQi D (W_J1_canEncode_9a6ad k) sz res (W_J1_canEncode_9a6ad k)) 0 0 (va_A (W_J1_canEncode_9a6ad k) sz) := by
  refine met_of [(0, .int v0)] (by decide) rfl rfl (Nat.le_of_ble_eq_true rfl) rfl ?_
  intro p e s m args below meth c A hA hsz C
  unfold f_J1_canEncode_9a6ad at h
  refine g_iload_n 0 C 0 dJ1_canEncode_9a6ad_0 rfl rfl ?_
  refine g_if_lt 1 15 C dJ1_canEncode_9a6ad_1 (by decide) (fun c => ?_) (fun c => ?_)
  · replace h := it_e c h
    refine GG.sub (lv' := []) [] rfl ?_
    exact ok_B_J1_canEncode_9a6ad_15 C hA h
  · replace h := if_e c h
    refine g_iload_n 4 C 0 dJ1_canEncode_9a6ad_4 rfl rfl ?_
    refine g_sipush 5 C (255 : Int32) dJ1_canEncode_9a6ad_5 (by decide) ?_
    refine g_icmp_gt 8 15 C dJ1_canEncode_9a6ad_8 (by decide) (fun c => ?_) (fun c => ?_)
    · replace h := it_e c h
      refine GG.sub (lv' := []) [] rfl ?_
      exact ok_B_J1_canEncode_9a6ad_15 C hA h
    · replace h := if_e c h
      refine g_iconst 11 C (1 : Int32) dJ1_canEncode_9a6ad_11 (by decide) ?_
      refine g_goto 12 16 C dJ1_canEncode_9a6ad_12 (by decide) ?_
      refine GG.sub (lv' := []) [] rfl ?_
      exact ok_B_J1_canEncode_9a6ad_16 C hA h
end

/-! J1_indexOfChar_4cfef -/
abbrev W_J1_indexOfChar_4cfef (k : Nat → ClassId) : va_W := []
def rm_J1_indexOfChar_4cfef : Room := { frames := 0, cells := 0, slots := 0, locals := 0 }
theorem pd_J1_indexOfChar_4cfef : yJ1_indexOfChar_4cfef.cls ≠ "java/lang/invoke/MethodHandle" ∧ yJ1_indexOfChar_4cfef.cls ≠ "java/lang/invoke/VarHandle" ∧ (parseMethodDescriptor yJ1_indexOfChar_4cfef.desc).map (fun d => d.parameters.length) = some 4 := by decide +kernel
section
variable {p : Program} {l : Launch} {e : Env} {s : State} {m : MethodId} {args : Array Value} {below : List Frame} {meth : Method} {c : Code} {D : va_G} {k : Nat → ClassId} {A : Nat → Prop} {w0 : va_W} {sz : Nat}
set_option maxHeartbeats 4000000 in
set_option maxRecDepth 100000 in
theorem ok_L_J1_indexOfChar_4cfef_7 {v3 : Int32} {v4 : Int32} {res : Int32} (C : CX p s m args meth c cJ1_indexOfChar_4cfef wsJ1_indexOfChar_4cfef RJ1 6 D k A (some .int)) (hA : A = va_A w0 sz) {kx : Int32 → Option (Int32)} (hx : ∀ t : Int32, kx t = some res → GG p l e rm_J1_indexOfChar_4cfef s m args below meth c (MQ below (cQi D w0 sz res (W_J1_indexOfChar_4cfef k)) args s 0 0 A) D A 6 0 0 31 [] [] (W_J1_indexOfChar_4cfef k)) : ∀ (n : Nat) (t : Int32), L_J1_indexOfChar_4cfef_7 v3 v4 kx n t = some res → GG p l e rm_J1_indexOfChar_4cfef s m args below meth c (MQ below (cQi D w0 sz res (W_J1_indexOfChar_4cfef k)) args s 0 0 A) D A 6 0 0 7 [(0, .ref (k 7)), (3, .int v3), (4, .int v4), (5, .int t)] [] (W_J1_indexOfChar_4cfef k) := by
  intro n
  induction n with
  | zero => intro t h; cases h
  | succ n ih =>
    intro t h
    obtain ⟨v5, rfl⟩ : ∃ z, z = t := ⟨_, rfl⟩
    replace h : LB_J1_indexOfChar_4cfef_7 v3 v4 kx (L_J1_indexOfChar_4cfef_7 v3 v4 kx n) v5 = some res := h
    have hr := ih
    unfold LB_J1_indexOfChar_4cfef_7 at h
    refine g_iload 7 C 3 dJ1_indexOfChar_4cfef_7 rfl ?_
    refine g_iload_n 9 C 1 dJ1_indexOfChar_4cfef_9 rfl rfl ?_
    refine g_icmp_ge 10 31 C dJ1_indexOfChar_4cfef_10 (by decide) (fun c => ?_) (fun c => ?_)
    · replace h := it_e c h
      refine GG.sub (lv' := []) [] rfl ?_
      exact hx v5 h
    · replace h := if_e c h
      refine g_aload_n 13 C 0 dJ1_indexOfChar_4cfef_13 rfl rfl ?_
      refine g_iload 14 C 3 dJ1_indexOfChar_4cfef_14 rfl ?_
      obtain ⟨o1, h⟩ := ob_e h
      refine g_tbald 16 C o1 dJ1_indexOfChar_4cfef_16 ?_
      refine g_iload 17 C 2 dJ1_indexOfChar_4cfef_17 rfl ?_
      refine g_icmp_ne 19 25 C dJ1_indexOfChar_4cfef_19 (by decide) (fun c => ?_) (fun c => ?_)
      · replace h := if_e c h
        refine g_iinc 25 C 3 (1 : Int32) [(5, .int (v5 + (1 : Int32))), (0, .ref (k 7)), (3, .int v3), (4, .int v4)] dJ1_indexOfChar_4cfef_25 rfl (by decide) (by decide) rfl ?_
        refine g_goto 28 7 C dJ1_indexOfChar_4cfef_28 (by decide) ?_
        refine GG.sub (lv' := [(0, .ref (k 7)), (3, .int v3), (4, .int v4), (5, .int (v5 + (1 : Int32)))]) [1, 2, 3, 0] rfl ?_
        exact hr (v5 + (1 : Int32)) h
      · replace h := it_e c h
        refine g_iload 22 C 3 dJ1_indexOfChar_4cfef_22 rfl ?_
        obtain rfl := Option.some.inj h
        exact g_iret 24 C hA rfl dJ1_indexOfChar_4cfef_24 rfl
set_option maxHeartbeats 4000000 in
set_option maxRecDepth 100000 in
theorem ok_B_J1_indexOfChar_4cfef_31 {res : Int32} (C : CX p s m args meth c cJ1_indexOfChar_4cfef wsJ1_indexOfChar_4cfef RJ1 6 D k A (some .int)) (hA : A = va_A w0 sz)  (h : B_J1_indexOfChar_4cfef_31 = some res) : GG p l e rm_J1_indexOfChar_4cfef s m args below meth c (MQ below (cQi D w0 sz res (W_J1_indexOfChar_4cfef k)) args s 0 0 A) D A 6 0 0 31 [] [] (W_J1_indexOfChar_4cfef k) := by
  unfold B_J1_indexOfChar_4cfef_31 at h
  refine g_iconst 31 C (-1 : Int32) dJ1_indexOfChar_4cfef_31 (by decide) ?_
  obtain rfl := Option.some.inj h
  exact g_iret 32 C hA rfl dJ1_indexOfChar_4cfef_32 rfl
set_option maxHeartbeats 4000000 in
set_option maxRecDepth 100000 in
theorem k_J1_indexOfChar_4cfef {l : Launch} {D : va_G} {k : Nat → ClassId} (v1 : Int32) (v2 : Int32) (v3 : Int32) (res : Int32) (h : f_J1_indexOfChar_4cfef v1 v2 v3 = some res) (sz : Nat) : Met l yJ1_indexOfChar_4cfef wsJ1_indexOfChar_4cfef rm_J1_indexOfChar_4cfef (cPre D k [.ref (k 7), .int v1, .int v2, .int v3] (W_J1_indexOfChar_4cfef k) sz) (cQi D (W_J1_indexOfChar_4cfef k) sz res (W_J1_indexOfChar_4cfef k)) 0 0 (va_A (W_J1_indexOfChar_4cfef k) sz) := by
  refine met_of [(0, .ref (k 7)), (1, .int v1), (2, .int v2), (3, .int v3)] (by decide) rfl rfl (Nat.le_of_ble_eq_true rfl) rfl ?_
  intro p e s m args below meth c A hA hsz C
  unfold f_J1_indexOfChar_4cfef at h
  refine g_iload_n 0 C 1 dJ1_indexOfChar_4cfef_0 rfl rfl ?_
  refine g_i2b 1 C dJ1_indexOfChar_4cfef_1 ?_
  refine g_istore 2 C [(4, .int v1.toInt8.toInt32), (0, .ref (k 7)), (1, .int v1), (2, .int v2), (3, .int v3)] dJ1_indexOfChar_4cfef_2 (by decide) rfl ?_
  refine g_iload_n 4 C 3 dJ1_indexOfChar_4cfef_4 rfl rfl ?_
  refine g_istore 5 C [(5, .int v2), (4, .int v1.toInt8.toInt32), (0, .ref (k 7)), (1, .int v1), (2, .int v2), (3, .int v3)] dJ1_indexOfChar_4cfef_5 (by decide) rfl ?_
  refine GG.sub (lv' := [(0, .ref (k 7)), (3, .int v3), (4, .int v1.toInt8.toInt32), (5, .int v2)]) [2, 5, 1, 0] rfl ?_
  exact ok_L_J1_indexOfChar_4cfef_7 C hA (fun t h => by
    refine GG.sub (lv' := []) [] rfl ?_
    exact ok_B_J1_indexOfChar_4cfef_31 C hA h) FUEL v2 h
end

/-! J1_indexOf_4cfef -/
abbrev W_J1_indexOf_4cfef (k : Nat → ClassId) : va_W := []
def rm_J1_indexOf_4cfef : Room := { frames := 1, cells := 0, slots := 0, locals := 25 }
theorem mc_J1_indexOf_4cfef_m38 : Cond.code Lib.Math.min.name Lib.Math.min.code 2 (some .int) ∈ wsJ1_indexOf_4cfef := by decide +kernel
theorem mc_J1_indexOf_4cfef_m92 : Cond.code Lib.Math.max.name Lib.Math.max.code 2 (some .int) ∈ wsJ1_indexOf_4cfef := by decide +kernel
theorem mi_J1_indexOf_4cfef_m38 : Cond.initialized "java/lang/Math" ∈ wsJ1_indexOf_4cfef := by decide +kernel
theorem mi_J1_indexOf_4cfef_m92 : Cond.initialized "java/lang/Math" ∈ wsJ1_indexOf_4cfef := by decide +kernel
theorem ml_J1_indexOf_4cfef_m38 : Cond.methodLink RJ1 38 Lib.Math.min.name ∈ wsJ1_indexOf_4cfef := by decide +kernel
theorem ml_J1_indexOf_4cfef_m92 : Cond.methodLink RJ1 92 Lib.Math.max.name ∈ wsJ1_indexOf_4cfef := by decide +kernel
theorem ms_J1_indexOf_4cfef_m38 : Cond.static Lib.Math.min.name ∈ wsJ1_indexOf_4cfef := by decide +kernel
theorem ms_J1_indexOf_4cfef_m92 : Cond.static Lib.Math.max.name ∈ wsJ1_indexOf_4cfef := by decide +kernel
theorem pd_J1_indexOf_4cfef : yJ1_indexOf_4cfef.cls ≠ "java/lang/invoke/MethodHandle" ∧ yJ1_indexOf_4cfef.cls ≠ "java/lang/invoke/VarHandle" ∧ (parseMethodDescriptor yJ1_indexOf_4cfef.desc).map (fun d => d.parameters.length) = some 4 := by decide +kernel
section
variable {p : Program} {l : Launch} {e : Env} {s : State} {m : MethodId} {args : Array Value} {below : List Frame} {meth : Method} {c : Code} {D : va_G} {k : Nat → ClassId} {A : Nat → Prop} {w0 : va_W} {sz : Nat}
set_option maxHeartbeats 4000000 in
set_option maxRecDepth 100000 in
theorem k_J1_indexOf_4cfef {l : Launch} {D : va_G} {k : Nat → ClassId} (v1 : Int32) (v2 : Int32) (v3 : Int32) (res : Int32) (h : f_J1_indexOf_4cfef v1 v2 v3 = some res) (sz : Nat) : Met l yJ1_indexOf_4cfef wsJ1_indexOf_4cfef rm_J1_indexOf_4cfef (cPre D k [.ref (k 7), .int v1, .int v2, .int v3] (W_J1_indexOf_4cfef k) sz) (cQi D (W_J1_indexOf_4cfef k) sz res (W_J1_indexOf_4cfef k)) 0 0 (va_A (W_J1_indexOf_4cfef k) sz) := by
  refine met_of [(0, .ref (k 7)), (1, .int v1), (2, .int v2), (3, .int v3)] (by decide) rfl rfl (Nat.le_of_ble_eq_true rfl) rfl ?_
  intro p e s m args below meth c A hA hsz C
  unfold f_J1_indexOf_4cfef at h
  refine g_iload_n 0 C 1 dJ1_indexOf_4cfef_0 rfl rfl ?_
  obtain ⟨q1, e2, h⟩ := bi_e h
  refine g_callSi 1 C (As := [.int v1]) [] [] [] (W_J1_indexOf_4cfef k) (fun sz => k_J1_canEncode_9a6ad v1 q1 e2 sz) gJ1_indexOf_4cfef_J1_canEncode_9a6ad rfl pd_J1_canEncode_9a6ad rfl ⟨rfl, rfl, Nat.le_of_ble_eq_true rfl, Nat.le_of_ble_eq_true rfl⟩ (Nat.le_of_ble_eq_true rfl) ⟨Nat.zero_le _, Nat.zero_le _⟩ ⟨rfl, rfl, rfl, rfl, rfl, by decide, rfl⟩ rfl dJ1_indexOf_4cfef_1 ?_
  refine g_if_ne 4 9 C dJ1_indexOf_4cfef_4 (by decide) (fun c => ?_) (fun c => ?_)
  · replace h := if_e c h
    refine g_iload_n 9 C 2 dJ1_indexOf_4cfef_9 rfl rfl ?_
    refine g_iconst 10 C (0 : Int32) dJ1_indexOf_4cfef_10 (by decide) ?_
    refine g_mmax 11 C ml_J1_indexOf_4cfef_m92 ms_J1_indexOf_4cfef_m92 mi_J1_indexOf_4cfef_m92 mc_J1_indexOf_4cfef_m92 (Nat.le_of_ble_eq_true rfl) (Nat.le_of_ble_eq_true rfl) ⟨Nat.zero_le _, Nat.zero_le _⟩ dJ1_indexOf_4cfef_11 ?_
    refine g_istore_n 14 C [(2, .int (if v2 < (0 : Int32) then (0 : Int32) else v2)), (0, .ref (k 7)), (1, .int v1), (3, .int v3)] dJ1_indexOf_4cfef_14 rfl (by decide) rfl ?_
    refine g_iload_n 15 C 3 dJ1_indexOf_4cfef_15 rfl rfl ?_
    refine g_aload_n 16 C 1 dJ1_indexOf_4cfef_16 rfl rfl ?_
    refine g_strlen 17 C dJ1_indexOf_4cfef_17 ?_
    refine g_mmin 18 C ml_J1_indexOf_4cfef_m38 ms_J1_indexOf_4cfef_m38 mi_J1_indexOf_4cfef_m38 mc_J1_indexOf_4cfef_m38 (Nat.le_of_ble_eq_true rfl) (Nat.le_of_ble_eq_true rfl) ⟨Nat.zero_le _, Nat.zero_le _⟩ dJ1_indexOf_4cfef_18 ?_
    refine g_istore_n 21 C [(3, .int (if (4 : Int32) < v3 then (4 : Int32) else v3)), (2, .int (if v2 < (0 : Int32) then (0 : Int32) else v2)), (0, .ref (k 7)), (1, .int v1)] dJ1_indexOf_4cfef_21 rfl (by decide) rfl ?_
    refine g_iload_n 22 C 1 dJ1_indexOf_4cfef_22 rfl rfl ?_
    refine g_iload_n 23 C 0 dJ1_indexOf_4cfef_23 rfl rfl ?_
    refine g_icmp_lt 24 29 C dJ1_indexOf_4cfef_24 (by decide) (fun c => ?_) (fun c => ?_)
    · replace h := it_e c h
      refine g_aload_n 29 C 2 dJ1_indexOf_4cfef_29 rfl rfl ?_
      refine g_iload_n 30 C 3 dJ1_indexOf_4cfef_30 rfl rfl ?_
      refine g_iload_n 31 C 1 dJ1_indexOf_4cfef_31 rfl rfl ?_
      refine g_iload_n 32 C 0 dJ1_indexOf_4cfef_32 rfl rfl ?_
      obtain ⟨q3, e4, h⟩ := bi_e h
      refine g_callSi 33 C (As := [.ref (k 7), .int v1, .int (if v2 < (0 : Int32) then (0 : Int32) else v2), .int (if (4 : Int32) < v3 then (4 : Int32) else v3)]) [] [] [] (W_J1_indexOf_4cfef k) (fun sz => k_J1_indexOfChar_4cfef v1 (if v2 < (0 : Int32) then (0 : Int32) else v2) (if (4 : Int32) < v3 then (4 : Int32) else v3) q3 e4 sz) gJ1_indexOf_4cfef_J1_indexOfChar_4cfef rfl pd_J1_indexOfChar_4cfef rfl ⟨rfl, rfl, Nat.le_of_ble_eq_true rfl, Nat.le_of_ble_eq_true rfl⟩ (Nat.le_of_ble_eq_true rfl) ⟨Nat.zero_le _, Nat.zero_le _⟩ ⟨rfl, rfl, rfl, rfl, rfl, by decide, rfl⟩ rfl dJ1_indexOf_4cfef_33 ?_
      obtain rfl := Option.some.inj h
      exact g_iret 36 C hA rfl dJ1_indexOf_4cfef_36 rfl
    · replace h := if_e c h
      refine g_iconst 27 C (-1 : Int32) dJ1_indexOf_4cfef_27 (by decide) ?_
      obtain rfl := Option.some.inj h
      exact g_iret 28 C hA rfl dJ1_indexOf_4cfef_28 rfl
  · replace h := it_e c h
    refine g_iconst 7 C (-1 : Int32) dJ1_indexOf_4cfef_7 (by decide) ?_
    obtain rfl := Option.some.inj h
    exact g_iret 8 C hA rfl dJ1_indexOf_4cfef_8 rfl
end

/-! J0_indexOf_7cf53 -/
abbrev W_J0_indexOf_7cf53 (k : Nat → ClassId) : va_W := []
def rm_J0_indexOf_7cf53 : Room := { frames := 2, cells := 0, slots := 0, locals := 48 }
theorem fl_J0_indexOf_7cf53_9 : Cond.fieldLink RJ0 9 "java/lang/String" "value" "[B" ∈ wsJ0_indexOf_7cf53 := by decide +kernel
theorem pd_J0_indexOf_7cf53 : yJ0_indexOf_7cf53.cls = RJ0 ∧ yJ0_indexOf_7cf53.cls ≠ "java/lang/invoke/MethodHandle" ∧ yJ0_indexOf_7cf53.cls ≠ "java/lang/invoke/VarHandle" ∧ (parseMethodDescriptor yJ0_indexOf_7cf53.desc).map (fun d => d.parameters.length) = some 2 := by decide +kernel
section
variable {p : Program} {l : Launch} {e : Env} {s : State} {m : MethodId} {args : Array Value} {below : List Frame} {meth : Method} {c : Code} {D : va_G} {k : Nat → ClassId} {A : Nat → Prop} {w0 : va_W} {sz : Nat}
set_option maxHeartbeats 4000000 in
set_option maxRecDepth 100000 in
theorem ok_B_J0_indexOf_7cf53_36 {x0 : Int32} {res : Int32} (C : CX p s m args meth c cJ0_indexOf_7cf53 wsJ0_indexOf_7cf53 RJ0 3 D k A (some .int)) (hA : A = va_A w0 sz)  (h : B_J0_indexOf_7cf53_36 x0 = some res) : GG p l e rm_J0_indexOf_7cf53 s m args below meth c (MQ below (cQi D w0 sz res (W_J0_indexOf_7cf53 k)) args s 0 0 A) D A 3 0 0 36 [] [.int x0] (W_J0_indexOf_7cf53 k) := by
  unfold B_J0_indexOf_7cf53_36 at h
  obtain rfl := Option.some.inj h
  exact g_iret 36 C hA rfl dJ0_indexOf_7cf53_36 rfl
set_option maxHeartbeats 4000000 in
set_option maxRecDepth 100000 in
theorem k_J0_indexOf_7cf53 {l : Launch} {D : va_G} {k : Nat → ClassId} (v1 : Int32) (v2 : Int32) (res : Int32) (h : f_J0_indexOf_7cf53 v1 v2 = some res) (sz : Nat) : Met l yJ0_indexOf_7cf53 wsJ0_indexOf_7cf53 rm_J0_indexOf_7cf53 (cPre D k [.ref (k 6), .int v1, .int v2] (W_J0_indexOf_7cf53 k) sz) (cQi D (W_J0_indexOf_7cf53 k) sz res (W_J0_indexOf_7cf53 k)) 0 0 (va_A (W_J0_indexOf_7cf53 k) sz) := by
  refine met_of [(0, .ref (k 6)), (1, .int v1), (2, .int v2)] (by decide) rfl rfl (Nat.le_of_ble_eq_true rfl) rfl ?_
  intro p e s m args below meth c A hA hsz C
  unfold f_J0_indexOf_7cf53 at h
  refine g_aload_n 0 C 0 dJ0_indexOf_7cf53_0 rfl rfl ?_
  obtain ⟨q1, e2, h⟩ := bi_e h
  refine g_callTi 1 C (As := []) [] [] [] (W_J0_indexOf_7cf53 k) rfl (fun sz => k_J0_isLatin1_aae02 q1 e2 sz) gJ0_indexOf_7cf53_J0_isLatin1_aae02 rfl pd_J0_isLatin1_aae02 rfl ⟨rfl, rfl, Nat.le_of_ble_eq_true rfl, Nat.le_of_ble_eq_true rfl⟩ (Nat.le_of_ble_eq_true rfl) ⟨Nat.zero_le _, Nat.zero_le _⟩ ⟨rfl, rfl, rfl, rfl, rfl, by decide, rfl⟩ rfl dJ0_indexOf_7cf53_1 ?_
  refine g_if_eq 4 23 C dJ0_indexOf_7cf53_4 (by decide) (fun c => ?_) (fun c => ?_)
  · replace h := it_e c h
    refine g_aload_n 23 C 0 dJ0_indexOf_7cf53_23 rfl rfl ?_
    refine g_str_value 24 C fl_J0_indexOf_7cf53_9 dJ0_indexOf_7cf53_24 ?_
    refine g_iload_n 27 C 1 dJ0_indexOf_7cf53_27 rfl rfl ?_
    refine g_iload_n 28 C 2 dJ0_indexOf_7cf53_28 rfl rfl ?_
    refine g_aload_n 29 C 0 dJ0_indexOf_7cf53_29 rfl rfl ?_
    obtain ⟨q3, e4, h⟩ := bi_e h
    refine g_callTi 30 C (As := []) [] [] [] (W_J0_indexOf_7cf53 k) rfl (fun sz => k_J0_length_8abf5 q3 e4 sz) gJ0_indexOf_7cf53_J0_length_8abf5 rfl pd_J0_length_8abf5 rfl ⟨rfl, rfl, Nat.le_of_ble_eq_true rfl, Nat.le_of_ble_eq_true rfl⟩ (Nat.le_of_ble_eq_true rfl) ⟨Nat.zero_le _, Nat.zero_le _⟩ ⟨rfl, rfl, rfl, rfl, rfl, by decide, rfl⟩ rfl dJ0_indexOf_7cf53_30 ?_
    cases h
  · replace h := if_e c h
    refine g_aload_n 7 C 0 dJ0_indexOf_7cf53_7 rfl rfl ?_
    refine g_str_value 8 C fl_J0_indexOf_7cf53_9 dJ0_indexOf_7cf53_8 ?_
    refine g_iload_n 11 C 1 dJ0_indexOf_7cf53_11 rfl rfl ?_
    refine g_iload_n 12 C 2 dJ0_indexOf_7cf53_12 rfl rfl ?_
    refine g_aload_n 13 C 0 dJ0_indexOf_7cf53_13 rfl rfl ?_
    obtain ⟨q5, e6, h⟩ := bi_e h
    refine g_callTi 14 C (As := []) [] [] [] (W_J0_indexOf_7cf53 k) rfl (fun sz => k_J0_length_8abf5 q5 e6 sz) gJ0_indexOf_7cf53_J0_length_8abf5 rfl pd_J0_length_8abf5 rfl ⟨rfl, rfl, Nat.le_of_ble_eq_true rfl, Nat.le_of_ble_eq_true rfl⟩ (Nat.le_of_ble_eq_true rfl) ⟨Nat.zero_le _, Nat.zero_le _⟩ ⟨rfl, rfl, rfl, rfl, rfl, by decide, rfl⟩ rfl dJ0_indexOf_7cf53_14 ?_
    obtain ⟨q7, e8, h⟩ := bi_e h
    refine g_callSi 17 C (As := [.ref (k 7), .int v1, .int v2, .int q5]) [] [] [] (W_J0_indexOf_7cf53 k) (fun sz => k_J1_indexOf_4cfef v1 v2 q5 q7 e8 sz) gJ0_indexOf_7cf53_J1_indexOf_4cfef rfl pd_J1_indexOf_4cfef rfl ⟨rfl, rfl, Nat.le_of_ble_eq_true rfl, Nat.le_of_ble_eq_true rfl⟩ (Nat.le_of_ble_eq_true rfl) ⟨Nat.zero_le _, Nat.zero_le _⟩ ⟨rfl, rfl, rfl, rfl, rfl, by decide, rfl⟩ rfl dJ0_indexOf_7cf53_17 ?_
    refine g_goto 20 36 C dJ0_indexOf_7cf53_20 (by decide) ?_
    refine GG.sub (lv' := []) [] rfl ?_
    exact ok_B_J0_indexOf_7cf53_36 C hA h
end

/-! J0_indexOf_0f7a4 -/
abbrev W_J0_indexOf_0f7a4 (k : Nat → ClassId) : va_W := []
def rm_J0_indexOf_0f7a4 : Room := { frames := 3, cells := 0, slots := 0, locals := 70 }
theorem pd_J0_indexOf_0f7a4 : yJ0_indexOf_0f7a4.cls = RJ0 ∧ yJ0_indexOf_0f7a4.cls ≠ "java/lang/invoke/MethodHandle" ∧ yJ0_indexOf_0f7a4.cls ≠ "java/lang/invoke/VarHandle" ∧ (parseMethodDescriptor yJ0_indexOf_0f7a4.desc).map (fun d => d.parameters.length) = some 1 := by decide +kernel
section
variable {p : Program} {l : Launch} {e : Env} {s : State} {m : MethodId} {args : Array Value} {below : List Frame} {meth : Method} {c : Code} {D : va_G} {k : Nat → ClassId} {A : Nat → Prop} {w0 : va_W} {sz : Nat}
set_option maxHeartbeats 4000000 in
set_option maxRecDepth 100000 in
theorem k_J0_indexOf_0f7a4 {l : Launch} {D : va_G} {k : Nat → ClassId} (v1 : Int32) (res : Int32) (h : f_J0_indexOf_0f7a4 v1 = some res) (sz : Nat) : Met l yJ0_indexOf_0f7a4 wsJ0_indexOf_0f7a4 rm_J0_indexOf_0f7a4 (cPre D k [.ref (k 6), .int v1] (W_J0_indexOf_0f7a4 k) sz) (cQi D (W_J0_indexOf_0f7a4 k) sz res (W_J0_indexOf_0f7a4 k)) 0 0 (va_A (W_J0_indexOf_0f7a4 k) sz) := by
  refine met_of [(0, .ref (k 6)), (1, .int v1)] (by decide) rfl rfl (Nat.le_of_ble_eq_true rfl) rfl ?_
  intro p e s m args below meth c A hA hsz C
  unfold f_J0_indexOf_0f7a4 at h
  refine g_aload_n 0 C 0 dJ0_indexOf_0f7a4_0 rfl rfl ?_
  refine g_iload_n 1 C 1 dJ0_indexOf_0f7a4_1 rfl rfl ?_
  refine g_iconst 2 C (0 : Int32) dJ0_indexOf_0f7a4_2 (by decide) ?_
  obtain ⟨q1, e2, h⟩ := bi_e h
  refine g_callTi 3 C (As := [.int v1, .int (0 : Int32)]) [] [] [] (W_J0_indexOf_0f7a4 k) rfl (fun sz => k_J0_indexOf_7cf53 v1 (0 : Int32) q1 e2 sz) gJ0_indexOf_0f7a4_J0_indexOf_7cf53 rfl pd_J0_indexOf_7cf53 rfl ⟨rfl, rfl, Nat.le_of_ble_eq_true rfl, Nat.le_of_ble_eq_true rfl⟩ (Nat.le_of_ble_eq_true rfl) ⟨Nat.zero_le _, Nat.zero_le _⟩ ⟨rfl, rfl, rfl, rfl, rfl, by decide, rfl⟩ rfl dJ0_indexOf_0f7a4_3 ?_
  obtain rfl := Option.some.inj h
  exact g_iret 6 C hA rfl dJ0_indexOf_0f7a4_6 rfl
end

/-! X9_read -/
abbrev W_X9_read (k : Nat → ClassId) (h_t : Nat) (h_t_bytes : Nat) (h_a0 : Nat) (h_a0_worths : Nat) (h_a0_ahead : Nat) (h_a0_cuts : Nat) (s_length : Int32) (s_at : Int32) (s_bytes : Nat → Int32) (s_a0_kind : Int32) (s_a0_links : Int32) (s_a0_cutCount : Int32) (s_a0_worths : Nat → Int32) (s_a0_ahead : Nat → Int32) (s_a0_cuts : Nat → Int32) : va_W := [(h_t, .inr (9, [.ref h_t_bytes, .int s_length, .int s_at])), (h_t_bytes, .inl (k 2, 60, .inl s_bytes)), (h_a0, .inr (1, [.ref h_a0_worths, .ref h_a0_ahead, .ref h_a0_cuts, .int s_a0_kind, .int s_a0_links, .int s_a0_cutCount])), (h_a0_worths, .inl (k 0, 24, .inl s_a0_worths)), (h_a0_ahead, .inl (k 0, 25, .inl s_a0_ahead)), (h_a0_cuts, .inl (k 0, 5, .inl s_a0_cuts))]
def rm_X9_read : Room := { frames := 4, cells := 0, slots := 0, locals := 91 }
theorem in_X9_read_X1 : ∀ w ∈ u_ws RX1 TX1 6, w ∈ wsX9_read := by decide +kernel
theorem in_X9_read_X9 : ∀ w ∈ u_ws RX9 TX9 3, w ∈ wsX9_read := by decide +kernel
theorem fl_X9_read_29 : Cond.fieldLink RX9 29 "LinkDays$Tape" "at" "I" ∈ wsX9_read := by decide +kernel
theorem fl_X9_read_57 : Cond.fieldLink RX9 57 "LinkDays$Chain" "links" "I" ∈ wsX9_read := by decide +kernel
theorem pd_X9_read : yX9_read.cls = RX9 ∧ yX9_read.cls ≠ "java/lang/invoke/MethodHandle" ∧ yX9_read.cls ≠ "java/lang/invoke/VarHandle" ∧ (parseMethodDescriptor yX9_read.desc).map (fun d => d.parameters.length) = some 1 := by decide +kernel
section
variable {p : Program} {l : Launch} {e : Env} {s : State} {m : MethodId} {args : Array Value} {below : List Frame} {meth : Method} {c : Code} {D : va_G} {k : Nat → ClassId} {A : Nat → Prop} {w0 : va_W} {sz : Nat}
set_option maxHeartbeats 4000000 in
set_option maxRecDepth 100000 in
theorem ok_B_X9_read_94 {h_t : Nat} {h_t_bytes : Nat} {h_a0 : Nat} {h_a0_worths : Nat} {h_a0_ahead : Nat} {h_a0_cuts : Nat} {s_length : Int32} {s_at : Int32} {s_bytes : Nat → Int32} {s_a0_kind : Int32} {s_a0_links : Int32} {s_a0_cutCount : Int32} {s_a0_worths : Nat → Int32} {s_a0_ahead : Nat → Int32} {s_a0_cuts : Nat → Int32} {res : Int32 × Int32 × Int32 × Int32 × Int32 × (Nat → Int32) × (Nat → Int32) × (Nat → Int32)} (C : CX p s m args meth c cX9_read wsX9_read RX9 4 D k A (some .int)) (hA : A = va_A w0 sz)  (h : B_X9_read_94 s_at s_a0_kind s_a0_links s_a0_cutCount s_a0_worths s_a0_ahead s_a0_cuts = some res) : GG p l e rm_X9_read s m args below meth c (MQ below (cQi D w0 sz res.1 (W_X9_read k h_t h_t_bytes h_a0 h_a0_worths h_a0_ahead h_a0_cuts s_length res.2.1 s_bytes res.2.2.1 res.2.2.2.1 res.2.2.2.2.1 res.2.2.2.2.2.1 res.2.2.2.2.2.2.1 res.2.2.2.2.2.2.2)) args s 0 0 A) D A 4 0 0 94 [(0, .ref h_t)] [] (W_X9_read k h_t h_t_bytes h_a0 h_a0_worths h_a0_ahead h_a0_cuts s_length s_at s_bytes s_a0_kind s_a0_links s_a0_cutCount s_a0_worths s_a0_ahead s_a0_cuts) := by
  unfold B_X9_read_94 at h
  refine g_aload_n 94 C 0 dX9_read_94 rfl rfl ?_
  refine g_get 95 C in_X9_read_X9 0 2 rfl rfl (by decide) fl_X9_read_29 rfl rfl dX9_read_95 ?_
  obtain ⟨q11, e12, h⟩ := bi_e h
  refine g_callSi 98 C (As := [.int s_at]) [] [0, 1, 2, 3, 4, 5] [0, 1, 2, 3, 4, 5] (W_X9_read k h_t h_t_bytes h_a0 h_a0_worths h_a0_ahead h_a0_cuts s_length s_at s_bytes s_a0_kind s_a0_links s_a0_cutCount s_a0_worths s_a0_ahead s_a0_cuts) (fun sz => k_X9_faultAt s_at q11 e12 sz) gX9_read_X9_faultAt rfl pd_X9_faultAt rfl ⟨rfl, rfl, Nat.le_of_ble_eq_true rfl, Nat.le_of_ble_eq_true rfl⟩ (Nat.le_of_ble_eq_true rfl) ⟨Nat.zero_le _, Nat.zero_le _⟩ ⟨rfl, rfl, rfl, rfl, rfl, by decide, rfl⟩ rfl dX9_read_98 ?_
  obtain rfl := Option.some.inj h
  exact g_iret 101 C hA rfl dX9_read_101 rfl
set_option maxHeartbeats 4000000 in
set_option maxRecDepth 100000 in
theorem ok_B_X9_read_81 {h_t : Nat} {h_t_bytes : Nat} {h_a0 : Nat} {h_a0_worths : Nat} {h_a0_ahead : Nat} {h_a0_cuts : Nat} {s_length : Int32} {s_at : Int32} {s_bytes : Nat → Int32} {s_a0_kind : Int32} {s_a0_links : Int32} {s_a0_cutCount : Int32} {s_a0_worths : Nat → Int32} {s_a0_ahead : Nat → Int32} {s_a0_cuts : Nat → Int32} {v2 : Int32} {res : Int32 × Int32 × Int32 × Int32 × Int32 × (Nat → Int32) × (Nat → Int32) × (Nat → Int32)} (C : CX p s m args meth c cX9_read wsX9_read RX9 4 D k A (some .int)) (hA : A = va_A w0 sz)  (h : B_X9_read_81 s_length s_at s_bytes s_a0_kind s_a0_links s_a0_cutCount s_a0_worths s_a0_ahead s_a0_cuts v2 = some res) : GG p l e rm_X9_read s m args below meth c (MQ below (cQi D w0 sz res.1 (W_X9_read k h_t h_t_bytes h_a0 h_a0_worths h_a0_ahead h_a0_cuts s_length res.2.1 s_bytes res.2.2.1 res.2.2.2.1 res.2.2.2.2.1 res.2.2.2.2.2.1 res.2.2.2.2.2.2.1 res.2.2.2.2.2.2.2)) args s 0 0 A) D A 4 0 0 81 [(0, .ref h_t), (1, .ref h_a0), (2, .int v2)] [] (W_X9_read k h_t h_t_bytes h_a0 h_a0_worths h_a0_ahead h_a0_cuts s_length s_at s_bytes s_a0_kind s_a0_links s_a0_cutCount s_a0_worths s_a0_ahead s_a0_cuts) := by
  unfold B_X9_read_81 at h
  refine g_aload_n 81 C 1 dX9_read_81 rfl rfl ?_
  refine g_get 82 C in_X9_read_X1 2 4 rfl rfl (by decide) fl_X9_read_57 rfl rfl dX9_read_82 ?_
  refine g_if_eq 85 94 C dX9_read_85 (by decide) (fun c => ?_) (fun c => ?_)
  · replace h := it_e c h
    refine GG.sub (lv' := [(0, .ref h_t)]) [0] rfl ?_
    exact ok_B_X9_read_94 C hA h
  · replace h := if_e c h
    refine g_iload_n 88 C 2 dX9_read_88 rfl rfl ?_
    refine g_bipush 89 C (47 : Int32) dX9_read_89 (by decide) ?_
    refine g_icmp_eq 91 102 C dX9_read_91 (by decide) (fun c => ?_) (fun c => ?_)
    · replace h := it_e c h
      refine g_aload_n 102 C 0 dX9_read_102 rfl rfl ?_
      refine g_dup 103 C dX9_read_103 rfl ?_
      refine g_get 104 C in_X9_read_X9 0 2 rfl rfl (by decide) fl_X9_read_29 rfl rfl dX9_read_104 ?_
      refine g_iconst 107 C (1 : Int32) dX9_read_107 (by decide) ?_
      refine g_iadd 108 C dX9_read_108 ?_
      refine g_put 109 C (W_X9_read k h_t h_t_bytes h_a0 h_a0_worths h_a0_ahead h_a0_cuts s_length (s_at + (1 : Int32)) s_bytes s_a0_kind s_a0_links s_a0_cutCount s_a0_worths s_a0_ahead s_a0_cuts) in_X9_read_X9 tyX9 tyX9_ok nmX9 0 2 rfl rfl (by decide) fl_X9_read_29 rfl rfl (tyX9_ok 2 (by decide)) rfl rfl (Nat.le_of_ble_eq_true rfl) rfl dX9_read_109 ?_
      refine g_aload_n 112 C 0 dX9_read_112 rfl rfl ?_
      refine g_aload_n 113 C 1 dX9_read_113 rfl rfl ?_
      obtain ⟨q13, e14, h⟩ := bi_e h
      refine g_callVi 114 C (As := [.ref h_a0]) [0, 1, 2, 5] [3, 4] [2, 3, 4, 0, 1, 5] (W_X9_read k h_t h_t_bytes h_a0 h_a0_worths h_a0_ahead h_a0_cuts s_length q13.2.1 s_bytes s_a0_kind s_a0_links q13.2.2.1 s_a0_worths s_a0_ahead q13.2.2.2) 0 (fun sz => k_X9_readCuts h_t h_t_bytes h_a0 h_a0_cuts h_a0_worths h_a0_ahead s_length (s_at + (1 : Int32)) s_bytes s_a0_kind s_a0_links s_a0_cutCount s_a0_cuts q13 e14 sz) gX9_read_X9_readCuts rfl pd_X9_readCuts rfl rfl rfl ⟨rfl, rfl, Nat.le_of_ble_eq_true rfl, Nat.le_of_ble_eq_true rfl⟩ (Nat.le_of_ble_eq_true rfl) ⟨Nat.zero_le _, Nat.zero_le _⟩ ⟨rfl, rfl, rfl, rfl, rfl, by decide, rfl⟩ rfl dX9_read_114 ?_
      obtain rfl := Option.some.inj h
      exact g_iret 117 C hA rfl dX9_read_117 rfl
    · replace h := if_e c h
      refine GG.sub (lv' := [(0, .ref h_t)]) [0] rfl ?_
      exact ok_B_X9_read_94 C hA h
set_option maxHeartbeats 4000000 in
set_option maxRecDepth 100000 in
theorem ok_B_X9_read_26 {h_t : Nat} {h_t_bytes : Nat} {h_a0 : Nat} {h_a0_worths : Nat} {h_a0_ahead : Nat} {h_a0_cuts : Nat} {s_length : Int32} {s_at : Int32} {s_bytes : Nat → Int32} {s_a0_kind : Int32} {s_a0_links : Int32} {s_a0_cutCount : Int32} {s_a0_worths : Nat → Int32} {s_a0_ahead : Nat → Int32} {s_a0_cuts : Nat → Int32} {x0 : Int32} {res : Int32 × Int32 × Int32 × Int32 × Int32 × (Nat → Int32) × (Nat → Int32) × (Nat → Int32)} (C : CX p s m args meth c cX9_read wsX9_read RX9 4 D k A (some .int)) (hA : A = va_A w0 sz)  (h : B_X9_read_26 s_length s_at s_bytes s_a0_kind s_a0_links s_a0_cutCount s_a0_worths s_a0_ahead s_a0_cuts x0 = some res) : GG p l e rm_X9_read s m args below meth c (MQ below (cQi D w0 sz res.1 (W_X9_read k h_t h_t_bytes h_a0 h_a0_worths h_a0_ahead h_a0_cuts s_length res.2.1 s_bytes res.2.2.1 res.2.2.2.1 res.2.2.2.2.1 res.2.2.2.2.2.1 res.2.2.2.2.2.2.1 res.2.2.2.2.2.2.2)) args s 0 0 A) D A 4 0 0 26 [(0, .ref h_t), (1, .ref h_a0)] [.int x0] (W_X9_read k h_t h_t_bytes h_a0 h_a0_worths h_a0_ahead h_a0_cuts s_length s_at s_bytes s_a0_kind s_a0_links s_a0_cutCount s_a0_worths s_a0_ahead s_a0_cuts) := by
  unfold B_X9_read_26 at h
  refine g_istore_n 26 C [(3, .int x0), (0, .ref h_t), (1, .ref h_a0)] dX9_read_26 rfl (by decide) rfl ?_
  refine g_iload_n 27 C 0 dX9_read_27 rfl rfl ?_
  refine g_if_ge 28 39 C dX9_read_28 (by decide) (fun c => ?_) (fun c => ?_)
  · replace h := it_e c h
    refine g_aload_n 39 C 1 dX9_read_39 rfl rfl ?_
    refine g_dup 40 C dX9_read_40 rfl ?_
    refine g_get 41 C in_X9_read_X9 0 2 rfl rfl (by decide) fl_X9_read_29 rfl rfl dX9_read_41 ?_
    refine g_iconst 44 C (1 : Int32) dX9_read_44 (by decide) ?_
    refine g_iadd 45 C dX9_read_45 ?_
    refine g_put 46 C (W_X9_read k h_t h_t_bytes h_a0 h_a0_worths h_a0_ahead h_a0_cuts s_length (s_at + (1 : Int32)) s_bytes s_a0_kind s_a0_links s_a0_cutCount s_a0_worths s_a0_ahead s_a0_cuts) in_X9_read_X9 tyX9 tyX9_ok nmX9 0 2 rfl rfl (by decide) fl_X9_read_29 rfl rfl (tyX9_ok 2 (by decide)) rfl rfl (Nat.le_of_ble_eq_true rfl) rfl dX9_read_46 ?_
    refine g_aload_n 49 C 2 dX9_read_49 rfl rfl ?_
    refine g_iload_n 50 C 0 dX9_read_50 rfl rfl ?_
    obtain ⟨q5, e6, h⟩ := bi_e h
    refine g_callVv 51 C (As := [.int x0]) [2] [0, 1, 3, 4, 5] [0, 1, 5, 2, 3, 4] (W_X9_read k h_t h_t_bytes h_a0 h_a0_worths h_a0_ahead h_a0_cuts s_length (s_at + (1 : Int32)) s_bytes q5.1 q5.2.1 q5.2.2 s_a0_worths s_a0_ahead s_a0_cuts) 2 (fun sz => k_X1_begin h_a0 h_a0_worths h_a0_ahead h_a0_cuts s_a0_kind s_a0_links s_a0_cutCount x0 q5 e6 sz) gX9_read_X1_begin rfl pd_X1_begin rfl rfl rfl ⟨rfl, rfl, Nat.le_of_ble_eq_true rfl, Nat.le_of_ble_eq_true rfl⟩ (Nat.le_of_ble_eq_true rfl) ⟨Nat.zero_le _, Nat.zero_le _⟩ ⟨rfl, rfl, rfl, rfl, rfl, by decide, rfl⟩ rfl dX9_read_51 ?_
    refine g_aload_n 54 C 1 dX9_read_54 rfl rfl ?_
    refine g_aload_n 55 C 2 dX9_read_55 rfl rfl ?_
    obtain ⟨q7, e8, h⟩ := bi_e h
    refine g_callVv 56 C (As := [.ref h_a0]) [0, 1, 2, 3, 4] [5] [1, 2, 3, 4, 5, 0] (W_X9_read k h_t h_t_bytes h_a0 h_a0_worths h_a0_ahead h_a0_cuts s_length q7.1 s_bytes q5.1 q7.2.1 q5.2.2 q7.2.2.1 q7.2.2.2 s_a0_cuts) 0 (fun sz => k_X9_readWorths h_t h_t_bytes h_a0 h_a0_worths h_a0_ahead h_a0_cuts s_length (s_at + (1 : Int32)) s_bytes q5.1 q5.2.1 q5.2.2 s_a0_worths s_a0_ahead q7 e8 sz) gX9_read_X9_readWorths rfl pd_X9_readWorths rfl rfl rfl ⟨rfl, rfl, Nat.le_of_ble_eq_true rfl, Nat.le_of_ble_eq_true rfl⟩ (Nat.le_of_ble_eq_true rfl) ⟨Nat.zero_le _, Nat.zero_le _⟩ ⟨rfl, rfl, rfl, rfl, rfl, by decide, rfl⟩ rfl dX9_read_56 ?_
    refine g_aload_n 59 C 1 dX9_read_59 rfl rfl ?_
    obtain ⟨q9, e10, h⟩ := bi_e h
    refine g_callVi 60 C (As := []) [0, 1] [2, 3, 4, 5] [4, 5, 0, 1, 2, 3] (W_X9_read k h_t h_t_bytes h_a0 h_a0_worths h_a0_ahead h_a0_cuts s_length q9.2 s_bytes q5.1 q7.2.1 q5.2.2 q7.2.2.1 q7.2.2.2 s_a0_cuts) 0 (fun sz => k_X9_sight h_t h_t_bytes s_length q7.1 s_bytes q9 e10 sz) gX9_read_X9_sight rfl pd_X9_sight rfl rfl rfl ⟨rfl, rfl, Nat.le_of_ble_eq_true rfl, Nat.le_of_ble_eq_true rfl⟩ (Nat.le_of_ble_eq_true rfl) ⟨Nat.zero_le _, Nat.zero_le _⟩ ⟨rfl, rfl, rfl, rfl, rfl, by decide, rfl⟩ rfl dX9_read_60 ?_
    refine g_istore_n 63 C [(2, .int q9.1), (3, .int x0), (0, .ref h_t), (1, .ref h_a0)] dX9_read_63 rfl (by decide) rfl ?_
    refine g_aload_n 64 C 3 dX9_read_64 rfl rfl ?_
    refine g_get 65 C in_X9_read_X1 2 4 rfl rfl (by decide) fl_X9_read_57 rfl rfl dX9_read_65 ?_
    refine g_if_le 68 81 C dX9_read_68 (by decide) (fun c => ?_) (fun c => ?_)
    · replace h := it_e c h
      refine GG.sub (lv' := [(0, .ref h_t), (1, .ref h_a0), (2, .int q9.1)]) [2, 3, 0] rfl ?_
      exact ok_B_X9_read_81 C hA h
    · replace h := if_e c h
      refine g_iload_n 71 C 0 dX9_read_71 rfl rfl ?_
      refine g_iconst 72 C (-1 : Int32) dX9_read_72 (by decide) ?_
      refine g_icmp_ne 73 81 C dX9_read_73 (by decide) (fun c => ?_) (fun c => ?_)
      · replace h := if_e c h
        refine GG.sub (lv' := [(0, .ref h_t), (1, .ref h_a0), (2, .int q9.1)]) [2, 3, 0] rfl ?_
        exact ok_B_X9_read_81 C hA h
      · replace h := it_e c h
        refine g_aload_n 76 C 3 dX9_read_76 rfl rfl ?_
        refine g_get 77 C in_X9_read_X1 2 4 rfl rfl (by decide) fl_X9_read_57 rfl rfl dX9_read_77 ?_
        obtain rfl := Option.some.inj h
        exact g_iret 80 C hA rfl dX9_read_80 rfl
  · replace h := if_e c h
    refine g_aload_n 31 C 1 dX9_read_31 rfl rfl ?_
    refine g_get 32 C in_X9_read_X9 0 2 rfl rfl (by decide) fl_X9_read_29 rfl rfl dX9_read_32 ?_
    obtain ⟨q15, e16, h⟩ := bi_e h
    refine g_callSi 35 C (As := [.int s_at]) [] [0, 1, 2, 3, 4, 5] [0, 1, 2, 3, 4, 5] (W_X9_read k h_t h_t_bytes h_a0 h_a0_worths h_a0_ahead h_a0_cuts s_length s_at s_bytes s_a0_kind s_a0_links s_a0_cutCount s_a0_worths s_a0_ahead s_a0_cuts) (fun sz => k_X9_faultAt s_at q15 e16 sz) gX9_read_X9_faultAt rfl pd_X9_faultAt rfl ⟨rfl, rfl, Nat.le_of_ble_eq_true rfl, Nat.le_of_ble_eq_true rfl⟩ (Nat.le_of_ble_eq_true rfl) ⟨Nat.zero_le _, Nat.zero_le _⟩ ⟨rfl, rfl, rfl, rfl, rfl, by decide, rfl⟩ rfl dX9_read_35 ?_
    obtain rfl := Option.some.inj h
    exact g_iret 38 C hA rfl dX9_read_38 rfl
set_option maxHeartbeats 4000000 in
set_option maxRecDepth 100000 in
theorem k_X9_read {l : Launch} {D : va_G} {k : Nat → ClassId} (h_t : Nat) (h_t_bytes : Nat) (h_a0 : Nat) (h_a0_worths : Nat) (h_a0_ahead : Nat) (h_a0_cuts : Nat) (s_length : Int32) (s_at : Int32) (s_bytes : Nat → Int32) (s_a0_kind : Int32) (s_a0_links : Int32) (s_a0_cutCount : Int32) (s_a0_worths : Nat → Int32) (s_a0_ahead : Nat → Int32) (s_a0_cuts : Nat → Int32) (res : Int32 × Int32 × Int32 × Int32 × Int32 × (Nat → Int32) × (Nat → Int32) × (Nat → Int32)) (h : f_X9_read s_length s_bytes s_a0_kind s_a0_links s_a0_cutCount s_a0_worths s_a0_ahead s_a0_cuts = some res) (sz : Nat) : Met l yX9_read wsX9_read rm_X9_read (cPre D k [.ref h_t, .ref h_a0] (W_X9_read k h_t h_t_bytes h_a0 h_a0_worths h_a0_ahead h_a0_cuts s_length s_at s_bytes s_a0_kind s_a0_links s_a0_cutCount s_a0_worths s_a0_ahead s_a0_cuts) sz) (cQi D (W_X9_read k h_t h_t_bytes h_a0 h_a0_worths h_a0_ahead h_a0_cuts s_length s_at s_bytes s_a0_kind s_a0_links s_a0_cutCount s_a0_worths s_a0_ahead s_a0_cuts) sz res.1 (W_X9_read k h_t h_t_bytes h_a0 h_a0_worths h_a0_ahead h_a0_cuts s_length res.2.1 s_bytes res.2.2.1 res.2.2.2.1 res.2.2.2.2.1 res.2.2.2.2.2.1 res.2.2.2.2.2.2.1 res.2.2.2.2.2.2.2)) 0 0 (va_A (W_X9_read k h_t h_t_bytes h_a0 h_a0_worths h_a0_ahead h_a0_cuts s_length s_at s_bytes s_a0_kind s_a0_links s_a0_cutCount s_a0_worths s_a0_ahead s_a0_cuts) sz) := by
  refine met_of [(0, .ref h_t), (1, .ref h_a0)] (by decide) rfl rfl (Nat.le_of_ble_eq_true rfl) rfl ?_
  intro p e s m args below meth c A hA hsz C
  unfold f_X9_read at h
  refine g_aload_n 0 C 0 dX9_read_0 rfl rfl ?_
  refine g_iconst 1 C (0 : Int32) dX9_read_1 (by decide) ?_
  refine g_put 2 C (W_X9_read k h_t h_t_bytes h_a0 h_a0_worths h_a0_ahead h_a0_cuts s_length (0 : Int32) s_bytes s_a0_kind s_a0_links s_a0_cutCount s_a0_worths s_a0_ahead s_a0_cuts) in_X9_read_X9 tyX9 tyX9_ok nmX9 0 2 rfl rfl (by decide) fl_X9_read_29 rfl rfl (tyX9_ok 2 (by decide)) rfl rfl (Nat.le_of_ble_eq_true rfl) rfl dX9_read_2 ?_
  refine g_aload_n 5 C 0 dX9_read_5 rfl rfl ?_
  obtain ⟨q1, e2, h⟩ := bi_e h
  refine g_callVi 6 C (As := []) [0, 1] [2, 3, 4, 5] [4, 5, 0, 1, 2, 3] (W_X9_read k h_t h_t_bytes h_a0 h_a0_worths h_a0_ahead h_a0_cuts s_length q1.2 s_bytes s_a0_kind s_a0_links s_a0_cutCount s_a0_worths s_a0_ahead s_a0_cuts) 0 (fun sz => k_X9_sight h_t h_t_bytes s_length (0 : Int32) s_bytes q1 e2 sz) gX9_read_X9_sight rfl pd_X9_sight rfl rfl rfl ⟨rfl, rfl, Nat.le_of_ble_eq_true rfl, Nat.le_of_ble_eq_true rfl⟩ (Nat.le_of_ble_eq_true rfl) ⟨Nat.zero_le _, Nat.zero_le _⟩ ⟨rfl, rfl, rfl, rfl, rfl, by decide, rfl⟩ rfl dX9_read_6 ?_
  refine g_istore_n 9 C [(2, .int q1.1), (0, .ref h_t), (1, .ref h_a0)] dX9_read_9 rfl (by decide) rfl ?_
  refine g_iload_n 10 C 0 dX9_read_10 rfl rfl ?_
  refine g_iconst 11 C (-1 : Int32) dX9_read_11 (by decide) ?_
  refine g_icmp_ne 12 19 C dX9_read_12 (by decide) (fun c => ?_) (fun c => ?_)
  · replace h := if_e c h
    refine g_orpbS 19 C dX9_read_19 ?_
    refine g_iload_n 21 C 0 dX9_read_21 rfl rfl ?_
    refine g_i2c 22 C dX9_read_22 ?_
    obtain ⟨q3, e4, h⟩ := bi_e h
    refine g_callTi 23 C (As := [.int ((q1.1.toUInt32 % 65536).toInt32)]) [] [0, 1, 2, 3, 4, 5] [0, 1, 2, 3, 4, 5] (W_X9_read k h_t h_t_bytes h_a0 h_a0_worths h_a0_ahead h_a0_cuts s_length q1.2 s_bytes s_a0_kind s_a0_links s_a0_cutCount s_a0_worths s_a0_ahead s_a0_cuts) rfl (fun sz => k_J0_indexOf_0f7a4 ((q1.1.toUInt32 % 65536).toInt32) q3 e4 sz) gX9_read_J0_indexOf_0f7a4 rfl pd_J0_indexOf_0f7a4 rfl ⟨rfl, rfl, Nat.le_of_ble_eq_true rfl, Nat.le_of_ble_eq_true rfl⟩ (Nat.le_of_ble_eq_true rfl) ⟨Nat.zero_le _, Nat.zero_le _⟩ ⟨rfl, rfl, rfl, rfl, rfl, by decide, rfl⟩ rfl dX9_read_23 ?_
    refine GG.sub (lv' := [(0, .ref h_t), (1, .ref h_a0)]) [1, 2] rfl ?_
    exact ok_B_X9_read_26 C hA h
  · replace h := it_e c h
    refine g_iconst 15 C (-1 : Int32) dX9_read_15 (by decide) ?_
    refine g_goto 16 26 C dX9_read_16 (by decide) ?_
    refine GG.sub (lv' := [(0, .ref h_t), (1, .ref h_a0)]) [1, 2] rfl ?_
    exact ok_B_X9_read_26 C hA h
end
