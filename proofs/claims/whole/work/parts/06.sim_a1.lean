/-! X0_forget -/
abbrev W_X0_forget (k : Nat → ClassId) (h_t : Nat) (h_t_known : Nat) (h_t_far : Nat) (h_t_rows : Nat) (s_known : Nat → Int32) : va_W := [(h_t, .inr (0, [.ref h_t_known, .ref h_t_far, .ref h_t_rows])), (h_t_known, .inl (k 3, 5, .inl s_known))]
def rm_X0_forget : Room := { frames := 0, cells := 0, slots := 0, locals := 0 }
theorem in_X0_forget_X0 : ∀ w ∈ u_ws RX0 TX0 3, w ∈ wsX0_forget := by decide +kernel
theorem fl_X0_forget_9 : Cond.fieldLink RX0 9 "LinkDays$Best" "known" "[Z" ∈ wsX0_forget := by decide +kernel
theorem pd_X0_forget : yX0_forget.cls = RX0 ∧ yX0_forget.cls ≠ "java/lang/invoke/MethodHandle" ∧ yX0_forget.cls ≠ "java/lang/invoke/VarHandle" ∧ (parseMethodDescriptor yX0_forget.desc).map (fun d => d.parameters.length) = some 0 := by decide +kernel
section
variable {p : Program} {l : Launch} {e : Env} {s : State} {m : MethodId} {args : Array Value} {below : List Frame} {meth : Method} {c : Code} {D : va_G} {k : Nat → ClassId} {A : Nat → Prop} {w0 : va_W} {sz : Nat}
set_option maxHeartbeats 4000000 in
set_option maxRecDepth 100000 in
theorem ok_L_X0_forget_2 {h_t : Nat} {h_t_known : Nat} {h_t_far : Nat} {h_t_rows : Nat} {res : (Nat → Int32)} (C : CX p s m args meth c cX0_forget wsX0_forget RX0 2 D k A none) (hA : A = va_A w0 sz) {kx : Int32 × (Nat → Int32) → Option ((Nat → Int32))} (hx : ∀ t : Int32 × (Nat → Int32), kx t = some res → GG p l e rm_X0_forget s m args below meth c (MQ below (cQv D w0 sz (W_X0_forget k h_t h_t_known h_t_far h_t_rows res)) args s 0 0 A) D A 2 0 0 20 [] [] (W_X0_forget k h_t h_t_known h_t_far h_t_rows t.2)) : ∀ (n : Nat) (t : Int32 × (Nat → Int32)), L_X0_forget_2 kx n t = some res → GG p l e rm_X0_forget s m args below meth c (MQ below (cQv D w0 sz (W_X0_forget k h_t h_t_known h_t_far h_t_rows res)) args s 0 0 A) D A 2 0 0 2 [(0, .ref h_t), (1, .int t.1)] [] (W_X0_forget k h_t h_t_known h_t_far h_t_rows t.2) := by
  intro n
  induction n with
  | zero => intro t h; cases h
  | succ n ih =>
    intro t h
    obtain ⟨v1, s_known⟩ := t
    replace h : LB_X0_forget_2 kx (L_X0_forget_2 kx n) v1 s_known = some res := h
    have hr := ih
    unfold LB_X0_forget_2 at h
    refine g_iload_n 2 C 1 dX0_forget_2 rfl rfl ?_
    refine g_iconst 3 C (4 : Int32) dX0_forget_3 (by decide) ?_
    refine g_icmp_gt 4 20 C dX0_forget_4 (by decide) (fun c => ?_) (fun c => ?_)
    · replace h := it_e c h
      refine GG.sub (lv' := []) [] rfl ?_
      exact hx (v1, s_known) h
    · replace h := if_e c h
      refine g_aload_n 7 C 0 dX0_forget_7 rfl rfl ?_
      refine g_get 8 C in_X0_forget_X0 0 0 rfl rfl (by decide) fl_X0_forget_9 rfl rfl dX0_forget_8 ?_
      refine g_iload_n 11 C 1 dX0_forget_11 rfl rfl ?_
      refine g_iconst 12 C (0 : Int32) dX0_forget_12 (by decide) ?_
      obtain ⟨o1, h⟩ := ob_e h
      refine g_zast 13 C (W_X0_forget k h_t h_t_known h_t_far h_t_rows (upd s_known v1.toNatClampNeg (vp_nar .boolean (0 : Int32)))) 1 rfl o1 rfl dX0_forget_13 ?_
      refine g_iinc 14 C 1 (1 : Int32) [(1, .int (v1 + (1 : Int32))), (0, .ref h_t)] dX0_forget_14 rfl (by decide) (by decide) rfl ?_
      refine g_goto 17 2 C dX0_forget_17 (by decide) ?_
      refine GG.sub (lv' := [(0, .ref h_t), (1, .int (v1 + (1 : Int32)))]) [1, 0] rfl ?_
      exact hr ((v1 + (1 : Int32)), (upd s_known v1.toNatClampNeg (vp_nar .boolean (0 : Int32)))) h
set_option maxHeartbeats 4000000 in
set_option maxRecDepth 100000 in
theorem ok_B_X0_forget_20 {h_t : Nat} {h_t_known : Nat} {h_t_far : Nat} {h_t_rows : Nat} {s_known : Nat → Int32} {res : (Nat → Int32)} (C : CX p s m args meth c cX0_forget wsX0_forget RX0 2 D k A none) (hA : A = va_A w0 sz)  (h : B_X0_forget_20 s_known = some res) : GG p l e rm_X0_forget s m args below meth c (MQ below (cQv D w0 sz (W_X0_forget k h_t h_t_known h_t_far h_t_rows res)) args s 0 0 A) D A 2 0 0 20 [] [] (W_X0_forget k h_t h_t_known h_t_far h_t_rows s_known) := by
  unfold B_X0_forget_20 at h
  obtain rfl := Option.some.inj h
  exact g_vret 20 C hA dX0_forget_20 rfl
set_option maxHeartbeats 4000000 in
set_option maxRecDepth 100000 in
theorem k_X0_forget {l : Launch} {D : va_G} {k : Nat → ClassId} (h_t : Nat) (h_t_known : Nat) (h_t_far : Nat) (h_t_rows : Nat) (s_known : Nat → Int32) (res : (Nat → Int32)) (h : f_X0_forget s_known = some res) (sz : Nat) : Met l yX0_forget wsX0_forget rm_X0_forget (cPre D k [.ref h_t] (W_X0_forget k h_t h_t_known h_t_far h_t_rows s_known) sz) (cQv D (W_X0_forget k h_t h_t_known h_t_far h_t_rows s_known) sz (W_X0_forget k h_t h_t_known h_t_far h_t_rows res)) 0 0 (va_A (W_X0_forget k h_t h_t_known h_t_far h_t_rows s_known) sz) := by
  refine met_of [(0, .ref h_t)] (by decide) rfl rfl (Nat.le_of_ble_eq_true rfl) rfl ?_
  intro p e s m args below meth c A hA hsz C
  unfold f_X0_forget at h
  refine g_iconst 0 C (0 : Int32) dX0_forget_0 (by decide) ?_
  refine g_istore_n 1 C [(1, .int (0 : Int32)), (0, .ref h_t)] dX0_forget_1 rfl (by decide) rfl ?_
  refine GG.sub (lv' := [(0, .ref h_t), (1, .int (0 : Int32))]) [1, 0] rfl ?_
  exact ok_L_X0_forget_2 C hA (fun t h => by
    refine GG.sub (lv' := []) [] rfl ?_
    exact ok_B_X0_forget_20 C hA h) FUEL ((0 : Int32), s_known) h
end

/-! X0_offer -/
abbrev W_X0_offer (k : Nat → ClassId) (h_t : Nat) (h_t_far : Nat) (h_t_rows : Nat) (g_t_rows : Nat → Nat) (h_a2 : Nat) (h_t_known : Nat) (z2 : Nat) (s_far : Nat → Int32) (s_rows : Nat → Nat → Int32) (s_a2 : Nat → Int32) : va_W := [(h_t, .inr (0, [.ref h_t_known, .ref h_t_far, .ref h_t_rows])), (h_t_far, .inl (k 0, 5, .inl s_far)), (h_t_rows, .inl (k 5, 5, .inr (.inr (.inr (.inr (fun i => if i < 5 then some (g_t_rows i) else none)))))), ((g_t_rows 0), .inl (k 0, 4, .inl (s_rows 0))), ((g_t_rows 1), .inl (k 0, 4, .inl (s_rows 1))), ((g_t_rows 2), .inl (k 0, 4, .inl (s_rows 2))), ((g_t_rows 3), .inl (k 0, 4, .inl (s_rows 3))), ((g_t_rows 4), .inl (k 0, 4, .inl (s_rows 4))), (h_a2, .inl (k 0, z2, .inl s_a2))]
def rm_X0_offer : Room := { frames := 1, cells := 0, slots := 0, locals := 40 }
theorem in_X0_offer_X0 : ∀ w ∈ u_ws RX0 TX0 3, w ∈ wsX0_offer := by decide +kernel
theorem cl_X0_offer_24 : Cond.methodLink RX0 24 arraycopyName ∈ wsX0_offer := by decide +kernel
theorem fl_X0_offer_15 : Cond.fieldLink RX0 15 "LinkDays$Best" "far" "[I" ∈ wsX0_offer := by decide +kernel
theorem fl_X0_offer_21 : Cond.fieldLink RX0 21 "LinkDays$Best" "rows" "[[I" ∈ wsX0_offer := by decide +kernel
theorem init_X0_offer_copy : Cond.initialized "java/lang/System" ∈ wsX0_offer := by decide +kernel
theorem native_X0_offer_copy : Cond.native arraycopyName ∈ wsX0_offer := by decide +kernel
theorem static_X0_offer_copy : Cond.static arraycopyName ∈ wsX0_offer := by decide +kernel
theorem pd_X0_offer : yX0_offer.cls = RX0 ∧ yX0_offer.cls ≠ "java/lang/invoke/MethodHandle" ∧ yX0_offer.cls ≠ "java/lang/invoke/VarHandle" ∧ (parseMethodDescriptor yX0_offer.desc).map (fun d => d.parameters.length) = some 3 := by decide +kernel
section
variable {p : Program} {l : Launch} {e : Env} {s : State} {m : MethodId} {args : Array Value} {below : List Frame} {meth : Method} {c : Code} {D : va_G} {k : Nat → ClassId} {A : Nat → Prop} {w0 : va_W} {sz : Nat}
set_option maxHeartbeats 4000000 in
set_option maxRecDepth 100000 in
theorem ok_B_X0_offer_30 {h_t : Nat} {h_t_far : Nat} {h_t_rows : Nat} {g_t_rows : Nat → Nat} {h_a2 : Nat} {h_t_known : Nat} {z2 : Nat} {s_far : Nat → Int32} {s_rows : Nat → Nat → Int32} {s_a2 : Nat → Int32} {res : (Nat → Int32) × (Nat → Nat → Int32)} (C : CX p s m args meth c cX0_offer wsX0_offer RX0 4 D k A none) (hA : A = va_A w0 sz)  (h : B_X0_offer_30 s_far s_rows = some res) : GG p l e rm_X0_offer s m args below meth c (MQ below (cQv D w0 sz (W_X0_offer k h_t h_t_far h_t_rows g_t_rows h_a2 h_t_known z2 res.1 res.2 s_a2)) args s 0 0 A) D A 4 0 0 30 [] [] (W_X0_offer k h_t h_t_far h_t_rows g_t_rows h_a2 h_t_known z2 s_far s_rows s_a2) := by
  unfold B_X0_offer_30 at h
  obtain rfl := Option.some.inj h
  exact g_vret 30 C hA dX0_offer_30 rfl
set_option maxHeartbeats 4000000 in
set_option maxRecDepth 100000 in
theorem k_X0_offer {l : Launch} {D : va_G} {k : Nat → ClassId} (h_t : Nat) (h_t_far : Nat) (h_t_rows : Nat) (g_t_rows : Nat → Nat) (h_a2 : Nat) (h_t_known : Nat) (z2 : Nat) (s_far : Nat → Int32) (s_rows : Nat → Nat → Int32) (s_a2 : Nat → Int32) (v1 : Int32) (v2 : Int32) (res : (Nat → Int32) × (Nat → Nat → Int32)) (h : f_X0_offer z2 s_far s_rows s_a2 v1 v2 = some res) (sz : Nat) : Met l yX0_offer wsX0_offer rm_X0_offer (cPre D k [.ref h_t, .int v1, .int v2, .ref h_a2] (W_X0_offer k h_t h_t_far h_t_rows g_t_rows h_a2 h_t_known z2 s_far s_rows s_a2) sz) (cQv D (W_X0_offer k h_t h_t_far h_t_rows g_t_rows h_a2 h_t_known z2 s_far s_rows s_a2) sz (W_X0_offer k h_t h_t_far h_t_rows g_t_rows h_a2 h_t_known z2 res.1 res.2 s_a2)) 0 0 (va_A (W_X0_offer k h_t h_t_far h_t_rows g_t_rows h_a2 h_t_known z2 s_far s_rows s_a2) sz) := by
  refine met_of [(0, .ref h_t), (1, .int v1), (2, .int v2), (3, .ref h_a2)] (by decide) rfl rfl (Nat.le_of_ble_eq_true rfl) rfl ?_
  intro p e s m args below meth c A hA hsz C
  unfold f_X0_offer at h
  refine g_iload_n 0 C 2 dX0_offer_0 rfl rfl ?_
  refine g_aload_n 1 C 0 dX0_offer_1 rfl rfl ?_
  refine g_get 2 C in_X0_offer_X0 0 1 rfl rfl (by decide) fl_X0_offer_15 rfl rfl dX0_offer_2 ?_
  refine g_iload_n 5 C 1 dX0_offer_5 rfl rfl ?_
  obtain ⟨o1, h⟩ := ob_e h
  refine g_iald 6 C 1 rfl o1 dX0_offer_6 ?_
  refine g_icmp_le 7 30 C dX0_offer_7 (by decide) (fun c => ?_) (fun c => ?_)
  · replace h := it_e c h
    refine GG.sub (lv' := []) [] rfl ?_
    exact ok_B_X0_offer_30 C hA h
  · replace h := if_e c h
    refine g_aload_n 10 C 0 dX0_offer_10 rfl rfl ?_
    refine g_get 11 C in_X0_offer_X0 0 1 rfl rfl (by decide) fl_X0_offer_15 rfl rfl dX0_offer_11 ?_
    refine g_iload_n 14 C 1 dX0_offer_14 rfl rfl ?_
    refine g_iload_n 15 C 2 dX0_offer_15 rfl rfl ?_
    obtain ⟨o2, h⟩ := ob_e h
    refine g_iast 16 C (W_X0_offer k h_t h_t_far h_t_rows g_t_rows h_a2 h_t_known z2 (upd s_far v1.toNatClampNeg v2) s_rows s_a2) 1 rfl o2 rfl dX0_offer_16 ?_
    refine g_aload_n 17 C 3 dX0_offer_17 rfl rfl ?_
    refine g_iconst 18 C (0 : Int32) dX0_offer_18 (by decide) ?_
    refine g_aload_n 19 C 0 dX0_offer_19 rfl rfl ?_
    refine g_get 20 C in_X0_offer_X0 0 2 rfl rfl (by decide) fl_X0_offer_21 rfl rfl dX0_offer_20 ?_
    refine g_iload_n 23 C 1 dX0_offer_23 rfl rfl ?_
    obtain ⟨o3, h⟩ := ob_e h
    refine g_aaldA 24 C 2 rfl o3 dX0_offer_24 ?_
    refine g_iconst 25 C (0 : Int32) dX0_offer_25 (by decide) ?_
    refine g_iload_n 26 C 1 dX0_offer_26 rfl rfl ?_
    obtain ⟨o4, h⟩ := ob_e h
    refine g_copyI 27 C (W_X0_offer k h_t h_t_far h_t_rows g_t_rows h_a2 h_t_known z2 (upd s_far v1.toNatClampNeg v2) (va_up s_rows v1.toNatClampNeg (va_cpy s_a2 (s_rows v1.toNatClampNeg) (0 : Int32).toNatClampNeg (0 : Int32).toNatClampNeg v1.toNatClampNeg)) s_a2) 8 (3 + v1.toNatClampNeg) cl_X0_offer_24 native_X0_offer_copy static_X0_offer_copy init_X0_offer_copy rfl (co_5 (P := fun j => (W_X0_offer k h_t h_t_far h_t_rows g_t_rows h_a2 h_t_known z2 (upd s_far v1.toNatClampNeg v2) s_rows s_a2)[3 + j]? = some ((g_t_rows j), .inl (k 0, 4, .inl (s_rows j)))) rfl rfl rfl rfl rfl (inb_lt o3)) o4 (Nat.le_of_ble_eq_true rfl) (by decide) (co_5 (P := fun j => (W_X0_offer k h_t h_t_far h_t_rows g_t_rows h_a2 h_t_known z2 (upd s_far v1.toNatClampNeg v2) s_rows s_a2).set (3 + j) ((g_t_rows j), .inl (k 0, 4, .inl (va_cpy s_a2 (s_rows j) (0 : Int32).toNatClampNeg (0 : Int32).toNatClampNeg v1.toNatClampNeg))) = W_X0_offer k h_t h_t_far h_t_rows g_t_rows h_a2 h_t_known z2 (upd s_far v1.toNatClampNeg v2) (va_up s_rows j (va_cpy s_a2 (s_rows j) (0 : Int32).toNatClampNeg (0 : Int32).toNatClampNeg v1.toNatClampNeg)) s_a2) rfl rfl rfl rfl rfl (inb_lt o3)) dX0_offer_27 ?_
    refine GG.sub (lv' := []) [] rfl ?_
    exact ok_B_X0_offer_30 C hA h
end

/-! X1_begin -/
abbrev W_X1_begin (k : Nat → ClassId) (h_t : Nat) (h_t_worths : Nat) (h_t_ahead : Nat) (h_t_cuts : Nat) (s_kind : Int32) (s_links : Int32) (s_cutCount : Int32) : va_W := [(h_t, .inr (1, [.ref h_t_worths, .ref h_t_ahead, .ref h_t_cuts, .int s_kind, .int s_links, .int s_cutCount]))]
def rm_X1_begin : Room := { frames := 0, cells := 0, slots := 0, locals := 0 }
theorem in_X1_begin_X1 : ∀ w ∈ u_ws RX1 TX1 6, w ∈ wsX1_begin := by decide +kernel
theorem fl_X1_begin_21 : Cond.fieldLink RX1 21 "LinkDays$Chain" "kind" "I" ∈ wsX1_begin := by decide +kernel
theorem fl_X1_begin_29 : Cond.fieldLink RX1 29 "LinkDays$Chain" "links" "I" ∈ wsX1_begin := by decide +kernel
theorem fl_X1_begin_32 : Cond.fieldLink RX1 32 "LinkDays$Chain" "cutCount" "I" ∈ wsX1_begin := by decide +kernel
theorem pd_X1_begin : yX1_begin.cls = RX1 ∧ yX1_begin.cls ≠ "java/lang/invoke/MethodHandle" ∧ yX1_begin.cls ≠ "java/lang/invoke/VarHandle" ∧ (parseMethodDescriptor yX1_begin.desc).map (fun d => d.parameters.length) = some 1 := by decide +kernel
section
variable {p : Program} {l : Launch} {e : Env} {s : State} {m : MethodId} {args : Array Value} {below : List Frame} {meth : Method} {c : Code} {D : va_G} {k : Nat → ClassId} {A : Nat → Prop} {w0 : va_W} {sz : Nat}
set_option maxHeartbeats 4000000 in
set_option maxRecDepth 100000 in
theorem k_X1_begin {l : Launch} {D : va_G} {k : Nat → ClassId} (h_t : Nat) (h_t_worths : Nat) (h_t_ahead : Nat) (h_t_cuts : Nat) (s_kind : Int32) (s_links : Int32) (s_cutCount : Int32) (v1 : Int32) (res : Int32 × Int32 × Int32) (h : f_X1_begin v1 = some res) (sz : Nat) : Met l yX1_begin wsX1_begin rm_X1_begin (cPre D k [.ref h_t, .int v1] (W_X1_begin k h_t h_t_worths h_t_ahead h_t_cuts s_kind s_links s_cutCount) sz) (cQv D (W_X1_begin k h_t h_t_worths h_t_ahead h_t_cuts s_kind s_links s_cutCount) sz (W_X1_begin k h_t h_t_worths h_t_ahead h_t_cuts res.1 res.2.1 res.2.2)) 0 0 (va_A (W_X1_begin k h_t h_t_worths h_t_ahead h_t_cuts s_kind s_links s_cutCount) sz) := by
  refine met_of [(0, .ref h_t), (1, .int v1)] (by decide) rfl rfl (Nat.le_of_ble_eq_true rfl) rfl ?_
  intro p e s m args below meth c A hA hsz C
  unfold f_X1_begin at h
  refine g_aload_n 0 C 0 dX1_begin_0 rfl rfl ?_
  refine g_iload_n 1 C 1 dX1_begin_1 rfl rfl ?_
  refine g_put 2 C (W_X1_begin k h_t h_t_worths h_t_ahead h_t_cuts v1 s_links s_cutCount) in_X1_begin_X1 tyX1 tyX1_ok nmX1 0 3 rfl rfl (by decide) fl_X1_begin_21 rfl rfl (tyX1_ok 3 (by decide)) rfl rfl (Nat.le_of_ble_eq_true rfl) rfl dX1_begin_2 ?_
  refine g_aload_n 5 C 0 dX1_begin_5 rfl rfl ?_
  refine g_iconst 6 C (0 : Int32) dX1_begin_6 (by decide) ?_
  refine g_put 7 C (W_X1_begin k h_t h_t_worths h_t_ahead h_t_cuts v1 (0 : Int32) s_cutCount) in_X1_begin_X1 tyX1 tyX1_ok nmX1 0 4 rfl rfl (by decide) fl_X1_begin_29 rfl rfl (tyX1_ok 4 (by decide)) rfl rfl (Nat.le_of_ble_eq_true rfl) rfl dX1_begin_7 ?_
  refine g_aload_n 10 C 0 dX1_begin_10 rfl rfl ?_
  refine g_iconst 11 C (0 : Int32) dX1_begin_11 (by decide) ?_
  refine g_put 12 C (W_X1_begin k h_t h_t_worths h_t_ahead h_t_cuts v1 (0 : Int32) (0 : Int32)) in_X1_begin_X1 tyX1 tyX1_ok nmX1 0 5 rfl rfl (by decide) fl_X1_begin_32 rfl rfl (tyX1_ok 5 (by decide)) rfl rfl (Nat.le_of_ble_eq_true rfl) rfl dX1_begin_12 ?_
  obtain rfl := Option.some.inj h
  exact g_vret 15 C hA dX1_begin_15 rfl
end

/-! X1_append -/
abbrev W_X1_append (k : Nat → ClassId) (h_t : Nat) (h_t_worths : Nat) (h_t_ahead : Nat) (h_t_cuts : Nat) (s_kind : Int32) (s_links : Int32) (s_cutCount : Int32) (s_worths : Nat → Int32) (s_ahead : Nat → Int32) : va_W := [(h_t, .inr (1, [.ref h_t_worths, .ref h_t_ahead, .ref h_t_cuts, .int s_kind, .int s_links, .int s_cutCount])), (h_t_worths, .inl (k 0, 24, .inl s_worths)), (h_t_ahead, .inl (k 0, 25, .inl s_ahead))]
def rm_X1_append : Room := { frames := 0, cells := 0, slots := 0, locals := 0 }
theorem in_X1_append_X1 : ∀ w ∈ u_ws RX1 TX1 6, w ∈ wsX1_append := by decide +kernel
theorem fl_X1_append_15 : Cond.fieldLink RX1 15 "LinkDays$Chain" "ahead" "[I" ∈ wsX1_append := by decide +kernel
theorem fl_X1_append_29 : Cond.fieldLink RX1 29 "LinkDays$Chain" "links" "I" ∈ wsX1_append := by decide +kernel
theorem fl_X1_append_9 : Cond.fieldLink RX1 9 "LinkDays$Chain" "worths" "[I" ∈ wsX1_append := by decide +kernel
theorem pd_X1_append : yX1_append.cls = RX1 ∧ yX1_append.cls ≠ "java/lang/invoke/MethodHandle" ∧ yX1_append.cls ≠ "java/lang/invoke/VarHandle" ∧ (parseMethodDescriptor yX1_append.desc).map (fun d => d.parameters.length) = some 1 := by decide +kernel
section
variable {p : Program} {l : Launch} {e : Env} {s : State} {m : MethodId} {args : Array Value} {below : List Frame} {meth : Method} {c : Code} {D : va_G} {k : Nat → ClassId} {A : Nat → Prop} {w0 : va_W} {sz : Nat}
set_option maxHeartbeats 4000000 in
set_option maxRecDepth 100000 in
theorem k_X1_append {l : Launch} {D : va_G} {k : Nat → ClassId} (h_t : Nat) (h_t_worths : Nat) (h_t_ahead : Nat) (h_t_cuts : Nat) (s_kind : Int32) (s_links : Int32) (s_cutCount : Int32) (s_worths : Nat → Int32) (s_ahead : Nat → Int32) (v1 : Int32) (res : Int32 × (Nat → Int32) × (Nat → Int32)) (h : f_X1_append s_links s_worths s_ahead v1 = some res) (sz : Nat) : Met l yX1_append wsX1_append rm_X1_append (cPre D k [.ref h_t, .int v1] (W_X1_append k h_t h_t_worths h_t_ahead h_t_cuts s_kind s_links s_cutCount s_worths s_ahead) sz) (cQv D (W_X1_append k h_t h_t_worths h_t_ahead h_t_cuts s_kind s_links s_cutCount s_worths s_ahead) sz (W_X1_append k h_t h_t_worths h_t_ahead h_t_cuts s_kind res.1 s_cutCount res.2.1 res.2.2)) 0 0 (va_A (W_X1_append k h_t h_t_worths h_t_ahead h_t_cuts s_kind s_links s_cutCount s_worths s_ahead) sz) := by
  refine met_of [(0, .ref h_t), (1, .int v1)] (by decide) rfl rfl (Nat.le_of_ble_eq_true rfl) rfl ?_
  intro p e s m args below meth c A hA hsz C
  unfold f_X1_append at h
  refine g_aload_n 0 C 0 dX1_append_0 rfl rfl ?_
  refine g_get 1 C in_X1_append_X1 0 0 rfl rfl (by decide) fl_X1_append_9 rfl rfl dX1_append_1 ?_
  refine g_aload_n 4 C 0 dX1_append_4 rfl rfl ?_
  refine g_get 5 C in_X1_append_X1 0 4 rfl rfl (by decide) fl_X1_append_29 rfl rfl dX1_append_5 ?_
  refine g_iload_n 8 C 1 dX1_append_8 rfl rfl ?_
  obtain ⟨o1, h⟩ := ob_e h
  refine g_iast 9 C (W_X1_append k h_t h_t_worths h_t_ahead h_t_cuts s_kind s_links s_cutCount (upd s_worths s_links.toNatClampNeg v1) s_ahead) 1 rfl o1 rfl dX1_append_9 ?_
  refine g_aload_n 10 C 0 dX1_append_10 rfl rfl ?_
  refine g_get 11 C in_X1_append_X1 0 1 rfl rfl (by decide) fl_X1_append_15 rfl rfl dX1_append_11 ?_
  refine g_aload_n 14 C 0 dX1_append_14 rfl rfl ?_
  refine g_get 15 C in_X1_append_X1 0 4 rfl rfl (by decide) fl_X1_append_29 rfl rfl dX1_append_15 ?_
  refine g_iconst 18 C (1 : Int32) dX1_append_18 (by decide) ?_
  refine g_iadd 19 C dX1_append_19 ?_
  refine g_aload_n 20 C 0 dX1_append_20 rfl rfl ?_
  refine g_get 21 C in_X1_append_X1 0 1 rfl rfl (by decide) fl_X1_append_15 rfl rfl dX1_append_21 ?_
  refine g_aload_n 24 C 0 dX1_append_24 rfl rfl ?_
  refine g_get 25 C in_X1_append_X1 0 4 rfl rfl (by decide) fl_X1_append_29 rfl rfl dX1_append_25 ?_
  obtain ⟨o2, h⟩ := ob_e h
  refine g_iald 28 C 2 rfl o2 dX1_append_28 ?_
  refine g_iload_n 29 C 1 dX1_append_29 rfl rfl ?_
  refine g_iadd 30 C dX1_append_30 ?_
  obtain ⟨o3, h⟩ := ob_e h
  refine g_iast 31 C (W_X1_append k h_t h_t_worths h_t_ahead h_t_cuts s_kind s_links s_cutCount (upd s_worths s_links.toNatClampNeg v1) (upd s_ahead (s_links + (1 : Int32)).toNatClampNeg ((s_ahead s_links.toNatClampNeg) + v1))) 2 rfl o3 rfl dX1_append_31 ?_
  refine g_aload_n 32 C 0 dX1_append_32 rfl rfl ?_
  refine g_dup 33 C dX1_append_33 rfl ?_
  refine g_get 34 C in_X1_append_X1 0 4 rfl rfl (by decide) fl_X1_append_29 rfl rfl dX1_append_34 ?_
  refine g_iconst 37 C (1 : Int32) dX1_append_37 (by decide) ?_
  refine g_iadd 38 C dX1_append_38 ?_
  refine g_put 39 C (W_X1_append k h_t h_t_worths h_t_ahead h_t_cuts s_kind (s_links + (1 : Int32)) s_cutCount (upd s_worths s_links.toNatClampNeg v1) (upd s_ahead (s_links + (1 : Int32)).toNatClampNeg ((s_ahead s_links.toNatClampNeg) + v1))) in_X1_append_X1 tyX1 tyX1_ok nmX1 0 4 rfl rfl (by decide) fl_X1_append_29 rfl rfl (tyX1_ok 4 (by decide)) rfl rfl (Nat.le_of_ble_eq_true rfl) rfl dX1_append_39 ?_
  obtain rfl := Option.some.inj h
  exact g_vret 42 C hA dX1_append_42 rfl
end

/-! X1_value -/
abbrev W_X1_value (k : Nat → ClassId) (h_t : Nat) (h_t_worths : Nat) (h_t_ahead : Nat) (h_t_cuts : Nat) (s_kind : Int32) (s_links : Int32) (s_cutCount : Int32) (s_worths : Nat → Int32) (s_ahead : Nat → Int32) : va_W := [(h_t, .inr (1, [.ref h_t_worths, .ref h_t_ahead, .ref h_t_cuts, .int s_kind, .int s_links, .int s_cutCount])), (h_t_worths, .inl (k 0, 24, .inl s_worths)), (h_t_ahead, .inl (k 0, 25, .inl s_ahead))]
def rm_X1_value : Room := { frames := 0, cells := 0, slots := 0, locals := 0 }
theorem in_X1_value_X1 : ∀ w ∈ u_ws RX1 TX1 6, w ∈ wsX1_value := by decide +kernel
theorem fl_X1_value_15 : Cond.fieldLink RX1 15 "LinkDays$Chain" "ahead" "[I" ∈ wsX1_value := by decide +kernel
theorem fl_X1_value_29 : Cond.fieldLink RX1 29 "LinkDays$Chain" "links" "I" ∈ wsX1_value := by decide +kernel
theorem fl_X1_value_9 : Cond.fieldLink RX1 9 "LinkDays$Chain" "worths" "[I" ∈ wsX1_value := by decide +kernel
theorem pd_X1_value : yX1_value.cls = RX1 ∧ yX1_value.cls ≠ "java/lang/invoke/MethodHandle" ∧ yX1_value.cls ≠ "java/lang/invoke/VarHandle" ∧ (parseMethodDescriptor yX1_value.desc).map (fun d => d.parameters.length) = some 2 := by decide +kernel
section
variable {p : Program} {l : Launch} {e : Env} {s : State} {m : MethodId} {args : Array Value} {below : List Frame} {meth : Method} {c : Code} {D : va_G} {k : Nat → ClassId} {A : Nat → Prop} {w0 : va_W} {sz : Nat}
set_option maxHeartbeats 4000000 in
set_option maxRecDepth 100000 in
theorem ok_L_X1_value_9 {h_t : Nat} {h_t_worths : Nat} {h_t_ahead : Nat} {h_t_cuts : Nat} {s_kind : Int32} {s_links : Int32} {s_cutCount : Int32} {s_worths : Nat → Int32} {res : (Nat → Int32) × (Nat → Int32)} (C : CX p s m args meth c cX1_value wsX1_value RX1 4 D k A none) (hA : A = va_A w0 sz) {kx : Int32 × (Nat → Int32) → Option ((Nat → Int32) × (Nat → Int32))} (hx : ∀ t : Int32 × (Nat → Int32), kx t = some res → GG p l e rm_X1_value s m args below meth c (MQ below (cQv D w0 sz (W_X1_value k h_t h_t_worths h_t_ahead h_t_cuts s_kind s_links s_cutCount res.1 res.2)) args s 0 0 A) D A 4 0 0 44 [] [] (W_X1_value k h_t h_t_worths h_t_ahead h_t_cuts s_kind s_links s_cutCount s_worths t.2)) : ∀ (n : Nat) (t : Int32 × (Nat → Int32)), L_X1_value_9 s_links s_worths kx n t = some res → GG p l e rm_X1_value s m args below meth c (MQ below (cQv D w0 sz (W_X1_value k h_t h_t_worths h_t_ahead h_t_cuts s_kind s_links s_cutCount res.1 res.2)) args s 0 0 A) D A 4 0 0 9 [(0, .ref h_t), (3, .int t.1)] [] (W_X1_value k h_t h_t_worths h_t_ahead h_t_cuts s_kind s_links s_cutCount s_worths t.2) := by
  intro n
  induction n with
  | zero => intro t h; cases h
  | succ n ih =>
    intro t h
    obtain ⟨v3, s_ahead⟩ := t
    replace h : LB_X1_value_9 s_links s_worths kx (L_X1_value_9 s_links s_worths kx n) v3 s_ahead = some res := h
    have hr := ih
    unfold LB_X1_value_9 at h
    refine g_iload_n 9 C 1 dX1_value_9 rfl rfl ?_
    refine g_aload_n 10 C 0 dX1_value_10 rfl rfl ?_
    refine g_get 11 C in_X1_value_X1 0 4 rfl rfl (by decide) fl_X1_value_29 rfl rfl dX1_value_11 ?_
    refine g_icmp_ge 14 44 C dX1_value_14 (by decide) (fun c => ?_) (fun c => ?_)
    · replace h := it_e c h
      refine GG.sub (lv' := []) [] rfl ?_
      exact hx (v3, s_ahead) h
    · replace h := if_e c h
      refine g_aload_n 17 C 0 dX1_value_17 rfl rfl ?_
      refine g_get 18 C in_X1_value_X1 0 1 rfl rfl (by decide) fl_X1_value_15 rfl rfl dX1_value_18 ?_
      refine g_iload_n 21 C 1 dX1_value_21 rfl rfl ?_
      refine g_iconst 22 C (1 : Int32) dX1_value_22 (by decide) ?_
      refine g_iadd 23 C dX1_value_23 ?_
      refine g_aload_n 24 C 0 dX1_value_24 rfl rfl ?_
      refine g_get 25 C in_X1_value_X1 0 1 rfl rfl (by decide) fl_X1_value_15 rfl rfl dX1_value_25 ?_
      refine g_iload_n 28 C 1 dX1_value_28 rfl rfl ?_
      obtain ⟨o2, h⟩ := ob_e h
      refine g_iald 29 C 2 rfl o2 dX1_value_29 ?_
      refine g_aload_n 30 C 0 dX1_value_30 rfl rfl ?_
      refine g_get 31 C in_X1_value_X1 0 0 rfl rfl (by decide) fl_X1_value_9 rfl rfl dX1_value_31 ?_
      refine g_iload_n 34 C 1 dX1_value_34 rfl rfl ?_
      obtain ⟨o3, h⟩ := ob_e h
      refine g_iald 35 C 1 rfl o3 dX1_value_35 ?_
      refine g_iadd 36 C dX1_value_36 ?_
      obtain ⟨o4, h⟩ := ob_e h
      refine g_iast 37 C (W_X1_value k h_t h_t_worths h_t_ahead h_t_cuts s_kind s_links s_cutCount s_worths (upd s_ahead (v3 + (1 : Int32)).toNatClampNeg ((s_ahead v3.toNatClampNeg) + (s_worths v3.toNatClampNeg)))) 2 rfl o4 rfl dX1_value_37 ?_
      refine g_iinc 38 C 1 (1 : Int32) [(3, .int (v3 + (1 : Int32))), (0, .ref h_t)] dX1_value_38 rfl (by decide) (by decide) rfl ?_
      refine g_goto 41 9 C dX1_value_41 (by decide) ?_
      refine GG.sub (lv' := [(0, .ref h_t), (3, .int (v3 + (1 : Int32)))]) [1, 0] rfl ?_
      exact hr ((v3 + (1 : Int32)), (upd s_ahead (v3 + (1 : Int32)).toNatClampNeg ((s_ahead v3.toNatClampNeg) + (s_worths v3.toNatClampNeg)))) h
set_option maxHeartbeats 4000000 in
set_option maxRecDepth 100000 in
theorem ok_B_X1_value_44 {h_t : Nat} {h_t_worths : Nat} {h_t_ahead : Nat} {h_t_cuts : Nat} {s_kind : Int32} {s_links : Int32} {s_cutCount : Int32} {s_worths : Nat → Int32} {s_ahead : Nat → Int32} {res : (Nat → Int32) × (Nat → Int32)} (C : CX p s m args meth c cX1_value wsX1_value RX1 4 D k A none) (hA : A = va_A w0 sz)  (h : B_X1_value_44 s_worths s_ahead = some res) : GG p l e rm_X1_value s m args below meth c (MQ below (cQv D w0 sz (W_X1_value k h_t h_t_worths h_t_ahead h_t_cuts s_kind s_links s_cutCount res.1 res.2)) args s 0 0 A) D A 4 0 0 44 [] [] (W_X1_value k h_t h_t_worths h_t_ahead h_t_cuts s_kind s_links s_cutCount s_worths s_ahead) := by
  unfold B_X1_value_44 at h
  obtain rfl := Option.some.inj h
  exact g_vret 44 C hA dX1_value_44 rfl
set_option maxHeartbeats 4000000 in
set_option maxRecDepth 100000 in
theorem k_X1_value {l : Launch} {D : va_G} {k : Nat → ClassId} (h_t : Nat) (h_t_worths : Nat) (h_t_ahead : Nat) (h_t_cuts : Nat) (s_kind : Int32) (s_links : Int32) (s_cutCount : Int32) (s_worths : Nat → Int32) (s_ahead : Nat → Int32) (v1 : Int32) (v2 : Int32) (res : (Nat → Int32) × (Nat → Int32)) (h : f_X1_value s_links s_worths s_ahead v1 v2 = some res) (sz : Nat) : Met l yX1_value wsX1_value rm_X1_value (cPre D k [.ref h_t, .int v1, .int v2] (W_X1_value k h_t h_t_worths h_t_ahead h_t_cuts s_kind s_links s_cutCount s_worths s_ahead) sz) (cQv D (W_X1_value k h_t h_t_worths h_t_ahead h_t_cuts s_kind s_links s_cutCount s_worths s_ahead) sz (W_X1_value k h_t h_t_worths h_t_ahead h_t_cuts s_kind s_links s_cutCount res.1 res.2)) 0 0 (va_A (W_X1_value k h_t h_t_worths h_t_ahead h_t_cuts s_kind s_links s_cutCount s_worths s_ahead) sz) := by
  refine met_of [(0, .ref h_t), (1, .int v1), (2, .int v2)] (by decide) rfl rfl (Nat.le_of_ble_eq_true rfl) rfl ?_
  intro p e s m args below meth c A hA hsz C
  unfold f_X1_value at h
  refine g_aload_n 0 C 0 dX1_value_0 rfl rfl ?_
  refine g_get 1 C in_X1_value_X1 0 0 rfl rfl (by decide) fl_X1_value_9 rfl rfl dX1_value_1 ?_
  refine g_iload_n 4 C 1 dX1_value_4 rfl rfl ?_
  refine g_iload_n 5 C 2 dX1_value_5 rfl rfl ?_
  obtain ⟨o1, h⟩ := ob_e h
  refine g_iast 6 C (W_X1_value k h_t h_t_worths h_t_ahead h_t_cuts s_kind s_links s_cutCount (upd s_worths v1.toNatClampNeg v2) s_ahead) 1 rfl o1 rfl dX1_value_6 ?_
  refine g_iload_n 7 C 1 dX1_value_7 rfl rfl ?_
  refine g_istore_n 8 C [(3, .int v1), (0, .ref h_t), (1, .int v1), (2, .int v2)] dX1_value_8 rfl (by decide) rfl ?_
  refine GG.sub (lv' := [(0, .ref h_t), (3, .int v1)]) [1, 0] rfl ?_
  exact ok_L_X1_value_9 C hA (fun t h => by
    refine GG.sub (lv' := []) [] rfl ?_
    exact ok_B_X1_value_44 C hA h) FUEL (v1, s_ahead) h
end

/-! X1_whole -/
abbrev W_X1_whole (k : Nat → ClassId) (h_t : Nat) (h_t_ahead : Nat) (h_t_worths : Nat) (h_t_cuts : Nat) (s_kind : Int32) (s_links : Int32) (s_cutCount : Int32) (s_ahead : Nat → Int32) : va_W := [(h_t, .inr (1, [.ref h_t_worths, .ref h_t_ahead, .ref h_t_cuts, .int s_kind, .int s_links, .int s_cutCount])), (h_t_ahead, .inl (k 0, 25, .inl s_ahead))]
def rm_X1_whole : Room := { frames := 0, cells := 0, slots := 0, locals := 0 }
theorem in_X1_whole_X1 : ∀ w ∈ u_ws RX1 TX1 6, w ∈ wsX1_whole := by decide +kernel
theorem fl_X1_whole_15 : Cond.fieldLink RX1 15 "LinkDays$Chain" "ahead" "[I" ∈ wsX1_whole := by decide +kernel
theorem fl_X1_whole_29 : Cond.fieldLink RX1 29 "LinkDays$Chain" "links" "I" ∈ wsX1_whole := by decide +kernel
theorem pd_X1_whole : yX1_whole.cls = RX1 ∧ yX1_whole.cls ≠ "java/lang/invoke/MethodHandle" ∧ yX1_whole.cls ≠ "java/lang/invoke/VarHandle" ∧ (parseMethodDescriptor yX1_whole.desc).map (fun d => d.parameters.length) = some 0 := by decide +kernel
section
variable {p : Program} {l : Launch} {e : Env} {s : State} {m : MethodId} {args : Array Value} {below : List Frame} {meth : Method} {c : Code} {D : va_G} {k : Nat → ClassId} {A : Nat → Prop} {w0 : va_W} {sz : Nat}
set_option maxHeartbeats 4000000 in
set_option maxRecDepth 100000 in
theorem k_X1_whole {l : Launch} {D : va_G} {k : Nat → ClassId} (h_t : Nat) (h_t_ahead : Nat) (h_t_worths : Nat) (h_t_cuts : Nat) (s_kind : Int32) (s_links : Int32) (s_cutCount : Int32) (s_ahead : Nat → Int32) (res : Int32) (h : f_X1_whole s_links s_ahead = some res) (sz : Nat) : Met l yX1_whole wsX1_whole rm_X1_whole (cPre D k [.ref h_t] (W_X1_whole k h_t h_t_ahead h_t_worths h_t_cuts s_kind s_links s_cutCount s_ahead) sz) (cQi D (W_X1_whole k h_t h_t_ahead h_t_worths h_t_cuts s_kind s_links s_cutCount s_ahead) sz res (W_X1_whole k h_t h_t_ahead h_t_worths h_t_cuts s_kind s_links s_cutCount s_ahead)) 0 0 (va_A (W_X1_whole k h_t h_t_ahead h_t_worths h_t_cuts s_kind s_links s_cutCount s_ahead) sz) := by
  refine met_of [(0, .ref h_t)] (by decide) rfl rfl (Nat.le_of_ble_eq_true rfl) rfl ?_
  intro p e s m args below meth c A hA hsz C
  unfold f_X1_whole at h
  refine g_aload_n 0 C 0 dX1_whole_0 rfl rfl ?_
  refine g_get 1 C in_X1_whole_X1 0 1 rfl rfl (by decide) fl_X1_whole_15 rfl rfl dX1_whole_1 ?_
  refine g_aload_n 4 C 0 dX1_whole_4 rfl rfl ?_
  refine g_get 5 C in_X1_whole_X1 0 4 rfl rfl (by decide) fl_X1_whole_29 rfl rfl dX1_whole_5 ?_
  obtain ⟨o1, h⟩ := ob_e h
  refine g_iald 8 C 1 rfl o1 dX1_whole_8 ?_
  obtain rfl := Option.some.inj h
  exact g_iret 9 C hA rfl dX1_whole_9 rfl
end

/-! X1_losesLinks -/
abbrev W_X1_losesLinks (k : Nat → ClassId) (h_t : Nat) (h_t_worths : Nat) (h_t_ahead : Nat) (h_t_cuts : Nat) (s_kind : Int32) (s_links : Int32) (s_cutCount : Int32) : va_W := [(h_t, .inr (1, [.ref h_t_worths, .ref h_t_ahead, .ref h_t_cuts, .int s_kind, .int s_links, .int s_cutCount]))]
def rm_X1_losesLinks : Room := { frames := 0, cells := 0, slots := 0, locals := 0 }
theorem in_X1_losesLinks_X1 : ∀ w ∈ u_ws RX1 TX1 6, w ∈ wsX1_losesLinks := by decide +kernel
theorem fl_X1_losesLinks_21 : Cond.fieldLink RX1 21 "LinkDays$Chain" "kind" "I" ∈ wsX1_losesLinks := by decide +kernel
theorem pd_X1_losesLinks : yX1_losesLinks.cls = RX1 ∧ yX1_losesLinks.cls ≠ "java/lang/invoke/MethodHandle" ∧ yX1_losesLinks.cls ≠ "java/lang/invoke/VarHandle" ∧ (parseMethodDescriptor yX1_losesLinks.desc).map (fun d => d.parameters.length) = some 0 := by decide +kernel
section
variable {p : Program} {l : Launch} {e : Env} {s : State} {m : MethodId} {args : Array Value} {below : List Frame} {meth : Method} {c : Code} {D : va_G} {k : Nat → ClassId} {A : Nat → Prop} {w0 : va_W} {sz : Nat}
set_option maxHeartbeats 4000000 in
set_option maxRecDepth 100000 in
theorem ok_B_X1_losesLinks_20 {h_t : Nat} {h_t_worths : Nat} {h_t_ahead : Nat} {h_t_cuts : Nat} {s_kind : Int32} {s_links : Int32} {s_cutCount : Int32} {x0 : Int32} {res : Int32} (C : CX p s m args meth c cX1_losesLinks wsX1_losesLinks RX1 1 D k A (some .boolean)) (hA : A = va_A w0 sz)  (h : B_X1_losesLinks_20 x0 = some res) : GG p l e rm_X1_losesLinks s m args below meth c (MQ below (cQi D w0 sz res (W_X1_losesLinks k h_t h_t_worths h_t_ahead h_t_cuts s_kind s_links s_cutCount)) args s 0 0 A) D A 1 0 0 20 [] [.int x0] (W_X1_losesLinks k h_t h_t_worths h_t_ahead h_t_cuts s_kind s_links s_cutCount) := by
  unfold B_X1_losesLinks_20 at h
  obtain ⟨o1, h⟩ := ob_e h
  obtain rfl := Option.some.inj h
  exact g_zret 20 C hA rfl (zb_n o1) dX1_losesLinks_20 rfl
set_option maxHeartbeats 4000000 in
set_option maxRecDepth 100000 in
theorem ok_B_X1_losesLinks_15 {h_t : Nat} {h_t_worths : Nat} {h_t_ahead : Nat} {h_t_cuts : Nat} {s_kind : Int32} {s_links : Int32} {s_cutCount : Int32} {res : Int32} (C : CX p s m args meth c cX1_losesLinks wsX1_losesLinks RX1 1 D k A (some .boolean)) (hA : A = va_A w0 sz)  (h : B_X1_losesLinks_15 = some res) : GG p l e rm_X1_losesLinks s m args below meth c (MQ below (cQi D w0 sz res (W_X1_losesLinks k h_t h_t_worths h_t_ahead h_t_cuts s_kind s_links s_cutCount)) args s 0 0 A) D A 1 0 0 15 [] [] (W_X1_losesLinks k h_t h_t_worths h_t_ahead h_t_cuts s_kind s_links s_cutCount) := by
  unfold B_X1_losesLinks_15 at h
  refine g_iconst 15 C (1 : Int32) dX1_losesLinks_15 (by decide) ?_
  refine g_goto 16 20 C dX1_losesLinks_16 (by decide) ?_
  refine GG.sub (lv' := []) [] rfl ?_
  exact ok_B_X1_losesLinks_20 C hA h
set_option maxHeartbeats 4000000 in
set_option maxRecDepth 100000 in
theorem k_X1_losesLinks {l : Launch} {D : va_G} {k : Nat → ClassId} (h_t : Nat) (h_t_worths : Nat) (h_t_ahead : Nat) (h_t_cuts : Nat) (s_kind : Int32) (s_links : Int32) (s_cutCount : Int32) (res : Int32) (h : f_X1_losesLinks s_kind = some res) (sz : Nat) : Met l yX1_losesLinks wsX1_losesLinks rm_X1_losesLinks (cPre D k [.ref h_t] (W_X1_losesLinks k h_t h_t_worths h_t_ahead h_t_cuts s_kind s_links s_cutCount) sz) (cQi D (W_X1_losesLinks k h_t h_t_worths h_t_ahead h_t_cuts s_kind s_links s_cutCount) sz res (W_X1_losesLinks k h_t h_t_worths h_t_ahead h_t_cuts s_kind s_links s_cutCount)) 0 0 (va_A (W_X1_losesLinks k h_t h_t_worths h_t_ahead h_t_cuts s_kind s_links s_cutCount) sz) := by
  refine met_of [(0, .ref h_t)] (by decide) rfl rfl (Nat.le_of_ble_eq_true rfl) rfl ?_
  intro p e s m args below meth c A hA hsz C
  unfold f_X1_losesLinks at h
  refine g_aload_n 0 C 0 dX1_losesLinks_0 rfl rfl ?_
  refine g_get 1 C in_X1_losesLinks_X1 0 3 rfl rfl (by decide) fl_X1_losesLinks_21 rfl rfl dX1_losesLinks_1 ?_
  refine g_if_eq 4 15 C dX1_losesLinks_4 (by decide) (fun c => ?_) (fun c => ?_)
  · replace h := it_e c h
    refine GG.sub (lv' := []) [] rfl ?_
    exact ok_B_X1_losesLinks_15 C hA h
  · replace h := if_e c h
    refine g_aload_n 7 C 0 dX1_losesLinks_7 rfl rfl ?_
    refine g_get 8 C in_X1_losesLinks_X1 0 3 rfl rfl (by decide) fl_X1_losesLinks_21 rfl rfl dX1_losesLinks_8 ?_
    refine g_iconst 11 C (1 : Int32) dX1_losesLinks_11 (by decide) ?_
    refine g_icmp_ne 12 19 C dX1_losesLinks_12 (by decide) (fun c => ?_) (fun c => ?_)
    · replace h := if_e c h
      refine g_iconst 19 C (0 : Int32) dX1_losesLinks_19 (by decide) ?_
      refine GG.sub (lv' := []) [] rfl ?_
      exact ok_B_X1_losesLinks_20 C hA h
    · replace h := it_e c h
      refine GG.sub (lv' := []) [] rfl ?_
      exact ok_B_X1_losesLinks_15 C hA h
end

/-! X1_notches -/
abbrev W_X1_notches (k : Nat → ClassId) (h_t : Nat) (h_t_worths : Nat) (h_t_ahead : Nat) (h_t_cuts : Nat) (s_kind : Int32) (s_links : Int32) (s_cutCount : Int32) : va_W := [(h_t, .inr (1, [.ref h_t_worths, .ref h_t_ahead, .ref h_t_cuts, .int s_kind, .int s_links, .int s_cutCount]))]
def rm_X1_notches : Room := { frames := 1, cells := 0, slots := 0, locals := 20 }
theorem in_X1_notches_X1 : ∀ w ∈ u_ws RX1 TX1 6, w ∈ wsX1_notches := by decide +kernel
theorem fl_X1_notches_29 : Cond.fieldLink RX1 29 "LinkDays$Chain" "links" "I" ∈ wsX1_notches := by decide +kernel
theorem pd_X1_notches : yX1_notches.cls = RX1 ∧ yX1_notches.cls ≠ "java/lang/invoke/MethodHandle" ∧ yX1_notches.cls ≠ "java/lang/invoke/VarHandle" ∧ (parseMethodDescriptor yX1_notches.desc).map (fun d => d.parameters.length) = some 0 := by decide +kernel
section
variable {p : Program} {l : Launch} {e : Env} {s : State} {m : MethodId} {args : Array Value} {below : List Frame} {meth : Method} {c : Code} {D : va_G} {k : Nat → ClassId} {A : Nat → Prop} {w0 : va_W} {sz : Nat}
set_option maxHeartbeats 4000000 in
set_option maxRecDepth 100000 in
theorem ok_B_X1_notches_20 {h_t : Nat} {h_t_worths : Nat} {h_t_ahead : Nat} {h_t_cuts : Nat} {s_kind : Int32} {s_links : Int32} {s_cutCount : Int32} {x0 : Int32} {res : Int32} (C : CX p s m args meth c cX1_notches wsX1_notches RX1 1 D k A (some .int)) (hA : A = va_A w0 sz)  (h : B_X1_notches_20 x0 = some res) : GG p l e rm_X1_notches s m args below meth c (MQ below (cQi D w0 sz res (W_X1_notches k h_t h_t_worths h_t_ahead h_t_cuts s_kind s_links s_cutCount)) args s 0 0 A) D A 1 0 0 20 [] [.int x0] (W_X1_notches k h_t h_t_worths h_t_ahead h_t_cuts s_kind s_links s_cutCount) := by
  unfold B_X1_notches_20 at h
  obtain rfl := Option.some.inj h
  exact g_iret 20 C hA rfl dX1_notches_20 rfl
set_option maxHeartbeats 4000000 in
set_option maxRecDepth 100000 in
theorem k_X1_notches {l : Launch} {D : va_G} {k : Nat → ClassId} (h_t : Nat) (h_t_worths : Nat) (h_t_ahead : Nat) (h_t_cuts : Nat) (s_kind : Int32) (s_links : Int32) (s_cutCount : Int32) (res : Int32) (h : f_X1_notches s_kind s_links = some res) (sz : Nat) : Met l yX1_notches wsX1_notches rm_X1_notches (cPre D k [.ref h_t] (W_X1_notches k h_t h_t_worths h_t_ahead h_t_cuts s_kind s_links s_cutCount) sz) (cQi D (W_X1_notches k h_t h_t_worths h_t_ahead h_t_cuts s_kind s_links s_cutCount) sz res (W_X1_notches k h_t h_t_worths h_t_ahead h_t_cuts s_kind s_links s_cutCount)) 0 0 (va_A (W_X1_notches k h_t h_t_worths h_t_ahead h_t_cuts s_kind s_links s_cutCount) sz) := by
  refine met_of [(0, .ref h_t)] (by decide) rfl rfl (Nat.le_of_ble_eq_true rfl) rfl ?_
  intro p e s m args below meth c A hA hsz C
  unfold f_X1_notches at h
  refine g_aload_n 0 C 0 dX1_notches_0 rfl rfl ?_
  obtain ⟨q1, e2, h⟩ := bi_e h
  refine g_callVi 1 C (As := []) [0] [] [0] (W_X1_notches k h_t h_t_worths h_t_ahead h_t_cuts s_kind s_links s_cutCount) 0 (fun sz => k_X1_losesLinks h_t h_t_worths h_t_ahead h_t_cuts s_kind s_links s_cutCount q1 e2 sz) gX1_notches_X1_losesLinks rfl pd_X1_losesLinks rfl rfl rfl ⟨rfl, rfl, Nat.le_of_ble_eq_true rfl, Nat.le_of_ble_eq_true rfl⟩ (Nat.le_of_ble_eq_true rfl) ⟨Nat.zero_le _, Nat.zero_le _⟩ ⟨rfl, rfl, rfl, rfl, rfl, by decide, rfl⟩ rfl dX1_notches_1 ?_
  refine g_if_eq 4 14 C dX1_notches_4 (by decide) (fun c => ?_) (fun c => ?_)
  · replace h := it_e c h
    refine g_aload_n 14 C 0 dX1_notches_14 rfl rfl ?_
    refine g_get 15 C in_X1_notches_X1 0 4 rfl rfl (by decide) fl_X1_notches_29 rfl rfl dX1_notches_15 ?_
    refine g_iconst 18 C (1 : Int32) dX1_notches_18 (by decide) ?_
    refine g_isub 19 C dX1_notches_19 ?_
    refine GG.sub (lv' := []) [] rfl ?_
    exact ok_B_X1_notches_20 C hA h
  · replace h := if_e c h
    refine g_aload_n 7 C 0 dX1_notches_7 rfl rfl ?_
    refine g_get 8 C in_X1_notches_X1 0 4 rfl rfl (by decide) fl_X1_notches_29 rfl rfl dX1_notches_8 ?_
    refine g_goto 11 20 C dX1_notches_11 (by decide) ?_
    refine GG.sub (lv' := []) [] rfl ?_
    exact ok_B_X1_notches_20 C hA h
end

/-! X1_hasNotch -/
abbrev W_X1_hasNotch (k : Nat → ClassId) (h_t : Nat) (h_t_worths : Nat) (h_t_ahead : Nat) (h_t_cuts : Nat) (s_kind : Int32) (s_links : Int32) (s_cutCount : Int32) : va_W := [(h_t, .inr (1, [.ref h_t_worths, .ref h_t_ahead, .ref h_t_cuts, .int s_kind, .int s_links, .int s_cutCount]))]
def rm_X1_hasNotch : Room := { frames := 2, cells := 0, slots := 0, locals := 40 }
theorem pd_X1_hasNotch : yX1_hasNotch.cls = RX1 ∧ yX1_hasNotch.cls ≠ "java/lang/invoke/MethodHandle" ∧ yX1_hasNotch.cls ≠ "java/lang/invoke/VarHandle" ∧ (parseMethodDescriptor yX1_hasNotch.desc).map (fun d => d.parameters.length) = some 1 := by decide +kernel
section
variable {p : Program} {l : Launch} {e : Env} {s : State} {m : MethodId} {args : Array Value} {below : List Frame} {meth : Method} {c : Code} {D : va_G} {k : Nat → ClassId} {A : Nat → Prop} {w0 : va_W} {sz : Nat}
set_option maxHeartbeats 4000000 in
set_option maxRecDepth 100000 in
theorem ok_B_X1_hasNotch_17 {h_t : Nat} {h_t_worths : Nat} {h_t_ahead : Nat} {h_t_cuts : Nat} {s_kind : Int32} {s_links : Int32} {s_cutCount : Int32} {x0 : Int32} {res : Int32} (C : CX p s m args meth c cX1_hasNotch wsX1_hasNotch RX1 2 D k A (some .boolean)) (hA : A = va_A w0 sz)  (h : B_X1_hasNotch_17 x0 = some res) : GG p l e rm_X1_hasNotch s m args below meth c (MQ below (cQi D w0 sz res (W_X1_hasNotch k h_t h_t_worths h_t_ahead h_t_cuts s_kind s_links s_cutCount)) args s 0 0 A) D A 2 0 0 17 [] [.int x0] (W_X1_hasNotch k h_t h_t_worths h_t_ahead h_t_cuts s_kind s_links s_cutCount) := by
  unfold B_X1_hasNotch_17 at h
  obtain ⟨o1, h⟩ := ob_e h
  obtain rfl := Option.some.inj h
  exact g_zret 17 C hA rfl (zb_n o1) dX1_hasNotch_17 rfl
set_option maxHeartbeats 4000000 in
set_option maxRecDepth 100000 in
theorem ok_B_X1_hasNotch_16 {h_t : Nat} {h_t_worths : Nat} {h_t_ahead : Nat} {h_t_cuts : Nat} {s_kind : Int32} {s_links : Int32} {s_cutCount : Int32} {res : Int32} (C : CX p s m args meth c cX1_hasNotch wsX1_hasNotch RX1 2 D k A (some .boolean)) (hA : A = va_A w0 sz)  (h : B_X1_hasNotch_16 = some res) : GG p l e rm_X1_hasNotch s m args below meth c (MQ below (cQi D w0 sz res (W_X1_hasNotch k h_t h_t_worths h_t_ahead h_t_cuts s_kind s_links s_cutCount)) args s 0 0 A) D A 2 0 0 16 [] [] (W_X1_hasNotch k h_t h_t_worths h_t_ahead h_t_cuts s_kind s_links s_cutCount) := by
  unfold B_X1_hasNotch_16 at h
  refine g_iconst 16 C (0 : Int32) dX1_hasNotch_16 (by decide) ?_
  refine GG.sub (lv' := []) [] rfl ?_
  exact ok_B_X1_hasNotch_17 C hA h
set_option maxHeartbeats 4000000 in
set_option maxRecDepth 100000 in
theorem k_X1_hasNotch {l : Launch} {D : va_G} {k : Nat → ClassId} (h_t : Nat) (h_t_worths : Nat) (h_t_ahead : Nat) (h_t_cuts : Nat) (s_kind : Int32) (s_links : Int32) (s_cutCount : Int32) (v1 : Int32) (res : Int32) (h : f_X1_hasNotch s_kind s_links v1 = some res) (sz : Nat) : Met l yX1_hasNotch wsX1_hasNotch rm_X1_hasNotch (cPre D k [.ref h_t, .int v1] (W_X1_hasNotch k h_t h_t_worths h_t_ahead h_t_cuts s_kind s_links s_cutCount) sz) (cQi D (W_X1_hasNotch k h_t h_t_worths h_t_ahead h_t_cuts s_kind s_links s_cutCount) sz res (W_X1_hasNotch k h_t h_t_worths h_t_ahead h_t_cuts s_kind s_links s_cutCount)) 0 0 (va_A (W_X1_hasNotch k h_t h_t_worths h_t_ahead h_t_cuts s_kind s_links s_cutCount) sz) := by
  refine met_of [(0, .ref h_t), (1, .int v1)] (by decide) rfl rfl (Nat.le_of_ble_eq_true rfl) rfl ?_
  intro p e s m args below meth c A hA hsz C
  unfold f_X1_hasNotch at h
  refine g_iload_n 0 C 1 dX1_hasNotch_0 rfl rfl ?_
  refine g_if_lt 1 16 C dX1_hasNotch_1 (by decide) (fun c => ?_) (fun c => ?_)
  · replace h := it_e c h
    refine GG.sub (lv' := []) [] rfl ?_
    exact ok_B_X1_hasNotch_16 C hA h
  · replace h := if_e c h
    refine g_iload_n 4 C 1 dX1_hasNotch_4 rfl rfl ?_
    refine g_aload_n 5 C 0 dX1_hasNotch_5 rfl rfl ?_
    obtain ⟨q2, e3, h⟩ := bi_e h
    refine g_callVi 6 C (As := []) [0] [] [0] (W_X1_hasNotch k h_t h_t_worths h_t_ahead h_t_cuts s_kind s_links s_cutCount) 0 (fun sz => k_X1_notches h_t h_t_worths h_t_ahead h_t_cuts s_kind s_links s_cutCount q2 e3 sz) gX1_hasNotch_X1_notches rfl pd_X1_notches rfl rfl rfl ⟨rfl, rfl, Nat.le_of_ble_eq_true rfl, Nat.le_of_ble_eq_true rfl⟩ (Nat.le_of_ble_eq_true rfl) ⟨Nat.zero_le _, Nat.zero_le _⟩ ⟨rfl, rfl, rfl, rfl, rfl, by decide, rfl⟩ rfl dX1_hasNotch_6 ?_
    refine g_icmp_ge 9 16 C dX1_hasNotch_9 (by decide) (fun c => ?_) (fun c => ?_)
    · replace h := it_e c h
      refine GG.sub (lv' := []) [] rfl ?_
      exact ok_B_X1_hasNotch_16 C hA h
    · replace h := if_e c h
      refine g_iconst 12 C (1 : Int32) dX1_hasNotch_12 (by decide) ?_
      refine g_goto 13 17 C dX1_hasNotch_13 (by decide) ?_
      refine GG.sub (lv' := []) [] rfl ?_
      exact ok_B_X1_hasNotch_17 C hA h
end

/-! X1_placeOf -/
abbrev W_X1_placeOf (k : Nat → ClassId) (h_t : Nat) (h_t_cuts : Nat) (h_t_worths : Nat) (h_t_ahead : Nat) (s_kind : Int32) (s_links : Int32) (s_cutCount : Int32) (s_cuts : Nat → Int32) : va_W := [(h_t, .inr (1, [.ref h_t_worths, .ref h_t_ahead, .ref h_t_cuts, .int s_kind, .int s_links, .int s_cutCount])), (h_t_cuts, .inl (k 0, 5, .inl s_cuts))]
def rm_X1_placeOf : Room := { frames := 0, cells := 0, slots := 0, locals := 0 }
theorem in_X1_placeOf_X1 : ∀ w ∈ u_ws RX1 TX1 6, w ∈ wsX1_placeOf := by decide +kernel
theorem fl_X1_placeOf_18 : Cond.fieldLink RX1 18 "LinkDays$Chain" "cuts" "[I" ∈ wsX1_placeOf := by decide +kernel
theorem fl_X1_placeOf_32 : Cond.fieldLink RX1 32 "LinkDays$Chain" "cutCount" "I" ∈ wsX1_placeOf := by decide +kernel
theorem pd_X1_placeOf : yX1_placeOf.cls = RX1 ∧ yX1_placeOf.cls ≠ "java/lang/invoke/MethodHandle" ∧ yX1_placeOf.cls ≠ "java/lang/invoke/VarHandle" ∧ (parseMethodDescriptor yX1_placeOf.desc).map (fun d => d.parameters.length) = some 1 := by decide +kernel
section
variable {p : Program} {l : Launch} {e : Env} {s : State} {m : MethodId} {args : Array Value} {below : List Frame} {meth : Method} {c : Code} {D : va_G} {k : Nat → ClassId} {A : Nat → Prop} {w0 : va_W} {sz : Nat}
set_option maxHeartbeats 4000000 in
set_option maxRecDepth 100000 in
theorem ok_L_X1_placeOf_2 {h_t : Nat} {h_t_cuts : Nat} {h_t_worths : Nat} {h_t_ahead : Nat} {s_kind : Int32} {s_links : Int32} {s_cutCount : Int32} {s_cuts : Nat → Int32} {v1 : Int32} {res : Int32} (C : CX p s m args meth c cX1_placeOf wsX1_placeOf RX1 3 D k A (some .int)) (hA : A = va_A w0 sz) {kx : Int32 → Option (Int32)} (hx : ∀ t : Int32, kx t = some res → GG p l e rm_X1_placeOf s m args below meth c (MQ below (cQi D w0 sz res (W_X1_placeOf k h_t h_t_cuts h_t_worths h_t_ahead s_kind s_links s_cutCount s_cuts)) args s 0 0 A) D A 3 0 0 28 [] [] (W_X1_placeOf k h_t h_t_cuts h_t_worths h_t_ahead s_kind s_links s_cutCount s_cuts)) : ∀ (n : Nat) (t : Int32), L_X1_placeOf_2 s_cutCount s_cuts v1 kx n t = some res → GG p l e rm_X1_placeOf s m args below meth c (MQ below (cQi D w0 sz res (W_X1_placeOf k h_t h_t_cuts h_t_worths h_t_ahead s_kind s_links s_cutCount s_cuts)) args s 0 0 A) D A 3 0 0 2 [(0, .ref h_t), (1, .int v1), (2, .int t)] [] (W_X1_placeOf k h_t h_t_cuts h_t_worths h_t_ahead s_kind s_links s_cutCount s_cuts) := by
  intro n
  induction n with
  | zero => intro t h; cases h
  | succ n ih =>
    intro t h
    obtain ⟨v2, rfl⟩ : ∃ z, z = t := ⟨_, rfl⟩
    replace h : LB_X1_placeOf_2 s_cutCount s_cuts v1 kx (L_X1_placeOf_2 s_cutCount s_cuts v1 kx n) v2 = some res := h
    have hr := ih
    unfold LB_X1_placeOf_2 at h
    refine g_iload_n 2 C 2 dX1_placeOf_2 rfl rfl ?_
    refine g_aload_n 3 C 0 dX1_placeOf_3 rfl rfl ?_
    refine g_get 4 C in_X1_placeOf_X1 0 5 rfl rfl (by decide) fl_X1_placeOf_32 rfl rfl dX1_placeOf_4 ?_
    refine g_icmp_ge 7 28 C dX1_placeOf_7 (by decide) (fun c => ?_) (fun c => ?_)
    · replace h := it_e c h
      refine GG.sub (lv' := []) [] rfl ?_
      exact hx v2 h
    · replace h := if_e c h
      refine g_aload_n 10 C 0 dX1_placeOf_10 rfl rfl ?_
      refine g_get 11 C in_X1_placeOf_X1 0 2 rfl rfl (by decide) fl_X1_placeOf_18 rfl rfl dX1_placeOf_11 ?_
      refine g_iload_n 14 C 2 dX1_placeOf_14 rfl rfl ?_
      obtain ⟨o1, h⟩ := ob_e h
      refine g_iald 15 C 1 rfl o1 dX1_placeOf_15 ?_
      refine g_iload_n 16 C 1 dX1_placeOf_16 rfl rfl ?_
      refine g_icmp_ne 17 22 C dX1_placeOf_17 (by decide) (fun c => ?_) (fun c => ?_)
      · replace h := if_e c h
        refine g_iinc 22 C 2 (1 : Int32) [(2, .int (v2 + (1 : Int32))), (0, .ref h_t), (1, .int v1)] dX1_placeOf_22 rfl (by decide) (by decide) rfl ?_
        refine g_goto 25 2 C dX1_placeOf_25 (by decide) ?_
        refine GG.sub (lv' := [(0, .ref h_t), (1, .int v1), (2, .int (v2 + (1 : Int32)))]) [1, 2, 0] rfl ?_
        exact hr (v2 + (1 : Int32)) h
      · replace h := it_e c h
        refine g_iload_n 20 C 2 dX1_placeOf_20 rfl rfl ?_
        obtain rfl := Option.some.inj h
        exact g_iret 21 C hA rfl dX1_placeOf_21 rfl
set_option maxHeartbeats 4000000 in
set_option maxRecDepth 100000 in
theorem ok_B_X1_placeOf_28 {h_t : Nat} {h_t_cuts : Nat} {h_t_worths : Nat} {h_t_ahead : Nat} {s_kind : Int32} {s_links : Int32} {s_cutCount : Int32} {s_cuts : Nat → Int32} {res : Int32} (C : CX p s m args meth c cX1_placeOf wsX1_placeOf RX1 3 D k A (some .int)) (hA : A = va_A w0 sz)  (h : B_X1_placeOf_28 = some res) : GG p l e rm_X1_placeOf s m args below meth c (MQ below (cQi D w0 sz res (W_X1_placeOf k h_t h_t_cuts h_t_worths h_t_ahead s_kind s_links s_cutCount s_cuts)) args s 0 0 A) D A 3 0 0 28 [] [] (W_X1_placeOf k h_t h_t_cuts h_t_worths h_t_ahead s_kind s_links s_cutCount s_cuts) := by
  unfold B_X1_placeOf_28 at h
  refine g_iconst 28 C (-1 : Int32) dX1_placeOf_28 (by decide) ?_
  obtain rfl := Option.some.inj h
  exact g_iret 29 C hA rfl dX1_placeOf_29 rfl
set_option maxHeartbeats 4000000 in
set_option maxRecDepth 100000 in
theorem k_X1_placeOf {l : Launch} {D : va_G} {k : Nat → ClassId} (h_t : Nat) (h_t_cuts : Nat) (h_t_worths : Nat) (h_t_ahead : Nat) (s_kind : Int32) (s_links : Int32) (s_cutCount : Int32) (s_cuts : Nat → Int32) (v1 : Int32) (res : Int32) (h : f_X1_placeOf s_cutCount s_cuts v1 = some res) (sz : Nat) : Met l yX1_placeOf wsX1_placeOf rm_X1_placeOf (cPre D k [.ref h_t, .int v1] (W_X1_placeOf k h_t h_t_cuts h_t_worths h_t_ahead s_kind s_links s_cutCount s_cuts) sz) (cQi D (W_X1_placeOf k h_t h_t_cuts h_t_worths h_t_ahead s_kind s_links s_cutCount s_cuts) sz res (W_X1_placeOf k h_t h_t_cuts h_t_worths h_t_ahead s_kind s_links s_cutCount s_cuts)) 0 0 (va_A (W_X1_placeOf k h_t h_t_cuts h_t_worths h_t_ahead s_kind s_links s_cutCount s_cuts) sz) := by
  refine met_of [(0, .ref h_t), (1, .int v1)] (by decide) rfl rfl (Nat.le_of_ble_eq_true rfl) rfl ?_
  intro p e s m args below meth c A hA hsz C
  unfold f_X1_placeOf at h
  refine g_iconst 0 C (0 : Int32) dX1_placeOf_0 (by decide) ?_
  refine g_istore_n 1 C [(2, .int (0 : Int32)), (0, .ref h_t), (1, .int v1)] dX1_placeOf_1 rfl (by decide) rfl ?_
  refine GG.sub (lv' := [(0, .ref h_t), (1, .int v1), (2, .int (0 : Int32))]) [1, 2, 0] rfl ?_
  exact ok_L_X1_placeOf_2 C hA (fun t h => by
    refine GG.sub (lv' := []) [] rfl ?_
    exact ok_B_X1_placeOf_28 C hA h) FUEL (0 : Int32) h
end

/-! X1_open -/
abbrev W_X1_open (k : Nat → ClassId) (h_t : Nat) (h_t_cuts : Nat) (h_t_worths : Nat) (h_t_ahead : Nat) (s_kind : Int32) (s_links : Int32) (s_cutCount : Int32) (s_cuts : Nat → Int32) : va_W := [(h_t, .inr (1, [.ref h_t_worths, .ref h_t_ahead, .ref h_t_cuts, .int s_kind, .int s_links, .int s_cutCount])), (h_t_cuts, .inl (k 0, 5, .inl s_cuts))]
def rm_X1_open : Room := { frames := 0, cells := 0, slots := 0, locals := 0 }
theorem in_X1_open_X1 : ∀ w ∈ u_ws RX1 TX1 6, w ∈ wsX1_open := by decide +kernel
theorem fl_X1_open_18 : Cond.fieldLink RX1 18 "LinkDays$Chain" "cuts" "[I" ∈ wsX1_open := by decide +kernel
theorem fl_X1_open_32 : Cond.fieldLink RX1 32 "LinkDays$Chain" "cutCount" "I" ∈ wsX1_open := by decide +kernel
theorem pd_X1_open : yX1_open.cls = RX1 ∧ yX1_open.cls ≠ "java/lang/invoke/MethodHandle" ∧ yX1_open.cls ≠ "java/lang/invoke/VarHandle" ∧ (parseMethodDescriptor yX1_open.desc).map (fun d => d.parameters.length) = some 1 := by decide +kernel
section
variable {p : Program} {l : Launch} {e : Env} {s : State} {m : MethodId} {args : Array Value} {below : List Frame} {meth : Method} {c : Code} {D : va_G} {k : Nat → ClassId} {A : Nat → Prop} {w0 : va_W} {sz : Nat}
set_option maxHeartbeats 4000000 in
set_option maxRecDepth 100000 in
theorem ok_L_X1_open_12 {h_t : Nat} {h_t_cuts : Nat} {h_t_worths : Nat} {h_t_ahead : Nat} {s_kind : Int32} {s_links : Int32} {s_cutCount : Int32} {v1 : Int32} {res : Int32 × (Nat → Int32)} (C : CX p s m args meth c cX1_open wsX1_open RX1 4 D k A none) (hA : A = va_A w0 sz) {kx : Int32 × Int32 × (Nat → Int32) → Option (Int32 × (Nat → Int32))} (hx : ∀ t : Int32 × Int32 × (Nat → Int32), kx t = some res → GG p l e rm_X1_open s m args below meth c (MQ below (cQv D w0 sz (W_X1_open k h_t h_t_cuts h_t_worths h_t_ahead s_kind s_links res.1 res.2)) args s 0 0 A) D A 4 0 0 48 [(0, .ref h_t), (1, .int v1), (2, .int t.1)] [] (W_X1_open k h_t h_t_cuts h_t_worths h_t_ahead s_kind s_links s_cutCount t.2.2)) : ∀ (n : Nat) (t : Int32 × Int32 × (Nat → Int32)), L_X1_open_12 v1 kx n t = some res → GG p l e rm_X1_open s m args below meth c (MQ below (cQv D w0 sz (W_X1_open k h_t h_t_cuts h_t_worths h_t_ahead s_kind s_links res.1 res.2)) args s 0 0 A) D A 4 0 0 12 [(0, .ref h_t), (1, .int v1), (2, .int t.1), (3, .int t.2.1)] [] (W_X1_open k h_t h_t_cuts h_t_worths h_t_ahead s_kind s_links s_cutCount t.2.2) := by
  intro n
  induction n with
  | zero => intro t h; cases h
  | succ n ih =>
    intro t h
    obtain ⟨v2, v3, s_cuts⟩ := t
    replace h : LB_X1_open_12 v1 kx (L_X1_open_12 v1 kx n) v2 v3 s_cuts = some res := h
    have hr := ih
    unfold LB_X1_open_12 at h
    refine g_iload_n 12 C 3 dX1_open_12 rfl rfl ?_
    refine g_if_lt 13 48 C dX1_open_13 (by decide) (fun c => ?_) (fun c => ?_)
    · replace h := it_e c h
      refine GG.sub (lv' := [(0, .ref h_t), (1, .int v1), (2, .int v2)]) [0, 1, 2] rfl ?_
      exact hx (v2, v3, s_cuts) h
    · replace h := if_e c h
      refine g_aload_n 16 C 0 dX1_open_16 rfl rfl ?_
      refine g_get 17 C in_X1_open_X1 0 2 rfl rfl (by decide) fl_X1_open_18 rfl rfl dX1_open_17 ?_
      refine g_iload_n 20 C 3 dX1_open_20 rfl rfl ?_
      obtain ⟨o1, h⟩ := ob_e h
      refine g_iald 21 C 1 rfl o1 dX1_open_21 ?_
      refine g_iload_n 22 C 1 dX1_open_22 rfl rfl ?_
      refine g_icmp_le 23 48 C dX1_open_23 (by decide) (fun c => ?_) (fun c => ?_)
      · replace h := it_e c h
        refine GG.sub (lv' := [(0, .ref h_t), (1, .int v1), (2, .int v2)]) [0, 1, 2] rfl ?_
        exact hx (v2, v3, s_cuts) h
      · replace h := if_e c h
        refine g_aload_n 26 C 0 dX1_open_26 rfl rfl ?_
        refine g_get 27 C in_X1_open_X1 0 2 rfl rfl (by decide) fl_X1_open_18 rfl rfl dX1_open_27 ?_
        refine g_iload_n 30 C 3 dX1_open_30 rfl rfl ?_
        refine g_iconst 31 C (1 : Int32) dX1_open_31 (by decide) ?_
        refine g_iadd 32 C dX1_open_32 ?_
        refine g_aload_n 33 C 0 dX1_open_33 rfl rfl ?_
        refine g_get 34 C in_X1_open_X1 0 2 rfl rfl (by decide) fl_X1_open_18 rfl rfl dX1_open_34 ?_
        refine g_iload_n 37 C 3 dX1_open_37 rfl rfl ?_
        obtain ⟨o2, h⟩ := ob_e h
        refine g_iald 38 C 1 rfl o2 dX1_open_38 ?_
        obtain ⟨o3, h⟩ := ob_e h
        refine g_iast 39 C (W_X1_open k h_t h_t_cuts h_t_worths h_t_ahead s_kind s_links s_cutCount (upd s_cuts (v3 + (1 : Int32)).toNatClampNeg (s_cuts v3.toNatClampNeg))) 1 rfl o3 rfl dX1_open_39 ?_
        refine g_iload_n 40 C 3 dX1_open_40 rfl rfl ?_
        refine g_istore_n 41 C [(2, .int v3), (0, .ref h_t), (1, .int v1), (3, .int v3)] dX1_open_41 rfl (by decide) rfl ?_
        refine g_iinc 42 C 3 (-1 : Int32) [(3, .int (v3 + (-1 : Int32))), (2, .int v3), (0, .ref h_t), (1, .int v1)] dX1_open_42 rfl (by decide) (by decide) rfl ?_
        refine g_goto 45 12 C dX1_open_45 (by decide) ?_
        refine GG.sub (lv' := [(0, .ref h_t), (1, .int v1), (2, .int v3), (3, .int (v3 + (-1 : Int32)))]) [2, 3, 1, 0] rfl ?_
        exact hr (v3, (v3 + (-1 : Int32)), (upd s_cuts (v3 + (1 : Int32)).toNatClampNeg (s_cuts v3.toNatClampNeg))) h
set_option maxHeartbeats 4000000 in
set_option maxRecDepth 100000 in
theorem ok_B_X1_open_48 {h_t : Nat} {h_t_cuts : Nat} {h_t_worths : Nat} {h_t_ahead : Nat} {s_kind : Int32} {s_links : Int32} {s_cutCount : Int32} {s_cuts : Nat → Int32} {v1 : Int32} {v2 : Int32} {res : Int32 × (Nat → Int32)} (C : CX p s m args meth c cX1_open wsX1_open RX1 4 D k A none) (hA : A = va_A w0 sz)  (h : B_X1_open_48 s_cutCount s_cuts v1 v2 = some res) : GG p l e rm_X1_open s m args below meth c (MQ below (cQv D w0 sz (W_X1_open k h_t h_t_cuts h_t_worths h_t_ahead s_kind s_links res.1 res.2)) args s 0 0 A) D A 4 0 0 48 [(0, .ref h_t), (1, .int v1), (2, .int v2)] [] (W_X1_open k h_t h_t_cuts h_t_worths h_t_ahead s_kind s_links s_cutCount s_cuts) := by
  unfold B_X1_open_48 at h
  refine g_aload_n 48 C 0 dX1_open_48 rfl rfl ?_
  refine g_get 49 C in_X1_open_X1 0 2 rfl rfl (by decide) fl_X1_open_18 rfl rfl dX1_open_49 ?_
  refine g_iload_n 52 C 2 dX1_open_52 rfl rfl ?_
  refine g_iload_n 53 C 1 dX1_open_53 rfl rfl ?_
  obtain ⟨o4, h⟩ := ob_e h
  refine g_iast 54 C (W_X1_open k h_t h_t_cuts h_t_worths h_t_ahead s_kind s_links s_cutCount (upd s_cuts v2.toNatClampNeg v1)) 1 rfl o4 rfl dX1_open_54 ?_
  refine g_aload_n 55 C 0 dX1_open_55 rfl rfl ?_
  refine g_dup 56 C dX1_open_56 rfl ?_
  refine g_get 57 C in_X1_open_X1 0 5 rfl rfl (by decide) fl_X1_open_32 rfl rfl dX1_open_57 ?_
  refine g_iconst 60 C (1 : Int32) dX1_open_60 (by decide) ?_
  refine g_iadd 61 C dX1_open_61 ?_
  refine g_put 62 C (W_X1_open k h_t h_t_cuts h_t_worths h_t_ahead s_kind s_links (s_cutCount + (1 : Int32)) (upd s_cuts v2.toNatClampNeg v1)) in_X1_open_X1 tyX1 tyX1_ok nmX1 0 5 rfl rfl (by decide) fl_X1_open_32 rfl rfl (tyX1_ok 5 (by decide)) rfl rfl (Nat.le_of_ble_eq_true rfl) rfl dX1_open_62 ?_
  obtain rfl := Option.some.inj h
  exact g_vret 65 C hA dX1_open_65 rfl
set_option maxHeartbeats 4000000 in
set_option maxRecDepth 100000 in
theorem k_X1_open {l : Launch} {D : va_G} {k : Nat → ClassId} (h_t : Nat) (h_t_cuts : Nat) (h_t_worths : Nat) (h_t_ahead : Nat) (s_kind : Int32) (s_links : Int32) (s_cutCount : Int32) (s_cuts : Nat → Int32) (v1 : Int32) (res : Int32 × (Nat → Int32)) (h : f_X1_open s_cutCount s_cuts v1 = some res) (sz : Nat) : Met l yX1_open wsX1_open rm_X1_open (cPre D k [.ref h_t, .int v1] (W_X1_open k h_t h_t_cuts h_t_worths h_t_ahead s_kind s_links s_cutCount s_cuts) sz) (cQv D (W_X1_open k h_t h_t_cuts h_t_worths h_t_ahead s_kind s_links s_cutCount s_cuts) sz (W_X1_open k h_t h_t_cuts h_t_worths h_t_ahead s_kind s_links res.1 res.2)) 0 0 (va_A (W_X1_open k h_t h_t_cuts h_t_worths h_t_ahead s_kind s_links s_cutCount s_cuts) sz) := by
  refine met_of [(0, .ref h_t), (1, .int v1)] (by decide) rfl rfl (Nat.le_of_ble_eq_true rfl) rfl ?_
  intro p e s m args below meth c A hA hsz C
  unfold f_X1_open at h
  refine g_aload_n 0 C 0 dX1_open_0 rfl rfl ?_
  refine g_get 1 C in_X1_open_X1 0 5 rfl rfl (by decide) fl_X1_open_32 rfl rfl dX1_open_1 ?_
  refine g_istore_n 4 C [(2, .int s_cutCount), (0, .ref h_t), (1, .int v1)] dX1_open_4 rfl (by decide) rfl ?_
  refine g_aload_n 5 C 1 dX1_open_5 rfl rfl ?_
  refine g_get 6 C in_X1_open_X1 0 5 rfl rfl (by decide) fl_X1_open_32 rfl rfl dX1_open_6 ?_
  refine g_iconst 9 C (1 : Int32) dX1_open_9 (by decide) ?_
  refine g_isub 10 C dX1_open_10 ?_
  refine g_istore_n 11 C [(3, .int (s_cutCount - (1 : Int32))), (2, .int s_cutCount), (0, .ref h_t), (1, .int v1)] dX1_open_11 rfl (by decide) rfl ?_
  refine GG.sub (lv' := [(0, .ref h_t), (1, .int v1), (2, .int s_cutCount), (3, .int (s_cutCount - (1 : Int32)))]) [2, 3, 1, 0] rfl ?_
  exact ok_L_X1_open_12 C hA (fun t h => by
    refine GG.sub (lv' := [(0, .ref h_t), (1, .int v1), (2, .int t.1)]) [0, 1, 2] rfl ?_
    exact ok_B_X1_open_48 C hA h) FUEL (s_cutCount, (s_cutCount - (1 : Int32)), s_cuts) h
end

/-! X1_close -/
abbrev W_X1_close (k : Nat → ClassId) (h_t : Nat) (h_t_cuts : Nat) (h_t_worths : Nat) (h_t_ahead : Nat) (s_kind : Int32) (s_links : Int32) (s_cutCount : Int32) (s_cuts : Nat → Int32) : va_W := [(h_t, .inr (1, [.ref h_t_worths, .ref h_t_ahead, .ref h_t_cuts, .int s_kind, .int s_links, .int s_cutCount])), (h_t_cuts, .inl (k 0, 5, .inl s_cuts))]
def rm_X1_close : Room := { frames := 0, cells := 0, slots := 0, locals := 0 }
theorem in_X1_close_X1 : ∀ w ∈ u_ws RX1 TX1 6, w ∈ wsX1_close := by decide +kernel
theorem fl_X1_close_18 : Cond.fieldLink RX1 18 "LinkDays$Chain" "cuts" "[I" ∈ wsX1_close := by decide +kernel
theorem fl_X1_close_32 : Cond.fieldLink RX1 32 "LinkDays$Chain" "cutCount" "I" ∈ wsX1_close := by decide +kernel
theorem pd_X1_close : yX1_close.cls = RX1 ∧ yX1_close.cls ≠ "java/lang/invoke/MethodHandle" ∧ yX1_close.cls ≠ "java/lang/invoke/VarHandle" ∧ (parseMethodDescriptor yX1_close.desc).map (fun d => d.parameters.length) = some 1 := by decide +kernel
section
variable {p : Program} {l : Launch} {e : Env} {s : State} {m : MethodId} {args : Array Value} {below : List Frame} {meth : Method} {c : Code} {D : va_G} {k : Nat → ClassId} {A : Nat → Prop} {w0 : va_W} {sz : Nat}
set_option maxHeartbeats 4000000 in
set_option maxRecDepth 100000 in
theorem ok_L_X1_close_2 {h_t : Nat} {h_t_cuts : Nat} {h_t_worths : Nat} {h_t_ahead : Nat} {s_kind : Int32} {s_links : Int32} {s_cutCount : Int32} {res : Int32 × (Nat → Int32)} (C : CX p s m args meth c cX1_close wsX1_close RX1 3 D k A none) (hA : A = va_A w0 sz) {kx : Int32 × (Nat → Int32) → Option (Int32 × (Nat → Int32))} (hx : ∀ t : Int32 × (Nat → Int32), kx t = some res → GG p l e rm_X1_close s m args below meth c (MQ below (cQv D w0 sz (W_X1_close k h_t h_t_cuts h_t_worths h_t_ahead s_kind s_links res.1 res.2)) args s 0 0 A) D A 3 0 0 32 [(0, .ref h_t)] [] (W_X1_close k h_t h_t_cuts h_t_worths h_t_ahead s_kind s_links s_cutCount t.2)) : ∀ (n : Nat) (t : Int32 × (Nat → Int32)), L_X1_close_2 s_cutCount kx n t = some res → GG p l e rm_X1_close s m args below meth c (MQ below (cQv D w0 sz (W_X1_close k h_t h_t_cuts h_t_worths h_t_ahead s_kind s_links res.1 res.2)) args s 0 0 A) D A 3 0 0 2 [(0, .ref h_t), (2, .int t.1)] [] (W_X1_close k h_t h_t_cuts h_t_worths h_t_ahead s_kind s_links s_cutCount t.2) := by
  intro n
  induction n with
  | zero => intro t h; cases h
  | succ n ih =>
    intro t h
    obtain ⟨v2, s_cuts⟩ := t
    replace h : LB_X1_close_2 s_cutCount kx (L_X1_close_2 s_cutCount kx n) v2 s_cuts = some res := h
    have hr := ih
    unfold LB_X1_close_2 at h
    refine g_iload_n 2 C 1 dX1_close_2 rfl rfl ?_
    refine g_iconst 3 C (1 : Int32) dX1_close_3 (by decide) ?_
    refine g_iadd 4 C dX1_close_4 ?_
    refine g_aload_n 5 C 0 dX1_close_5 rfl rfl ?_
    refine g_get 6 C in_X1_close_X1 0 5 rfl rfl (by decide) fl_X1_close_32 rfl rfl dX1_close_6 ?_
    refine g_icmp_ge 9 32 C dX1_close_9 (by decide) (fun c => ?_) (fun c => ?_)
    · replace h := it_e c h
      refine GG.sub (lv' := [(0, .ref h_t)]) [0] rfl ?_
      exact hx (v2, s_cuts) h
    · replace h := if_e c h
      refine g_aload_n 12 C 0 dX1_close_12 rfl rfl ?_
      refine g_get 13 C in_X1_close_X1 0 2 rfl rfl (by decide) fl_X1_close_18 rfl rfl dX1_close_13 ?_
      refine g_iload_n 16 C 1 dX1_close_16 rfl rfl ?_
      refine g_aload_n 17 C 0 dX1_close_17 rfl rfl ?_
      refine g_get 18 C in_X1_close_X1 0 2 rfl rfl (by decide) fl_X1_close_18 rfl rfl dX1_close_18 ?_
      refine g_iload_n 21 C 1 dX1_close_21 rfl rfl ?_
      refine g_iconst 22 C (1 : Int32) dX1_close_22 (by decide) ?_
      refine g_iadd 23 C dX1_close_23 ?_
      obtain ⟨o1, h⟩ := ob_e h
      refine g_iald 24 C 1 rfl o1 dX1_close_24 ?_
      obtain ⟨o2, h⟩ := ob_e h
      refine g_iast 25 C (W_X1_close k h_t h_t_cuts h_t_worths h_t_ahead s_kind s_links s_cutCount (upd s_cuts v2.toNatClampNeg (s_cuts (v2 + (1 : Int32)).toNatClampNeg))) 1 rfl o2 rfl dX1_close_25 ?_
      refine g_iinc 26 C 1 (1 : Int32) [(2, .int (v2 + (1 : Int32))), (0, .ref h_t)] dX1_close_26 rfl (by decide) (by decide) rfl ?_
      refine g_goto 29 2 C dX1_close_29 (by decide) ?_
      refine GG.sub (lv' := [(0, .ref h_t), (2, .int (v2 + (1 : Int32)))]) [1, 0] rfl ?_
      exact hr ((v2 + (1 : Int32)), (upd s_cuts v2.toNatClampNeg (s_cuts (v2 + (1 : Int32)).toNatClampNeg))) h
set_option maxHeartbeats 4000000 in
set_option maxRecDepth 100000 in
theorem ok_B_X1_close_32 {h_t : Nat} {h_t_cuts : Nat} {h_t_worths : Nat} {h_t_ahead : Nat} {s_kind : Int32} {s_links : Int32} {s_cutCount : Int32} {s_cuts : Nat → Int32} {res : Int32 × (Nat → Int32)} (C : CX p s m args meth c cX1_close wsX1_close RX1 3 D k A none) (hA : A = va_A w0 sz)  (h : B_X1_close_32 s_cutCount s_cuts = some res) : GG p l e rm_X1_close s m args below meth c (MQ below (cQv D w0 sz (W_X1_close k h_t h_t_cuts h_t_worths h_t_ahead s_kind s_links res.1 res.2)) args s 0 0 A) D A 3 0 0 32 [(0, .ref h_t)] [] (W_X1_close k h_t h_t_cuts h_t_worths h_t_ahead s_kind s_links s_cutCount s_cuts) := by
  unfold B_X1_close_32 at h
  refine g_aload_n 32 C 0 dX1_close_32 rfl rfl ?_
  refine g_dup 33 C dX1_close_33 rfl ?_
  refine g_get 34 C in_X1_close_X1 0 5 rfl rfl (by decide) fl_X1_close_32 rfl rfl dX1_close_34 ?_
  refine g_iconst 37 C (1 : Int32) dX1_close_37 (by decide) ?_
  refine g_isub 38 C dX1_close_38 ?_
  refine g_put 39 C (W_X1_close k h_t h_t_cuts h_t_worths h_t_ahead s_kind s_links (s_cutCount - (1 : Int32)) s_cuts) in_X1_close_X1 tyX1 tyX1_ok nmX1 0 5 rfl rfl (by decide) fl_X1_close_32 rfl rfl (tyX1_ok 5 (by decide)) rfl rfl (Nat.le_of_ble_eq_true rfl) rfl dX1_close_39 ?_
  obtain rfl := Option.some.inj h
  exact g_vret 42 C hA dX1_close_42 rfl
set_option maxHeartbeats 4000000 in
set_option maxRecDepth 100000 in
theorem k_X1_close {l : Launch} {D : va_G} {k : Nat → ClassId} (h_t : Nat) (h_t_cuts : Nat) (h_t_worths : Nat) (h_t_ahead : Nat) (s_kind : Int32) (s_links : Int32) (s_cutCount : Int32) (s_cuts : Nat → Int32) (v1 : Int32) (res : Int32 × (Nat → Int32)) (h : f_X1_close s_cutCount s_cuts v1 = some res) (sz : Nat) : Met l yX1_close wsX1_close rm_X1_close (cPre D k [.ref h_t, .int v1] (W_X1_close k h_t h_t_cuts h_t_worths h_t_ahead s_kind s_links s_cutCount s_cuts) sz) (cQv D (W_X1_close k h_t h_t_cuts h_t_worths h_t_ahead s_kind s_links s_cutCount s_cuts) sz (W_X1_close k h_t h_t_cuts h_t_worths h_t_ahead s_kind s_links res.1 res.2)) 0 0 (va_A (W_X1_close k h_t h_t_cuts h_t_worths h_t_ahead s_kind s_links s_cutCount s_cuts) sz) := by
  refine met_of [(0, .ref h_t), (1, .int v1)] (by decide) rfl rfl (Nat.le_of_ble_eq_true rfl) rfl ?_
  intro p e s m args below meth c A hA hsz C
  unfold f_X1_close at h
  refine g_iload_n 0 C 1 dX1_close_0 rfl rfl ?_
  refine g_istore_n 1 C [(2, .int v1), (0, .ref h_t), (1, .int v1)] dX1_close_1 rfl (by decide) rfl ?_
  refine GG.sub (lv' := [(0, .ref h_t), (2, .int v1)]) [1, 0] rfl ?_
  exact ok_L_X1_close_2 C hA (fun t h => by
    refine GG.sub (lv' := [(0, .ref h_t)]) [0] rfl ?_
    exact ok_B_X1_close_32 C hA h) FUEL (v1, s_cuts) h
end

/-! X1_take -/
abbrev W_X1_take (k : Nat → ClassId) (h_t : Nat) (h_t_worths : Nat) (h_t_ahead : Nat) (h_t_cuts : Nat) (h_a0 : Nat) (h_a0_worths : Nat) (h_a0_ahead : Nat) (h_a0_cuts : Nat) (s_kind : Int32) (s_links : Int32) (s_cutCount : Int32) (s_worths : Nat → Int32) (s_ahead : Nat → Int32) (s_cuts : Nat → Int32) (s_a0_kind : Int32) (s_a0_links : Int32) (s_a0_cutCount : Int32) (s_a0_worths : Nat → Int32) (s_a0_ahead : Nat → Int32) (s_a0_cuts : Nat → Int32) : va_W := [(h_t, .inr (1, [.ref h_t_worths, .ref h_t_ahead, .ref h_t_cuts, .int s_kind, .int s_links, .int s_cutCount])), (h_t_worths, .inl (k 0, 24, .inl s_worths)), (h_t_ahead, .inl (k 0, 25, .inl s_ahead)), (h_t_cuts, .inl (k 0, 5, .inl s_cuts)), (h_a0, .inr (1, [.ref h_a0_worths, .ref h_a0_ahead, .ref h_a0_cuts, .int s_a0_kind, .int s_a0_links, .int s_a0_cutCount])), (h_a0_worths, .inl (k 0, 24, .inl s_a0_worths)), (h_a0_ahead, .inl (k 0, 25, .inl s_a0_ahead)), (h_a0_cuts, .inl (k 0, 5, .inl s_a0_cuts))]
def rm_X1_take : Room := { frames := 1, cells := 0, slots := 0, locals := 40 }
theorem in_X1_take_X1 : ∀ w ∈ u_ws RX1 TX1 6, w ∈ wsX1_take := by decide +kernel
theorem cl_X1_take_43 : Cond.methodLink RX1 43 arraycopyName ∈ wsX1_take := by decide +kernel
theorem fl_X1_take_15 : Cond.fieldLink RX1 15 "LinkDays$Chain" "ahead" "[I" ∈ wsX1_take := by decide +kernel
theorem fl_X1_take_18 : Cond.fieldLink RX1 18 "LinkDays$Chain" "cuts" "[I" ∈ wsX1_take := by decide +kernel
theorem fl_X1_take_21 : Cond.fieldLink RX1 21 "LinkDays$Chain" "kind" "I" ∈ wsX1_take := by decide +kernel
theorem fl_X1_take_29 : Cond.fieldLink RX1 29 "LinkDays$Chain" "links" "I" ∈ wsX1_take := by decide +kernel
theorem fl_X1_take_32 : Cond.fieldLink RX1 32 "LinkDays$Chain" "cutCount" "I" ∈ wsX1_take := by decide +kernel
theorem fl_X1_take_9 : Cond.fieldLink RX1 9 "LinkDays$Chain" "worths" "[I" ∈ wsX1_take := by decide +kernel
theorem init_X1_take_copy : Cond.initialized "java/lang/System" ∈ wsX1_take := by decide +kernel
theorem native_X1_take_copy : Cond.native arraycopyName ∈ wsX1_take := by decide +kernel
theorem static_X1_take_copy : Cond.static arraycopyName ∈ wsX1_take := by decide +kernel
theorem pd_X1_take : yX1_take.cls = RX1 ∧ yX1_take.cls ≠ "java/lang/invoke/MethodHandle" ∧ yX1_take.cls ≠ "java/lang/invoke/VarHandle" ∧ (parseMethodDescriptor yX1_take.desc).map (fun d => d.parameters.length) = some 1 := by decide +kernel
section
variable {p : Program} {l : Launch} {e : Env} {s : State} {m : MethodId} {args : Array Value} {below : List Frame} {meth : Method} {c : Code} {D : va_G} {k : Nat → ClassId} {A : Nat → Prop} {w0 : va_W} {sz : Nat}
set_option maxHeartbeats 4000000 in
set_option maxRecDepth 100000 in
theorem k_X1_take {l : Launch} {D : va_G} {k : Nat → ClassId} (h_t : Nat) (h_t_worths : Nat) (h_t_ahead : Nat) (h_t_cuts : Nat) (h_a0 : Nat) (h_a0_worths : Nat) (h_a0_ahead : Nat) (h_a0_cuts : Nat) (s_kind : Int32) (s_links : Int32) (s_cutCount : Int32) (s_worths : Nat → Int32) (s_ahead : Nat → Int32) (s_cuts : Nat → Int32) (s_a0_kind : Int32) (s_a0_links : Int32) (s_a0_cutCount : Int32) (s_a0_worths : Nat → Int32) (s_a0_ahead : Nat → Int32) (s_a0_cuts : Nat → Int32) (res : Int32 × Int32 × Int32 × (Nat → Int32) × (Nat → Int32) × (Nat → Int32)) (h : f_X1_take s_worths s_ahead s_cuts s_a0_kind s_a0_links s_a0_cutCount s_a0_worths s_a0_ahead s_a0_cuts = some res) (sz : Nat) : Met l yX1_take wsX1_take rm_X1_take (cPre D k [.ref h_t, .ref h_a0] (W_X1_take k h_t h_t_worths h_t_ahead h_t_cuts h_a0 h_a0_worths h_a0_ahead h_a0_cuts s_kind s_links s_cutCount s_worths s_ahead s_cuts s_a0_kind s_a0_links s_a0_cutCount s_a0_worths s_a0_ahead s_a0_cuts) sz) (cQv D (W_X1_take k h_t h_t_worths h_t_ahead h_t_cuts h_a0 h_a0_worths h_a0_ahead h_a0_cuts s_kind s_links s_cutCount s_worths s_ahead s_cuts s_a0_kind s_a0_links s_a0_cutCount s_a0_worths s_a0_ahead s_a0_cuts) sz (W_X1_take k h_t h_t_worths h_t_ahead h_t_cuts h_a0 h_a0_worths h_a0_ahead h_a0_cuts res.1 res.2.1 res.2.2.1 res.2.2.2.1 res.2.2.2.2.1 res.2.2.2.2.2 s_a0_kind s_a0_links s_a0_cutCount s_a0_worths s_a0_ahead s_a0_cuts)) 0 0 (va_A (W_X1_take k h_t h_t_worths h_t_ahead h_t_cuts h_a0 h_a0_worths h_a0_ahead h_a0_cuts s_kind s_links s_cutCount s_worths s_ahead s_cuts s_a0_kind s_a0_links s_a0_cutCount s_a0_worths s_a0_ahead s_a0_cuts) sz) := by
  refine met_of [(0, .ref h_t), (1, .ref h_a0)] (by decide) rfl rfl (Nat.le_of_ble_eq_true rfl) rfl ?_
  intro p e s m args below meth c A hA hsz C
  unfold f_X1_take at h
  refine g_aload_n 0 C 1 dX1_take_0 rfl rfl ?_
  refine g_get 1 C in_X1_take_X1 4 0 rfl rfl (by decide) fl_X1_take_9 rfl rfl dX1_take_1 ?_
  refine g_iconst 4 C (0 : Int32) dX1_take_4 (by decide) ?_
  refine g_aload_n 5 C 0 dX1_take_5 rfl rfl ?_
  refine g_get 6 C in_X1_take_X1 0 0 rfl rfl (by decide) fl_X1_take_9 rfl rfl dX1_take_6 ?_
  refine g_iconst 9 C (0 : Int32) dX1_take_9 (by decide) ?_
  refine g_bipush 10 C (24 : Int32) dX1_take_10 (by decide) ?_
  obtain ⟨o1, h⟩ := ob_e h
  refine g_copyI 12 C (W_X1_take k h_t h_t_worths h_t_ahead h_t_cuts h_a0 h_a0_worths h_a0_ahead h_a0_cuts s_kind s_links s_cutCount (va_cpy s_a0_worths s_worths (0 : Int32).toNatClampNeg (0 : Int32).toNatClampNeg (24 : Int32).toNatClampNeg) s_ahead s_cuts s_a0_kind s_a0_links s_a0_cutCount s_a0_worths s_a0_ahead s_a0_cuts) 5 1 cl_X1_take_43 native_X1_take_copy static_X1_take_copy init_X1_take_copy rfl rfl o1 (Nat.le_of_ble_eq_true rfl) (by decide) rfl dX1_take_12 ?_
  refine g_aload_n 15 C 1 dX1_take_15 rfl rfl ?_
  refine g_get 16 C in_X1_take_X1 4 1 rfl rfl (by decide) fl_X1_take_15 rfl rfl dX1_take_16 ?_
  refine g_iconst 19 C (0 : Int32) dX1_take_19 (by decide) ?_
  refine g_aload_n 20 C 0 dX1_take_20 rfl rfl ?_
  refine g_get 21 C in_X1_take_X1 0 1 rfl rfl (by decide) fl_X1_take_15 rfl rfl dX1_take_21 ?_
  refine g_iconst 24 C (0 : Int32) dX1_take_24 (by decide) ?_
  refine g_bipush 25 C (25 : Int32) dX1_take_25 (by decide) ?_
  obtain ⟨o2, h⟩ := ob_e h
  refine g_copyI 27 C (W_X1_take k h_t h_t_worths h_t_ahead h_t_cuts h_a0 h_a0_worths h_a0_ahead h_a0_cuts s_kind s_links s_cutCount (va_cpy s_a0_worths s_worths (0 : Int32).toNatClampNeg (0 : Int32).toNatClampNeg (24 : Int32).toNatClampNeg) (va_cpy s_a0_ahead s_ahead (0 : Int32).toNatClampNeg (0 : Int32).toNatClampNeg (25 : Int32).toNatClampNeg) s_cuts s_a0_kind s_a0_links s_a0_cutCount s_a0_worths s_a0_ahead s_a0_cuts) 6 2 cl_X1_take_43 native_X1_take_copy static_X1_take_copy init_X1_take_copy rfl rfl o2 (Nat.le_of_ble_eq_true rfl) (by decide) rfl dX1_take_27 ?_
  refine g_aload_n 30 C 1 dX1_take_30 rfl rfl ?_
  refine g_get 31 C in_X1_take_X1 4 2 rfl rfl (by decide) fl_X1_take_18 rfl rfl dX1_take_31 ?_
  refine g_iconst 34 C (0 : Int32) dX1_take_34 (by decide) ?_
  refine g_aload_n 35 C 0 dX1_take_35 rfl rfl ?_
  refine g_get 36 C in_X1_take_X1 0 2 rfl rfl (by decide) fl_X1_take_18 rfl rfl dX1_take_36 ?_
  refine g_iconst 39 C (0 : Int32) dX1_take_39 (by decide) ?_
  refine g_iconst 40 C (5 : Int32) dX1_take_40 (by decide) ?_
  obtain ⟨o3, h⟩ := ob_e h
  refine g_copyI 41 C (W_X1_take k h_t h_t_worths h_t_ahead h_t_cuts h_a0 h_a0_worths h_a0_ahead h_a0_cuts s_kind s_links s_cutCount (va_cpy s_a0_worths s_worths (0 : Int32).toNatClampNeg (0 : Int32).toNatClampNeg (24 : Int32).toNatClampNeg) (va_cpy s_a0_ahead s_ahead (0 : Int32).toNatClampNeg (0 : Int32).toNatClampNeg (25 : Int32).toNatClampNeg) (va_cpy s_a0_cuts s_cuts (0 : Int32).toNatClampNeg (0 : Int32).toNatClampNeg (5 : Int32).toNatClampNeg) s_a0_kind s_a0_links s_a0_cutCount s_a0_worths s_a0_ahead s_a0_cuts) 7 3 cl_X1_take_43 native_X1_take_copy static_X1_take_copy init_X1_take_copy rfl rfl o3 (Nat.le_of_ble_eq_true rfl) (by decide) rfl dX1_take_41 ?_
  refine g_aload_n 44 C 0 dX1_take_44 rfl rfl ?_
  refine g_aload_n 45 C 1 dX1_take_45 rfl rfl ?_
  refine g_get 46 C in_X1_take_X1 4 3 rfl rfl (by decide) fl_X1_take_21 rfl rfl dX1_take_46 ?_
  refine g_put 49 C (W_X1_take k h_t h_t_worths h_t_ahead h_t_cuts h_a0 h_a0_worths h_a0_ahead h_a0_cuts s_a0_kind s_links s_cutCount (va_cpy s_a0_worths s_worths (0 : Int32).toNatClampNeg (0 : Int32).toNatClampNeg (24 : Int32).toNatClampNeg) (va_cpy s_a0_ahead s_ahead (0 : Int32).toNatClampNeg (0 : Int32).toNatClampNeg (25 : Int32).toNatClampNeg) (va_cpy s_a0_cuts s_cuts (0 : Int32).toNatClampNeg (0 : Int32).toNatClampNeg (5 : Int32).toNatClampNeg) s_a0_kind s_a0_links s_a0_cutCount s_a0_worths s_a0_ahead s_a0_cuts) in_X1_take_X1 tyX1 tyX1_ok nmX1 0 3 rfl rfl (by decide) fl_X1_take_21 rfl rfl (tyX1_ok 3 (by decide)) rfl rfl (Nat.le_of_ble_eq_true rfl) rfl dX1_take_49 ?_
  refine g_aload_n 52 C 0 dX1_take_52 rfl rfl ?_
  refine g_aload_n 53 C 1 dX1_take_53 rfl rfl ?_
  refine g_get 54 C in_X1_take_X1 4 4 rfl rfl (by decide) fl_X1_take_29 rfl rfl dX1_take_54 ?_
  refine g_put 57 C (W_X1_take k h_t h_t_worths h_t_ahead h_t_cuts h_a0 h_a0_worths h_a0_ahead h_a0_cuts s_a0_kind s_a0_links s_cutCount (va_cpy s_a0_worths s_worths (0 : Int32).toNatClampNeg (0 : Int32).toNatClampNeg (24 : Int32).toNatClampNeg) (va_cpy s_a0_ahead s_ahead (0 : Int32).toNatClampNeg (0 : Int32).toNatClampNeg (25 : Int32).toNatClampNeg) (va_cpy s_a0_cuts s_cuts (0 : Int32).toNatClampNeg (0 : Int32).toNatClampNeg (5 : Int32).toNatClampNeg) s_a0_kind s_a0_links s_a0_cutCount s_a0_worths s_a0_ahead s_a0_cuts) in_X1_take_X1 tyX1 tyX1_ok nmX1 0 4 rfl rfl (by decide) fl_X1_take_29 rfl rfl (tyX1_ok 4 (by decide)) rfl rfl (Nat.le_of_ble_eq_true rfl) rfl dX1_take_57 ?_
  refine g_aload_n 60 C 0 dX1_take_60 rfl rfl ?_
  refine g_aload_n 61 C 1 dX1_take_61 rfl rfl ?_
  refine g_get 62 C in_X1_take_X1 4 5 rfl rfl (by decide) fl_X1_take_32 rfl rfl dX1_take_62 ?_
  refine g_put 65 C (W_X1_take k h_t h_t_worths h_t_ahead h_t_cuts h_a0 h_a0_worths h_a0_ahead h_a0_cuts s_a0_kind s_a0_links s_a0_cutCount (va_cpy s_a0_worths s_worths (0 : Int32).toNatClampNeg (0 : Int32).toNatClampNeg (24 : Int32).toNatClampNeg) (va_cpy s_a0_ahead s_ahead (0 : Int32).toNatClampNeg (0 : Int32).toNatClampNeg (25 : Int32).toNatClampNeg) (va_cpy s_a0_cuts s_cuts (0 : Int32).toNatClampNeg (0 : Int32).toNatClampNeg (5 : Int32).toNatClampNeg) s_a0_kind s_a0_links s_a0_cutCount s_a0_worths s_a0_ahead s_a0_cuts) in_X1_take_X1 tyX1 tyX1_ok nmX1 0 5 rfl rfl (by decide) fl_X1_take_32 rfl rfl (tyX1_ok 5 (by decide)) rfl rfl (Nat.le_of_ble_eq_true rfl) rfl dX1_take_65 ?_
  obtain rfl := Option.some.inj h
  exact g_vret 68 C hA dX1_take_68 rfl
end

/-! X2_begin -/
abbrev W_X2_begin (k : Nat → ClassId) (h_t : Nat) (h_t_row : Nat) (s_size : Int32) (s_bound : Int32) (s_row : Nat → Int32) : va_W := [(h_t, .inr (2, [.ref h_t_row, .int s_size, .int s_bound])), (h_t_row, .inl (k 0, 4, .inl s_row))]
def rm_X2_begin : Room := { frames := 0, cells := 0, slots := 0, locals := 0 }
theorem in_X2_begin_X2 : ∀ w ∈ u_ws RX2 TX2 3, w ∈ wsX2_begin := by decide +kernel
theorem fl_X2_begin_15 : Cond.fieldLink RX2 15 "LinkDays$Choice" "size" "I" ∈ wsX2_begin := by decide +kernel
theorem fl_X2_begin_19 : Cond.fieldLink RX2 19 "LinkDays$Choice" "bound" "I" ∈ wsX2_begin := by decide +kernel
theorem fl_X2_begin_9 : Cond.fieldLink RX2 9 "LinkDays$Choice" "row" "[I" ∈ wsX2_begin := by decide +kernel
theorem pd_X2_begin : yX2_begin.cls = RX2 ∧ yX2_begin.cls ≠ "java/lang/invoke/MethodHandle" ∧ yX2_begin.cls ≠ "java/lang/invoke/VarHandle" ∧ (parseMethodDescriptor yX2_begin.desc).map (fun d => d.parameters.length) = some 2 := by decide +kernel
section
variable {p : Program} {l : Launch} {e : Env} {s : State} {m : MethodId} {args : Array Value} {below : List Frame} {meth : Method} {c : Code} {D : va_G} {k : Nat → ClassId} {A : Nat → Prop} {w0 : va_W} {sz : Nat}
set_option maxHeartbeats 4000000 in
set_option maxRecDepth 100000 in
theorem ok_L_X2_begin_12 {h_t : Nat} {h_t_row : Nat} {s_size : Int32} {s_bound : Int32} {v1 : Int32} {v2 : Int32} {res : Int32 × Int32 × Int32 × (Nat → Int32)} (C : CX p s m args meth c cX2_begin wsX2_begin RX2 4 D k A (some .boolean)) (hA : A = va_A w0 sz) {kx : Int32 × (Nat → Int32) → Option (Int32 × Int32 × Int32 × (Nat → Int32))} (hx : ∀ t : Int32 × (Nat → Int32), kx t = some res → GG p l e rm_X2_begin s m args below meth c (MQ below (cQi D w0 sz res.1 (W_X2_begin k h_t h_t_row res.2.1 res.2.2.1 res.2.2.2)) args s 0 0 A) D A 4 0 0 30 [(1, .int v1), (2, .int v2)] [] (W_X2_begin k h_t h_t_row s_size s_bound t.2)) : ∀ (n : Nat) (t : Int32 × (Nat → Int32)), L_X2_begin_12 v1 kx n t = some res → GG p l e rm_X2_begin s m args below meth c (MQ below (cQi D w0 sz res.1 (W_X2_begin k h_t h_t_row res.2.1 res.2.2.1 res.2.2.2)) args s 0 0 A) D A 4 0 0 12 [(0, .ref h_t), (1, .int v1), (2, .int v2), (3, .int t.1)] [] (W_X2_begin k h_t h_t_row s_size s_bound t.2) := by
  intro n
  induction n with
  | zero => intro t h; cases h
  | succ n ih =>
    intro t h
    obtain ⟨v3, s_row⟩ := t
    replace h : LB_X2_begin_12 v1 kx (L_X2_begin_12 v1 kx n) v3 s_row = some res := h
    have hr := ih
    unfold LB_X2_begin_12 at h
    refine g_iload_n 12 C 3 dX2_begin_12 rfl rfl ?_
    refine g_iload_n 13 C 1 dX2_begin_13 rfl rfl ?_
    refine g_icmp_ge 14 30 C dX2_begin_14 (by decide) (fun c => ?_) (fun c => ?_)
    · replace h := it_e c h
      refine GG.sub (lv' := [(1, .int v1), (2, .int v2)]) [1, 2] rfl ?_
      exact hx (v3, s_row) h
    · replace h := if_e c h
      refine g_aload_n 17 C 0 dX2_begin_17 rfl rfl ?_
      refine g_get 18 C in_X2_begin_X2 0 0 rfl rfl (by decide) fl_X2_begin_9 rfl rfl dX2_begin_18 ?_
      refine g_iload_n 21 C 3 dX2_begin_21 rfl rfl ?_
      refine g_iload_n 22 C 3 dX2_begin_22 rfl rfl ?_
      obtain ⟨o1, h⟩ := ob_e h
      refine g_iast 23 C (W_X2_begin k h_t h_t_row s_size s_bound (upd s_row v3.toNatClampNeg v3)) 1 rfl o1 rfl dX2_begin_23 ?_
      refine g_iinc 24 C 3 (1 : Int32) [(3, .int (v3 + (1 : Int32))), (0, .ref h_t), (1, .int v1), (2, .int v2)] dX2_begin_24 rfl (by decide) (by decide) rfl ?_
      refine g_goto 27 12 C dX2_begin_27 (by decide) ?_
      refine GG.sub (lv' := [(0, .ref h_t), (1, .int v1), (2, .int v2), (3, .int (v3 + (1 : Int32)))]) [1, 2, 3, 0] rfl ?_
      exact hr ((v3 + (1 : Int32)), (upd s_row v3.toNatClampNeg v3)) h
set_option maxHeartbeats 4000000 in
set_option maxRecDepth 100000 in
theorem ok_B_X2_begin_40 {h_t : Nat} {h_t_row : Nat} {s_size : Int32} {s_bound : Int32} {s_row : Nat → Int32} {x0 : Int32} {res : Int32 × Int32 × Int32 × (Nat → Int32)} (C : CX p s m args meth c cX2_begin wsX2_begin RX2 4 D k A (some .boolean)) (hA : A = va_A w0 sz)  (h : B_X2_begin_40 s_size s_bound s_row x0 = some res) : GG p l e rm_X2_begin s m args below meth c (MQ below (cQi D w0 sz res.1 (W_X2_begin k h_t h_t_row res.2.1 res.2.2.1 res.2.2.2)) args s 0 0 A) D A 4 0 0 40 [] [.int x0] (W_X2_begin k h_t h_t_row s_size s_bound s_row) := by
  unfold B_X2_begin_40 at h
  obtain ⟨o2, h⟩ := ob_e h
  obtain rfl := Option.some.inj h
  exact g_zret 40 C hA rfl (zb_n o2) dX2_begin_40 rfl
set_option maxHeartbeats 4000000 in
set_option maxRecDepth 100000 in
theorem ok_B_X2_begin_30 {h_t : Nat} {h_t_row : Nat} {s_size : Int32} {s_bound : Int32} {s_row : Nat → Int32} {v1 : Int32} {v2 : Int32} {res : Int32 × Int32 × Int32 × (Nat → Int32)} (C : CX p s m args meth c cX2_begin wsX2_begin RX2 4 D k A (some .boolean)) (hA : A = va_A w0 sz)  (h : B_X2_begin_30 s_size s_bound s_row v1 v2 = some res) : GG p l e rm_X2_begin s m args below meth c (MQ below (cQi D w0 sz res.1 (W_X2_begin k h_t h_t_row res.2.1 res.2.2.1 res.2.2.2)) args s 0 0 A) D A 4 0 0 30 [(1, .int v1), (2, .int v2)] [] (W_X2_begin k h_t h_t_row s_size s_bound s_row) := by
  unfold B_X2_begin_30 at h
  refine g_iload_n 30 C 0 dX2_begin_30 rfl rfl ?_
  refine g_iload_n 31 C 1 dX2_begin_31 rfl rfl ?_
  refine g_icmp_gt 32 39 C dX2_begin_32 (by decide) (fun c => ?_) (fun c => ?_)
  · replace h := it_e c h
    refine g_iconst 39 C (0 : Int32) dX2_begin_39 (by decide) ?_
    refine GG.sub (lv' := []) [] rfl ?_
    exact ok_B_X2_begin_40 C hA h
  · replace h := if_e c h
    refine g_iconst 35 C (1 : Int32) dX2_begin_35 (by decide) ?_
    refine g_goto 36 40 C dX2_begin_36 (by decide) ?_
    refine GG.sub (lv' := []) [] rfl ?_
    exact ok_B_X2_begin_40 C hA h
set_option maxHeartbeats 4000000 in
set_option maxRecDepth 100000 in
theorem k_X2_begin {l : Launch} {D : va_G} {k : Nat → ClassId} (h_t : Nat) (h_t_row : Nat) (s_size : Int32) (s_bound : Int32) (s_row : Nat → Int32) (v1 : Int32) (v2 : Int32) (res : Int32 × Int32 × Int32 × (Nat → Int32)) (h : f_X2_begin s_row v1 v2 = some res) (sz : Nat) : Met l yX2_begin wsX2_begin rm_X2_begin (cPre D k [.ref h_t, .int v1, .int v2] (W_X2_begin k h_t h_t_row s_size s_bound s_row) sz) (cQi D (W_X2_begin k h_t h_t_row s_size s_bound s_row) sz res.1 (W_X2_begin k h_t h_t_row res.2.1 res.2.2.1 res.2.2.2)) 0 0 (va_A (W_X2_begin k h_t h_t_row s_size s_bound s_row) sz) := by
  refine met_of [(0, .ref h_t), (1, .int v1), (2, .int v2)] (by decide) rfl rfl (Nat.le_of_ble_eq_true rfl) rfl ?_
  intro p e s m args below meth c A hA hsz C
  unfold f_X2_begin at h
  refine g_aload_n 0 C 0 dX2_begin_0 rfl rfl ?_
  refine g_iload_n 1 C 1 dX2_begin_1 rfl rfl ?_
  refine g_put 2 C (W_X2_begin k h_t h_t_row v1 s_bound s_row) in_X2_begin_X2 tyX2 tyX2_ok nmX2 0 1 rfl rfl (by decide) fl_X2_begin_15 rfl rfl (tyX2_ok 1 (by decide)) rfl rfl (Nat.le_of_ble_eq_true rfl) rfl dX2_begin_2 ?_
  refine g_aload_n 5 C 0 dX2_begin_5 rfl rfl ?_
  refine g_iload_n 6 C 2 dX2_begin_6 rfl rfl ?_
  refine g_put 7 C (W_X2_begin k h_t h_t_row v1 v2 s_row) in_X2_begin_X2 tyX2 tyX2_ok nmX2 0 2 rfl rfl (by decide) fl_X2_begin_19 rfl rfl (tyX2_ok 2 (by decide)) rfl rfl (Nat.le_of_ble_eq_true rfl) rfl dX2_begin_7 ?_
  refine g_iconst 10 C (0 : Int32) dX2_begin_10 (by decide) ?_
  refine g_istore_n 11 C [(3, .int (0 : Int32)), (0, .ref h_t), (1, .int v1), (2, .int v2)] dX2_begin_11 rfl (by decide) rfl ?_
  refine GG.sub (lv' := [(0, .ref h_t), (1, .int v1), (2, .int v2), (3, .int (0 : Int32))]) [1, 2, 3, 0] rfl ?_
  exact ok_L_X2_begin_12 C hA (fun t h => by
    refine GG.sub (lv' := [(1, .int v1), (2, .int v2)]) [0, 1] rfl ?_
    exact ok_B_X2_begin_30 C hA h) FUEL ((0 : Int32), s_row) h
end

/-! X2_step -/
abbrev W_X2_step (k : Nat → ClassId) (h_t : Nat) (h_t_row : Nat) (s_size : Int32) (s_bound : Int32) (s_row : Nat → Int32) : va_W := [(h_t, .inr (2, [.ref h_t_row, .int s_size, .int s_bound])), (h_t_row, .inl (k 0, 4, .inl s_row))]
def rm_X2_step : Room := { frames := 0, cells := 0, slots := 0, locals := 0 }
theorem in_X2_step_X2 : ∀ w ∈ u_ws RX2 TX2 3, w ∈ wsX2_step := by decide +kernel
theorem fl_X2_step_15 : Cond.fieldLink RX2 15 "LinkDays$Choice" "size" "I" ∈ wsX2_step := by decide +kernel
theorem fl_X2_step_19 : Cond.fieldLink RX2 19 "LinkDays$Choice" "bound" "I" ∈ wsX2_step := by decide +kernel
theorem fl_X2_step_9 : Cond.fieldLink RX2 9 "LinkDays$Choice" "row" "[I" ∈ wsX2_step := by decide +kernel
theorem pd_X2_step : yX2_step.cls = RX2 ∧ yX2_step.cls ≠ "java/lang/invoke/MethodHandle" ∧ yX2_step.cls ≠ "java/lang/invoke/VarHandle" ∧ (parseMethodDescriptor yX2_step.desc).map (fun d => d.parameters.length) = some 0 := by decide +kernel
section
variable {p : Program} {l : Launch} {e : Env} {s : State} {m : MethodId} {args : Array Value} {below : List Frame} {meth : Method} {c : Code} {D : va_G} {k : Nat → ClassId} {A : Nat → Prop} {w0 : va_W} {sz : Nat}
set_option maxHeartbeats 4000000 in
set_option maxRecDepth 100000 in
theorem ok_L_X2_step_45 {h_t : Nat} {h_t_row : Nat} {s_size : Int32} {s_bound : Int32} {res : Int32 × (Nat → Int32)} (C : CX p s m args meth c cX2_step wsX2_step RX2 3 D k A (some .boolean)) (hA : A = va_A w0 sz) {kx : Int32 × (Nat → Int32) → Option (Int32 × (Nat → Int32))} (hx : ∀ t : Int32 × (Nat → Int32), kx t = some res → GG p l e rm_X2_step s m args below meth c (MQ below (cQi D w0 sz res.1 (W_X2_step k h_t h_t_row s_size s_bound res.2)) args s 0 0 A) D A 3 0 0 75 [] [] (W_X2_step k h_t h_t_row s_size s_bound t.2)) : ∀ (n : Nat) (t : Int32 × (Nat → Int32)), L_X2_step_45 s_size kx n t = some res → GG p l e rm_X2_step s m args below meth c (MQ below (cQi D w0 sz res.1 (W_X2_step k h_t h_t_row s_size s_bound res.2)) args s 0 0 A) D A 3 0 0 45 [(0, .ref h_t), (2, .int t.1)] [] (W_X2_step k h_t h_t_row s_size s_bound t.2) := by
  intro n
  induction n with
  | zero => intro t h; cases h
  | succ n ih =>
    intro t h
    obtain ⟨v2, s_row⟩ := t
    replace h : LB_X2_step_45 s_size kx (L_X2_step_45 s_size kx n) v2 s_row = some res := h
    have hr := ih
    unfold LB_X2_step_45 at h
    refine g_iload_n 45 C 1 dX2_step_45 rfl rfl ?_
    refine g_aload_n 46 C 0 dX2_step_46 rfl rfl ?_
    refine g_get 47 C in_X2_step_X2 0 1 rfl rfl (by decide) fl_X2_step_15 rfl rfl dX2_step_47 ?_
    refine g_icmp_ge 50 75 C dX2_step_50 (by decide) (fun c => ?_) (fun c => ?_)
    · replace h := it_e c h
      refine GG.sub (lv' := []) [] rfl ?_
      exact hx (v2, s_row) h
    · replace h := if_e c h
      refine g_aload_n 53 C 0 dX2_step_53 rfl rfl ?_
      refine g_get 54 C in_X2_step_X2 0 0 rfl rfl (by decide) fl_X2_step_9 rfl rfl dX2_step_54 ?_
      refine g_iload_n 57 C 1 dX2_step_57 rfl rfl ?_
      refine g_aload_n 58 C 0 dX2_step_58 rfl rfl ?_
      refine g_get 59 C in_X2_step_X2 0 0 rfl rfl (by decide) fl_X2_step_9 rfl rfl dX2_step_59 ?_
      refine g_iload_n 62 C 1 dX2_step_62 rfl rfl ?_
      refine g_iconst 63 C (1 : Int32) dX2_step_63 (by decide) ?_
      refine g_isub 64 C dX2_step_64 ?_
      obtain ⟨o4, h⟩ := ob_e h
      refine g_iald 65 C 1 rfl o4 dX2_step_65 ?_
      refine g_iconst 66 C (1 : Int32) dX2_step_66 (by decide) ?_
      refine g_iadd 67 C dX2_step_67 ?_
      obtain ⟨o5, h⟩ := ob_e h
      refine g_iast 68 C (W_X2_step k h_t h_t_row s_size s_bound (upd s_row v2.toNatClampNeg ((s_row (v2 - (1 : Int32)).toNatClampNeg) + (1 : Int32)))) 1 rfl o5 rfl dX2_step_68 ?_
      refine g_iinc 69 C 1 (1 : Int32) [(2, .int (v2 + (1 : Int32))), (0, .ref h_t)] dX2_step_69 rfl (by decide) (by decide) rfl ?_
      refine g_goto 72 45 C dX2_step_72 (by decide) ?_
      refine GG.sub (lv' := [(0, .ref h_t), (2, .int (v2 + (1 : Int32)))]) [1, 0] rfl ?_
      exact hr ((v2 + (1 : Int32)), (upd s_row v2.toNatClampNeg ((s_row (v2 - (1 : Int32)).toNatClampNeg) + (1 : Int32)))) h
set_option maxHeartbeats 4000000 in
set_option maxRecDepth 100000 in
theorem ok_B_X2_step_75 {h_t : Nat} {h_t_row : Nat} {s_size : Int32} {s_bound : Int32} {s_row : Nat → Int32} {res : Int32 × (Nat → Int32)} {kx rec : Int32 × (Nat → Int32) → Option (Int32 × (Nat → Int32))} (C : CX p s m args meth c cX2_step wsX2_step RX2 3 D k A (some .boolean)) (hA : A = va_A w0 sz) (hx : ∀ t : Int32 × (Nat → Int32), kx t = some res → GG p l e rm_X2_step s m args below meth c (MQ below (cQi D w0 sz res.1 (W_X2_step k h_t h_t_row s_size s_bound res.2)) args s 0 0 A) D A 3 0 0 83 [] [] (W_X2_step k h_t h_t_row s_size s_bound t.2)) (hr : ∀ t : Int32 × (Nat → Int32), rec t = some res → GG p l e rm_X2_step s m args below meth c (MQ below (cQi D w0 sz res.1 (W_X2_step k h_t h_t_row s_size s_bound res.2)) args s 0 0 A) D A 3 0 0 7 [(0, .ref h_t), (1, .int t.1)] [] (W_X2_step k h_t h_t_row s_size s_bound t.2))  (h : B_X2_step_75 kx rec s_row = some res) : GG p l e rm_X2_step s m args below meth c (MQ below (cQi D w0 sz res.1 (W_X2_step k h_t h_t_row s_size s_bound res.2)) args s 0 0 A) D A 3 0 0 75 [] [] (W_X2_step k h_t h_t_row s_size s_bound s_row) := by
  unfold B_X2_step_75 at h
  refine g_iconst 75 C (1 : Int32) dX2_step_75 (by decide) ?_
  obtain rfl := Option.some.inj h
  exact g_zret 76 C hA rfl rfl dX2_step_76 rfl
set_option maxHeartbeats 4000000 in
set_option maxRecDepth 100000 in
theorem ok_L_X2_step_7 {h_t : Nat} {h_t_row : Nat} {s_size : Int32} {s_bound : Int32} {res : Int32 × (Nat → Int32)} (C : CX p s m args meth c cX2_step wsX2_step RX2 3 D k A (some .boolean)) (hA : A = va_A w0 sz) {kx : Int32 × (Nat → Int32) → Option (Int32 × (Nat → Int32))} (hx : ∀ t : Int32 × (Nat → Int32), kx t = some res → GG p l e rm_X2_step s m args below meth c (MQ below (cQi D w0 sz res.1 (W_X2_step k h_t h_t_row s_size s_bound res.2)) args s 0 0 A) D A 3 0 0 83 [] [] (W_X2_step k h_t h_t_row s_size s_bound t.2)) : ∀ (n : Nat) (t : Int32 × (Nat → Int32)), L_X2_step_7 s_size s_bound kx n t = some res → GG p l e rm_X2_step s m args below meth c (MQ below (cQi D w0 sz res.1 (W_X2_step k h_t h_t_row s_size s_bound res.2)) args s 0 0 A) D A 3 0 0 7 [(0, .ref h_t), (1, .int t.1)] [] (W_X2_step k h_t h_t_row s_size s_bound t.2) := by
  intro n
  induction n with
  | zero => intro t h; cases h
  | succ n ih =>
    intro t h
    obtain ⟨v1, s_row⟩ := t
    replace h : LB_X2_step_7 s_size s_bound kx (L_X2_step_7 s_size s_bound kx n) v1 s_row = some res := h
    have hr := ih
    unfold LB_X2_step_7 at h
    refine g_iload_n 7 C 1 dX2_step_7 rfl rfl ?_
    refine g_if_lt 8 83 C dX2_step_8 (by decide) (fun c => ?_) (fun c => ?_)
    · replace h := it_e c h
      refine GG.sub (lv' := []) [] rfl ?_
      exact hx (v1, s_row) h
    · replace h := if_e c h
      refine g_aload_n 11 C 0 dX2_step_11 rfl rfl ?_
      refine g_get 12 C in_X2_step_X2 0 0 rfl rfl (by decide) fl_X2_step_9 rfl rfl dX2_step_12 ?_
      refine g_iload_n 15 C 1 dX2_step_15 rfl rfl ?_
      obtain ⟨o1, h⟩ := ob_e h
      refine g_iald 16 C 1 rfl o1 dX2_step_16 ?_
      refine g_aload_n 17 C 0 dX2_step_17 rfl rfl ?_
      refine g_get 18 C in_X2_step_X2 0 2 rfl rfl (by decide) fl_X2_step_19 rfl rfl dX2_step_18 ?_
      refine g_aload_n 21 C 0 dX2_step_21 rfl rfl ?_
      refine g_get 22 C in_X2_step_X2 0 1 rfl rfl (by decide) fl_X2_step_15 rfl rfl dX2_step_22 ?_
      refine g_isub 25 C dX2_step_25 ?_
      refine g_iload_n 26 C 1 dX2_step_26 rfl rfl ?_
      refine g_iadd 27 C dX2_step_27 ?_
      refine g_icmp_ge 28 77 C dX2_step_28 (by decide) (fun c => ?_) (fun c => ?_)
      · replace h := it_e c h
        refine g_iinc 77 C 1 (-1 : Int32) [(1, .int (v1 + (-1 : Int32))), (0, .ref h_t)] dX2_step_77 rfl (by decide) (by decide) rfl ?_
        refine g_goto 80 7 C dX2_step_80 (by decide) ?_
        refine GG.sub (lv' := [(0, .ref h_t), (1, .int (v1 + (-1 : Int32)))]) [1, 0] rfl ?_
        exact hr ((v1 + (-1 : Int32)), s_row) h
      · replace h := if_e c h
        refine g_aload_n 31 C 0 dX2_step_31 rfl rfl ?_
        refine g_get 32 C in_X2_step_X2 0 0 rfl rfl (by decide) fl_X2_step_9 rfl rfl dX2_step_32 ?_
        refine g_iload_n 35 C 1 dX2_step_35 rfl rfl ?_
        refine g_dup2 36 C dX2_step_36 rfl rfl ?_
        obtain ⟨o2, h⟩ := ob_e h
        refine g_iald 37 C 1 rfl o2 dX2_step_37 ?_
        refine g_iconst 38 C (1 : Int32) dX2_step_38 (by decide) ?_
        refine g_iadd 39 C dX2_step_39 ?_
        obtain ⟨o3, h⟩ := ob_e h
        refine g_iast 40 C (W_X2_step k h_t h_t_row s_size s_bound (upd s_row v1.toNatClampNeg ((s_row v1.toNatClampNeg) + (1 : Int32)))) 1 rfl o3 rfl dX2_step_40 ?_
        refine g_iload_n 41 C 1 dX2_step_41 rfl rfl ?_
        refine g_iconst 42 C (1 : Int32) dX2_step_42 (by decide) ?_
        refine g_iadd 43 C dX2_step_43 ?_
        refine g_istore_n 44 C [(2, .int (v1 + (1 : Int32))), (0, .ref h_t), (1, .int v1)] dX2_step_44 rfl (by decide) rfl ?_
        refine GG.sub (lv' := [(0, .ref h_t), (2, .int (v1 + (1 : Int32)))]) [1, 0] rfl ?_
        exact ok_L_X2_step_45 C hA (fun t h => by
          refine GG.sub (lv' := []) [] rfl ?_
          exact ok_B_X2_step_75 C hA hx hr h) FUEL ((v1 + (1 : Int32)), (upd s_row v1.toNatClampNeg ((s_row v1.toNatClampNeg) + (1 : Int32)))) h
set_option maxHeartbeats 4000000 in
set_option maxRecDepth 100000 in
theorem ok_B_X2_step_83 {h_t : Nat} {h_t_row : Nat} {s_size : Int32} {s_bound : Int32} {s_row : Nat → Int32} {res : Int32 × (Nat → Int32)} (C : CX p s m args meth c cX2_step wsX2_step RX2 3 D k A (some .boolean)) (hA : A = va_A w0 sz)  (h : B_X2_step_83 s_row = some res) : GG p l e rm_X2_step s m args below meth c (MQ below (cQi D w0 sz res.1 (W_X2_step k h_t h_t_row s_size s_bound res.2)) args s 0 0 A) D A 3 0 0 83 [] [] (W_X2_step k h_t h_t_row s_size s_bound s_row) := by
  unfold B_X2_step_83 at h
  refine g_iconst 83 C (0 : Int32) dX2_step_83 (by decide) ?_
  obtain rfl := Option.some.inj h
  exact g_zret 84 C hA rfl rfl dX2_step_84 rfl
set_option maxHeartbeats 4000000 in
set_option maxRecDepth 100000 in
theorem k_X2_step {l : Launch} {D : va_G} {k : Nat → ClassId} (h_t : Nat) (h_t_row : Nat) (s_size : Int32) (s_bound : Int32) (s_row : Nat → Int32) (res : Int32 × (Nat → Int32)) (h : f_X2_step s_size s_bound s_row = some res) (sz : Nat) : Met l yX2_step wsX2_step rm_X2_step (cPre D k [.ref h_t] (W_X2_step k h_t h_t_row s_size s_bound s_row) sz) (cQi D (W_X2_step k h_t h_t_row s_size s_bound s_row) sz res.1 (W_X2_step k h_t h_t_row s_size s_bound res.2)) 0 0 (va_A (W_X2_step k h_t h_t_row s_size s_bound s_row) sz) := by
  refine met_of [(0, .ref h_t)] (by decide) rfl rfl (Nat.le_of_ble_eq_true rfl) rfl ?_
  intro p e s m args below meth c A hA hsz C
  unfold f_X2_step at h
  refine g_aload_n 0 C 0 dX2_step_0 rfl rfl ?_
  refine g_get 1 C in_X2_step_X2 0 1 rfl rfl (by decide) fl_X2_step_15 rfl rfl dX2_step_1 ?_
  refine g_iconst 4 C (1 : Int32) dX2_step_4 (by decide) ?_
  refine g_isub 5 C dX2_step_5 ?_
  refine g_istore_n 6 C [(1, .int (s_size - (1 : Int32))), (0, .ref h_t)] dX2_step_6 rfl (by decide) rfl ?_
  refine GG.sub (lv' := [(0, .ref h_t), (1, .int (s_size - (1 : Int32)))]) [1, 0] rfl ?_
  exact ok_L_X2_step_7 C hA (fun t h => by
    refine GG.sub (lv' := []) [] rfl ?_
    exact ok_B_X2_step_83 C hA h) FUEL ((s_size - (1 : Int32)), s_row) h
end

/-! X3_reckon -/
abbrev W_X3_reckon (k : Nat → ClassId) (h_t : Nat) (h_t_dues : Nat) (s_each : Int32) (s_off : Int32) (s_twice : Int32) (s_dues : Nat → Int32) : va_W := [(h_t, .inr (3, [.ref h_t_dues, .int s_each, .int s_off, .int s_twice])), (h_t_dues, .inl (k 0, 61, .inl s_dues))]
def rm_X3_reckon : Room := { frames := 0, cells := 0, slots := 0, locals := 0 }
theorem in_X3_reckon_X3 : ∀ w ∈ u_ws RX3 TX3 4, w ∈ wsX3_reckon := by decide +kernel
theorem fl_X3_reckon_15 : Cond.fieldLink RX3 15 "LinkDays$Days" "each" "I" ∈ wsX3_reckon := by decide +kernel
theorem fl_X3_reckon_22 : Cond.fieldLink RX3 22 "LinkDays$Days" "off" "I" ∈ wsX3_reckon := by decide +kernel
theorem fl_X3_reckon_25 : Cond.fieldLink RX3 25 "LinkDays$Days" "twice" "I" ∈ wsX3_reckon := by decide +kernel
theorem fl_X3_reckon_9 : Cond.fieldLink RX3 9 "LinkDays$Days" "dues" "[I" ∈ wsX3_reckon := by decide +kernel
theorem pd_X3_reckon : yX3_reckon.cls = RX3 ∧ yX3_reckon.cls ≠ "java/lang/invoke/MethodHandle" ∧ yX3_reckon.cls ≠ "java/lang/invoke/VarHandle" ∧ (parseMethodDescriptor yX3_reckon.desc).map (fun d => d.parameters.length) = some 0 := by decide +kernel
section
variable {p : Program} {l : Launch} {e : Env} {s : State} {m : MethodId} {args : Array Value} {below : List Frame} {meth : Method} {c : Code} {D : va_G} {k : Nat → ClassId} {A : Nat → Prop} {w0 : va_W} {sz : Nat}
set_option maxHeartbeats 4000000 in
set_option maxRecDepth 100000 in
theorem ok_B_X3_reckon_52 {h_t : Nat} {h_t_dues : Nat} {s_each : Int32} {s_off : Int32} {s_twice : Int32} {s_dues : Nat → Int32} {v1 : Int32} {x0 : Int32} {res : (Nat → Int32)} {kx rec : Int32 × (Nat → Int32) → Option ((Nat → Int32))} (C : CX p s m args meth c cX3_reckon wsX3_reckon RX3 4 D k A none) (hA : A = va_A w0 sz) (hx : ∀ t : Int32 × (Nat → Int32), kx t = some res → GG p l e rm_X3_reckon s m args below meth c (MQ below (cQv D w0 sz (W_X3_reckon k h_t h_t_dues s_each s_off s_twice res)) args s 0 0 A) D A 4 0 0 75 [] [] (W_X3_reckon k h_t h_t_dues s_each s_off s_twice t.2)) (hr : ∀ t : Int32 × (Nat → Int32), rec t = some res → GG p l e rm_X3_reckon s m args below meth c (MQ below (cQv D w0 sz (W_X3_reckon k h_t h_t_dues s_each s_off s_twice res)) args s 0 0 A) D A 4 0 0 2 [(0, .ref h_t), (1, .int t.1)] [] (W_X3_reckon k h_t h_t_dues s_each s_off s_twice t.2))  (h : B_X3_reckon_52 kx rec s_dues v1 x0 = some res) : GG p l e rm_X3_reckon s m args below meth c (MQ below (cQv D w0 sz (W_X3_reckon k h_t h_t_dues s_each s_off s_twice res)) args s 0 0 A) D A 4 0 0 52 [(0, .ref h_t), (1, .int v1)] [.int x0] (W_X3_reckon k h_t h_t_dues s_each s_off s_twice s_dues) := by
  unfold B_X3_reckon_52 at h
  refine g_istore_n 52 C [(3, .int x0), (0, .ref h_t), (1, .int v1)] dX3_reckon_52 rfl (by decide) rfl ?_
  refine g_aload_n 53 C 1 dX3_reckon_53 rfl rfl ?_
  refine g_get 54 C in_X3_reckon_X3 0 0 rfl rfl (by decide) fl_X3_reckon_9 rfl rfl dX3_reckon_54 ?_
  refine g_iload_n 57 C 2 dX3_reckon_57 rfl rfl ?_
  refine g_aload_n 58 C 1 dX3_reckon_58 rfl rfl ?_
  refine g_get 59 C in_X3_reckon_X3 0 0 rfl rfl (by decide) fl_X3_reckon_9 rfl rfl dX3_reckon_59 ?_
  refine g_iload_n 62 C 2 dX3_reckon_62 rfl rfl ?_
  refine g_iconst 63 C (1 : Int32) dX3_reckon_63 (by decide) ?_
  refine g_isub 64 C dX3_reckon_64 ?_
  obtain ⟨o1, h⟩ := ob_e h
  refine g_iald 65 C 1 rfl o1 dX3_reckon_65 ?_
  refine g_iload_n 66 C 0 dX3_reckon_66 rfl rfl ?_
  refine g_iadd 67 C dX3_reckon_67 ?_
  obtain ⟨o2, h⟩ := ob_e h
  refine g_iast 68 C (W_X3_reckon k h_t h_t_dues s_each s_off s_twice (upd s_dues v1.toNatClampNeg ((s_dues (v1 - (1 : Int32)).toNatClampNeg) + x0))) 1 rfl o2 rfl dX3_reckon_68 ?_
  refine g_iinc 69 C 2 (1 : Int32) [(1, .int (v1 + (1 : Int32))), (3, .int x0), (0, .ref h_t)] dX3_reckon_69 rfl (by decide) (by decide) rfl ?_
  refine g_goto 72 2 C dX3_reckon_72 (by decide) ?_
  refine GG.sub (lv' := [(0, .ref h_t), (1, .int (v1 + (1 : Int32)))]) [2, 0] rfl ?_
  exact hr ((v1 + (1 : Int32)), (upd s_dues v1.toNatClampNeg ((s_dues (v1 - (1 : Int32)).toNatClampNeg) + x0))) h
set_option maxHeartbeats 4000000 in
set_option maxRecDepth 100000 in
theorem ok_L_X3_reckon_2 {h_t : Nat} {h_t_dues : Nat} {s_each : Int32} {s_off : Int32} {s_twice : Int32} {res : (Nat → Int32)} (C : CX p s m args meth c cX3_reckon wsX3_reckon RX3 4 D k A none) (hA : A = va_A w0 sz) {kx : Int32 × (Nat → Int32) → Option ((Nat → Int32))} (hx : ∀ t : Int32 × (Nat → Int32), kx t = some res → GG p l e rm_X3_reckon s m args below meth c (MQ below (cQv D w0 sz (W_X3_reckon k h_t h_t_dues s_each s_off s_twice res)) args s 0 0 A) D A 4 0 0 75 [] [] (W_X3_reckon k h_t h_t_dues s_each s_off s_twice t.2)) : ∀ (n : Nat) (t : Int32 × (Nat → Int32)), L_X3_reckon_2 s_each s_off s_twice kx n t = some res → GG p l e rm_X3_reckon s m args below meth c (MQ below (cQv D w0 sz (W_X3_reckon k h_t h_t_dues s_each s_off s_twice res)) args s 0 0 A) D A 4 0 0 2 [(0, .ref h_t), (1, .int t.1)] [] (W_X3_reckon k h_t h_t_dues s_each s_off s_twice t.2) := by
  intro n
  induction n with
  | zero => intro t h; cases h
  | succ n ih =>
    intro t h
    obtain ⟨v1, s_dues⟩ := t
    replace h : LB_X3_reckon_2 s_each s_off s_twice kx (L_X3_reckon_2 s_each s_off s_twice kx n) v1 s_dues = some res := h
    have hr := ih
    unfold LB_X3_reckon_2 at h
    refine g_iload_n 2 C 1 dX3_reckon_2 rfl rfl ?_
    refine g_bipush 3 C (60 : Int32) dX3_reckon_3 (by decide) ?_
    refine g_icmp_gt 5 75 C dX3_reckon_5 (by decide) (fun c => ?_) (fun c => ?_)
    · replace h := it_e c h
      refine GG.sub (lv' := []) [] rfl ?_
      exact hx (v1, s_dues) h
    · replace h := if_e c h
      refine g_iconst 8 C (1 : Int32) dX3_reckon_8 (by decide) ?_
      refine g_iload_n 9 C 1 dX3_reckon_9 rfl rfl ?_
      refine g_iconst 10 C (1 : Int32) dX3_reckon_10 (by decide) ?_
      refine g_isub 11 C dX3_reckon_11 ?_
      refine g_bipush 12 C (7 : Int32) dX3_reckon_12 (by decide) ?_
      refine g_irem 14 C dX3_reckon_14 (by decide) ?_
      refine g_ishl 15 C dX3_reckon_15 ?_
      refine g_istore_n 16 C [(2, .int ((1 : Int32) <<< (((v1 - (1 : Int32)) - (v1 - (1 : Int32)) / (7 : Int32) * (7 : Int32)) &&& 31))), (0, .ref h_t), (1, .int v1)] dX3_reckon_16 rfl (by decide) rfl ?_
      refine g_aload_n 17 C 1 dX3_reckon_17 rfl rfl ?_
      refine g_get 18 C in_X3_reckon_X3 0 2 rfl rfl (by decide) fl_X3_reckon_22 rfl rfl dX3_reckon_18 ?_
      refine g_iload_n 21 C 0 dX3_reckon_21 rfl rfl ?_
      refine g_iand 22 C dX3_reckon_22 ?_
      refine g_if_eq 23 30 C dX3_reckon_23 (by decide) (fun c => ?_) (fun c => ?_)
      · replace h := it_e c h
        refine g_aload_n 30 C 1 dX3_reckon_30 rfl rfl ?_
        refine g_get 31 C in_X3_reckon_X3 0 3 rfl rfl (by decide) fl_X3_reckon_25 rfl rfl dX3_reckon_31 ?_
        refine g_iload_n 34 C 0 dX3_reckon_34 rfl rfl ?_
        refine g_iand 35 C dX3_reckon_35 ?_
        refine g_if_eq 36 48 C dX3_reckon_36 (by decide) (fun c => ?_) (fun c => ?_)
        · replace h := it_e c h
          refine g_aload_n 48 C 1 dX3_reckon_48 rfl rfl ?_
          refine g_get 49 C in_X3_reckon_X3 0 1 rfl rfl (by decide) fl_X3_reckon_15 rfl rfl dX3_reckon_49 ?_
          refine GG.sub (lv' := [(0, .ref h_t), (1, .int v1)]) [1, 2] rfl ?_
          exact ok_B_X3_reckon_52 C hA hx hr h
        · replace h := if_e c h
          refine g_iconst 39 C (2 : Int32) dX3_reckon_39 (by decide) ?_
          refine g_aload_n 40 C 1 dX3_reckon_40 rfl rfl ?_
          refine g_get 41 C in_X3_reckon_X3 0 1 rfl rfl (by decide) fl_X3_reckon_15 rfl rfl dX3_reckon_41 ?_
          refine g_imul 44 C dX3_reckon_44 ?_
          refine g_goto 45 52 C dX3_reckon_45 (by decide) ?_
          refine GG.sub (lv' := [(0, .ref h_t), (1, .int v1)]) [1, 2] rfl ?_
          exact ok_B_X3_reckon_52 C hA hx hr h
      · replace h := if_e c h
        refine g_iconst 26 C (0 : Int32) dX3_reckon_26 (by decide) ?_
        refine g_goto 27 52 C dX3_reckon_27 (by decide) ?_
        refine GG.sub (lv' := [(0, .ref h_t), (1, .int v1)]) [1, 2] rfl ?_
        exact ok_B_X3_reckon_52 C hA hx hr h
set_option maxHeartbeats 4000000 in
set_option maxRecDepth 100000 in
theorem ok_B_X3_reckon_75 {h_t : Nat} {h_t_dues : Nat} {s_each : Int32} {s_off : Int32} {s_twice : Int32} {s_dues : Nat → Int32} {res : (Nat → Int32)} (C : CX p s m args meth c cX3_reckon wsX3_reckon RX3 4 D k A none) (hA : A = va_A w0 sz)  (h : B_X3_reckon_75 s_dues = some res) : GG p l e rm_X3_reckon s m args below meth c (MQ below (cQv D w0 sz (W_X3_reckon k h_t h_t_dues s_each s_off s_twice res)) args s 0 0 A) D A 4 0 0 75 [] [] (W_X3_reckon k h_t h_t_dues s_each s_off s_twice s_dues) := by
  unfold B_X3_reckon_75 at h
  obtain rfl := Option.some.inj h
  exact g_vret 75 C hA dX3_reckon_75 rfl
set_option maxHeartbeats 4000000 in
set_option maxRecDepth 100000 in
theorem k_X3_reckon {l : Launch} {D : va_G} {k : Nat → ClassId} (h_t : Nat) (h_t_dues : Nat) (s_each : Int32) (s_off : Int32) (s_twice : Int32) (s_dues : Nat → Int32) (res : (Nat → Int32)) (h : f_X3_reckon s_each s_off s_twice s_dues = some res) (sz : Nat) : Met l yX3_reckon wsX3_reckon rm_X3_reckon (cPre D k [.ref h_t] (W_X3_reckon k h_t h_t_dues s_each s_off s_twice s_dues) sz) (cQv D (W_X3_reckon k h_t h_t_dues s_each s_off s_twice s_dues) sz (W_X3_reckon k h_t h_t_dues s_each s_off s_twice res)) 0 0 (va_A (W_X3_reckon k h_t h_t_dues s_each s_off s_twice s_dues) sz) := by
  refine met_of [(0, .ref h_t)] (by decide) rfl rfl (Nat.le_of_ble_eq_true rfl) rfl ?_
  intro p e s m args below meth c A hA hsz C
  unfold f_X3_reckon at h
  refine g_iconst 0 C (1 : Int32) dX3_reckon_0 (by decide) ?_
  refine g_istore_n 1 C [(1, .int (1 : Int32)), (0, .ref h_t)] dX3_reckon_1 rfl (by decide) rfl ?_
  refine GG.sub (lv' := [(0, .ref h_t), (1, .int (1 : Int32))]) [1, 0] rfl ?_
  exact ok_L_X3_reckon_2 C hA (fun t h => by
    refine GG.sub (lv' := []) [] rfl ?_
    exact ok_B_X3_reckon_75 C hA h) FUEL ((1 : Int32), s_dues) h
end

/-! X3_set -/
abbrev W_X3_set (k : Nat → ClassId) (h_t : Nat) (h_t_dues : Nat) (s_each : Int32) (s_off : Int32) (s_twice : Int32) (s_dues : Nat → Int32) : va_W := [(h_t, .inr (3, [.ref h_t_dues, .int s_each, .int s_off, .int s_twice])), (h_t_dues, .inl (k 0, 61, .inl s_dues))]
def rm_X3_set : Room := { frames := 1, cells := 0, slots := 0, locals := 23 }
theorem in_X3_set_X3 : ∀ w ∈ u_ws RX3 TX3 4, w ∈ wsX3_set := by decide +kernel
theorem fl_X3_set_15 : Cond.fieldLink RX3 15 "LinkDays$Days" "each" "I" ∈ wsX3_set := by decide +kernel
theorem fl_X3_set_22 : Cond.fieldLink RX3 22 "LinkDays$Days" "off" "I" ∈ wsX3_set := by decide +kernel
theorem fl_X3_set_25 : Cond.fieldLink RX3 25 "LinkDays$Days" "twice" "I" ∈ wsX3_set := by decide +kernel
theorem pd_X3_set : yX3_set.cls = RX3 ∧ yX3_set.cls ≠ "java/lang/invoke/MethodHandle" ∧ yX3_set.cls ≠ "java/lang/invoke/VarHandle" ∧ (parseMethodDescriptor yX3_set.desc).map (fun d => d.parameters.length) = some 2 := by decide +kernel
section
variable {p : Program} {l : Launch} {e : Env} {s : State} {m : MethodId} {args : Array Value} {below : List Frame} {meth : Method} {c : Code} {D : va_G} {k : Nat → ClassId} {A : Nat → Prop} {w0 : va_W} {sz : Nat}
set_option maxHeartbeats 4000000 in
set_option maxRecDepth 100000 in
theorem ok_B_X3_set_58 {h_t : Nat} {h_t_dues : Nat} {s_each : Int32} {s_off : Int32} {s_twice : Int32} {s_dues : Nat → Int32} {v3 : Int32} {res : Int32 × Int32 × Int32 × Int32 × (Nat → Int32)} (C : CX p s m args meth c cX3_set wsX3_set RX3 4 D k A (some .int)) (hA : A = va_A w0 sz)  (h : B_X3_set_58 s_each s_off s_twice s_dues v3 = some res) : GG p l e rm_X3_set s m args below meth c (MQ below (cQi D w0 sz res.1 (W_X3_set k h_t h_t_dues res.2.1 res.2.2.1 res.2.2.2.1 res.2.2.2.2)) args s 0 0 A) D A 4 0 0 58 [(0, .ref h_t), (3, .int v3)] [] (W_X3_set k h_t h_t_dues s_each s_off s_twice s_dues) := by
  unfold B_X3_set_58 at h
  refine g_aload_n 58 C 0 dX3_set_58 rfl rfl ?_
  obtain ⟨q1, e2, h⟩ := bi_e h
  refine g_callVv 59 C (As := []) [0, 1] [] [0, 1] (W_X3_set k h_t h_t_dues s_each s_off s_twice q1) 0 (fun sz => k_X3_reckon h_t h_t_dues s_each s_off s_twice s_dues q1 e2 sz) gX3_set_X3_reckon rfl pd_X3_reckon rfl rfl rfl ⟨rfl, rfl, Nat.le_of_ble_eq_true rfl, Nat.le_of_ble_eq_true rfl⟩ (Nat.le_of_ble_eq_true rfl) ⟨Nat.zero_le _, Nat.zero_le _⟩ ⟨rfl, rfl, rfl, rfl, rfl, by decide, rfl⟩ rfl dX3_set_59 ?_
  refine g_iload_n 62 C 1 dX3_set_62 rfl rfl ?_
  obtain rfl := Option.some.inj h
  exact g_iret 63 C hA rfl dX3_set_63 rfl
set_option maxHeartbeats 4000000 in
set_option maxRecDepth 100000 in
theorem ok_B_X3_set_27 {h_t : Nat} {h_t_dues : Nat} {s_each : Int32} {s_off : Int32} {s_twice : Int32} {s_dues : Nat → Int32} {v1 : Int32} {v2 : Int32} {x0 : Int32} {res : Int32 × Int32 × Int32 × Int32 × (Nat → Int32)} (C : CX p s m args meth c cX3_set wsX3_set RX3 4 D k A (some .int)) (hA : A = va_A w0 sz)  (h : B_X3_set_27 s_each s_off s_twice s_dues v1 v2 x0 = some res) : GG p l e rm_X3_set s m args below meth c (MQ below (cQi D w0 sz res.1 (W_X3_set k h_t h_t_dues res.2.1 res.2.2.1 res.2.2.2.1 res.2.2.2.2)) args s 0 0 A) D A 4 0 0 27 [(0, .ref h_t), (1, .int v1), (2, .int v2)] [.int x0] (W_X3_set k h_t h_t_dues s_each s_off s_twice s_dues) := by
  unfold B_X3_set_27 at h
  refine g_istore_n 27 C [(3, .int x0), (0, .ref h_t), (1, .int v1), (2, .int v2)] dX3_set_27 rfl (by decide) rfl ?_
  refine g_iload_n 28 C 2 dX3_set_28 rfl rfl ?_
  refine g_if_ne 29 40 C dX3_set_29 (by decide) (fun c => ?_) (fun c => ?_)
  · replace h := if_e c h
    refine g_iload_n 40 C 2 dX3_set_40 rfl rfl ?_
    refine g_iconst 41 C (1 : Int32) dX3_set_41 (by decide) ?_
    refine g_icmp_ne 42 53 C dX3_set_42 (by decide) (fun c => ?_) (fun c => ?_)
    · replace h := if_e c h
      refine g_aload_n 53 C 1 dX3_set_53 rfl rfl ?_
      refine g_iload_n 54 C 3 dX3_set_54 rfl rfl ?_
      refine g_put 55 C (W_X3_set k h_t h_t_dues s_each s_off v2 s_dues) in_X3_set_X3 tyX3 tyX3_ok nmX3 0 3 rfl rfl (by decide) fl_X3_set_25 rfl rfl (tyX3_ok 3 (by decide)) rfl rfl (Nat.le_of_ble_eq_true rfl) rfl dX3_set_55 ?_
      refine GG.sub (lv' := [(0, .ref h_t), (3, .int x0)]) [1, 0] rfl ?_
      exact ok_B_X3_set_58 C hA h
    · replace h := it_e c h
      refine g_aload_n 45 C 1 dX3_set_45 rfl rfl ?_
      refine g_iload_n 46 C 3 dX3_set_46 rfl rfl ?_
      refine g_put 47 C (W_X3_set k h_t h_t_dues s_each v2 s_twice s_dues) in_X3_set_X3 tyX3 tyX3_ok nmX3 0 2 rfl rfl (by decide) fl_X3_set_22 rfl rfl (tyX3_ok 2 (by decide)) rfl rfl (Nat.le_of_ble_eq_true rfl) rfl dX3_set_47 ?_
      refine g_goto 50 58 C dX3_set_50 (by decide) ?_
      refine GG.sub (lv' := [(0, .ref h_t), (3, .int x0)]) [1, 0] rfl ?_
      exact ok_B_X3_set_58 C hA h
  · replace h := it_e c h
    refine g_aload_n 32 C 1 dX3_set_32 rfl rfl ?_
    refine g_iload_n 33 C 3 dX3_set_33 rfl rfl ?_
    refine g_put 34 C (W_X3_set k h_t h_t_dues v2 s_off s_twice s_dues) in_X3_set_X3 tyX3 tyX3_ok nmX3 0 1 rfl rfl (by decide) fl_X3_set_15 rfl rfl (tyX3_ok 1 (by decide)) rfl rfl (Nat.le_of_ble_eq_true rfl) rfl dX3_set_34 ?_
    refine g_goto 37 58 C dX3_set_37 (by decide) ?_
    refine GG.sub (lv' := [(0, .ref h_t), (3, .int x0)]) [1, 0] rfl ?_
    exact ok_B_X3_set_58 C hA h
set_option maxHeartbeats 4000000 in
set_option maxRecDepth 100000 in
theorem k_X3_set {l : Launch} {D : va_G} {k : Nat → ClassId} (h_t : Nat) (h_t_dues : Nat) (s_each : Int32) (s_off : Int32) (s_twice : Int32) (s_dues : Nat → Int32) (v1 : Int32) (v2 : Int32) (res : Int32 × Int32 × Int32 × Int32 × (Nat → Int32)) (h : f_X3_set s_each s_off s_twice s_dues v1 v2 = some res) (sz : Nat) : Met l yX3_set wsX3_set rm_X3_set (cPre D k [.ref h_t, .int v1, .int v2] (W_X3_set k h_t h_t_dues s_each s_off s_twice s_dues) sz) (cQi D (W_X3_set k h_t h_t_dues s_each s_off s_twice s_dues) sz res.1 (W_X3_set k h_t h_t_dues res.2.1 res.2.2.1 res.2.2.2.1 res.2.2.2.2)) 0 0 (va_A (W_X3_set k h_t h_t_dues s_each s_off s_twice s_dues) sz) := by
  refine met_of [(0, .ref h_t), (1, .int v1), (2, .int v2)] (by decide) rfl rfl (Nat.le_of_ble_eq_true rfl) rfl ?_
  intro p e s m args below meth c A hA hsz C
  unfold f_X3_set at h
  refine g_iload_n 0 C 1 dX3_set_0 rfl rfl ?_
  refine g_if_ne 1 11 C dX3_set_1 (by decide) (fun c => ?_) (fun c => ?_)
  · replace h := if_e c h
    refine g_iload_n 11 C 1 dX3_set_11 rfl rfl ?_
    refine g_iconst 12 C (1 : Int32) dX3_set_12 (by decide) ?_
    refine g_icmp_ne 13 23 C dX3_set_13 (by decide) (fun c => ?_) (fun c => ?_)
    · replace h := if_e c h
      refine g_aload_n 23 C 0 dX3_set_23 rfl rfl ?_
      refine g_get 24 C in_X3_set_X3 0 3 rfl rfl (by decide) fl_X3_set_25 rfl rfl dX3_set_24 ?_
      refine GG.sub (lv' := [(0, .ref h_t), (1, .int v1), (2, .int v2)]) [0, 1, 2] rfl ?_
      exact ok_B_X3_set_27 C hA h
    · replace h := it_e c h
      refine g_aload_n 16 C 0 dX3_set_16 rfl rfl ?_
      refine g_get 17 C in_X3_set_X3 0 2 rfl rfl (by decide) fl_X3_set_22 rfl rfl dX3_set_17 ?_
      refine g_goto 20 27 C dX3_set_20 (by decide) ?_
      refine GG.sub (lv' := [(0, .ref h_t), (1, .int v1), (2, .int v2)]) [0, 1, 2] rfl ?_
      exact ok_B_X3_set_27 C hA h
  · replace h := it_e c h
    refine g_aload_n 4 C 0 dX3_set_4 rfl rfl ?_
    refine g_get 5 C in_X3_set_X3 0 1 rfl rfl (by decide) fl_X3_set_15 rfl rfl dX3_set_5 ?_
    refine g_goto 8 27 C dX3_set_8 (by decide) ?_
    refine GG.sub (lv' := [(0, .ref h_t), (1, .int v1), (2, .int v2)]) [0, 1, 2] rfl ?_
    exact ok_B_X3_set_27 C hA h
end

/-! X3_coveredBy -/
abbrev W_X3_coveredBy (k : Nat → ClassId) (h_t : Nat) (h_t_dues : Nat) (s_each : Int32) (s_off : Int32) (s_twice : Int32) (s_dues : Nat → Int32) : va_W := [(h_t, .inr (3, [.ref h_t_dues, .int s_each, .int s_off, .int s_twice])), (h_t_dues, .inl (k 0, 61, .inl s_dues))]
def rm_X3_coveredBy : Room := { frames := 0, cells := 0, slots := 0, locals := 0 }
theorem in_X3_coveredBy_X3 : ∀ w ∈ u_ws RX3 TX3 4, w ∈ wsX3_coveredBy := by decide +kernel
theorem fl_X3_coveredBy_9 : Cond.fieldLink RX3 9 "LinkDays$Days" "dues" "[I" ∈ wsX3_coveredBy := by decide +kernel
theorem pd_X3_coveredBy : yX3_coveredBy.cls = RX3 ∧ yX3_coveredBy.cls ≠ "java/lang/invoke/MethodHandle" ∧ yX3_coveredBy.cls ≠ "java/lang/invoke/VarHandle" ∧ (parseMethodDescriptor yX3_coveredBy.desc).map (fun d => d.parameters.length) = some 1 := by decide +kernel
section
variable {p : Program} {l : Launch} {e : Env} {s : State} {m : MethodId} {args : Array Value} {below : List Frame} {meth : Method} {c : Code} {D : va_G} {k : Nat → ClassId} {A : Nat → Prop} {w0 : va_W} {sz : Nat}
set_option maxHeartbeats 4000000 in
set_option maxRecDepth 100000 in
theorem ok_L_X3_coveredBy_2 {h_t : Nat} {h_t_dues : Nat} {s_each : Int32} {s_off : Int32} {s_twice : Int32} {s_dues : Nat → Int32} {v1 : Int32} {res : Int32} (C : CX p s m args meth c cX3_coveredBy wsX3_coveredBy RX3 3 D k A (some .int)) (hA : A = va_A w0 sz) {kx : Int32 → Option (Int32)} (hx : ∀ t : Int32, kx t = some res → GG p l e rm_X3_coveredBy s m args below meth c (MQ below (cQi D w0 sz res (W_X3_coveredBy k h_t h_t_dues s_each s_off s_twice s_dues)) args s 0 0 A) D A 3 0 0 26 [(2, .int t)] [] (W_X3_coveredBy k h_t h_t_dues s_each s_off s_twice s_dues)) : ∀ (n : Nat) (t : Int32), L_X3_coveredBy_2 s_dues v1 kx n t = some res → GG p l e rm_X3_coveredBy s m args below meth c (MQ below (cQi D w0 sz res (W_X3_coveredBy k h_t h_t_dues s_each s_off s_twice s_dues)) args s 0 0 A) D A 3 0 0 2 [(0, .ref h_t), (1, .int v1), (2, .int t)] [] (W_X3_coveredBy k h_t h_t_dues s_each s_off s_twice s_dues) := by
  intro n
  induction n with
  | zero => intro t h; cases h
  | succ n ih =>
    intro t h
    obtain ⟨v2, rfl⟩ : ∃ z, z = t := ⟨_, rfl⟩
    replace h : LB_X3_coveredBy_2 s_dues v1 kx (L_X3_coveredBy_2 s_dues v1 kx n) v2 = some res := h
    have hr := ih
    unfold LB_X3_coveredBy_2 at h
    refine g_iload_n 2 C 2 dX3_coveredBy_2 rfl rfl ?_
    refine g_bipush 3 C (60 : Int32) dX3_coveredBy_3 (by decide) ?_
    refine g_icmp_ge 5 26 C dX3_coveredBy_5 (by decide) (fun c => ?_) (fun c => ?_)
    · replace h := it_e c h
      refine GG.sub (lv' := [(2, .int v2)]) [2] rfl ?_
      exact hx v2 h
    · replace h := if_e c h
      refine g_aload_n 8 C 0 dX3_coveredBy_8 rfl rfl ?_
      refine g_get 9 C in_X3_coveredBy_X3 0 0 rfl rfl (by decide) fl_X3_coveredBy_9 rfl rfl dX3_coveredBy_9 ?_
      refine g_iload_n 12 C 2 dX3_coveredBy_12 rfl rfl ?_
      refine g_iconst 13 C (1 : Int32) dX3_coveredBy_13 (by decide) ?_
      refine g_iadd 14 C dX3_coveredBy_14 ?_
      obtain ⟨o1, h⟩ := ob_e h
      refine g_iald 15 C 1 rfl o1 dX3_coveredBy_15 ?_
      refine g_iload_n 16 C 1 dX3_coveredBy_16 rfl rfl ?_
      refine g_icmp_gt 17 26 C dX3_coveredBy_17 (by decide) (fun c => ?_) (fun c => ?_)
      · replace h := it_e c h
        refine GG.sub (lv' := [(2, .int v2)]) [2] rfl ?_
        exact hx v2 h
      · replace h := if_e c h
        refine g_iinc 20 C 2 (1 : Int32) [(2, .int (v2 + (1 : Int32))), (0, .ref h_t), (1, .int v1)] dX3_coveredBy_20 rfl (by decide) (by decide) rfl ?_
        refine g_goto 23 2 C dX3_coveredBy_23 (by decide) ?_
        refine GG.sub (lv' := [(0, .ref h_t), (1, .int v1), (2, .int (v2 + (1 : Int32)))]) [1, 2, 0] rfl ?_
        exact hr (v2 + (1 : Int32)) h
set_option maxHeartbeats 4000000 in
set_option maxRecDepth 100000 in
theorem ok_B_X3_coveredBy_26 {h_t : Nat} {h_t_dues : Nat} {s_each : Int32} {s_off : Int32} {s_twice : Int32} {s_dues : Nat → Int32} {v2 : Int32} {res : Int32} (C : CX p s m args meth c cX3_coveredBy wsX3_coveredBy RX3 3 D k A (some .int)) (hA : A = va_A w0 sz)  (h : B_X3_coveredBy_26 v2 = some res) : GG p l e rm_X3_coveredBy s m args below meth c (MQ below (cQi D w0 sz res (W_X3_coveredBy k h_t h_t_dues s_each s_off s_twice s_dues)) args s 0 0 A) D A 3 0 0 26 [(2, .int v2)] [] (W_X3_coveredBy k h_t h_t_dues s_each s_off s_twice s_dues) := by
  unfold B_X3_coveredBy_26 at h
  refine g_iload_n 26 C 0 dX3_coveredBy_26 rfl rfl ?_
  obtain rfl := Option.some.inj h
  exact g_iret 27 C hA rfl dX3_coveredBy_27 rfl
set_option maxHeartbeats 4000000 in
set_option maxRecDepth 100000 in
theorem k_X3_coveredBy {l : Launch} {D : va_G} {k : Nat → ClassId} (h_t : Nat) (h_t_dues : Nat) (s_each : Int32) (s_off : Int32) (s_twice : Int32) (s_dues : Nat → Int32) (v1 : Int32) (res : Int32) (h : f_X3_coveredBy s_dues v1 = some res) (sz : Nat) : Met l yX3_coveredBy wsX3_coveredBy rm_X3_coveredBy (cPre D k [.ref h_t, .int v1] (W_X3_coveredBy k h_t h_t_dues s_each s_off s_twice s_dues) sz) (cQi D (W_X3_coveredBy k h_t h_t_dues s_each s_off s_twice s_dues) sz res (W_X3_coveredBy k h_t h_t_dues s_each s_off s_twice s_dues)) 0 0 (va_A (W_X3_coveredBy k h_t h_t_dues s_each s_off s_twice s_dues) sz) := by
  refine met_of [(0, .ref h_t), (1, .int v1)] (by decide) rfl rfl (Nat.le_of_ble_eq_true rfl) rfl ?_
  intro p e s m args below meth c A hA hsz C
  unfold f_X3_coveredBy at h
  refine g_iconst 0 C (0 : Int32) dX3_coveredBy_0 (by decide) ?_
  refine g_istore_n 1 C [(2, .int (0 : Int32)), (0, .ref h_t), (1, .int v1)] dX3_coveredBy_1 rfl (by decide) rfl ?_
  refine GG.sub (lv' := [(0, .ref h_t), (1, .int v1), (2, .int (0 : Int32))]) [1, 2, 0] rfl ?_
  exact ok_L_X3_coveredBy_2 C hA (fun t h => by
    refine GG.sub (lv' := [(2, .int t)]) [0] rfl ?_
    exact ok_B_X3_coveredBy_26 C hA h) FUEL (0 : Int32) h
end

/-! X3_take -/
abbrev W_X3_take (k : Nat → ClassId) (h_t : Nat) (h_t_dues : Nat) (h_a0 : Nat) (h_a0_dues : Nat) (s_each : Int32) (s_off : Int32) (s_twice : Int32) (s_dues : Nat → Int32) (s_a0_each : Int32) (s_a0_off : Int32) (s_a0_twice : Int32) (s_a0_dues : Nat → Int32) : va_W := [(h_t, .inr (3, [.ref h_t_dues, .int s_each, .int s_off, .int s_twice])), (h_t_dues, .inl (k 0, 61, .inl s_dues)), (h_a0, .inr (3, [.ref h_a0_dues, .int s_a0_each, .int s_a0_off, .int s_a0_twice])), (h_a0_dues, .inl (k 0, 61, .inl s_a0_dues))]
def rm_X3_take : Room := { frames := 1, cells := 0, slots := 0, locals := 40 }
theorem in_X3_take_X3 : ∀ w ∈ u_ws RX3 TX3 4, w ∈ wsX3_take := by decide +kernel
theorem cl_X3_take_28 : Cond.methodLink RX3 28 arraycopyName ∈ wsX3_take := by decide +kernel
theorem fl_X3_take_15 : Cond.fieldLink RX3 15 "LinkDays$Days" "each" "I" ∈ wsX3_take := by decide +kernel
theorem fl_X3_take_22 : Cond.fieldLink RX3 22 "LinkDays$Days" "off" "I" ∈ wsX3_take := by decide +kernel
theorem fl_X3_take_25 : Cond.fieldLink RX3 25 "LinkDays$Days" "twice" "I" ∈ wsX3_take := by decide +kernel
theorem fl_X3_take_9 : Cond.fieldLink RX3 9 "LinkDays$Days" "dues" "[I" ∈ wsX3_take := by decide +kernel
theorem init_X3_take_copy : Cond.initialized "java/lang/System" ∈ wsX3_take := by decide +kernel
theorem native_X3_take_copy : Cond.native arraycopyName ∈ wsX3_take := by decide +kernel
theorem static_X3_take_copy : Cond.static arraycopyName ∈ wsX3_take := by decide +kernel
theorem pd_X3_take : yX3_take.cls = RX3 ∧ yX3_take.cls ≠ "java/lang/invoke/MethodHandle" ∧ yX3_take.cls ≠ "java/lang/invoke/VarHandle" ∧ (parseMethodDescriptor yX3_take.desc).map (fun d => d.parameters.length) = some 1 := by decide +kernel
section
variable {p : Program} {l : Launch} {e : Env} {s : State} {m : MethodId} {args : Array Value} {below : List Frame} {meth : Method} {c : Code} {D : va_G} {k : Nat → ClassId} {A : Nat → Prop} {w0 : va_W} {sz : Nat}
set_option maxHeartbeats 4000000 in
set_option maxRecDepth 100000 in
theorem k_X3_take {l : Launch} {D : va_G} {k : Nat → ClassId} (h_t : Nat) (h_t_dues : Nat) (h_a0 : Nat) (h_a0_dues : Nat) (s_each : Int32) (s_off : Int32) (s_twice : Int32) (s_dues : Nat → Int32) (s_a0_each : Int32) (s_a0_off : Int32) (s_a0_twice : Int32) (s_a0_dues : Nat → Int32) (res : Int32 × Int32 × Int32 × (Nat → Int32)) (h : f_X3_take s_dues s_a0_each s_a0_off s_a0_twice s_a0_dues = some res) (sz : Nat) : Met l yX3_take wsX3_take rm_X3_take (cPre D k [.ref h_t, .ref h_a0] (W_X3_take k h_t h_t_dues h_a0 h_a0_dues s_each s_off s_twice s_dues s_a0_each s_a0_off s_a0_twice s_a0_dues) sz) (cQv D (W_X3_take k h_t h_t_dues h_a0 h_a0_dues s_each s_off s_twice s_dues s_a0_each s_a0_off s_a0_twice s_a0_dues) sz (W_X3_take k h_t h_t_dues h_a0 h_a0_dues res.1 res.2.1 res.2.2.1 res.2.2.2 s_a0_each s_a0_off s_a0_twice s_a0_dues)) 0 0 (va_A (W_X3_take k h_t h_t_dues h_a0 h_a0_dues s_each s_off s_twice s_dues s_a0_each s_a0_off s_a0_twice s_a0_dues) sz) := by
  refine met_of [(0, .ref h_t), (1, .ref h_a0)] (by decide) rfl rfl (Nat.le_of_ble_eq_true rfl) rfl ?_
  intro p e s m args below meth c A hA hsz C
  unfold f_X3_take at h
  refine g_aload_n 0 C 1 dX3_take_0 rfl rfl ?_
  refine g_get 1 C in_X3_take_X3 2 0 rfl rfl (by decide) fl_X3_take_9 rfl rfl dX3_take_1 ?_
  refine g_iconst 4 C (0 : Int32) dX3_take_4 (by decide) ?_
  refine g_aload_n 5 C 0 dX3_take_5 rfl rfl ?_
  refine g_get 6 C in_X3_take_X3 0 0 rfl rfl (by decide) fl_X3_take_9 rfl rfl dX3_take_6 ?_
  refine g_iconst 9 C (0 : Int32) dX3_take_9 (by decide) ?_
  refine g_bipush 10 C (61 : Int32) dX3_take_10 (by decide) ?_
  obtain ⟨o1, h⟩ := ob_e h
  refine g_copyI 12 C (W_X3_take k h_t h_t_dues h_a0 h_a0_dues s_each s_off s_twice (va_cpy s_a0_dues s_dues (0 : Int32).toNatClampNeg (0 : Int32).toNatClampNeg (61 : Int32).toNatClampNeg) s_a0_each s_a0_off s_a0_twice s_a0_dues) 3 1 cl_X3_take_28 native_X3_take_copy static_X3_take_copy init_X3_take_copy rfl rfl o1 (Nat.le_of_ble_eq_true rfl) (by decide) rfl dX3_take_12 ?_
  refine g_aload_n 15 C 0 dX3_take_15 rfl rfl ?_
  refine g_aload_n 16 C 1 dX3_take_16 rfl rfl ?_
  refine g_get 17 C in_X3_take_X3 2 1 rfl rfl (by decide) fl_X3_take_15 rfl rfl dX3_take_17 ?_
  refine g_put 20 C (W_X3_take k h_t h_t_dues h_a0 h_a0_dues s_a0_each s_off s_twice (va_cpy s_a0_dues s_dues (0 : Int32).toNatClampNeg (0 : Int32).toNatClampNeg (61 : Int32).toNatClampNeg) s_a0_each s_a0_off s_a0_twice s_a0_dues) in_X3_take_X3 tyX3 tyX3_ok nmX3 0 1 rfl rfl (by decide) fl_X3_take_15 rfl rfl (tyX3_ok 1 (by decide)) rfl rfl (Nat.le_of_ble_eq_true rfl) rfl dX3_take_20 ?_
  refine g_aload_n 23 C 0 dX3_take_23 rfl rfl ?_
  refine g_aload_n 24 C 1 dX3_take_24 rfl rfl ?_
  refine g_get 25 C in_X3_take_X3 2 2 rfl rfl (by decide) fl_X3_take_22 rfl rfl dX3_take_25 ?_
  refine g_put 28 C (W_X3_take k h_t h_t_dues h_a0 h_a0_dues s_a0_each s_a0_off s_twice (va_cpy s_a0_dues s_dues (0 : Int32).toNatClampNeg (0 : Int32).toNatClampNeg (61 : Int32).toNatClampNeg) s_a0_each s_a0_off s_a0_twice s_a0_dues) in_X3_take_X3 tyX3 tyX3_ok nmX3 0 2 rfl rfl (by decide) fl_X3_take_22 rfl rfl (tyX3_ok 2 (by decide)) rfl rfl (Nat.le_of_ble_eq_true rfl) rfl dX3_take_28 ?_
  refine g_aload_n 31 C 0 dX3_take_31 rfl rfl ?_
  refine g_aload_n 32 C 1 dX3_take_32 rfl rfl ?_
  refine g_get 33 C in_X3_take_X3 2 3 rfl rfl (by decide) fl_X3_take_25 rfl rfl dX3_take_33 ?_
  refine g_put 36 C (W_X3_take k h_t h_t_dues h_a0 h_a0_dues s_a0_each s_a0_off s_a0_twice (va_cpy s_a0_dues s_dues (0 : Int32).toNatClampNeg (0 : Int32).toNatClampNeg (61 : Int32).toNatClampNeg) s_a0_each s_a0_off s_a0_twice s_a0_dues) in_X3_take_X3 tyX3 tyX3_ok nmX3 0 3 rfl rfl (by decide) fl_X3_take_25 rfl rfl (tyX3_ok 3 (by decide)) rfl rfl (Nat.le_of_ble_eq_true rfl) rfl dX3_take_36 ?_
  obtain rfl := Option.some.inj h
  exact g_vret 39 C hA dX3_take_39 rfl
end
