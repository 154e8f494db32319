/-! the judgement GG: from this place, with these locals, this stack and this world, the method comes to its end; rows that move it on -/
abbrev TY (k : Nat → ClassId) : List (ClassId × FieldType) := [(k 0, .int), (k 1, .long), (k 2, .byte), (k 3, .boolean), (k 4, .object "LinkDays$Sheet"), (k 5, .array .int)]
/-- the static row of Delay, the constant text of Tape, links between nest mates -/
def dig (j : Nat) : Int64 := if j = 0 then 13845841 else if j = 1 then 226981 else if j = 2 then 3721 else if j = 3 then 61 else 1
/-- arrays of rows -/
def va_AOA (ty : FieldType) (U : State) : Prop := (Cond.arrayOver (.array ty)).before #[] U = true
theorem va_AOA.use {ty : FieldType} {A : Array Value} {U : State} (h : va_AOA ty U) : (Cond.arrayOver (.array ty)).before A U = true := h
theorem va_AOA.moved {ty : FieldType} {u U : State} (hvm : u.vm.Alike U.vm) (h : va_AOA ty u) : va_AOA ty U := mu_overM hvm h
/-- the constructors that nest mates call -/
def NLK : List (Nat × MethodName) := [(31, yX9_init), (41, yX5_init), (48, yX8_init), (55, yX6_init), (62, yX2_init), (69, yX0_init), (76, yX4_init), (94, yX7_init)]
/-- its bytes -/
def orpbB (j : Nat) : Int32 := ([111, 114, 112, 98] : List Int32).getD j 0
def NX (k : Nat → ClassId) (A : Nat → Prop) (U : State) : Prop := va_Nw (.methodLinkNest RX6 49 yX10_within "LinkDays") U ∧ va_Nw (.methodLinkNest RX9 19 yX10_within "LinkDays") U ∧ va_Z "LinkDays$Delay" "DIGITS" "[J" (.ref (k 8)) A U U.heap ∧ va_T .long (k 8) 5 (fun j => .long (dig j)) A U U.heap ∧ vk_R "LinkDays$Tape" 36 "orpb" (k 6) U ∧ vk_S 1 [4] [[111, 114, 112, 98]] (fun _ => k 6) (fun _ => k 7) A U U.heap ∧ va_Z "java/lang/String" "COMPACT_STRINGS" "Z" (.int 1) A U U.heap ∧ (∀ q ∈ NLK, va_Nw (.methodLinkNest RX10 q.1 q.2 "LinkDays") U) ∧ va_AO "LinkDays$Sheet" U ∧ va_AOA .int U
theorem NX.call {k : Nat → ClassId} {A B : Nat → Prop} {s U : State} {H : Heap} {locs : List Loc} (hW : s.WarmedH U.vm) (hU : U.heap = H) (hS : va_S A s.heap H locs) (hB : ∀ q, B q → A q) (h : NX k A s) : NX k B U := by
  obtain ⟨h1, h2, h3, h4, h5, h6, h7, h8, h9, h10⟩ := h
  have hk : ∀ a : Nat, a < s.heap.size → ¬ A a → U.heap[a]? = s.heap[a]? := by rw [hU]; exact hS.2.1
  exact ⟨va_Nw.warmM hW h1, va_Nw.warmM hW h2, ((h3.moved hW.alike).kept hk).narrow hB, ((h4.moved hW.alike).kept hk).narrow hB, h5.warm hW, ((h6.moved hW.alike).kept hk).narrow hB, ((h7.moved hW.alike).kept hk).narrow hB, fun q hq => va_Nw.warmM hW (h8 q hq), h9.moved hW.alike, h10.moved hW.alike⟩
theorem NX.same {k : Nat → ClassId} {A : Nat → Prop} {u U : State} (ha : u.vm.Alike U.vm) (hv : u.vm = U.vm) (hh : u.heap = U.heap) (h : NX k A u) : NX k A U := by
  obtain ⟨h1, h2, h3, h4, h5, h6, h7, h8, h9, h10⟩ := h
  rw [hh] at h3 h4 h6 h7
  exact ⟨va_Nw.same rfl hv h1, va_Nw.same rfl hv h2, h3.moved ha, h4.moved ha, h5.same hv.symm, h6.moved ha, h7.moved ha, fun q hq => va_Nw.same rfl hv (h8 q hq), h9.moved ha, h10.moved ha⟩
def CX (p : Program) (s : State) (m : MethodId) (args : Array Value) (meth : Method) (c : Code) (cc : ByteArray) (Ts : List Cond) (own : String) (nL : Nat) (D : va_G) (k : Nat → ClassId) (A : Nat → Prop) (ret : Option FieldType) : Prop :=
  p.tables.exec = Jvm.exec ∧ c.code = cc ∧ (∀ w ∈ Ts, w.before args s = true) ∧ s.vm.findClass own = some m.cls ∧ va_K D vwCl (TY k) s ∧ c.maxLocals = nL ∧ meth.sig.returnType = ret ∧ meth.locks = false ∧ (∀ q, s.heap.size ≤ q → A q) ∧ NX k A s
def GG (p : Program) (l : Launch) (e : Env) (R : Room) (s : State) (m : MethodId) (args : Array Value) (below : List Frame) (meth : Method) (c : Code) (Q : State → Prop) (D : va_G) (A : Nat → Prop) (nL cells slots : Nat) (pc : Nat) (lv : List (Nat × Value)) (st : List Value) (ws : va_W) : Prop :=
  ∀ (H : Heap) (locs : List Loc) (ls : Array Slot), va_P D vwCl ws H → va_D A ws → va_S A s.heap H locs → lv_has ls nL lv → W p l e R s m args below meth c H locs cells slots Q (F0 m pc ls st)
def inb (i : Int32) (n : Nat) : Bool := decide (¬ (i < 0)) && decide (i.toNatClampNeg < n)
theorem inb_in {i : Int32} {n : Nat} (h : inb i n = true) : vp_in i n := by
  simp only [inb, Bool.and_eq_true, decide_eq_true_eq] at h
  intro q
  rcases q with q | q
  · exact h.1 q
  · omega
theorem inb_lt {i : Int32} {n : Nat} (h : inb i n = true) : i.toNatClampNeg < n := by
  simp only [inb, Bool.and_eq_true, decide_eq_true_eq] at h
  exact h.2
theorem inb_nI {i n : Nat} (h : i < n) (hn : n < 2 ^ 31) : inb (nI i) n = true := by
  simp only [inb, Bool.and_eq_true, decide_eq_true_eq]
  exact ⟨nI_pos (by omega), by rw [nI_clamp (by omega)]; exact h⟩
def ob {α : Type} (b : Bool) (x : Option α) : Option α := if b = true then x else none
theorem ob_e {α : Type} {b : Bool} {x : Option α} {r : α} (h : ob b x = some r) : b = true ∧ x = some r := by
  unfold ob at h
  by_cases hb : b = true
  · rw [if_pos hb] at h; exact ⟨hb, h⟩
  · rw [if_neg hb] at h; cases h
theorem ob_t {α : Type} {b : Bool} (h : b = true) (x : Option α) : ob b x = x := if_pos h
theorem bi_e {α β : Type} {x : Option α} {f : α → Option β} {r : β} (h : x.bind f = some r) : ∃ a, x = some a ∧ f a = some r := by
  cases x with
  | none => cases h
  | some a => exact ⟨a, rfl, h⟩
theorem it_e {α : Type} {c : Prop} {x : Decidable c} {a b : α} {r : α} (hc : c) (h : @ite α c x a b = r) : a = r := by rw [if_pos hc] at h; exact h
theorem if_e {α : Type} {c : Prop} {x : Decidable c} {a b : α} {r : α} (hc : ¬ c) (h : @ite α c x a b = r) : b = r := by rw [if_neg hc] at h; exact h
def fixN {α β : Type} (body : (α → Option β) → α → Option β) : Nat → α → Option β
  | 0 => fun _ => none
  | n + 1 => body (fixN body n)
theorem FUEL_ex : ∃ n : Nat, 2 ^ 40 ≤ n := ⟨2 ^ 40, Nat.le_refl _⟩
noncomputable def FUEL : Nat := FUEL_ex.choose
theorem FUEL_ge : 2 ^ 40 ≤ FUEL := FUEL_ex.choose_spec
def zb (v : Int32) : Bool := decide (v = 0) || decide (v = 1)
theorem zb_nB {v : Int32} (h : zb v = true) : narrow .byte (.int v) = .int v := by
  simp only [zb, Bool.or_eq_true, decide_eq_true_eq] at h
  rcases h with h | h <;> subst h <;> rfl
theorem zb_n {v : Int32} (h : zb v = true) : narrow .boolean (.int v) = .int v := by
  simp only [zb, Bool.or_eq_true, decide_eq_true_eq] at h
  rcases h with h | h <;> subst h <;> rfl
/-- an index of a switch that is none of its cases -/
theorem sw_out {x : Int32} (n : Nat) (hn : n < 2 ^ 31) (h : ∀ j, j < n → ¬ x = Int32.ofNat j) {hi : Int} (hh : hi = (n : Int) - 1 := by decide) : x.toInt < 0 ∨ hi < x.toInt := by
  by_cases h0 : x.toInt < 0
  · exact Or.inl h0
  · refine Or.inr ?_
    subst hh
    by_cases h1 : (n : Int) - 1 < x.toInt
    · exact h1
    · exfalso
      refine h x.toInt.toNat (by omega) ?_
      apply Int32.toInt_inj.mp
      rw [show (Int32.ofNat x.toInt.toNat).toInt = (x.toInt.toNat : Int) from nI_toInt (by omega)]
      omega
def cpb (sp dp n : Int32) (n0 n1 : Nat) : Bool := decide (¬ sp < 0) && decide (¬ dp < 0) && decide (¬ n < 0) && decide (sp.toNatClampNeg + n.toNatClampNeg ≤ n0) && decide (dp.toNatClampNeg + n.toNatClampNeg ≤ n1)
theorem cpb_e {sp dp n : Int32} {n0 n1 : Nat} (h : cpb sp dp n n0 n1 = true) : ¬ sp < 0 ∧ ¬ dp < 0 ∧ ¬ n < 0 ∧ sp.toNatClampNeg + n.toNatClampNeg ≤ n0 ∧ dp.toNatClampNeg + n.toNatClampNeg ≤ n1 := by
  simp only [cpb, Bool.and_eq_true, decide_eq_true_eq] at h
  obtain ⟨⟨⟨⟨a, b⟩, d⟩, e⟩, f⟩ := h
  exact ⟨a, b, d, e, f⟩
section GB
variable {p : Program} {l : Launch} {e : Env} {R : Room} {s : State} {m : MethodId} {args : Array Value} {below : List Frame} {meth : Method} {c : Code} {Q : State → Prop} {D : va_G} {A : Nat → Prop} {nL cells slots : Nat} {lv lv' : List (Nat × Value)} {rest : List Value} {ws ws' : va_W} {cc : ByteArray} {Ts : List Cond} {own : String} {k : Nat → ClassId} {ret : Option FieldType}
theorem GG.sub {pc : Nat} (ks : List Nat) (hl : lv_pick lv ks = lv') (kk : GG p l e R s m args below meth c Q D A nL cells slots pc lv' rest ws) : GG p l e R s m args below meth c Q D A nL cells slots pc lv rest ws :=
  fun H locs ls hP hD hS h => kk H locs ls hP hD hS (lv_sub h ks hl)
theorem GG.at {pc : Nat} {st : List Value} (hl : lv' = lv) (hs : st = rest) (hw : ws' = ws) (kk : GG p l e R s m args below meth c Q D A nL cells slots pc lv rest ws) : GG p l e R s m args below meth c Q D A nL cells slots pc lv' st ws' := by
  subst hl; subst hs; subst hw; exact kk
theorem g_iconst (pc : Nat) (C : CX p s m args meth c cc Ts own nL D k A ret) {n : Int} (v : Int32) (hd : decode cc pc = .ok (.iconst n, 1)) (hv : Int32.ofInt n = v) (kk : GG p l e R s m args below meth c Q D A nL cells slots (pc + 1) lv (.int v :: rest) ws) : GG p l e R s m args below meth c Q D A nL cells slots pc lv (rest) ws :=
  fun H locs ls hP hD hS hl => lv_iconst C.1 C.2.1 hd hv (kk H locs ls hP hD hS hl)
theorem g_bipush (pc : Nat) (C : CX p s m args meth c cc Ts own nL D k A ret) {n : Int} (v : Int32) (hd : decode cc pc = .ok (.bipush n, 2)) (hv : (Int8.ofInt n).toInt32 = v) (kk : GG p l e R s m args below meth c Q D A nL cells slots (pc + 2) lv (.int v :: rest) ws) : GG p l e R s m args below meth c Q D A nL cells slots pc lv (rest) ws :=
  fun H locs ls hP hD hS hl => lv_bipush C.1 C.2.1 hd hv (kk H locs ls hP hD hS hl)
theorem g_sipush (pc : Nat) (C : CX p s m args meth c cc Ts own nL D k A ret) {n : Int} (v : Int32) (hd : decode cc pc = .ok (.sipush n, 3)) (hv : (Int16.ofInt n).toInt32 = v) (kk : GG p l e R s m args below meth c Q D A nL cells slots (pc + 3) lv (.int v :: rest) ws) : GG p l e R s m args below meth c Q D A nL cells slots pc lv (rest) ws :=
  fun H locs ls hP hD hS hl => lv_sipush C.1 C.2.1 hd hv (kk H locs ls hP hD hS hl)
theorem g_lconst (pc : Nat) (C : CX p s m args meth c cc Ts own nL D k A ret) {n : Fin 2} (v : Int64) (hd : decode cc pc = .ok (.lconst n, 1)) (hv : Int64.ofNat (n : Nat) = v) (kk : GG p l e R s m args below meth c Q D A nL cells slots (pc + 1) lv (.long v :: rest) ws) : GG p l e R s m args below meth c Q D A nL cells slots pc lv (rest) ws :=
  fun H locs ls hP hD hS hl => lv_lconst C.1 C.2.1 hd hv (kk H locs ls hP hD hS hl)
theorem g_ldc (pc : Nat) (C : CX p s m args meth c cc Ts own nL D k A ret) {index : Nat} (v : Int32) (hd : decode cc pc = .ok (.ldc index, 2)) (hc : Jvm.Cond.constant own index v ∈ Ts) (kk : GG p l e R s m args below meth c Q D A nL cells slots (pc + 2) lv (.int v :: rest) ws) : GG p l e R s m args below meth c Q D A nL cells slots pc lv rest ws :=
  fun H locs ls hP hD hS hl => lv_ldc C.1 C.2.1 C.2.2.2.1 (C.2.2.1 _ hc) hd (kk H locs ls hP hD hS hl)
theorem g_ldcw (pc : Nat) (C : CX p s m args meth c cc Ts own nL D k A ret) {index : Nat} (v : Int32) (hd : decode cc pc = .ok (.ldc_w index, 3)) (hc : Jvm.Cond.constant own index v ∈ Ts) (kk : GG p l e R s m args below meth c Q D A nL cells slots (pc + 3) lv (.int v :: rest) ws) : GG p l e R s m args below meth c Q D A nL cells slots pc lv rest ws :=
  fun H locs ls hP hD hS hl => lv_ldcw C.1 C.2.1 C.2.2.2.1 (C.2.2.1 _ hc) hd (kk H locs ls hP hD hS hl)
theorem g_ldc2 (pc : Nat) (C : CX p s m args meth c cc Ts own nL D k A ret) {index : Nat} (v : Int64) (hd : decode cc pc = .ok (.ldc2_w index, 3)) (hc : Jvm.Cond.constantLong own index v ∈ Ts) (kk : GG p l e R s m args below meth c Q D A nL cells slots (pc + 3) lv (.long v :: rest) ws) : GG p l e R s m args below meth c Q D A nL cells slots pc lv rest ws :=
  fun H locs ls hP hD hS hl => lv_ldc2 C.1 C.2.1 C.2.2.2.1 (C.2.2.1 _ hc) hd (kk H locs ls hP hD hS hl)
theorem g_iload_n (pc : Nat) (C : CX p s m args meth c cc Ts own nL D k A ret) {j : Fin 4} {i : Nat} {x : Int32} (q : Nat) (hd : decode cc pc = .ok (.iload_n j, 1)) (hi : (j : Nat) = i) (hq : lv[q]? = some (i, .int x)) (kk : GG p l e R s m args below meth c Q D A nL cells slots (pc + 1) lv (.int x :: rest) ws) : GG p l e R s m args below meth c Q D A nL cells slots pc lv rest ws :=
  fun H locs ls hP hD hS hl => lv_iload_n C.1 C.2.1 hd hi (lv_at hl q hq) (kk H locs ls hP hD hS hl)
theorem g_iload (pc : Nat) (C : CX p s m args meth c cc Ts own nL D k A ret) {i : Nat} {x : Int32} (q : Nat) (hd : decode cc pc = .ok (.iload i, 2)) (hq : lv[q]? = some (i, .int x)) (kk : GG p l e R s m args below meth c Q D A nL cells slots (pc + 2) lv (.int x :: rest) ws) : GG p l e R s m args below meth c Q D A nL cells slots pc lv rest ws :=
  fun H locs ls hP hD hS hl => lv_iload C.1 C.2.1 hd (lv_at hl q hq) (kk H locs ls hP hD hS hl)
theorem g_lload_n (pc : Nat) (C : CX p s m args meth c cc Ts own nL D k A ret) {j : Fin 4} {i : Nat} {x : Int64} (q : Nat) (hd : decode cc pc = .ok (.lload_n j, 1)) (hi : (j : Nat) = i) (hq : lv[q]? = some (i, .long x)) (kk : GG p l e R s m args below meth c Q D A nL cells slots (pc + 1) lv (.long x :: rest) ws) : GG p l e R s m args below meth c Q D A nL cells slots pc lv rest ws :=
  fun H locs ls hP hD hS hl => lv_lload_n C.1 C.2.1 hd hi (lv_at hl q hq) (kk H locs ls hP hD hS hl)
theorem g_lload (pc : Nat) (C : CX p s m args meth c cc Ts own nL D k A ret) {i : Nat} {x : Int64} (q : Nat) (hd : decode cc pc = .ok (.lload i, 2)) (hq : lv[q]? = some (i, .long x)) (kk : GG p l e R s m args below meth c Q D A nL cells slots (pc + 2) lv (.long x :: rest) ws) : GG p l e R s m args below meth c Q D A nL cells slots pc lv rest ws :=
  fun H locs ls hP hD hS hl => lv_lload C.1 C.2.1 hd (lv_at hl q hq) (kk H locs ls hP hD hS hl)
theorem g_aload_n (pc : Nat) (C : CX p s m args meth c cc Ts own nL D k A ret) {j : Fin 4} {i : Nat} {x : Nat} (q : Nat) (hd : decode cc pc = .ok (.aload_n j, 1)) (hi : (j : Nat) = i) (hq : lv[q]? = some (i, .ref x)) (kk : GG p l e R s m args below meth c Q D A nL cells slots (pc + 1) lv (.ref x :: rest) ws) : GG p l e R s m args below meth c Q D A nL cells slots pc lv rest ws :=
  fun H locs ls hP hD hS hl => lv_aload_n C.1 C.2.1 hd hi (lv_at hl q hq) (kk H locs ls hP hD hS hl)
theorem g_aload (pc : Nat) (C : CX p s m args meth c cc Ts own nL D k A ret) {i : Nat} {x : Nat} (q : Nat) (hd : decode cc pc = .ok (.aload i, 2)) (hq : lv[q]? = some (i, .ref x)) (kk : GG p l e R s m args below meth c Q D A nL cells slots (pc + 2) lv (.ref x :: rest) ws) : GG p l e R s m args below meth c Q D A nL cells slots pc lv rest ws :=
  fun H locs ls hP hD hS hl => lv_aload C.1 C.2.1 hd (lv_at hl q hq) (kk H locs ls hP hD hS hl)
theorem g_istore_n (pc : Nat) (C : CX p s m args meth c cc Ts own nL D k A ret) {j : Fin 4} {i : Nat} {x : Int32} (lv' : List (Nat × Value)) (hd : decode cc pc = .ok (.istore_n j, 1)) (hi : (j : Nat) = i) (hn : i < nL) (hl' : (i, Value.int x) :: lv.filter (fun q => !(q.1 == i) && !(q.1 + 1 == i && q.2.category == 2)) = lv') (kk : GG p l e R s m args below meth c Q D A nL cells slots (pc + 1) lv' rest ws) : GG p l e R s m args below meth c Q D A nL cells slots pc lv (Value.int x :: rest) ws :=
  fun H locs ls hP hD hS hl => lv_istore_n C.1 C.2.1 hd hi hl hn hl' (fun ls' h' => kk H locs ls' hP hD hS h')
theorem g_istore (pc : Nat) (C : CX p s m args meth c cc Ts own nL D k A ret) {i : Nat} {x : Int32} (lv' : List (Nat × Value)) (hd : decode cc pc = .ok (.istore i, 2)) (hn : i < nL) (hl' : (i, Value.int x) :: lv.filter (fun q => !(q.1 == i) && !(q.1 + 1 == i && q.2.category == 2)) = lv') (kk : GG p l e R s m args below meth c Q D A nL cells slots (pc + 2) lv' rest ws) : GG p l e R s m args below meth c Q D A nL cells slots pc lv (Value.int x :: rest) ws :=
  fun H locs ls hP hD hS hl => lv_istore C.1 C.2.1 hd hl hn hl' (fun ls' h' => kk H locs ls' hP hD hS h')
theorem g_lstore_n (pc : Nat) (C : CX p s m args meth c cc Ts own nL D k A ret) {j : Fin 4} {i : Nat} {x : Int64} (lv' : List (Nat × Value)) (hd : decode cc pc = .ok (.lstore_n j, 1)) (hi : (j : Nat) = i) (hn : i + 1 < nL) (hl' : (i, Value.long x) :: lv.filter (fun q => !(q.1 == i) && (!(q.1 == i + 1) && !(q.1 + 1 == i && q.2.category == 2))) = lv') (kk : GG p l e R s m args below meth c Q D A nL cells slots (pc + 1) lv' rest ws) : GG p l e R s m args below meth c Q D A nL cells slots pc lv (Value.long x :: rest) ws :=
  fun H locs ls hP hD hS hl => lv_lstore_n C.1 C.2.1 hd hi hl hn hl' (fun ls' h' => kk H locs ls' hP hD hS h')
theorem g_lstore (pc : Nat) (C : CX p s m args meth c cc Ts own nL D k A ret) {i : Nat} {x : Int64} (lv' : List (Nat × Value)) (hd : decode cc pc = .ok (.lstore i, 2)) (hn : i + 1 < nL) (hl' : (i, Value.long x) :: lv.filter (fun q => !(q.1 == i) && (!(q.1 == i + 1) && !(q.1 + 1 == i && q.2.category == 2))) = lv') (kk : GG p l e R s m args below meth c Q D A nL cells slots (pc + 2) lv' rest ws) : GG p l e R s m args below meth c Q D A nL cells slots pc lv (Value.long x :: rest) ws :=
  fun H locs ls hP hD hS hl => lv_lstore C.1 C.2.1 hd hl hn hl' (fun ls' h' => kk H locs ls' hP hD hS h')
theorem g_astore_n (pc : Nat) (C : CX p s m args meth c cc Ts own nL D k A ret) {j : Fin 4} {i : Nat} {x : Nat} (lv' : List (Nat × Value)) (hd : decode cc pc = .ok (.astore_n j, 1)) (hi : (j : Nat) = i) (hn : i < nL) (hl' : (i, Value.ref x) :: lv.filter (fun q => !(q.1 == i) && !(q.1 + 1 == i && q.2.category == 2)) = lv') (kk : GG p l e R s m args below meth c Q D A nL cells slots (pc + 1) lv' rest ws) : GG p l e R s m args below meth c Q D A nL cells slots pc lv (Value.ref x :: rest) ws :=
  fun H locs ls hP hD hS hl => lv_astore_n C.1 C.2.1 hd hi hl hn hl' (fun ls' h' => kk H locs ls' hP hD hS h')
theorem g_astore (pc : Nat) (C : CX p s m args meth c cc Ts own nL D k A ret) {i : Nat} {x : Nat} (lv' : List (Nat × Value)) (hd : decode cc pc = .ok (.astore i, 2)) (hn : i < nL) (hl' : (i, Value.ref x) :: lv.filter (fun q => !(q.1 == i) && !(q.1 + 1 == i && q.2.category == 2)) = lv') (kk : GG p l e R s m args below meth c Q D A nL cells slots (pc + 2) lv' rest ws) : GG p l e R s m args below meth c Q D A nL cells slots pc lv (Value.ref x :: rest) ws :=
  fun H locs ls hP hD hS hl => lv_astore C.1 C.2.1 hd hl hn hl' (fun ls' h' => kk H locs ls' hP hD hS h')
theorem g_iinc (pc : Nat) (C : CX p s m args meth c cc Ts own nL D k A ret) {i : Nat} {n : Int} {x : Int32} (q : Nat) (dv : Int32) (lv' : List (Nat × Value)) (hd : decode cc pc = .ok (.iinc i n, 3)) (hq : lv[q]? = some (i, .int x)) (hv : Int32.ofInt n = dv) (hn : i < nL) (hl' : (i, Value.int (x + dv)) :: lv.filter (fun q => !(q.1 == i) && !(q.1 + 1 == i && q.2.category == 2)) = lv') (kk : GG p l e R s m args below meth c Q D A nL cells slots (pc + 3) lv' rest ws) : GG p l e R s m args below meth c Q D A nL cells slots pc lv rest ws :=
  fun H locs ls hP hD hS hl => lv_iinc C.1 C.2.1 hd hl (k := q) hq (by rw [hv]) hn hl' (fun ls' h' => kk H locs ls' hP hD hS h')
theorem g_iadd (pc : Nat) (C : CX p s m args meth c cc Ts own nL D k A ret) {x y : Int32} (hd : decode cc pc = .ok (.iadd, 1)) (kk : GG p l e R s m args below meth c Q D A nL cells slots (pc + 1) lv (.int (x + y) :: rest) ws) : GG p l e R s m args below meth c Q D A nL cells slots pc lv (.int y :: .int x :: rest) ws :=
  fun H locs ls hP hD hS hl => lv_iadd C.1 C.2.1 hd (kk H locs ls hP hD hS hl)
theorem g_isub (pc : Nat) (C : CX p s m args meth c cc Ts own nL D k A ret) {x y : Int32} (hd : decode cc pc = .ok (.isub, 1)) (kk : GG p l e R s m args below meth c Q D A nL cells slots (pc + 1) lv (.int (x - y) :: rest) ws) : GG p l e R s m args below meth c Q D A nL cells slots pc lv (.int y :: .int x :: rest) ws :=
  fun H locs ls hP hD hS hl => lv_isub C.1 C.2.1 hd (kk H locs ls hP hD hS hl)
theorem g_imul (pc : Nat) (C : CX p s m args meth c cc Ts own nL D k A ret) {x y : Int32} (hd : decode cc pc = .ok (.imul, 1)) (kk : GG p l e R s m args below meth c Q D A nL cells slots (pc + 1) lv (.int (x * y) :: rest) ws) : GG p l e R s m args below meth c Q D A nL cells slots pc lv (.int y :: .int x :: rest) ws :=
  fun H locs ls hP hD hS hl => lv_imul C.1 C.2.1 hd (kk H locs ls hP hD hS hl)
theorem g_iand (pc : Nat) (C : CX p s m args meth c cc Ts own nL D k A ret) {x y : Int32} (hd : decode cc pc = .ok (.iand, 1)) (kk : GG p l e R s m args below meth c Q D A nL cells slots (pc + 1) lv (.int (x &&& y) :: rest) ws) : GG p l e R s m args below meth c Q D A nL cells slots pc lv (.int y :: .int x :: rest) ws :=
  fun H locs ls hP hD hS hl => lv_iand C.1 C.2.1 hd (kk H locs ls hP hD hS hl)
theorem g_ior (pc : Nat) (C : CX p s m args meth c cc Ts own nL D k A ret) {x y : Int32} (hd : decode cc pc = .ok (.ior, 1)) (kk : GG p l e R s m args below meth c Q D A nL cells slots (pc + 1) lv (.int (x ||| y) :: rest) ws) : GG p l e R s m args below meth c Q D A nL cells slots pc lv (.int y :: .int x :: rest) ws :=
  fun H locs ls hP hD hS hl => lv_ior C.1 C.2.1 hd (kk H locs ls hP hD hS hl)
theorem g_ixor (pc : Nat) (C : CX p s m args meth c cc Ts own nL D k A ret) {x y : Int32} (hd : decode cc pc = .ok (.ixor, 1)) (kk : GG p l e R s m args below meth c Q D A nL cells slots (pc + 1) lv (.int (x ^^^ y) :: rest) ws) : GG p l e R s m args below meth c Q D A nL cells slots pc lv (.int y :: .int x :: rest) ws :=
  fun H locs ls hP hD hS hl => lv_ixor C.1 C.2.1 hd (kk H locs ls hP hD hS hl)
theorem g_ishl (pc : Nat) (C : CX p s m args meth c cc Ts own nL D k A ret) {x y : Int32} (hd : decode cc pc = .ok (.ishl, 1)) (kk : GG p l e R s m args below meth c Q D A nL cells slots (pc + 1) lv (.int (x <<< (y &&& 31)) :: rest) ws) : GG p l e R s m args below meth c Q D A nL cells slots pc lv (.int y :: .int x :: rest) ws :=
  fun H locs ls hP hD hS hl => lv_ishl C.1 C.2.1 hd (kk H locs ls hP hD hS hl)
theorem g_ishr (pc : Nat) (C : CX p s m args meth c cc Ts own nL D k A ret) {x y : Int32} (hd : decode cc pc = .ok (.ishr, 1)) (kk : GG p l e R s m args below meth c Q D A nL cells slots (pc + 1) lv (.int (x >>> (y &&& 31)) :: rest) ws) : GG p l e R s m args below meth c Q D A nL cells slots pc lv (.int y :: .int x :: rest) ws :=
  fun H locs ls hP hD hS hl => lv_ishr C.1 C.2.1 hd (kk H locs ls hP hD hS hl)
theorem g_ladd (pc : Nat) (C : CX p s m args meth c cc Ts own nL D k A ret) {x y : Int64} (hd : decode cc pc = .ok (.ladd, 1)) (kk : GG p l e R s m args below meth c Q D A nL cells slots (pc + 1) lv (.long (x + y) :: rest) ws) : GG p l e R s m args below meth c Q D A nL cells slots pc lv (.long y :: .long x :: rest) ws :=
  fun H locs ls hP hD hS hl => lv_ladd C.1 C.2.1 hd (kk H locs ls hP hD hS hl)
theorem g_lsub (pc : Nat) (C : CX p s m args meth c cc Ts own nL D k A ret) {x y : Int64} (hd : decode cc pc = .ok (.lsub, 1)) (kk : GG p l e R s m args below meth c Q D A nL cells slots (pc + 1) lv (.long (x - y) :: rest) ws) : GG p l e R s m args below meth c Q D A nL cells slots pc lv (.long y :: .long x :: rest) ws :=
  fun H locs ls hP hD hS hl => lv_lsub C.1 C.2.1 hd (kk H locs ls hP hD hS hl)
theorem g_lmul (pc : Nat) (C : CX p s m args meth c cc Ts own nL D k A ret) {x y : Int64} (hd : decode cc pc = .ok (.lmul, 1)) (kk : GG p l e R s m args below meth c Q D A nL cells slots (pc + 1) lv (.long (x * y) :: rest) ws) : GG p l e R s m args below meth c Q D A nL cells slots pc lv (.long y :: .long x :: rest) ws :=
  fun H locs ls hP hD hS hl => lv_lmul C.1 C.2.1 hd (kk H locs ls hP hD hS hl)
theorem g_land (pc : Nat) (C : CX p s m args meth c cc Ts own nL D k A ret) {x y : Int64} (hd : decode cc pc = .ok (.land, 1)) (kk : GG p l e R s m args below meth c Q D A nL cells slots (pc + 1) lv (.long (x &&& y) :: rest) ws) : GG p l e R s m args below meth c Q D A nL cells slots pc lv (.long y :: .long x :: rest) ws :=
  fun H locs ls hP hD hS hl => lv_land C.1 C.2.1 hd (kk H locs ls hP hD hS hl)
theorem g_lor (pc : Nat) (C : CX p s m args meth c cc Ts own nL D k A ret) {x y : Int64} (hd : decode cc pc = .ok (.lor, 1)) (kk : GG p l e R s m args below meth c Q D A nL cells slots (pc + 1) lv (.long (x ||| y) :: rest) ws) : GG p l e R s m args below meth c Q D A nL cells slots pc lv (.long y :: .long x :: rest) ws :=
  fun H locs ls hP hD hS hl => lv_lor C.1 C.2.1 hd (kk H locs ls hP hD hS hl)
theorem g_lxor (pc : Nat) (C : CX p s m args meth c cc Ts own nL D k A ret) {x y : Int64} (hd : decode cc pc = .ok (.lxor, 1)) (kk : GG p l e R s m args below meth c Q D A nL cells slots (pc + 1) lv (.long (x ^^^ y) :: rest) ws) : GG p l e R s m args below meth c Q D A nL cells slots pc lv (.long y :: .long x :: rest) ws :=
  fun H locs ls hP hD hS hl => lv_lxor C.1 C.2.1 hd (kk H locs ls hP hD hS hl)
theorem g_idiv (pc : Nat) (C : CX p s m args meth c cc Ts own nL D k A ret) {x y : Int32} (hd : decode cc pc = .ok (.idiv, 1)) (hne : ¬ y = 0) (kk : GG p l e R s m args below meth c Q D A nL cells slots (pc + 1) lv (.int (x / y) :: rest) ws) : GG p l e R s m args below meth c Q D A nL cells slots pc lv (.int y :: .int x :: rest) ws :=
  fun H locs ls hP hD hS hl => lv_idiv C.1 C.2.1 hd hne (kk H locs ls hP hD hS hl)
theorem g_irem (pc : Nat) (C : CX p s m args meth c cc Ts own nL D k A ret) {x y : Int32} (hd : decode cc pc = .ok (.irem, 1)) (hne : ¬ y = 0) (kk : GG p l e R s m args below meth c Q D A nL cells slots (pc + 1) lv (.int (x - x / y * y) :: rest) ws) : GG p l e R s m args below meth c Q D A nL cells slots pc lv (.int y :: .int x :: rest) ws :=
  fun H locs ls hP hD hS hl => lv_irem C.1 C.2.1 hd hne (kk H locs ls hP hD hS hl)
theorem g_ldiv (pc : Nat) (C : CX p s m args meth c cc Ts own nL D k A ret) {x y : Int64} (hd : decode cc pc = .ok (.ldiv, 1)) (hne : ¬ y = 0) (kk : GG p l e R s m args below meth c Q D A nL cells slots (pc + 1) lv (.long (x / y) :: rest) ws) : GG p l e R s m args below meth c Q D A nL cells slots pc lv (.long y :: .long x :: rest) ws :=
  fun H locs ls hP hD hS hl => lv_ldiv C.1 C.2.1 hd hne (kk H locs ls hP hD hS hl)
theorem g_lrem (pc : Nat) (C : CX p s m args meth c cc Ts own nL D k A ret) {x y : Int64} (hd : decode cc pc = .ok (.lrem, 1)) (hne : ¬ y = 0) (kk : GG p l e R s m args below meth c Q D A nL cells slots (pc + 1) lv (.long (x - x / y * y) :: rest) ws) : GG p l e R s m args below meth c Q D A nL cells slots pc lv (.long y :: .long x :: rest) ws :=
  fun H locs ls hP hD hS hl => lv_lrem C.1 C.2.1 hd hne (kk H locs ls hP hD hS hl)
theorem g_i2l (pc : Nat) (C : CX p s m args meth c cc Ts own nL D k A ret) {x : Int32} (hd : decode cc pc = .ok (.i2l, 1)) (kk : GG p l e R s m args below meth c Q D A nL cells slots (pc + 1) lv (.long x.toInt64 :: rest) ws) : GG p l e R s m args below meth c Q D A nL cells slots pc lv (.int x :: rest) ws :=
  fun H locs ls hP hD hS hl => lv_i2l C.1 C.2.1 hd rfl (kk H locs ls hP hD hS hl)
theorem g_l2i (pc : Nat) (C : CX p s m args meth c cc Ts own nL D k A ret) {x : Int64} (hd : decode cc pc = .ok (.l2i, 1)) (kk : GG p l e R s m args below meth c Q D A nL cells slots (pc + 1) lv (.int x.toInt32 :: rest) ws) : GG p l e R s m args below meth c Q D A nL cells slots pc lv (.long x :: rest) ws :=
  fun H locs ls hP hD hS hl => lv_l2i C.1 C.2.1 hd rfl (kk H locs ls hP hD hS hl)
theorem g_i2b (pc : Nat) (C : CX p s m args meth c cc Ts own nL D k A ret) {x : Int32} (hd : decode cc pc = .ok (.i2b, 1)) (kk : GG p l e R s m args below meth c Q D A nL cells slots (pc + 1) lv (.int x.toInt8.toInt32 :: rest) ws) : GG p l e R s m args below meth c Q D A nL cells slots pc lv (.int x :: rest) ws :=
  fun H locs ls hP hD hS hl => lv_i2b C.1 C.2.1 hd rfl (kk H locs ls hP hD hS hl)
theorem g_i2c (pc : Nat) (C : CX p s m args meth c cc Ts own nL D k A ret) {x : Int32} (hd : decode cc pc = .ok (.i2c, 1)) (kk : GG p l e R s m args below meth c Q D A nL cells slots (pc + 1) lv (.int (x.toUInt32 % 65536).toInt32 :: rest) ws) : GG p l e R s m args below meth c Q D A nL cells slots pc lv (.int x :: rest) ws :=
  fun H locs ls hP hD hS hl => lv_i2c C.1 C.2.1 hd rfl (kk H locs ls hP hD hS hl)
theorem g_iushr (pc : Nat) (C : CX p s m args meth c cc Ts own nL D k A ret) {x y : Int32} (hd : decode cc pc = .ok (.iushr, 1)) (kk : GG p l e R s m args below meth c Q D A nL cells slots (pc + 1) lv (.int (x.toUInt32 >>> (y.toUInt32 &&& Int32.toUInt32 31)).toInt32 :: rest) ws) : GG p l e R s m args below meth c Q D A nL cells slots pc lv (.int y :: .int x :: rest) ws :=
  fun H locs ls hP hD hS hl => lv_iushr C.1 C.2.1 hd rfl (kk H locs ls hP hD hS hl)
theorem g_lushr (pc : Nat) (C : CX p s m args meth c cc Ts own nL D k A ret) {x : Int64} {y : Int32} (hd : decode cc pc = .ok (.lushr, 1)) (kk : GG p l e R s m args below meth c Q D A nL cells slots (pc + 1) lv (.long (x.toUInt64 >>> (y.toInt64.toUInt64 &&& Int64.toUInt64 63)).toInt64 :: rest) ws) : GG p l e R s m args below meth c Q D A nL cells slots pc lv (.int y :: .long x :: rest) ws :=
  fun H locs ls hP hD hS hl => lv_lushr C.1 C.2.1 hd rfl (kk H locs ls hP hD hS hl)
theorem g_lshl (pc : Nat) (C : CX p s m args meth c cc Ts own nL D k A ret) {x : Int64} {y : Int32} (hd : decode cc pc = .ok (.lshl, 1)) (kk : GG p l e R s m args below meth c Q D A nL cells slots (pc + 1) lv (.long (x <<< (y.toInt64 &&& 63)) :: rest) ws) : GG p l e R s m args below meth c Q D A nL cells slots pc lv (.int y :: .long x :: rest) ws :=
  fun H locs ls hP hD hS hl => lv_lshl C.1 C.2.1 hd rfl (kk H locs ls hP hD hS hl)
theorem g_lshr (pc : Nat) (C : CX p s m args meth c cc Ts own nL D k A ret) {x : Int64} {y : Int32} (hd : decode cc pc = .ok (.lshr, 1)) (kk : GG p l e R s m args below meth c Q D A nL cells slots (pc + 1) lv (.long (x >>> (y.toInt64 &&& 63)) :: rest) ws) : GG p l e R s m args below meth c Q D A nL cells slots pc lv (.int y :: .long x :: rest) ws :=
  fun H locs ls hP hD hS hl => lv_lshr C.1 C.2.1 hd rfl (kk H locs ls hP hD hS hl)
theorem g_lcmp (pc : Nat) (C : CX p s m args meth c cc Ts own nL D k A ret) {x y : Int64} (hd : decode cc pc = .ok (.lcmp, 1)) (kk : GG p l e R s m args below meth c Q D A nL cells slots (pc + 1) lv (.int (lg_cmp x y) :: rest) ws) : GG p l e R s m args below meth c Q D A nL cells slots pc lv (.long y :: .long x :: rest) ws :=
  fun H locs ls hP hD hS hl => W.lcmp C.1 C.2.1 hd (kk H locs ls hP hD hS hl)
theorem g_dup (pc : Nat) (C : CX p s m args meth c cc Ts own nL D k A ret) {a : Value} (hd : decode cc pc = .ok (.dup, 1)) (ha : a.category = 1) (kk : GG p l e R s m args below meth c Q D A nL cells slots (pc + 1) lv (a :: a :: rest) ws) : GG p l e R s m args below meth c Q D A nL cells slots pc lv (a :: rest) ws :=
  fun H locs ls hP hD hS hl => lv_dup C.1 C.2.1 hd ha (kk H locs ls hP hD hS hl)
theorem g_pop (pc : Nat) (C : CX p s m args meth c cc Ts own nL D k A ret) {a : Value} (hd : decode cc pc = .ok (.pop, 1)) (ha : a.category = 1) (kk : GG p l e R s m args below meth c Q D A nL cells slots (pc + 1) lv (rest) ws) : GG p l e R s m args below meth c Q D A nL cells slots pc lv (a :: rest) ws :=
  fun H locs ls hP hD hS hl => lv_pop C.1 C.2.1 hd ha (kk H locs ls hP hD hS hl)
theorem g_dup_x1 (pc : Nat) (C : CX p s m args meth c cc Ts own nL D k A ret) {a b : Value} (hd : decode cc pc = .ok (.dup_x1, 1)) (ha : a.category = 1) (hb : b.category = 1) (kk : GG p l e R s m args below meth c Q D A nL cells slots (pc + 1) lv (a :: b :: a :: rest) ws) : GG p l e R s m args below meth c Q D A nL cells slots pc lv (a :: b :: rest) ws :=
  fun H locs ls hP hD hS hl => lv_dup_x1 C.1 C.2.1 hd ha hb (kk H locs ls hP hD hS hl)
theorem g_dup_x2 (pc : Nat) (C : CX p s m args meth c cc Ts own nL D k A ret) {a b d : Value} (hd : decode cc pc = .ok (.dup_x2, 1)) (ha : a.category = 1) (hb : b.category = 1) (hdd : d.category = 1) (kk : GG p l e R s m args below meth c Q D A nL cells slots (pc + 1) lv (a :: b :: d :: a :: rest) ws) : GG p l e R s m args below meth c Q D A nL cells slots pc lv (a :: b :: d :: rest) ws :=
  fun H locs ls hP hD hS hl => lv_dup_x2 C.1 C.2.1 hd ha hb hdd (kk H locs ls hP hD hS hl)
theorem g_dup2 (pc : Nat) (C : CX p s m args meth c cc Ts own nL D k A ret) {a b : Value} (hd : decode cc pc = .ok (.dup2, 1)) (ha : a.category = 1) (hb : b.category = 1) (kk : GG p l e R s m args below meth c Q D A nL cells slots (pc + 1) lv (a :: b :: a :: b :: rest) ws) : GG p l e R s m args below meth c Q D A nL cells slots pc lv (a :: b :: rest) ws :=
  fun H locs ls hP hD hS hl => lv_dup2_11 C.1 C.2.1 hd ha hb (kk H locs ls hP hD hS hl)
theorem g_if_eq (pc tgt : Nat) (C : CX p s m args meth c cc Ts own nL D k A ret) {x : Int32} {off : Int} (hd : decode cc pc = .ok (.ifCond .eq off, 3)) (ht : (pc : Int) + off = (tgt : Int)) (kt : x = 0 → GG p l e R s m args below meth c Q D A nL cells slots tgt lv rest ws) (kf : ¬ (x = 0) → GG p l e R s m args below meth c Q D A nL cells slots (pc + 3) lv rest ws) : GG p l e R s m args below meth c Q D A nL cells slots pc lv (.int x :: rest) ws :=
  fun H locs ls hP hD hS hl => lv_if_eq C.1 C.2.1 hd ht (fun h => kt h H locs ls hP hD hS hl) (fun h => kf h H locs ls hP hD hS hl)
theorem g_if_ne (pc tgt : Nat) (C : CX p s m args meth c cc Ts own nL D k A ret) {x : Int32} {off : Int} (hd : decode cc pc = .ok (.ifCond .ne off, 3)) (ht : (pc : Int) + off = (tgt : Int)) (kt : ¬ x = 0 → GG p l e R s m args below meth c Q D A nL cells slots tgt lv rest ws) (kf : x = 0 → GG p l e R s m args below meth c Q D A nL cells slots (pc + 3) lv rest ws) : GG p l e R s m args below meth c Q D A nL cells slots pc lv (.int x :: rest) ws :=
  fun H locs ls hP hD hS hl => lv_if_ne C.1 C.2.1 hd ht (fun h => kt h H locs ls hP hD hS hl) (fun h => kf h H locs ls hP hD hS hl)
theorem g_if_lt (pc tgt : Nat) (C : CX p s m args meth c cc Ts own nL D k A ret) {x : Int32} {off : Int} (hd : decode cc pc = .ok (.ifCond .lt off, 3)) (ht : (pc : Int) + off = (tgt : Int)) (kt : x < 0 → GG p l e R s m args below meth c Q D A nL cells slots tgt lv rest ws) (kf : ¬ (x < 0) → GG p l e R s m args below meth c Q D A nL cells slots (pc + 3) lv rest ws) : GG p l e R s m args below meth c Q D A nL cells slots pc lv (.int x :: rest) ws :=
  fun H locs ls hP hD hS hl => lv_if_lt C.1 C.2.1 hd ht (fun h => kt h H locs ls hP hD hS hl) (fun h => kf h H locs ls hP hD hS hl)
theorem g_if_ge (pc tgt : Nat) (C : CX p s m args meth c cc Ts own nL D k A ret) {x : Int32} {off : Int} (hd : decode cc pc = .ok (.ifCond .ge off, 3)) (ht : (pc : Int) + off = (tgt : Int)) (kt : 0 ≤ x → GG p l e R s m args below meth c Q D A nL cells slots tgt lv rest ws) (kf : ¬ (0 ≤ x) → GG p l e R s m args below meth c Q D A nL cells slots (pc + 3) lv rest ws) : GG p l e R s m args below meth c Q D A nL cells slots pc lv (.int x :: rest) ws :=
  fun H locs ls hP hD hS hl => lv_if_ge C.1 C.2.1 hd ht (fun h => kt h H locs ls hP hD hS hl) (fun h => kf h H locs ls hP hD hS hl)
theorem g_if_gt (pc tgt : Nat) (C : CX p s m args meth c cc Ts own nL D k A ret) {x : Int32} {off : Int} (hd : decode cc pc = .ok (.ifCond .gt off, 3)) (ht : (pc : Int) + off = (tgt : Int)) (kt : 0 < x → GG p l e R s m args below meth c Q D A nL cells slots tgt lv rest ws) (kf : ¬ (0 < x) → GG p l e R s m args below meth c Q D A nL cells slots (pc + 3) lv rest ws) : GG p l e R s m args below meth c Q D A nL cells slots pc lv (.int x :: rest) ws :=
  fun H locs ls hP hD hS hl => lv_if_gt C.1 C.2.1 hd ht (fun h => kt h H locs ls hP hD hS hl) (fun h => kf h H locs ls hP hD hS hl)
theorem g_if_le (pc tgt : Nat) (C : CX p s m args meth c cc Ts own nL D k A ret) {x : Int32} {off : Int} (hd : decode cc pc = .ok (.ifCond .le off, 3)) (ht : (pc : Int) + off = (tgt : Int)) (kt : x ≤ 0 → GG p l e R s m args below meth c Q D A nL cells slots tgt lv rest ws) (kf : ¬ (x ≤ 0) → GG p l e R s m args below meth c Q D A nL cells slots (pc + 3) lv rest ws) : GG p l e R s m args below meth c Q D A nL cells slots pc lv (.int x :: rest) ws :=
  fun H locs ls hP hD hS hl => lv_if_le C.1 C.2.1 hd ht (fun h => kt h H locs ls hP hD hS hl) (fun h => kf h H locs ls hP hD hS hl)
theorem g_icmp_eq (pc tgt : Nat) (C : CX p s m args meth c cc Ts own nL D k A ret) {x y : Int32} {off : Int} (hd : decode cc pc = .ok (.if_icmp .eq off, 3)) (ht : (pc : Int) + off = (tgt : Int)) (kt : x = y → GG p l e R s m args below meth c Q D A nL cells slots tgt lv rest ws) (kf : ¬ (x = y) → GG p l e R s m args below meth c Q D A nL cells slots (pc + 3) lv rest ws) : GG p l e R s m args below meth c Q D A nL cells slots pc lv (.int y :: .int x :: rest) ws :=
  fun H locs ls hP hD hS hl => lv_icmp_eq C.1 C.2.1 hd ht (fun h => kt h H locs ls hP hD hS hl) (fun h => kf h H locs ls hP hD hS hl)
theorem g_icmp_ne (pc tgt : Nat) (C : CX p s m args meth c cc Ts own nL D k A ret) {x y : Int32} {off : Int} (hd : decode cc pc = .ok (.if_icmp .ne off, 3)) (ht : (pc : Int) + off = (tgt : Int)) (kt : ¬ x = y → GG p l e R s m args below meth c Q D A nL cells slots tgt lv rest ws) (kf : x = y → GG p l e R s m args below meth c Q D A nL cells slots (pc + 3) lv rest ws) : GG p l e R s m args below meth c Q D A nL cells slots pc lv (.int y :: .int x :: rest) ws :=
  fun H locs ls hP hD hS hl => lv_icmp_ne C.1 C.2.1 hd ht (fun h => kt h H locs ls hP hD hS hl) (fun h => kf h H locs ls hP hD hS hl)
theorem g_icmp_lt (pc tgt : Nat) (C : CX p s m args meth c cc Ts own nL D k A ret) {x y : Int32} {off : Int} (hd : decode cc pc = .ok (.if_icmp .lt off, 3)) (ht : (pc : Int) + off = (tgt : Int)) (kt : x < y → GG p l e R s m args below meth c Q D A nL cells slots tgt lv rest ws) (kf : ¬ (x < y) → GG p l e R s m args below meth c Q D A nL cells slots (pc + 3) lv rest ws) : GG p l e R s m args below meth c Q D A nL cells slots pc lv (.int y :: .int x :: rest) ws :=
  fun H locs ls hP hD hS hl => lv_icmp_lt C.1 C.2.1 hd ht (fun h => kt h H locs ls hP hD hS hl) (fun h => kf h H locs ls hP hD hS hl)
theorem g_icmp_ge (pc tgt : Nat) (C : CX p s m args meth c cc Ts own nL D k A ret) {x y : Int32} {off : Int} (hd : decode cc pc = .ok (.if_icmp .ge off, 3)) (ht : (pc : Int) + off = (tgt : Int)) (kt : y ≤ x → GG p l e R s m args below meth c Q D A nL cells slots tgt lv rest ws) (kf : ¬ (y ≤ x) → GG p l e R s m args below meth c Q D A nL cells slots (pc + 3) lv rest ws) : GG p l e R s m args below meth c Q D A nL cells slots pc lv (.int y :: .int x :: rest) ws :=
  fun H locs ls hP hD hS hl => lv_icmp_ge C.1 C.2.1 hd ht (fun h => kt h H locs ls hP hD hS hl) (fun h => kf h H locs ls hP hD hS hl)
theorem g_icmp_gt (pc tgt : Nat) (C : CX p s m args meth c cc Ts own nL D k A ret) {x y : Int32} {off : Int} (hd : decode cc pc = .ok (.if_icmp .gt off, 3)) (ht : (pc : Int) + off = (tgt : Int)) (kt : y < x → GG p l e R s m args below meth c Q D A nL cells slots tgt lv rest ws) (kf : ¬ (y < x) → GG p l e R s m args below meth c Q D A nL cells slots (pc + 3) lv rest ws) : GG p l e R s m args below meth c Q D A nL cells slots pc lv (.int y :: .int x :: rest) ws :=
  fun H locs ls hP hD hS hl => lv_icmp_gt C.1 C.2.1 hd ht (fun h => kt h H locs ls hP hD hS hl) (fun h => kf h H locs ls hP hD hS hl)
theorem g_icmp_le (pc tgt : Nat) (C : CX p s m args meth c cc Ts own nL D k A ret) {x y : Int32} {off : Int} (hd : decode cc pc = .ok (.if_icmp .le off, 3)) (ht : (pc : Int) + off = (tgt : Int)) (kt : x ≤ y → GG p l e R s m args below meth c Q D A nL cells slots tgt lv rest ws) (kf : ¬ (x ≤ y) → GG p l e R s m args below meth c Q D A nL cells slots (pc + 3) lv rest ws) : GG p l e R s m args below meth c Q D A nL cells slots pc lv (.int y :: .int x :: rest) ws :=
  fun H locs ls hP hD hS hl => lv_icmp_le C.1 C.2.1 hd ht (fun h => kt h H locs ls hP hD hS hl) (fun h => kf h H locs ls hP hD hS hl)
theorem g_goto (pc tgt : Nat) (C : CX p s m args meth c cc Ts own nL D k A ret) {off : Int} (hd : decode cc pc = .ok (.goto off, 3)) (ht : (pc : Int) + off = (tgt : Int)) (kk : GG p l e R s m args below meth c Q D A nL cells slots tgt lv rest ws) : GG p l e R s m args below meth c Q D A nL cells slots pc lv rest ws :=
  fun H locs ls hP hD hS hl => lv_goto C.1 C.2.1 hd ht (kk H locs ls hP hD hS hl)
theorem g_tableOut (pc tgt : Nat) (C : CX p s m args meth c cc Ts own nL D k A ret) {dflt lo hi : Int} {offs : Array Int} {len : Nat} {x : Int32} (hd : decode cc pc = .ok (.tableswitch dflt lo hi offs, len)) (h : x.toInt < lo ∨ hi < x.toInt) (ht : (pc : Int) + dflt = (tgt : Int)) (kk : GG p l e R s m args below meth c Q D A nL cells slots tgt lv rest ws) : GG p l e R s m args below meth c Q D A nL cells slots pc lv (.int x :: rest) ws :=
  fun H locs ls hP hD hS hl => lv_tableOut C.1 C.2.1 hd h ht (kk H locs ls hP hD hS hl)
theorem g_tableIn (pc tgt : Nat) (C : CX p s m args meth c cc Ts own nL D k A ret) {dflt lo hi : Int} {offs : Array Int} {len : Nat} {x : Int32} {off : Int} (hd : decode cc pc = .ok (.tableswitch dflt lo hi offs, len)) (h1 : ¬ x.toInt < lo) (h2 : ¬ hi < x.toInt) (ho : offs[(x.toInt - lo).toNat]? = some off) (ht : (pc : Int) + off = (tgt : Int)) (kk : GG p l e R s m args below meth c Q D A nL cells slots tgt lv rest ws) : GG p l e R s m args below meth c Q D A nL cells slots pc lv (.int x :: rest) ws :=
  fun H locs ls hP hD hS hl => lv_tableIn C.1 C.2.1 hd h1 h2 ho ht (kk H locs ls hP hD hS hl)
theorem g_get (pc : Nat) (C : CX p s m args meth c cc Ts own nL D k A ret) {ref Cn : String} {T : u_T} {N ci index a : Nat} {fs : List Value} {v : Value} (hin : ∀ w ∈ u_ws Cn T N, w ∈ Ts) (q0 j : Nat) (he : ws[q0]? = some (a, .inr (ci, fs))) (hc : vwCl[ci]? = some (Cn, T, N)) (hk : j < N) (hlink : Cond.fieldLink own index ref (T j).2.1 (T j).2.2.1 ∈ Ts) (hsame : (T j).1 = ref) (hv : fs[j]? = some v) (hd : decode cc pc = .ok (.getfield index, 3)) (kk : GG p l e R s m args below meth c Q D A nL cells slots (pc + 3) lv (v :: rest) ws) : GG p l e R s m args below meth c Q D A nL cells slots pc lv (.ref a :: rest) ws :=
  fun H locs ls hP hD hS hl => va_get C.1 C.2.1 C.2.2.1 hin C.2.2.2.1 C.2.2.2.2.1 hP q0 he hc j hk (C.2.2.1 _ hlink) (fun x h => by rw [← hsame]; exact h) hv hd (kk H locs ls hP hD hS hl)
theorem g_put (pc : Nat) (C : CX p s m args meth c cc Ts own nL D k A ret) {ref Cn : String} {T : u_T} {N ci index a : Nat} {fs : List Value} {v : Value} {ty : FieldType} (ws' : va_W) (hin : ∀ w ∈ u_ws Cn T N, w ∈ Ts) (ty0 : Nat → FieldType) (hty : ∀ k, k < N → parseFieldDescriptor (T k).2.2.1 = some (ty0 k)) (hnm : ∀ a, a < N → ∀ b, b < N → a ≠ b → (T a).2.1 ≠ (T b).2.1) (q0 j : Nat) (he : ws[q0]? = some (a, .inr (ci, fs))) (hc : vwCl[ci]? = some (Cn, T, N)) (hk : j < N) (hlink : Cond.fieldLink own index ref (T j).2.1 (T j).2.2.1 ∈ Ts) (hsame : (T j).1 = ref) (hfin : (T j).2.2.2 = false) (hdt : parseFieldDescriptor (T j).2.2.1 = some ty) (hn : narrow ty v = v) (hfit : fits ty v = true) (hlen : j < fs.length) (hw : ws.set q0 (a, .inr (ci, fs.set j v)) = ws') (hd : decode cc pc = .ok (.putfield index, 3)) (kk : GG p l e R s m args below meth c Q D A nL cells slots (pc + 3) lv rest ws') : GG p l e R s m args below meth c Q D A nL cells slots pc lv (v :: .ref a :: rest) ws :=
  fun H locs ls hP hD hS hl => va_put C.1 C.2.1 C.2.2.1 hin ty0 hty hnm C.2.2.2.1 C.2.2.2.2.1 hP hD hS q0 he hc j hk (C.2.2.1 _ hlink) (fun x h => by rw [← hsame]; exact h) hfin hdt hn hfit hlen hd (fun H1 locs1 hP1 hD1 hS1 => kk H1 locs1 ls (hw ▸ hP1) (hw ▸ hD1) hS1 hl)
theorem g_iald (pc : Nat) (C : CX p s m args meth c cc Ts own nL D k A ret) {a n : Nat} {f : Nat → Int32} {i : Int32} (q0 : Nat) (ha : ws[q0]? = some (a, .inl (k 0, n, .inl f))) (hin : inb i n = true) (hd : decode cc pc = .ok (.iaload, 1)) (kk : GG p l e R s m args below meth c Q D A nL cells slots (pc + 1) lv (.int (f i.toNatClampNeg) :: rest) ws) : GG p l e R s m args below meth c Q D A nL cells slots pc lv (.int i :: .ref a :: rest) ws :=
  fun H locs ls hP hD hS hl => va_iald C.1 C.2.1 C.2.2.2.2.1 hP q0 0 ha rfl (inb_in hin) hd (kk H locs ls hP hD hS hl)
theorem g_lald (pc : Nat) (C : CX p s m args meth c cc Ts own nL D k A ret) {a n : Nat} {f : Nat → Int64} {i : Int32} (q0 : Nat) (ha : ws[q0]? = some (a, .inl (k 1, n, .inr (.inl f)))) (hin : inb i n = true) (hd : decode cc pc = .ok (.laload, 1)) (kk : GG p l e R s m args below meth c Q D A nL cells slots (pc + 1) lv (.long (f i.toNatClampNeg) :: rest) ws) : GG p l e R s m args below meth c Q D A nL cells slots pc lv (.int i :: .ref a :: rest) ws :=
  fun H locs ls hP hD hS hl => va_lald C.1 C.2.1 C.2.2.2.2.1 hP q0 1 ha rfl (inb_in hin) hd (kk H locs ls hP hD hS hl)
theorem g_bald (pc : Nat) (C : CX p s m args meth c cc Ts own nL D k A ret) {a n : Nat} {f : Nat → Int32} {i : Int32} (q0 : Nat) (ha : ws[q0]? = some (a, .inl (k 2, n, .inl f))) (hin : inb i n = true) (hd : decode cc pc = .ok (.baload, 1)) (kk : GG p l e R s m args below meth c Q D A nL cells slots (pc + 1) lv (.int (f i.toNatClampNeg) :: rest) ws) : GG p l e R s m args below meth c Q D A nL cells slots pc lv (.int i :: .ref a :: rest) ws :=
  fun H locs ls hP hD hS hl => va_bald C.1 C.2.1 C.2.2.2.2.1 hP q0 2 ha rfl (inb_in hin) hd (kk H locs ls hP hD hS hl)
theorem g_zald (pc : Nat) (C : CX p s m args meth c cc Ts own nL D k A ret) {a n : Nat} {f : Nat → Int32} {i : Int32} (q0 : Nat) (ha : ws[q0]? = some (a, .inl (k 3, n, .inl f))) (hin : inb i n = true) (hd : decode cc pc = .ok (.baload, 1)) (kk : GG p l e R s m args below meth c Q D A nL cells slots (pc + 1) lv (.int (f i.toNatClampNeg) :: rest) ws) : GG p l e R s m args below meth c Q D A nL cells slots pc lv (.int i :: .ref a :: rest) ws :=
  fun H locs ls hP hD hS hl => va_zald C.1 C.2.1 C.2.2.2.2.1 hP q0 3 ha rfl (inb_in hin) hd (kk H locs ls hP hD hS hl)
theorem g_iast (pc : Nat) (C : CX p s m args meth c cc Ts own nL D k A ret) {a n : Nat} {f : Nat → Int32} {i : Int32} {x : Int32} (ws' : va_W) (q0 : Nat) (ha : ws[q0]? = some (a, .inl (k 0, n, .inl f))) (hin : inb i n = true) (hw : ws.set q0 (a, .inl (k 0, n, .inl (upd f i.toNatClampNeg x))) = ws') (hd : decode cc pc = .ok (.iastore, 1)) (kk : GG p l e R s m args below meth c Q D A nL cells slots (pc + 1) lv rest ws') : GG p l e R s m args below meth c Q D A nL cells slots pc lv (.int x :: .int i :: .ref a :: rest) ws :=
  fun H locs ls hP hD hS hl => va_iast C.1 C.2.1 C.2.2.2.2.1 hP hD hS q0 0 ha rfl (inb_in hin) hd (fun H1 locs1 hP1 hD1 hS1 => kk H1 locs1 ls (hw ▸ hP1) (hw ▸ hD1) hS1 hl)
theorem g_last (pc : Nat) (C : CX p s m args meth c cc Ts own nL D k A ret) {a n : Nat} {f : Nat → Int64} {i : Int32} {x : Int64} (ws' : va_W) (q0 : Nat) (ha : ws[q0]? = some (a, .inl (k 1, n, .inr (.inl f)))) (hin : inb i n = true) (hw : ws.set q0 (a, .inl (k 1, n, .inr (.inl (vp_updL f i.toNatClampNeg x)))) = ws') (hd : decode cc pc = .ok (.lastore, 1)) (kk : GG p l e R s m args below meth c Q D A nL cells slots (pc + 1) lv rest ws') : GG p l e R s m args below meth c Q D A nL cells slots pc lv (.long x :: .int i :: .ref a :: rest) ws :=
  fun H locs ls hP hD hS hl => va_last C.1 C.2.1 C.2.2.2.2.1 hP hD hS q0 1 ha rfl (inb_in hin) hd (fun H1 locs1 hP1 hD1 hS1 => kk H1 locs1 ls (hw ▸ hP1) (hw ▸ hD1) hS1 hl)
theorem g_bast (pc : Nat) (C : CX p s m args meth c cc Ts own nL D k A ret) {a n : Nat} {f : Nat → Int32} {i : Int32} {x : Int32} (ws' : va_W) (q0 : Nat) (ha : ws[q0]? = some (a, .inl (k 2, n, .inl f))) (hin : inb i n = true) (hw : ws.set q0 (a, .inl (k 2, n, .inl (upd f i.toNatClampNeg (vp_nar .byte x)))) = ws') (hd : decode cc pc = .ok (.bastore, 1)) (kk : GG p l e R s m args below meth c Q D A nL cells slots (pc + 1) lv rest ws') : GG p l e R s m args below meth c Q D A nL cells slots pc lv (.int x :: .int i :: .ref a :: rest) ws :=
  fun H locs ls hP hD hS hl => va_bast C.1 C.2.1 C.2.2.2.2.1 hP hD hS q0 2 ha rfl (inb_in hin) hd (fun H1 locs1 hP1 hD1 hS1 => kk H1 locs1 ls (hw ▸ hP1) (hw ▸ hD1) hS1 hl)
theorem g_zast (pc : Nat) (C : CX p s m args meth c cc Ts own nL D k A ret) {a n : Nat} {f : Nat → Int32} {i : Int32} {x : Int32} (ws' : va_W) (q0 : Nat) (ha : ws[q0]? = some (a, .inl (k 3, n, .inl f))) (hin : inb i n = true) (hw : ws.set q0 (a, .inl (k 3, n, .inl (upd f i.toNatClampNeg (vp_nar .boolean x)))) = ws') (hd : decode cc pc = .ok (.bastore, 1)) (kk : GG p l e R s m args below meth c Q D A nL cells slots (pc + 1) lv rest ws') : GG p l e R s m args below meth c Q D A nL cells slots pc lv (.int x :: .int i :: .ref a :: rest) ws :=
  fun H locs ls hP hD hS hl => va_zast C.1 C.2.1 C.2.2.2.2.1 hP hD hS q0 3 ha rfl (inb_in hin) hd (fun H1 locs1 hP1 hD1 hS1 => kk H1 locs1 ls (hw ▸ hP1) (hw ▸ hD1) hS1 hl)
theorem g_alen (pc : Nat) (C : CX p s m args meth c cc Ts own nL D k A ret) {a : Nat} {x : vp_A} {cA : ClassId} {ty : FieldType} (q0 t0 : Nat) (v : Int32) (ha : ws[q0]? = some (a, .inl (cA, x))) (ht : (TY k)[t0]? = some (cA, ty)) (hv : Int32.ofNat x.1 = v) (hd : decode cc pc = .ok (.arraylength, 1)) (kk : GG p l e R s m args below meth c Q D A nL cells slots (pc + 1) lv (.int v :: rest) ws) : GG p l e R s m args below meth c Q D A nL cells slots pc lv (.ref a :: rest) ws :=
  fun H locs ls hP hD hS hl => va_alen C.1 C.2.1 C.2.2.2.2.1 hP q0 t0 ha ht hv hd (kk H locs ls hP hD hS hl)
theorem g_copyI (pc : Nat) (C : CX p s m args meth c cc Ts own nL D k A ret) {a0 a n0 n1 index : Nat} {f g : Nat → Int32} {sp dp n : Int32} (ws' : va_W) (q0 q1 : Nat) (h1 : Cond.methodLink own index arraycopyName ∈ Ts) (h2 : Cond.native arraycopyName ∈ Ts) (h3 : Cond.static arraycopyName ∈ Ts) (h4 : Cond.initialized "java/lang/System" ∈ Ts) (ha0 : ws[q0]? = some (a0, .inl (k 0, n0, .inl f))) (ha1 : ws[q1]? = some (a, .inl (k 0, n1, .inl g))) (ho : cpb sp dp n n0 n1 = true) (hfr : 1 ≤ R.frames) (hlo : (rest.map fun v => v.category).sum + (nativeFrameWords "java/lang/System" "arraycopy" 5 + 11) ≤ R.locals) (hw : ws.set q1 (a, .inl (k 0, n1, .inl (va_cpy f g sp.toNatClampNeg dp.toNatClampNeg n.toNatClampNeg))) = ws') (hd : decode cc pc = .ok (.invokestatic index, 3)) (kk : GG p l e R s m args below meth c Q D A nL cells slots (pc + 3) lv rest ws') : GG p l e R s m args below meth c Q D A nL cells slots pc lv (.int n :: .int dp :: .ref a :: .int sp :: .ref a0 :: rest) ws :=
  fun H locs ls hP hD hS hl => va_copyi C.1 C.2.1 (C.2.2.2.2.2.1.trans hl.1.symm) C.2.2.2.1 (C.2.2.1 _ h1) (C.2.2.1 _ h2) (C.2.2.1 _ h3) (C.2.2.1 _ h4) C.2.2.2.2.1 hP hD hS q0 q1 0 0 ha0 ha1 rfl rfl rfl (cpb_e ho).1 (cpb_e ho).2.1 (cpb_e ho).2.2.1 (cpb_e ho).2.2.2.1 (cpb_e ho).2.2.2.2 (fun _ _ => rfl) hfr hlo hd (fun H1 locs1 hP1 hD1 hS1 => kk H1 locs1 ls (hw ▸ hP1) (hw ▸ hD1) hS1 hl)
theorem g_copyJ (pc : Nat) (C : CX p s m args meth c cc Ts own nL D k A ret) {a0 a n0 n1 index : Nat} {f g : Nat → Int64} {sp dp n : Int32} (ws' : va_W) (q0 q1 : Nat) (h1 : Cond.methodLink own index arraycopyName ∈ Ts) (h2 : Cond.native arraycopyName ∈ Ts) (h3 : Cond.static arraycopyName ∈ Ts) (h4 : Cond.initialized "java/lang/System" ∈ Ts) (ha0 : ws[q0]? = some (a0, .inl (k 1, n0, .inr (.inl f)))) (ha1 : ws[q1]? = some (a, .inl (k 1, n1, .inr (.inl g)))) (ho : cpb sp dp n n0 n1 = true) (hfr : 1 ≤ R.frames) (hlo : (rest.map fun v => v.category).sum + (nativeFrameWords "java/lang/System" "arraycopy" 5 + 11) ≤ R.locals) (hw : ws.set q1 (a, .inl (k 1, n1, .inr (.inl (va_cpy f g sp.toNatClampNeg dp.toNatClampNeg n.toNatClampNeg)))) = ws') (hd : decode cc pc = .ok (.invokestatic index, 3)) (kk : GG p l e R s m args below meth c Q D A nL cells slots (pc + 3) lv rest ws') : GG p l e R s m args below meth c Q D A nL cells slots pc lv (.int n :: .int dp :: .ref a :: .int sp :: .ref a0 :: rest) ws :=
  fun H locs ls hP hD hS hl => va_copyl C.1 C.2.1 (C.2.2.2.2.2.1.trans hl.1.symm) C.2.2.2.1 (C.2.2.1 _ h1) (C.2.2.1 _ h2) (C.2.2.1 _ h3) (C.2.2.1 _ h4) C.2.2.2.2.1 hP hD hS q0 q1 1 1 ha0 ha1 rfl rfl rfl (cpb_e ho).1 (cpb_e ho).2.1 (cpb_e ho).2.2.1 (cpb_e ho).2.2.2.1 (cpb_e ho).2.2.2.2 (fun _ _ => rfl) hfr hlo hd (fun H1 locs1 hP1 hD1 hS1 => kk H1 locs1 ls (hw ▸ hP1) (hw ▸ hD1) hS1 hl)
theorem g_aaldS (pc : Nat) (C : CX p s m args meth c cc Ts own nL D k A ret) {a n : Nat} {g : Nat → Nat} {i : Int32} (q0 : Nat) (ha : ws[q0]? = some (a, .inl (k 4, n, .inr (.inr (.inr (.inr (fun i => if i < n then some (g i) else none))))))) (hin : inb i n = true) (hd : decode cc pc = .ok (.aaload, 1)) (kk : GG p l e R s m args below meth c Q D A nL cells slots (pc + 1) lv (.ref (g i.toNatClampNeg) :: rest) ws) : GG p l e R s m args below meth c Q D A nL cells slots pc lv (.int i :: .ref a :: rest) ws := by
  intro H locs ls hP hD hS hl
  have hlt : i.toNatClampNeg < n := inb_lt hin
  refine W.aald (v := .ref (g i.toNatClampNeg)) (ty := .object "LinkDays$Sheet") C.1 C.2.1 (hP q0 _ ha) ((C.2.2.2.2.1.2 4 _ rfl).1 n (fun j => va_rf (if j < n then some (g j) else none))) rfl (fun q => by cases q) (by show ¬ (i < 0 ∨ (arrV _ _ _).slots.size ≤ _); rw [arrV_size]; exact inb_in hin) ?_ rfl rfl hd (kk H locs ls hP hD hS hl)
  show (arrV _ _ _).slots[_]? = _
  rw [arrV_read _ _ hlt]
  show some (va_rf (if i.toNatClampNeg < n then some (g i.toNatClampNeg) else none)) = _
  rw [if_pos hlt]
  rfl
theorem g_aaldA (pc : Nat) (C : CX p s m args meth c cc Ts own nL D k A ret) {a n : Nat} {g : Nat → Nat} {i : Int32} (q0 : Nat) (ha : ws[q0]? = some (a, .inl (k 5, n, .inr (.inr (.inr (.inr (fun i => if i < n then some (g i) else none))))))) (hin : inb i n = true) (hd : decode cc pc = .ok (.aaload, 1)) (kk : GG p l e R s m args below meth c Q D A nL cells slots (pc + 1) lv (.ref (g i.toNatClampNeg) :: rest) ws) : GG p l e R s m args below meth c Q D A nL cells slots pc lv (.int i :: .ref a :: rest) ws := by
  intro H locs ls hP hD hS hl
  have hlt : i.toNatClampNeg < n := inb_lt hin
  refine W.aald (v := .ref (g i.toNatClampNeg)) (ty := .array .int) C.1 C.2.1 (hP q0 _ ha) ((C.2.2.2.2.1.2 5 _ rfl).1 n (fun j => va_rf (if j < n then some (g j) else none))) rfl (fun q => by cases q) (by show ¬ (i < 0 ∨ (arrV _ _ _).slots.size ≤ _); rw [arrV_size]; exact inb_in hin) ?_ rfl rfl hd (kk H locs ls hP hD hS hl)
  show (arrV _ _ _).slots[_]? = _
  rw [arrV_read _ _ hlt]
  show some (va_rf (if i.toNatClampNeg < n then some (g i.toNatClampNeg) else none)) = _
  rw [if_pos hlt]
  rfl
theorem g_digits (pc : Nat) (C : CX p s m args meth c cc Ts own nL D k A ret) {index : Nat} (hlink : Cond.fieldLink own index "LinkDays$Delay" "DIGITS" "[J" ∈ Ts) (hd : decode cc pc = .ok (.getstatic index, 3)) (kk : GG p l e R s m args below meth c Q D A nL cells slots (pc + 3) lv (.ref (k 8) :: rest) ws) : GG p l e R s m args below meth c Q D A nL cells slots pc lv rest ws :=
  fun H locs ls hP hD hS hl => va_gets C.1 C.2.1 C.2.2.2.2.2.2.2.2.2.2.2.1 hS C.2.2.2.1 (C.2.2.1 _ hlink) (fun x h => h) hd (kk H locs ls hP hD hS hl)
theorem g_tlald (pc : Nat) (C : CX p s m args meth c cc Ts own nL D k A ret) {i : Int32} (hin : inb i 5 = true) (hd : decode cc pc = .ok (.laload, 1)) (kk : GG p l e R s m args below meth c Q D A nL cells slots (pc + 1) lv (.long (dig i.toNatClampNeg) :: rest) ws) : GG p l e R s m args below meth c Q D A nL cells slots pc lv (.int i :: .ref (k 8) :: rest) ws :=
  fun H locs ls hP hD hS hl => va_tl C.1 C.2.1 C.2.2.2.2.2.2.2.2.2.2.2.2.1 hS (inb_in hin) rfl hd (kk H locs ls hP hD hS hl)
theorem g_compact (pc : Nat) (C : CX p s m args meth c cc Ts own nL D k A ret) {index : Nat} (hlink : Cond.fieldLink own index "java/lang/String" "COMPACT_STRINGS" "Z" ∈ Ts) (hd : decode cc pc = .ok (.getstatic index, 3)) (kk : GG p l e R s m args below meth c Q D A nL cells slots (pc + 3) lv (.int 1 :: rest) ws) : GG p l e R s m args below meth c Q D A nL cells slots pc lv rest ws :=
  fun H locs ls hP hD hS hl => va_gets C.1 C.2.1 C.2.2.2.2.2.2.2.2.2.2.2.2.2.2.2.1 hS C.2.2.2.1 (C.2.2.1 _ hlink) (fun x h => h) hd (kk H locs ls hP hD hS hl)
theorem g_orpbS (pc : Nat) (C : CX p s m args meth c cc Ts "LinkDays$Tape" nL D k A ret) (hd : decode cc pc = .ok (.ldc 36, 2)) (kk : GG p l e R s m args below meth c Q D A nL cells slots (pc + 2) lv (.ref (k 6) :: rest) ws) : GG p l e R s m args below meth c Q D A nL cells slots pc lv rest ws :=
  fun H locs ls hP hD hS hl => va_ldcS C.1 C.2.1 C.2.2.2.1 C.2.2.2.2.2.2.2.2.2.2.2.2.2.1 hd (kk H locs ls hP hD hS hl)
theorem g_str_coder (pc : Nat) (C : CX p s m args meth c cc Ts own nL D k A ret) {index : Nat} (hlink : Cond.fieldLink own index "java/lang/String" "coder" "B" ∈ Ts) (hd : decode cc pc = .ok (.getfield index, 3)) (kk : GG p l e R s m args below meth c Q D A nL cells slots (pc + 3) lv (.int 0 :: rest) ws) : GG p l e R s m args below meth c Q D A nL cells slots pc lv (.ref (k 6) :: rest) ws :=
  fun H locs ls hP hD hS hl => vk_getf C.1 C.2.1 (C.2.2.2.2.2.2.2.2.2.2.2.2.2.2.1.1 0 (by decide)).2.1 hS C.2.2.2.1 (C.2.2.1 _ hlink) (fun x h => h) hd (kk H locs ls hP hD hS hl)
theorem g_str_value (pc : Nat) (C : CX p s m args meth c cc Ts own nL D k A ret) {index : Nat} (hlink : Cond.fieldLink own index "java/lang/String" "value" "[B" ∈ Ts) (hd : decode cc pc = .ok (.getfield index, 3)) (kk : GG p l e R s m args below meth c Q D A nL cells slots (pc + 3) lv (.ref (k 7) :: rest) ws) : GG p l e R s m args below meth c Q D A nL cells slots pc lv (.ref (k 6) :: rest) ws :=
  fun H locs ls hP hD hS hl => vk_getf C.1 C.2.1 (C.2.2.2.2.2.2.2.2.2.2.2.2.2.2.1.1 0 (by decide)).2.2.1 hS C.2.2.2.1 (C.2.2.1 _ hlink) (fun x h => h) hd (kk H locs ls hP hD hS hl)
theorem g_strlen (pc : Nat) (C : CX p s m args meth c cc Ts own nL D k A ret) (hd : decode cc pc = .ok (.arraylength, 1)) (kk : GG p l e R s m args below meth c Q D A nL cells slots (pc + 1) lv (.int 4 :: rest) ws) : GG p l e R s m args below meth c Q D A nL cells slots pc lv (.ref (k 7) :: rest) ws :=
  fun H locs ls hP hD hS hl => va_tlen C.1 C.2.1 (C.2.2.2.2.2.2.2.2.2.2.2.2.2.2.1.1 0 (by decide)).2.2.2 hS (by decide) hd (kk H locs ls hP hD hS hl)
theorem g_tbald (pc : Nat) (C : CX p s m args meth c cc Ts own nL D k A ret) {i : Int32} (hin : inb i 4 = true) (hd : decode cc pc = .ok (.baload, 1)) (kk : GG p l e R s m args below meth c Q D A nL cells slots (pc + 1) lv (.int (orpbB i.toNatClampNeg) :: rest) ws) : GG p l e R s m args below meth c Q D A nL cells slots pc lv (.int i :: .ref (k 7) :: rest) ws :=
  fun H locs ls hP hD hS hl => va_tb C.1 C.2.1 (C.2.2.2.2.2.2.2.2.2.2.2.2.2.2.1.1 0 (by decide)).2.2.2 hS (inb_in hin) rfl hd (kk H locs ls hP hD hS hl)
theorem g_mmax (pc : Nat) (C : CX p s m args meth c cc Ts own nL D k A ret) {index : Nat} {x y : Int32} (h1 : Cond.methodLink own index Lib.Math.max.name ∈ Ts) (h2 : Cond.static Lib.Math.max.name ∈ Ts) (h3 : Cond.initialized "java/lang/Math" ∈ Ts) (h4 : Cond.code Lib.Math.max.name Lib.Math.max.code 2 (some .int) ∈ Ts) (hfr : 1 ≤ R.frames) (hlo : (rest.map fun v => v.category).sum + 13 ≤ R.locals) (hcs : cells ≤ R.cells ∧ slots ≤ R.slots) (hd : decode cc pc = .ok (.invokestatic index, 3)) (kk : GG p l e R s m args below meth c Q D A nL cells slots (pc + 3) lv (.int (if x < y then y else x) :: rest) ws) : GG p l e R s m args below meth c Q D A nL cells slots pc lv (.int y :: .int x :: rest) ws :=
  fun H locs ls hP hD hS hl => va_mmax C.1 C.2.1 (C.2.2.2.2.2.1.trans hl.1.symm) C.2.2.2.1 (C.2.2.1 _ h1) (C.2.2.1 _ h2) (C.2.2.1 _ h3) (C.2.2.1 _ h4) hfr hlo hcs.1 hcs.2 hd (kk H locs ls hP hD hS hl)
theorem g_mmaxl (pc : Nat) (C : CX p s m args meth c cc Ts own nL D k A ret) {index : Nat} {x y : Int64} (h1 : Cond.methodLink own index Lib.MathLoose.max_long.x ∈ Ts) (h2 : Cond.static Lib.MathLoose.max_long.x ∈ Ts) (h3 : Cond.initialized "java/lang/Math" ∈ Ts) (h4 : Cond.code Lib.MathLoose.max_long.x Lib.MathLoose.max_long.code 4 (some .long) ∈ Ts) (hfr : 1 ≤ R.frames) (hlo : (rest.map fun v => v.category).sum + 15 ≤ R.locals) (hcs : cells ≤ R.cells ∧ slots ≤ R.slots) (hd : decode cc pc = .ok (.invokestatic index, 3)) (kk : GG p l e R s m args below meth c Q D A nL cells slots (pc + 3) lv (.long (if y < x then x else y) :: rest) ws) : GG p l e R s m args below meth c Q D A nL cells slots pc lv (.long y :: .long x :: rest) ws :=
  fun H locs ls hP hD hS hl => va_mmax_long C.1 C.2.1 (C.2.2.2.2.2.1.trans hl.1.symm) C.2.2.2.1 (C.2.2.1 _ h1) (C.2.2.1 _ h2) (C.2.2.1 _ h3) (C.2.2.1 _ h4) hfr hlo hcs.1 hcs.2 hd (kk H locs ls hP hD hS hl)
theorem g_mmin (pc : Nat) (C : CX p s m args meth c cc Ts own nL D k A ret) {index : Nat} {x y : Int32} (h1 : Cond.methodLink own index Lib.Math.min.name ∈ Ts) (h2 : Cond.static Lib.Math.min.name ∈ Ts) (h3 : Cond.initialized "java/lang/Math" ∈ Ts) (h4 : Cond.code Lib.Math.min.name Lib.Math.min.code 2 (some .int) ∈ Ts) (hfr : 1 ≤ R.frames) (hlo : (rest.map fun v => v.category).sum + 13 ≤ R.locals) (hcs : cells ≤ R.cells ∧ slots ≤ R.slots) (hd : decode cc pc = .ok (.invokestatic index, 3)) (kk : GG p l e R s m args below meth c Q D A nL cells slots (pc + 3) lv (.int (if y < x then y else x) :: rest) ws) : GG p l e R s m args below meth c Q D A nL cells slots pc lv (.int y :: .int x :: rest) ws :=
  fun H locs ls hP hD hS hl => va_mmin C.1 C.2.1 (C.2.2.2.2.2.1.trans hl.1.symm) C.2.2.2.1 (C.2.2.1 _ h1) (C.2.2.1 _ h2) (C.2.2.1 _ h3) (C.2.2.1 _ h4) hfr hlo hcs.1 hcs.2 hd (kk H locs ls hP hD hS hl)
end GB
/-- a contract's start: the arguments, the world -/
def cPre (D : va_G) (k : Nat → ClassId) (av : List Value) (ws : va_W) (sz : Nat) : Array Value → State → Prop := va_Pc av (fun U => U.heap.size = sz ∧ va_P D vwCl ws U.heap ∧ va_K D vwCl (TY k) U ∧ va_D (fun _ => True) ws ∧ NX k (va_A ws sz) U)
def cB (D : va_G) (A : Nat → Prop) (ws' : va_W) (_ : Unit) (t : State) : Prop := va_P D vwCl ws' t.heap ∧ va_D A ws'
def cQi (D : va_G) (ws : va_W) (sz : Nat) (r : Int32) (ws' : va_W) : Array Value → State → Outcome → State → Prop := va_Qi (fun x (_ : Unit) => x = r) (cB D (va_A ws sz) ws') (va_A ws sz)
def cQl (D : va_G) (ws : va_W) (sz : Nat) (r : Int64) (ws' : va_W) : Array Value → State → Outcome → State → Prop := va_Ql (fun x (_ : Unit) => x = r) (cB D (va_A ws sz) ws') (va_A ws sz)
def cQv (D : va_G) (ws : va_W) (sz : Nat) (ws' : va_W) : Array Value → State → Outcome → State → Prop := va_Qv (fun (_ : Unit) => True) (cB D (va_A ws sz) ws') (va_A ws sz)
theorem cPre_blind {D : va_G} {k : Nat → ClassId} {av : List Value} {ws : va_W} {sz : Nat} : FrameBlind (cPre D k av ws sz) := by
  intro a U g mk q
  obtain ⟨q0, q1, qP, qK, qD, qN⟩ := q
  exact ⟨q0, q1, qP, va_K.moved (u := U) (U := U.calling g mk a) (Vm.Alike.refl U.vm) qK, qD, NX.same (u := U) (U := U.calling g mk a) (Vm.Alike.refl U.vm) rfl rfl qN⟩
/-- a method's contract out of its body's walk -/
theorem met_of {l : Launch} {y : MethodName} {w w' : List Cond} {rm : Room} {cc : ByteArray} {nL : Nat} {ret : Option FieldType} {own : String} {D : va_G} {k : Nat → ClassId} {av : List Value} {ws : va_W} {sz : Nat} {Qc : Array Value → State → Outcome → State → Prop} (lv : List (Nat × Value)) (hy : plainName y.cls = true) (hw : w = Cond.code y cc nL ret :: w') (ho : y.cls = own) (hfit : (lg_sl av).length ≤ nL) (hlv : lv_args 0 av = lv)
    (body : ∀ (p : Program) (e : Env) (s : State) (m : MethodId) (args : Array Value) (below : List Frame) (meth : Method) (c : Code) (A : Nat → Prop), A = va_A ws sz → s.heap.size = sz → CX p s m args meth c cc w own nL D k A ret → GG p l e rm s m args below meth c (MQ below Qc args s 0 0 A) D A nL 0 0 0 lv [] ws) :
    Met l y w rm (cPre D k av ws sz) Qc 0 0 (va_A ws sz) := by
  refine Met.ofW (cc := cc) (maxL := nL) (ret := ret) hy hw ?_
  intro p e s m args below meth c s₁ B hml hv
  obtain ⟨rfl, hsz, hP, hK, hD0, hN⟩ := hv
  have hl := lv_entry av (n := nL) hfit
  rw [lg_entry_eq]
  generalize (lg_sl av ++ List.replicate (nL - (lg_sl av).length) Slot.unset).toArray = ls at hl ⊢
  rw [hlv] at hl
  exact body p e s m _ below meth c (va_A ws sz) rfl hsz ⟨B.exec, B.bytes, atoms_spec (ws := w) B.pre, by rw [← ho]; exact findClass_of_methodNamed B.named, hK, hml, B.returns, B.notSynchronized, fun q h => Or.inr (hsz ▸ h), hN⟩ s.heap [] ls hP (hD0.self) va_S.rf hl
section GC
variable {p : Program} {l : Launch} {e : Env} {R : Room} {s : State} {m : MethodId} {args : Array Value} {below : List Frame} {meth : Method} {c : Code} {Q : State → Prop} {D : va_G} {A : Nat → Prop} {nL cells slots : Nat} {lv lv' : List (Nat × Value)} {rest : List Value} {ws ws' : va_W} {cc : ByteArray} {Ts : List Cond} {own : String} {k : Nat → ClassId} {ret : Option FieldType}
theorem g_iret (pc : Nat) {w0 : va_W} {sz : Nat} {r v : Int32} (C : CX p s m args meth c cc Ts own nL D k A (some .int)) (hA : A = va_A w0 sz) (hr : r = v) (hd : decode cc pc = .ok (.ireturn, 1)) (hw : ws = ws') : GG p l e R s m args below meth c (MQ below (cQi D w0 sz r ws') args s cells slots A) D A nL cells slots pc lv [.int v] ws :=
  fun H locs ls hP hD hS hl => W.iret C.1 C.2.1 C.2.2.2.2.2.2.1 (fun t ht hW => ⟨⟨v, (), rfl, hr.symm, by rw [← hw, ht]; exact hP, by rw [← hw, ← hA]; exact hD⟩, by rw [← hA]; exact hS.F ht⟩) hS.2.2 hd C.2.2.2.2.2.2.2.1
theorem g_zret (pc : Nat) {w0 : va_W} {sz : Nat} {r v : Int32} {ty : FieldType} (C : CX p s m args meth c cc Ts own nL D k A (some ty)) (hA : A = va_A w0 sz) (hr : r = v) (hn : narrow ty (.int v) = .int v) (hd : decode cc pc = .ok (.ireturn, 1)) (hw : ws = ws') : GG p l e R s m args below meth c (MQ below (cQi D w0 sz r ws') args s cells slots A) D A nL cells slots pc lv [.int v] ws :=
  fun H locs ls hP hD hS hl => W.zret C.1 C.2.1 C.2.2.2.2.2.2.1 hn (fun t ht hW => ⟨⟨v, (), rfl, hr.symm, by rw [← hw, ht]; exact hP, by rw [← hw, ← hA]; exact hD⟩, by rw [← hA]; exact hS.F ht⟩) hS.2.2 hd C.2.2.2.2.2.2.2.1
theorem g_lret (pc : Nat) {w0 : va_W} {sz : Nat} {r v : Int64} (C : CX p s m args meth c cc Ts own nL D k A (some .long)) (hA : A = va_A w0 sz) (hr : r = v) (hd : decode cc pc = .ok (.lreturn, 1)) (hw : ws = ws') : GG p l e R s m args below meth c (MQ below (cQl D w0 sz r ws') args s cells slots A) D A nL cells slots pc lv [.long v] ws :=
  fun H locs ls hP hD hS hl => W.lret C.1 C.2.1 C.2.2.2.2.2.2.1 (fun t ht hW => ⟨⟨v, (), rfl, hr.symm, by rw [← hw, ht]; exact hP, by rw [← hw, ← hA]; exact hD⟩, by rw [← hA]; exact hS.F ht⟩) hS.2.2 hd C.2.2.2.2.2.2.2.1
theorem g_vret (pc : Nat) {w0 : va_W} {sz : Nat} (C : CX p s m args meth c cc Ts own nL D k A none) (hA : A = va_A w0 sz) (hd : decode cc pc = .ok (.return_, 1)) (hw : ws = ws') : GG p l e R s m args below meth c (MQ below (cQv D w0 sz ws') args s cells slots A) D A nL cells slots pc lv [] ws :=
  fun H locs ls hP hD hS hl => W.vret C.1 C.2.1 C.2.2.2.2.2.2.1 (fun t ht hW => ⟨⟨(), rfl, trivial, by rw [← hw, ht]; exact hP, by rw [← hw, ← hA]; exact hD⟩, by rw [← hA]; exact hS.F ht⟩) hS.2.2 hd C.2.2.2.2.2.2.2.1
/-- the places that are not the callee's, and the way back -/
def cutR (n : Nat) (isC : List Nat) : List Nat := (List.range n).filter (fun i => !isC.contains i)
def cutB (n : Nat) (isC : List Nat) : List Nat := (List.range n).map (fun i => if isC.contains i then (cutR n isC).length + isC.idxOf i else (cutR n isC).idxOf i)
theorem co_5 {P : Nat → Prop} (h0 : P 0) (h1 : P 1) (h2 : P 2) (h3 : P 3) (h4 : P 4) {i : Nat} (hi : i < 5) : P i := by
  match i, hi with
  | 0, _ => exact h0
  | 1, _ => exact h1
  | 2, _ => exact h2
  | 3, _ => exact h3
  | 4, _ => exact h4
/-- where the callee's cells lie in the caller's world, and what the caller's world is behind the call -/
def Cut (ws wc wc' ws' : va_W) (isC isR back : List Nat) : Prop := isC.map (fun i => ws[i]?) = wc.map some ∧ isR.map (fun i => ws[i]?) = (isR.filterMap (fun i => ws[i]?)).map some ∧ va_nd isC = true ∧ va_nd isR = true ∧ va_nd back = true ∧ (∀ i ∈ isR, i ∉ isC) ∧ back.map (fun i => (isR.filterMap (fun i => ws[i]?) ++ wc')[i]?) = ws'.map some
theorem fm_of_map {α : Type} {is : List Nat} {w w' : List α} (h : is.map (fun i => w[i]?) = w'.map some) : is.filterMap (fun i => w[i]?) = w' := by
  induction is generalizing w' with
  | nil =>
    cases w' with
    | nil => rfl
    | cons a t => cases h
  | cons i is ih =>
    cases w' with
    | nil => cases h
    | cons a t =>
      rw [List.map_cons, List.map_cons] at h
      injection h with h1 h2
      rw [List.filterMap_cons, h1]
      exact congrArg (a :: ·) (ih h2)
theorem call_join {wc wc' : va_W} {isC isR back : List Nat} {H H1 : Heap} {H0 : Heap} {locs : List Loc} (hcut : Cut ws wc wc' ws' isC isR back) (hA : ∀ q, H0.size ≤ q → A q) (hP : va_P D vwCl ws H) (hD : va_D A ws) (hS : va_S A H0 H locs) (hk : ∀ q : Nat, q < H.size → ¬ va_A wc H.size q → H1[q]? = H[q]?) (hP1 : va_P D vwCl wc' H1) (hD1 : va_D (va_A wc H.size) wc') : va_P D vwCl ws' H1 ∧ va_D A ws' := by
  obtain ⟨h1, h2, h3, h4, h5, h6, h7⟩ := hcut
  have hF := va_free hD hS hA isC h1
  obtain ⟨a, b⟩ := va_join hP hD isC isR h1 h2 h4 h6 hk hF hP1 hD1
  exact ⟨a.sub back (fm_of_map h7), b.sub back h5 h7⟩
theorem call_pre {wc wc' : va_W} {isC isR back : List Nat} {H : Heap} {av : List Value} (C : CX p s m args meth c cc Ts own nL D k A ret) (hcut : Cut ws wc wc' ws' isC isR back) {locs : List Loc} (hP : va_P D vwCl ws H) (hD : va_D A ws) (hS : va_S A s.heap H locs) : ∀ U : State, U.heap = H → s.WarmedH U.vm → cPre D k av wc H.size av.toArray U := by
  obtain ⟨h1, h2, h3, -⟩ := hcut
  intro U hU hW
  exact ⟨rfl, by rw [hU], by rw [hU]; exact hP.sub isC (fm_of_map h1), va_K.moved hW.alike C.2.2.2.2.1, (hD.sub isC h3 h1).weaken (fun _ _ _ _ => trivial), C.2.2.2.2.2.2.2.2.2.call hW hU hS (va_free hD hS C.2.2.2.2.2.2.2.2.1 isC h1)⟩

theorem g_callVi (pc : Nat) (C : CX p s m args meth c cc Ts own nL D k A ret) {Cn : String} {T : u_T} {N ci b : Nat} {fs : List Value} {y : MethodName} {bytes : ByteArray} {maxL n index : Nat} {ry : Option FieldType} {wy wy' : List Cond} {rm : Room} {As : List Value} {wc wc' : va_W} {r : Int32} (isC isR back : List Nat) (ws' : va_W) (q0 : Nat) (hM : ∀ sz, Met l y wy rm (cPre D k (.ref b :: As) wc sz) (cQi D wc sz r wc') 0 0 (va_A wc sz)) (hG : GoodIn Ts (wsV own index Cn y wy)) (hw0 : wy = Cond.code y bytes maxL ry :: wy') (hd0 : y.cls = Cn ∧ y.cls ≠ "java/lang/invoke/MethodHandle" ∧ y.cls ≠ "java/lang/invoke/VarHandle" ∧ (parseMethodDescriptor y.desc).map (fun d => d.parameters.length) = some n) (hc : vwCl[ci]? = some (Cn, T, N)) (he : ws[q0]? = some (b, .inr (ci, fs))) (hn : As.length = n) (hR : rm.cells = 0 ∧ rm.slots = 0 ∧ rm.frames + 1 ≤ R.frames ∧ 8 + (maxL + 11) + rm.locals ≤ R.locals) (hst : (rest.map fun v => v.category).sum ≤ 8) (hcs : cells + 0 ≤ R.cells ∧ slots + 0 ≤ R.slots) (hcut : Cut ws wc wc' ws' isC isR back) {st : List Value} (hsk : st = As.reverse ++ .ref b :: rest) (hd : decode cc pc = .ok (.invokevirtual index, 3)) (kk : GG p l e R s m args below meth c Q D A nL cells slots (pc + 3) lv (.int r :: rest) ws') : GG p l e R s m args below meth c Q D A nL cells slots pc lv st ws := by
  intro H locs ls hP hD hS hl
  have hcut' := hcut
  obtain ⟨h1, h2, h3, h4, h5, h6, h7⟩ := hcut'
  have hF := va_free hD hS C.2.2.2.2.2.2.2.2.1 isC h1
  refine va_calli (va_runV (As := As) (rest := rest) (C := Cn) ⟨C.1, C.2.1, C.2.2.2.2.2.1, C.2.2.2.1, C.2.2.1⟩ (hM H.size) (cwV n C.2.2.1 hG hw0 hR.1 hR.2.1 hd0 ⟨hR.2.2.1, hR.2.2.2⟩) ⟨cPre_blind, va_recv C.2.2.2.2.1 hP hc he, call_pre C hcut hP hD hS⟩ rfl hn hl.1 hsk (lv_room hst) hd hcs) hS (fun q _ h => hF q h) hF (fun x u t H1 locs1 ht hvm hw hB hz1 hk1 hS1 => ?_)
  obtain ⟨hP1, hD1⟩ := hB
  rw [ht] at hP1
  subst hw; obtain ⟨a1, a2⟩ := call_join hcut C.2.2.2.2.2.2.2.2.1 hP hD hS hk1 hP1 hD1
  exact kk H1 locs1 ls a1 a2 hS1 hl
theorem g_callTi (pc : Nat) (C : CX p s m args meth c cc Ts own nL D k A ret) {Cn : String} {y : MethodName} {bytes : ByteArray} {maxL n index : Nat} {ry : Option FieldType} {wy wy' : List Cond} {rm : Room} {As : List Value} {wc wc' : va_W} {r : Int32} (isC isR back : List Nat) (ws' : va_W) (hCn : Cn = "java/lang/String") (hM : ∀ sz, Met l y wy rm (cPre D k (.ref (k 6) :: As) wc sz) (cQi D wc sz r wc') 0 0 (va_A wc sz)) (hG : GoodIn Ts (wsV own index Cn y wy)) (hw0 : wy = Cond.code y bytes maxL ry :: wy') (hd0 : y.cls = Cn ∧ y.cls ≠ "java/lang/invoke/MethodHandle" ∧ y.cls ≠ "java/lang/invoke/VarHandle" ∧ (parseMethodDescriptor y.desc).map (fun d => d.parameters.length) = some n) (hn : As.length = n) (hR : rm.cells = 0 ∧ rm.slots = 0 ∧ rm.frames + 1 ≤ R.frames ∧ 8 + (maxL + 11) + rm.locals ≤ R.locals) (hst : (rest.map fun v => v.category).sum ≤ 8) (hcs : cells + 0 ≤ R.cells ∧ slots + 0 ≤ R.slots) (hcut : Cut ws wc wc' ws' isC isR back) {st : List Value} (hsk : st = As.reverse ++ .ref (k 6) :: rest) (hd : decode cc pc = .ok (.invokevirtual index, 3)) (kk : GG p l e R s m args below meth c Q D A nL cells slots (pc + 3) lv (.int r :: rest) ws') : GG p l e R s m args below meth c Q D A nL cells slots pc lv st ws := by
  subst hCn
  intro H locs ls hP hD hS hl
  have hcut' := hcut
  obtain ⟨h1, h2, h3, h4, h5, h6, h7⟩ := hcut'
  have hF := va_free hD hS C.2.2.2.2.2.2.2.2.1 isC h1
  refine va_calli (va_runV (As := As) (rest := rest) (C := "java/lang/String") ⟨C.1, C.2.1, C.2.2.2.2.2.1, C.2.2.2.1, C.2.2.1⟩ (hM H.size) (cwV n C.2.2.1 hG hw0 hR.1 hR.2.1 hd0 ⟨hR.2.2.1, hR.2.2.2⟩) ⟨cPre_blind, vk_recv (i := 0) C.2.2.2.2.2.2.2.2.2.2.2.2.2.2.1 (by decide) hS, call_pre C hcut hP hD hS⟩ rfl hn hl.1 hsk (lv_room hst) hd hcs) hS (fun q _ h => hF q h) hF (fun x u t H1 locs1 ht hvm hw hB hz1 hk1 hS1 => ?_)
  obtain ⟨hP1, hD1⟩ := hB
  rw [ht] at hP1
  subst hw; obtain ⟨a1, a2⟩ := call_join hcut C.2.2.2.2.2.2.2.2.1 hP hD hS hk1 hP1 hD1
  exact kk H1 locs1 ls a1 a2 hS1 hl
theorem g_callSi (pc : Nat) (C : CX p s m args meth c cc Ts own nL D k A ret) {y : MethodName} {bytes : ByteArray} {maxL n index : Nat} {ry : Option FieldType} {wy wy' : List Cond} {rm : Room} {As : List Value} {wc wc' : va_W} {r : Int32} (isC isR back : List Nat) (ws' : va_W) (hM : ∀ sz, Met l y wy rm (cPre D k As wc sz) (cQi D wc sz r wc') 0 0 (va_A wc sz)) (hG : GoodIn Ts (va_wsS own index y wy)) (hw0 : wy = Cond.code y bytes maxL ry :: wy') (hd0 : y.cls ≠ "java/lang/invoke/MethodHandle" ∧ y.cls ≠ "java/lang/invoke/VarHandle" ∧ (parseMethodDescriptor y.desc).map (fun d => d.parameters.length) = some n) (hn : As.length = n) (hR : rm.cells = 0 ∧ rm.slots = 0 ∧ rm.frames + 1 ≤ R.frames ∧ 8 + (maxL + 11) + rm.locals ≤ R.locals) (hst : (rest.map fun v => v.category).sum ≤ 8) (hcs : cells + 0 ≤ R.cells ∧ slots + 0 ≤ R.slots) (hcut : Cut ws wc wc' ws' isC isR back) {st : List Value} (hsk : st = As.reverse ++ rest) (hd : decode cc pc = .ok (.invokestatic index, 3)) (kk : GG p l e R s m args below meth c Q D A nL cells slots (pc + 3) lv (.int r :: rest) ws') : GG p l e R s m args below meth c Q D A nL cells slots pc lv st ws := by
  intro H locs ls hP hD hS hl
  have hcut' := hcut
  obtain ⟨h1, h2, h3, h4, h5, h6, h7⟩ := hcut'
  have hF := va_free hD hS C.2.2.2.2.2.2.2.2.1 isC h1
  refine va_calli (va_runS (As := As) (rest := rest) ⟨C.1, C.2.1, C.2.2.2.2.2.1, C.2.2.2.1, C.2.2.1⟩ (hM H.size) (va_cwS n C.2.2.1 hG hw0 hR.1 hR.2.1 hd0 ⟨hR.2.2.1, hR.2.2.2⟩) ⟨cPre_blind, call_pre C hcut hP hD hS⟩ rfl hn hl.1 hsk (lv_room hst) hd hcs) hS (fun q _ h => hF q h) hF (fun x u t H1 locs1 ht hvm hw hB hz1 hk1 hS1 => ?_)
  obtain ⟨hP1, hD1⟩ := hB
  rw [ht] at hP1
  subst hw; obtain ⟨a1, a2⟩ := call_join hcut C.2.2.2.2.2.2.2.2.1 hP hD hS hk1 hP1 hD1
  exact kk H1 locs1 ls a1 a2 hS1 hl
theorem g_callNi (pc : Nat) (C : CX p s m args meth c cc Ts own nL D k A ret) {host : String} {y : MethodName} {bytes : ByteArray} {maxL n index : Nat} {ry : Option FieldType} {wy wy' : List Cond} {rm : Room} {As : List Value} {wc wc' : va_W} {r : Int32} (isC isR back : List Nat) (ws' : va_W) (hM : ∀ sz, Met l y wy rm (cPre D k As wc sz) (cQi D wc sz r wc') 0 0 (va_A wc sz)) (hG : GoodIn Ts wy) (hw0 : wy = Cond.code y bytes maxL ry :: wy') (hlk : va_Nw (.methodLinkNest own index y host) s) (hini : Cond.initialized y.cls ∈ Ts) (hstat : Cond.static y ∈ Ts) (hd0 : y.cls ≠ "java/lang/invoke/MethodHandle" ∧ y.cls ≠ "java/lang/invoke/VarHandle" ∧ (parseMethodDescriptor y.desc).map (fun d => d.parameters.length) = some n) (hn : As.length = n) (hR : rm.cells = 0 ∧ rm.slots = 0 ∧ rm.frames + 1 ≤ R.frames ∧ 8 + (maxL + 11) + rm.locals ≤ R.locals) (hst : (rest.map fun v => v.category).sum ≤ 8) (hcs : cells + 0 ≤ R.cells ∧ slots + 0 ≤ R.slots) (hcut : Cut ws wc wc' ws' isC isR back) {st : List Value} (hsk : st = As.reverse ++ rest) (hd : decode cc pc = .ok (.invokestatic index, 3)) (kk : GG p l e R s m args below meth c Q D A nL cells slots (pc + 3) lv (.int r :: rest) ws') : GG p l e R s m args below meth c Q D A nL cells slots pc lv st ws := by
  intro H locs ls hP hD hS hl
  have hcut' := hcut
  obtain ⟨h1, h2, h3, h4, h5, h6, h7⟩ := hcut'
  have hF := va_free hD hS C.2.2.2.2.2.2.2.2.1 isC h1
  refine va_calli (va_runSN (As := As) (rest := rest) ⟨C.1, C.2.1, C.2.2.2.2.2.1, C.2.2.2.1, C.2.2.1⟩ (hM H.size) ⟨va_cnB n C.2.2.1 hG hw0 hR.1 hR.2.1 hlk (C.2.2.1 _ hini) hd0 ⟨hR.2.2.1, hR.2.2.2⟩, C.2.2.1 _ hstat, trivial⟩ ⟨cPre_blind, call_pre C hcut hP hD hS⟩ rfl hn hl.1 hsk (lv_room hst) hd hcs) hS (fun q _ h => hF q h) hF (fun x u t H1 locs1 ht hvm hw hB hz1 hk1 hS1 => ?_)
  obtain ⟨hP1, hD1⟩ := hB
  rw [ht] at hP1
  subst hw; obtain ⟨a1, a2⟩ := call_join hcut C.2.2.2.2.2.2.2.2.1 hP hD hS hk1 hP1 hD1
  exact kk H1 locs1 ls a1 a2 hS1 hl
theorem g_callVl (pc : Nat) (C : CX p s m args meth c cc Ts own nL D k A ret) {Cn : String} {T : u_T} {N ci b : Nat} {fs : List Value} {y : MethodName} {bytes : ByteArray} {maxL n index : Nat} {ry : Option FieldType} {wy wy' : List Cond} {rm : Room} {As : List Value} {wc wc' : va_W} {r : Int64} (isC isR back : List Nat) (ws' : va_W) (q0 : Nat) (hM : ∀ sz, Met l y wy rm (cPre D k (.ref b :: As) wc sz) (cQl D wc sz r wc') 0 0 (va_A wc sz)) (hG : GoodIn Ts (wsV own index Cn y wy)) (hw0 : wy = Cond.code y bytes maxL ry :: wy') (hd0 : y.cls = Cn ∧ y.cls ≠ "java/lang/invoke/MethodHandle" ∧ y.cls ≠ "java/lang/invoke/VarHandle" ∧ (parseMethodDescriptor y.desc).map (fun d => d.parameters.length) = some n) (hc : vwCl[ci]? = some (Cn, T, N)) (he : ws[q0]? = some (b, .inr (ci, fs))) (hn : As.length = n) (hR : rm.cells = 0 ∧ rm.slots = 0 ∧ rm.frames + 1 ≤ R.frames ∧ 8 + (maxL + 11) + rm.locals ≤ R.locals) (hst : (rest.map fun v => v.category).sum ≤ 8) (hcs : cells + 0 ≤ R.cells ∧ slots + 0 ≤ R.slots) (hcut : Cut ws wc wc' ws' isC isR back) {st : List Value} (hsk : st = As.reverse ++ .ref b :: rest) (hd : decode cc pc = .ok (.invokevirtual index, 3)) (kk : GG p l e R s m args below meth c Q D A nL cells slots (pc + 3) lv (.long r :: rest) ws') : GG p l e R s m args below meth c Q D A nL cells slots pc lv st ws := by
  intro H locs ls hP hD hS hl
  have hcut' := hcut
  obtain ⟨h1, h2, h3, h4, h5, h6, h7⟩ := hcut'
  have hF := va_free hD hS C.2.2.2.2.2.2.2.2.1 isC h1
  refine va_calll (va_runV (As := As) (rest := rest) (C := Cn) ⟨C.1, C.2.1, C.2.2.2.2.2.1, C.2.2.2.1, C.2.2.1⟩ (hM H.size) (cwV n C.2.2.1 hG hw0 hR.1 hR.2.1 hd0 ⟨hR.2.2.1, hR.2.2.2⟩) ⟨cPre_blind, va_recv C.2.2.2.2.1 hP hc he, call_pre C hcut hP hD hS⟩ rfl hn hl.1 hsk (lv_room hst) hd hcs) hS (fun q _ h => hF q h) hF (fun x u t H1 locs1 ht hvm hw hB hz1 hk1 hS1 => ?_)
  obtain ⟨hP1, hD1⟩ := hB
  rw [ht] at hP1
  subst hw; obtain ⟨a1, a2⟩ := call_join hcut C.2.2.2.2.2.2.2.2.1 hP hD hS hk1 hP1 hD1
  exact kk H1 locs1 ls a1 a2 hS1 hl
theorem g_callTl (pc : Nat) (C : CX p s m args meth c cc Ts own nL D k A ret) {Cn : String} {y : MethodName} {bytes : ByteArray} {maxL n index : Nat} {ry : Option FieldType} {wy wy' : List Cond} {rm : Room} {As : List Value} {wc wc' : va_W} {r : Int64} (isC isR back : List Nat) (ws' : va_W) (hCn : Cn = "java/lang/String") (hM : ∀ sz, Met l y wy rm (cPre D k (.ref (k 6) :: As) wc sz) (cQl D wc sz r wc') 0 0 (va_A wc sz)) (hG : GoodIn Ts (wsV own index Cn y wy)) (hw0 : wy = Cond.code y bytes maxL ry :: wy') (hd0 : y.cls = Cn ∧ y.cls ≠ "java/lang/invoke/MethodHandle" ∧ y.cls ≠ "java/lang/invoke/VarHandle" ∧ (parseMethodDescriptor y.desc).map (fun d => d.parameters.length) = some n) (hn : As.length = n) (hR : rm.cells = 0 ∧ rm.slots = 0 ∧ rm.frames + 1 ≤ R.frames ∧ 8 + (maxL + 11) + rm.locals ≤ R.locals) (hst : (rest.map fun v => v.category).sum ≤ 8) (hcs : cells + 0 ≤ R.cells ∧ slots + 0 ≤ R.slots) (hcut : Cut ws wc wc' ws' isC isR back) {st : List Value} (hsk : st = As.reverse ++ .ref (k 6) :: rest) (hd : decode cc pc = .ok (.invokevirtual index, 3)) (kk : GG p l e R s m args below meth c Q D A nL cells slots (pc + 3) lv (.long r :: rest) ws') : GG p l e R s m args below meth c Q D A nL cells slots pc lv st ws := by
  subst hCn
  intro H locs ls hP hD hS hl
  have hcut' := hcut
  obtain ⟨h1, h2, h3, h4, h5, h6, h7⟩ := hcut'
  have hF := va_free hD hS C.2.2.2.2.2.2.2.2.1 isC h1
  refine va_calll (va_runV (As := As) (rest := rest) (C := "java/lang/String") ⟨C.1, C.2.1, C.2.2.2.2.2.1, C.2.2.2.1, C.2.2.1⟩ (hM H.size) (cwV n C.2.2.1 hG hw0 hR.1 hR.2.1 hd0 ⟨hR.2.2.1, hR.2.2.2⟩) ⟨cPre_blind, vk_recv (i := 0) C.2.2.2.2.2.2.2.2.2.2.2.2.2.2.1 (by decide) hS, call_pre C hcut hP hD hS⟩ rfl hn hl.1 hsk (lv_room hst) hd hcs) hS (fun q _ h => hF q h) hF (fun x u t H1 locs1 ht hvm hw hB hz1 hk1 hS1 => ?_)
  obtain ⟨hP1, hD1⟩ := hB
  rw [ht] at hP1
  subst hw; obtain ⟨a1, a2⟩ := call_join hcut C.2.2.2.2.2.2.2.2.1 hP hD hS hk1 hP1 hD1
  exact kk H1 locs1 ls a1 a2 hS1 hl
theorem g_callSl (pc : Nat) (C : CX p s m args meth c cc Ts own nL D k A ret) {y : MethodName} {bytes : ByteArray} {maxL n index : Nat} {ry : Option FieldType} {wy wy' : List Cond} {rm : Room} {As : List Value} {wc wc' : va_W} {r : Int64} (isC isR back : List Nat) (ws' : va_W) (hM : ∀ sz, Met l y wy rm (cPre D k As wc sz) (cQl D wc sz r wc') 0 0 (va_A wc sz)) (hG : GoodIn Ts (va_wsS own index y wy)) (hw0 : wy = Cond.code y bytes maxL ry :: wy') (hd0 : y.cls ≠ "java/lang/invoke/MethodHandle" ∧ y.cls ≠ "java/lang/invoke/VarHandle" ∧ (parseMethodDescriptor y.desc).map (fun d => d.parameters.length) = some n) (hn : As.length = n) (hR : rm.cells = 0 ∧ rm.slots = 0 ∧ rm.frames + 1 ≤ R.frames ∧ 8 + (maxL + 11) + rm.locals ≤ R.locals) (hst : (rest.map fun v => v.category).sum ≤ 8) (hcs : cells + 0 ≤ R.cells ∧ slots + 0 ≤ R.slots) (hcut : Cut ws wc wc' ws' isC isR back) {st : List Value} (hsk : st = As.reverse ++ rest) (hd : decode cc pc = .ok (.invokestatic index, 3)) (kk : GG p l e R s m args below meth c Q D A nL cells slots (pc + 3) lv (.long r :: rest) ws') : GG p l e R s m args below meth c Q D A nL cells slots pc lv st ws := by
  intro H locs ls hP hD hS hl
  have hcut' := hcut
  obtain ⟨h1, h2, h3, h4, h5, h6, h7⟩ := hcut'
  have hF := va_free hD hS C.2.2.2.2.2.2.2.2.1 isC h1
  refine va_calll (va_runS (As := As) (rest := rest) ⟨C.1, C.2.1, C.2.2.2.2.2.1, C.2.2.2.1, C.2.2.1⟩ (hM H.size) (va_cwS n C.2.2.1 hG hw0 hR.1 hR.2.1 hd0 ⟨hR.2.2.1, hR.2.2.2⟩) ⟨cPre_blind, call_pre C hcut hP hD hS⟩ rfl hn hl.1 hsk (lv_room hst) hd hcs) hS (fun q _ h => hF q h) hF (fun x u t H1 locs1 ht hvm hw hB hz1 hk1 hS1 => ?_)
  obtain ⟨hP1, hD1⟩ := hB
  rw [ht] at hP1
  subst hw; obtain ⟨a1, a2⟩ := call_join hcut C.2.2.2.2.2.2.2.2.1 hP hD hS hk1 hP1 hD1
  exact kk H1 locs1 ls a1 a2 hS1 hl
theorem g_callNl (pc : Nat) (C : CX p s m args meth c cc Ts own nL D k A ret) {host : String} {y : MethodName} {bytes : ByteArray} {maxL n index : Nat} {ry : Option FieldType} {wy wy' : List Cond} {rm : Room} {As : List Value} {wc wc' : va_W} {r : Int64} (isC isR back : List Nat) (ws' : va_W) (hM : ∀ sz, Met l y wy rm (cPre D k As wc sz) (cQl D wc sz r wc') 0 0 (va_A wc sz)) (hG : GoodIn Ts wy) (hw0 : wy = Cond.code y bytes maxL ry :: wy') (hlk : va_Nw (.methodLinkNest own index y host) s) (hini : Cond.initialized y.cls ∈ Ts) (hstat : Cond.static y ∈ Ts) (hd0 : y.cls ≠ "java/lang/invoke/MethodHandle" ∧ y.cls ≠ "java/lang/invoke/VarHandle" ∧ (parseMethodDescriptor y.desc).map (fun d => d.parameters.length) = some n) (hn : As.length = n) (hR : rm.cells = 0 ∧ rm.slots = 0 ∧ rm.frames + 1 ≤ R.frames ∧ 8 + (maxL + 11) + rm.locals ≤ R.locals) (hst : (rest.map fun v => v.category).sum ≤ 8) (hcs : cells + 0 ≤ R.cells ∧ slots + 0 ≤ R.slots) (hcut : Cut ws wc wc' ws' isC isR back) {st : List Value} (hsk : st = As.reverse ++ rest) (hd : decode cc pc = .ok (.invokestatic index, 3)) (kk : GG p l e R s m args below meth c Q D A nL cells slots (pc + 3) lv (.long r :: rest) ws') : GG p l e R s m args below meth c Q D A nL cells slots pc lv st ws := by
  intro H locs ls hP hD hS hl
  have hcut' := hcut
  obtain ⟨h1, h2, h3, h4, h5, h6, h7⟩ := hcut'
  have hF := va_free hD hS C.2.2.2.2.2.2.2.2.1 isC h1
  refine va_calll (va_runSN (As := As) (rest := rest) ⟨C.1, C.2.1, C.2.2.2.2.2.1, C.2.2.2.1, C.2.2.1⟩ (hM H.size) ⟨va_cnB n C.2.2.1 hG hw0 hR.1 hR.2.1 hlk (C.2.2.1 _ hini) hd0 ⟨hR.2.2.1, hR.2.2.2⟩, C.2.2.1 _ hstat, trivial⟩ ⟨cPre_blind, call_pre C hcut hP hD hS⟩ rfl hn hl.1 hsk (lv_room hst) hd hcs) hS (fun q _ h => hF q h) hF (fun x u t H1 locs1 ht hvm hw hB hz1 hk1 hS1 => ?_)
  obtain ⟨hP1, hD1⟩ := hB
  rw [ht] at hP1
  subst hw; obtain ⟨a1, a2⟩ := call_join hcut C.2.2.2.2.2.2.2.2.1 hP hD hS hk1 hP1 hD1
  exact kk H1 locs1 ls a1 a2 hS1 hl
theorem g_callVv (pc : Nat) (C : CX p s m args meth c cc Ts own nL D k A ret) {Cn : String} {T : u_T} {N ci b : Nat} {fs : List Value} {y : MethodName} {bytes : ByteArray} {maxL n index : Nat} {ry : Option FieldType} {wy wy' : List Cond} {rm : Room} {As : List Value} {wc wc' : va_W} (isC isR back : List Nat) (ws' : va_W) (q0 : Nat) (hM : ∀ sz, Met l y wy rm (cPre D k (.ref b :: As) wc sz) (cQv D wc sz wc') 0 0 (va_A wc sz)) (hG : GoodIn Ts (wsV own index Cn y wy)) (hw0 : wy = Cond.code y bytes maxL ry :: wy') (hd0 : y.cls = Cn ∧ y.cls ≠ "java/lang/invoke/MethodHandle" ∧ y.cls ≠ "java/lang/invoke/VarHandle" ∧ (parseMethodDescriptor y.desc).map (fun d => d.parameters.length) = some n) (hc : vwCl[ci]? = some (Cn, T, N)) (he : ws[q0]? = some (b, .inr (ci, fs))) (hn : As.length = n) (hR : rm.cells = 0 ∧ rm.slots = 0 ∧ rm.frames + 1 ≤ R.frames ∧ 8 + (maxL + 11) + rm.locals ≤ R.locals) (hst : (rest.map fun v => v.category).sum ≤ 8) (hcs : cells + 0 ≤ R.cells ∧ slots + 0 ≤ R.slots) (hcut : Cut ws wc wc' ws' isC isR back) {st : List Value} (hsk : st = As.reverse ++ .ref b :: rest) (hd : decode cc pc = .ok (.invokevirtual index, 3)) (kk : GG p l e R s m args below meth c Q D A nL cells slots (pc + 3) lv (rest) ws') : GG p l e R s m args below meth c Q D A nL cells slots pc lv st ws := by
  intro H locs ls hP hD hS hl
  have hcut' := hcut
  obtain ⟨h1, h2, h3, h4, h5, h6, h7⟩ := hcut'
  have hF := va_free hD hS C.2.2.2.2.2.2.2.2.1 isC h1
  refine va_callv (va_runV (As := As) (rest := rest) (C := Cn) ⟨C.1, C.2.1, C.2.2.2.2.2.1, C.2.2.2.1, C.2.2.1⟩ (hM H.size) (cwV n C.2.2.1 hG hw0 hR.1 hR.2.1 hd0 ⟨hR.2.2.1, hR.2.2.2⟩) ⟨cPre_blind, va_recv C.2.2.2.2.1 hP hc he, call_pre C hcut hP hD hS⟩ rfl hn hl.1 hsk (lv_room hst) hd hcs) hS (fun q _ h => hF q h) hF (fun u t H1 locs1 ht hvm hw hB hz1 hk1 hS1 => ?_)
  obtain ⟨hP1, hD1⟩ := hB
  rw [ht] at hP1
  obtain ⟨a1, a2⟩ := call_join hcut C.2.2.2.2.2.2.2.2.1 hP hD hS hk1 hP1 hD1
  exact kk H1 locs1 ls a1 a2 hS1 hl
theorem g_callTv (pc : Nat) (C : CX p s m args meth c cc Ts own nL D k A ret) {Cn : String} {y : MethodName} {bytes : ByteArray} {maxL n index : Nat} {ry : Option FieldType} {wy wy' : List Cond} {rm : Room} {As : List Value} {wc wc' : va_W} (isC isR back : List Nat) (ws' : va_W) (hCn : Cn = "java/lang/String") (hM : ∀ sz, Met l y wy rm (cPre D k (.ref (k 6) :: As) wc sz) (cQv D wc sz wc') 0 0 (va_A wc sz)) (hG : GoodIn Ts (wsV own index Cn y wy)) (hw0 : wy = Cond.code y bytes maxL ry :: wy') (hd0 : y.cls = Cn ∧ y.cls ≠ "java/lang/invoke/MethodHandle" ∧ y.cls ≠ "java/lang/invoke/VarHandle" ∧ (parseMethodDescriptor y.desc).map (fun d => d.parameters.length) = some n) (hn : As.length = n) (hR : rm.cells = 0 ∧ rm.slots = 0 ∧ rm.frames + 1 ≤ R.frames ∧ 8 + (maxL + 11) + rm.locals ≤ R.locals) (hst : (rest.map fun v => v.category).sum ≤ 8) (hcs : cells + 0 ≤ R.cells ∧ slots + 0 ≤ R.slots) (hcut : Cut ws wc wc' ws' isC isR back) {st : List Value} (hsk : st = As.reverse ++ .ref (k 6) :: rest) (hd : decode cc pc = .ok (.invokevirtual index, 3)) (kk : GG p l e R s m args below meth c Q D A nL cells slots (pc + 3) lv (rest) ws') : GG p l e R s m args below meth c Q D A nL cells slots pc lv st ws := by
  subst hCn
  intro H locs ls hP hD hS hl
  have hcut' := hcut
  obtain ⟨h1, h2, h3, h4, h5, h6, h7⟩ := hcut'
  have hF := va_free hD hS C.2.2.2.2.2.2.2.2.1 isC h1
  refine va_callv (va_runV (As := As) (rest := rest) (C := "java/lang/String") ⟨C.1, C.2.1, C.2.2.2.2.2.1, C.2.2.2.1, C.2.2.1⟩ (hM H.size) (cwV n C.2.2.1 hG hw0 hR.1 hR.2.1 hd0 ⟨hR.2.2.1, hR.2.2.2⟩) ⟨cPre_blind, vk_recv (i := 0) C.2.2.2.2.2.2.2.2.2.2.2.2.2.2.1 (by decide) hS, call_pre C hcut hP hD hS⟩ rfl hn hl.1 hsk (lv_room hst) hd hcs) hS (fun q _ h => hF q h) hF (fun u t H1 locs1 ht hvm hw hB hz1 hk1 hS1 => ?_)
  obtain ⟨hP1, hD1⟩ := hB
  rw [ht] at hP1
  obtain ⟨a1, a2⟩ := call_join hcut C.2.2.2.2.2.2.2.2.1 hP hD hS hk1 hP1 hD1
  exact kk H1 locs1 ls a1 a2 hS1 hl
theorem g_callSv (pc : Nat) (C : CX p s m args meth c cc Ts own nL D k A ret) {y : MethodName} {bytes : ByteArray} {maxL n index : Nat} {ry : Option FieldType} {wy wy' : List Cond} {rm : Room} {As : List Value} {wc wc' : va_W} (isC isR back : List Nat) (ws' : va_W) (hM : ∀ sz, Met l y wy rm (cPre D k As wc sz) (cQv D wc sz wc') 0 0 (va_A wc sz)) (hG : GoodIn Ts (va_wsS own index y wy)) (hw0 : wy = Cond.code y bytes maxL ry :: wy') (hd0 : y.cls ≠ "java/lang/invoke/MethodHandle" ∧ y.cls ≠ "java/lang/invoke/VarHandle" ∧ (parseMethodDescriptor y.desc).map (fun d => d.parameters.length) = some n) (hn : As.length = n) (hR : rm.cells = 0 ∧ rm.slots = 0 ∧ rm.frames + 1 ≤ R.frames ∧ 8 + (maxL + 11) + rm.locals ≤ R.locals) (hst : (rest.map fun v => v.category).sum ≤ 8) (hcs : cells + 0 ≤ R.cells ∧ slots + 0 ≤ R.slots) (hcut : Cut ws wc wc' ws' isC isR back) {st : List Value} (hsk : st = As.reverse ++ rest) (hd : decode cc pc = .ok (.invokestatic index, 3)) (kk : GG p l e R s m args below meth c Q D A nL cells slots (pc + 3) lv (rest) ws') : GG p l e R s m args below meth c Q D A nL cells slots pc lv st ws := by
  intro H locs ls hP hD hS hl
  have hcut' := hcut
  obtain ⟨h1, h2, h3, h4, h5, h6, h7⟩ := hcut'
  have hF := va_free hD hS C.2.2.2.2.2.2.2.2.1 isC h1
  refine va_callv (va_runS (As := As) (rest := rest) ⟨C.1, C.2.1, C.2.2.2.2.2.1, C.2.2.2.1, C.2.2.1⟩ (hM H.size) (va_cwS n C.2.2.1 hG hw0 hR.1 hR.2.1 hd0 ⟨hR.2.2.1, hR.2.2.2⟩) ⟨cPre_blind, call_pre C hcut hP hD hS⟩ rfl hn hl.1 hsk (lv_room hst) hd hcs) hS (fun q _ h => hF q h) hF (fun u t H1 locs1 ht hvm hw hB hz1 hk1 hS1 => ?_)
  obtain ⟨hP1, hD1⟩ := hB
  rw [ht] at hP1
  obtain ⟨a1, a2⟩ := call_join hcut C.2.2.2.2.2.2.2.2.1 hP hD hS hk1 hP1 hD1
  exact kk H1 locs1 ls a1 a2 hS1 hl
theorem g_callNv (pc : Nat) (C : CX p s m args meth c cc Ts own nL D k A ret) {host : String} {y : MethodName} {bytes : ByteArray} {maxL n index : Nat} {ry : Option FieldType} {wy wy' : List Cond} {rm : Room} {As : List Value} {wc wc' : va_W} (isC isR back : List Nat) (ws' : va_W) (hM : ∀ sz, Met l y wy rm (cPre D k As wc sz) (cQv D wc sz wc') 0 0 (va_A wc sz)) (hG : GoodIn Ts wy) (hw0 : wy = Cond.code y bytes maxL ry :: wy') (hlk : va_Nw (.methodLinkNest own index y host) s) (hini : Cond.initialized y.cls ∈ Ts) (hstat : Cond.static y ∈ Ts) (hd0 : y.cls ≠ "java/lang/invoke/MethodHandle" ∧ y.cls ≠ "java/lang/invoke/VarHandle" ∧ (parseMethodDescriptor y.desc).map (fun d => d.parameters.length) = some n) (hn : As.length = n) (hR : rm.cells = 0 ∧ rm.slots = 0 ∧ rm.frames + 1 ≤ R.frames ∧ 8 + (maxL + 11) + rm.locals ≤ R.locals) (hst : (rest.map fun v => v.category).sum ≤ 8) (hcs : cells + 0 ≤ R.cells ∧ slots + 0 ≤ R.slots) (hcut : Cut ws wc wc' ws' isC isR back) {st : List Value} (hsk : st = As.reverse ++ rest) (hd : decode cc pc = .ok (.invokestatic index, 3)) (kk : GG p l e R s m args below meth c Q D A nL cells slots (pc + 3) lv (rest) ws') : GG p l e R s m args below meth c Q D A nL cells slots pc lv st ws := by
  intro H locs ls hP hD hS hl
  have hcut' := hcut
  obtain ⟨h1, h2, h3, h4, h5, h6, h7⟩ := hcut'
  have hF := va_free hD hS C.2.2.2.2.2.2.2.2.1 isC h1
  refine va_callv (va_runSN (As := As) (rest := rest) ⟨C.1, C.2.1, C.2.2.2.2.2.1, C.2.2.2.1, C.2.2.1⟩ (hM H.size) ⟨va_cnB n C.2.2.1 hG hw0 hR.1 hR.2.1 hlk (C.2.2.1 _ hini) hd0 ⟨hR.2.2.1, hR.2.2.2⟩, C.2.2.1 _ hstat, trivial⟩ ⟨cPre_blind, call_pre C hcut hP hD hS⟩ rfl hn hl.1 hsk (lv_room hst) hd hcs) hS (fun q _ h => hF q h) hF (fun u t H1 locs1 ht hvm hw hB hz1 hk1 hS1 => ?_)
  obtain ⟨hP1, hD1⟩ := hB
  rw [ht] at hP1
  obtain ⟨a1, a2⟩ := call_join hcut C.2.2.2.2.2.2.2.2.1 hP hD hS hk1 hP1 hD1
  exact kk H1 locs1 ls a1 a2 hS1 hl
end GC
