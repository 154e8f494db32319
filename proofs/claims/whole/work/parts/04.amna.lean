/-! a new array of arrays: the machine's step by the model's own definition and the short library (no name of the library's rest) -/
/-- what the word on arrays of arrays says -/
theorem mu_over {args : Array Value} {s : State} {t : FieldType} (h : (Cond.arrayOver (.array t)).before args s = true) : ∃ (comp cA : ClassId) (kA : Class), s.vm.findClass (FieldType.array t).toString = some comp ∧ (s.vm.classes.findIdx? fun (x : Class) => match x.kind with | .array component _ => component == comp | _ => false) = some cA ∧ s.vm.classes[cA]? = some kA ∧ kA.kind = .array comp (.array t) ∧ s.vm.findClass ("[" ++ (FieldType.array t).toString) = some cA := by
  unfold Cond.before Cond.holds at h
  have h' := beq_iff_eq.mp h
  obtain ⟨comp, hc, h1⟩ := Option.bind_eq_some_iff.mp h'
  obtain ⟨cA, hi, h2⟩ := Option.bind_eq_some_iff.mp h1
  obtain ⟨kA, hk, h3⟩ := Option.map_eq_some_iff.mp h2
  obtain ⟨hlt, hp, -⟩ := Array.findIdx?_eq_some_iff_getElem.mp hi
  have hkA : s.vm.classes[cA] = kA := (Array.getElem?_eq_some_iff.mp hk).2
  rw [hkA] at hp
  generalize hkk : kA.kind = kd at h3 hp
  match kd, h3, hp, hkk with
  | .array c2 t2, h3, hp, hkk =>
    have h4 := Bool.and_eq_true_iff.mp h3
    have e1 : t2 = .array t := of_decide_eq_true h4.1
    have e2 : c2 = comp := eq_of_beq hp
    exact ⟨comp, cA, kA, hc, hi, hk, by rw [hkk, e1, e2], of_decide_eq_true h4.2⟩
/-- the word holds at tables that differ by what was resolved alone -/
theorem mu_overM {args args' : Array Value} {u U : State} {t : FieldType} (hvm : u.vm.Alike U.vm) (h : (Cond.arrayOver (.array t)).before args u = true) : (Cond.arrayOver (.array t)).before args' U = true := by
  obtain ⟨comp, cA, kA, h1, h2, h3, h4, h5⟩ := mu_over h
  obtain ⟨kB, hB, he⟩ := hvm.2.2 _ _ h3
  have g1 : U.vm.findClass (FieldType.array t).toString = some comp := (hvm.findClass _ _).trans h1
  have g5 : U.vm.findClass ("[" ++ (FieldType.array t).toString) = some cA := (hvm.findClass _ _).trans h5
  have g2 := (hvm.findIdx?_eqK (fun (x : Class) => match x.kind with | .array component _ => component == comp | _ => false) (fun _ => rfl)).trans h2
  have g4 : kB.kind = .array comp (.array t) := by rw [he]; exact h4
  unfold Cond.before Cond.holds
  refine beq_iff_eq.mpr (Option.bind_eq_some_iff.mpr ⟨comp, g1, Option.bind_eq_some_iff.mpr ⟨cA, g2, Option.map_eq_some_iff.mpr ⟨kB, hB, ?_⟩⟩⟩)
  rw [g4]
  simp [g5]
/-- the outer row, its first i places filled by what lies behind it -/
def mu_row (cA : ClassId) (N h i : Nat) : Cell := arrV cA N (fun j => va_rf (if j < i then some (h + 1 + j) else none))
theorem mu_row_new (cA : ClassId) (N h : Nat) : ({ cls := cA, slots := Array.replicate N .null, vm := .none } : Cell) = mu_row cA N h 0 := by
  rw [arrV_new]
  exact congrArg (arrV cA N) (funext fun j => by rw [if_neg (Nat.not_lt_zero j)]; rfl)
theorem mu_row_put (cA : ClassId) (N h i : Nat) : (mu_row cA N h i).setSlot i (.ref (h + 1 + i)) = mu_row cA N h (i + 1) := by
  unfold mu_row
  rw [arrV_store]
  refine congrArg (arrV cA N) (funext fun j => ?_)
  unfold updV
  by_cases e : j = i
  · rw [if_pos e, e, if_pos (Nat.lt_succ_self i)]
    rfl
  · rw [if_neg e]
    show va_rf (if j < i then some (h + 1 + j) else none) = _
    by_cases q : j < i
    · rw [if_pos q, if_pos (Nat.lt_succ_of_lt q)]
    · rw [if_neg q, if_neg (by omega)]
/-- the state when i inner rows are made -/
def mu_st (cA : ClassId) (N : Nat) (z : Cell) (T : State) : Nat → State
  | 0 => T.pushCell (mu_row cA N T.heap.size 0)
  | i + 1 => ((mu_st cA N z T i).pushCell z).setCell T.heap.size (mu_row cA N T.heap.size (i + 1))
theorem mu_st_top (cA : ClassId) (N : Nat) (z : Cell) (T : State) (f : JFrame) : ∀ i : Nat, mu_st cA N z (T.setTop f) i = (mu_st cA N z T i).setTop f
  | 0 => rfl
  | i + 1 => by
    show ((mu_st cA N z (T.setTop f) i).pushCell z).setCell _ _ = _
    rw [mu_st_top cA N z T f i]
    rfl
theorem mu_st_vm (cA : ClassId) (N : Nat) (z : Cell) (T : State) : ∀ i : Nat, (mu_st cA N z T i).vm = T.vm
  | 0 => rfl
  | i + 1 => mu_st_vm cA N z T i
theorem mu_st_tj (cA : ClassId) (N : Nat) (z : Cell) (T : State) : ∀ i : Nat, (mu_st cA N z T i).topJava? = T.topJava?
  | 0 => rfl
  | i + 1 => mu_st_tj cA N z T i
theorem mu_st_size (cA : ClassId) (N : Nat) (z : Cell) (T : State) : ∀ i : Nat, (mu_st cA N z T i).heap.size = T.heap.size + 1 + i
  | 0 => Array.size_push ..
  | i + 1 => by
    show (((mu_st cA N z T i).heap.push z).setIfInBounds _ _).size = _
    rw [Array.size_setIfInBounds, Array.size_push, mu_st_size cA N z T i]
    rfl
theorem mu_st_used (cA : ClassId) (N : Nat) (z : Cell) (T : State) : ∀ i : Nat, (mu_st cA N z T i).slotsUsed = T.slotsUsed + N + i * z.slots.size
  | 0 => by
    show T.slotsUsed + (mu_row cA N T.heap.size 0).slots.size = _
    rw [mu_row, arrV_size]
    omega
  | i + 1 => by
    show (mu_st cA N z T i).slotsUsed + z.slots.size = _
    rw [mu_st_used cA N z T i, Nat.succ_mul]
    omega
theorem mu_st_old (cA : ClassId) (N : Nat) (z : Cell) (T : State) {x : Nat} (hx : x < T.heap.size) : ∀ i : Nat, (mu_st cA N z T i).heap[x]? = T.heap[x]?
  | 0 => by
    show (T.heap.push _)[x]? = _
    rw [Array.getElem?_push, if_neg (by omega)]
  | i + 1 => by
    show (((mu_st cA N z T i).heap.push z).setIfInBounds _ _)[x]? = _
    rw [Array.getElem?_setIfInBounds, if_neg (by omega), Array.getElem?_push, if_neg (by rw [mu_st_size]; omega)]
    exact mu_st_old cA N z T hx i
theorem mu_st_row (cA : ClassId) (N : Nat) (z : Cell) (T : State) : ∀ i : Nat, (mu_st cA N z T i).heap[T.heap.size]? = some (mu_row cA N T.heap.size i)
  | 0 => by
    show (T.heap.push _)[T.heap.size]? = _
    rw [Array.getElem?_push, if_pos rfl]
  | i + 1 => by
    show (((mu_st cA N z T i).heap.push z).setIfInBounds _ _)[T.heap.size]? = _
    rw [Array.getElem?_setIfInBounds, if_pos rfl, if_pos (by rw [Array.size_push, mu_st_size]; omega)]
theorem mu_st_in (cA : ClassId) (N : Nat) (z : Cell) (T : State) : ∀ i j : Nat, j < i → (mu_st cA N z T i).heap[T.heap.size + 1 + j]? = some z
  | 0, j, h => absurd h (Nat.not_lt_zero j)
  | i + 1, j, h => by
    show (((mu_st cA N z T i).heap.push z).setIfInBounds _ _)[T.heap.size + 1 + j]? = _
    rw [Array.getElem?_setIfInBounds, if_neg (by omega), Array.getElem?_push, mu_st_size]
    by_cases q : j = i
    · rw [if_pos (by omega)]
    · rw [if_neg (by omega)]
      exact mu_st_in cA N z T i j (by omega)
section MU1
variable {E : CtlPost} {e : Env} {d : Bool} {acts : List Action}
/-- an inner row -/
theorem mu_inner {U : State} {comp c2 : ClassId} {kC : Class} {ty : FieldType} {k : Int32} {Q : Addr → Pre} (hkC : U.vm.classes[comp]? = some kC) (hC : kC.kind = .array c2 ty) (hk : ¬ k < 0) (hl : ¬ k.toNatClampNeg > e.platform.arrayLengthLimit) (hh : ¬ k.toNatClampNeg * componentBytes ty > e.platform.maxHeapBytes) (hcells : U.heap.size < e.platform.maxCells) (hslots : U.slotsUsed + k.toNatClampNeg ≤ e.platform.maxSlots) (hdf : fits ty (defaultValue ty) = true)
    (hq : ∀ acts', Q U.heap.size d acts' (U.pushCell { cls := comp, slots := Array.replicate k.toNatClampNeg (defaultValue ty), vm := .none })) : wp (Jvm.Op.multianewarray.make comp [k]) Q E e d acts U := by
  unfold Jvm.Op.multianewarray.make
  simp only [wp_bind', Jvm.W.ite, hk, if_false, wp_pure', Jvm.W.theClass, hkC, Option.some.injEq, exists_eq_left', hC]
  exact Jvm.W.newArray_of hkC hC hl hh hcells hslots hdf hq
/-- all rows -/
theorem mu_make {U : State} {cA comp c2 : ClassId} {kA kC : Class} {ty : FieldType} {n k : Int32} {Q : Addr → Pre} (hkA : U.vm.classes[cA]? = some kA) (hA : kA.kind = .array comp (.array ty)) (hkC : U.vm.classes[comp]? = some kC) (hC : kC.kind = .array c2 ty) (hn : ¬ n < 0) (hk : ¬ k < 0)
    (hl1 : ¬ n.toNatClampNeg > e.platform.arrayLengthLimit) (hl2 : ¬ k.toNatClampNeg > e.platform.arrayLengthLimit) (hh1 : ¬ n.toNatClampNeg * componentBytes (.array ty) > e.platform.maxHeapBytes) (hh2 : ¬ k.toNatClampNeg * componentBytes ty > e.platform.maxHeapBytes)
    (hcells : U.heap.size + (1 + n.toNatClampNeg) ≤ e.platform.maxCells) (hslots : U.slotsUsed + (n.toNatClampNeg + n.toNatClampNeg * k.toNatClampNeg) ≤ e.platform.maxSlots) (hdf : fits ty (defaultValue ty) = true)
    (hq : ∀ d' acts', Q U.heap.size d' acts' (mu_st cA n.toNatClampNeg { cls := comp, slots := Array.replicate k.toNatClampNeg (defaultValue ty), vm := .none } U n.toNatClampNeg)) : wp (Jvm.Op.multianewarray.make cA [n, k]) Q E e d acts U := by
  generalize hz : ({ cls := comp, slots := Array.replicate k.toNatClampNeg (defaultValue ty), vm := .none } : Cell) = z at hq
  have hzs : z.slots.size = k.toNatClampNeg := by rw [← hz]; exact Array.size_replicate
  unfold Jvm.Op.multianewarray.make
  simp only [wp_bind', Jvm.W.ite, hn, if_false, wp_pure', Jvm.W.theClass, hkA, Option.some.injEq, exists_eq_left', hA]
  refine Jvm.W.newArray_of hkA hA hl1 hh1 (by omega) (by omega) rfl (fun acts' => ?_)
  have hfd : [k].find? (fun x => decide (x < 0)) = none := by simp [hk]
  simp only [hfd, ite_self, wp_bind', Std.Legacy.Range.forIn_eq_forIn_range', wp_pure']
  rw [mu_row_new cA n.toNatClampNeg U.heap.size]
  generalize hN : n.toNatClampNeg = N at *
  refine wp_forIn_inv (fun rest s' => ∃ i : Nat, i + rest.length = N ∧ rest = List.range' i rest.length ∧ s' = mu_st cA N z U i) _ _ ⟨0, ?_, ?_, rfl⟩ ?_ ?_
  · simp [Std.Legacy.Range.size]
  · simp [Std.Legacy.Range.size]
  · rintro x rest s' d' a1 Q' ⟨i, hi, hr, rfl⟩ hQ
    rw [List.length_cons] at hi hr
    rw [List.range'_succ] at hr
    obtain ⟨rfl, hr2⟩ := List.cons.inj hr
    have hmul : x * k.toNatClampNeg + k.toNatClampNeg ≤ N * k.toNatClampNeg := by rw [← Nat.succ_mul]; exact Nat.mul_le_mul_right _ (by omega)
    simp only [wp_bind']
    refine mu_inner (U := mu_st cA N z U x) (by rw [mu_st_vm]; exact hkC) hC hk hl2 hh2 (by rw [mu_st_size]; omega) (by rw [mu_st_used, hzs]; omega) hdf (fun a2 => ?_)
    rw [hz]
    simp only [wp_bind', Jvm.W.writeLoc, wp_pure']
    refine ⟨mu_row cA N U.heap.size x, ?_, (fun h => by cases h), ?_, ?_, ?_⟩
    · show ((mu_st cA N z U x).heap.push z)[U.heap.size]? = _
      rw [Array.getElem?_push, if_neg (by rw [mu_st_size]; omega)]
      exact mu_st_row cA N z U x
    · rw [mu_row, arrV_size]
      omega
    · have hst : ((mu_st cA N z U x).pushCell z).slotType? cA .none x = some (.array ty) := by simp [State.slotType?, mu_st_vm, hkA, hA]
      show ((mu_st cA N z U x).pushCell z).fitsSlot cA .none x _ = true
      unfold State.fitsSlot
      rw [hst]
      rfl
    · rw [mu_st_size, mu_row_put]
      exact hQ _ _ _ ⟨x + 1, by omega, hr2, rfl⟩
  · rintro s' d' a1 ⟨i, hi, -, rfl⟩
    have e : i = N := by simpa using hi
    rw [e]
    exact hq _ _
/-- the instruction, its class resolved -/
theorem mu_sem {s : State} {f : JFrame} {index : Nat} {cA comp c2 : ClassId} {kA kC : Class} {ty : FieldType} {n k : Int32} {rest : List Value} {Q : Unit → Pre} (hs : s.topJava?.isSome) (hr : s.vm.classReady f.method.cls index cA) (hkA : s.vm.classes[cA]? = some kA) (hA : kA.kind = .array comp (.array ty)) (hkC : s.vm.classes[comp]? = some kC) (hC : kC.kind = .array c2 ty) (hstack : f.stack = .int k :: .int n :: rest) (hn : ¬ n < 0) (hk : ¬ k < 0)
    (hl1 : ¬ n.toNatClampNeg > e.platform.arrayLengthLimit) (hl2 : ¬ k.toNatClampNeg > e.platform.arrayLengthLimit) (hh1 : ¬ n.toNatClampNeg * componentBytes (.array ty) > e.platform.maxHeapBytes) (hh2 : ¬ k.toNatClampNeg * componentBytes ty > e.platform.maxHeapBytes)
    (hcells : s.heap.size + (1 + n.toNatClampNeg) ≤ e.platform.maxCells) (hslots : s.slotsUsed + (n.toNatClampNeg + n.toNatClampNeg * k.toNatClampNeg) ≤ e.platform.maxSlots) (hdf : fits ty (defaultValue ty) = true)
    (hq : ∀ d' acts', Q () d' acts' ((mu_st cA n.toNatClampNeg { cls := comp, slots := Array.replicate k.toNatClampNeg (defaultValue ty), vm := .none } s n.toNatClampNeg).setTop { f with stack := .ref s.heap.size :: rest })) : wp (Jvm.Op.multianewarray.sem index 2) Q E e d acts (s.setTop f) := by
  simp only [Jvm.Op.multianewarray.sem, wp_bind', Jvm.W.resolveClassAt_ready (State.method?_setTop f hs) hr]
  refine (Jvm.Op.popN_top (args := [.int n, .int k]) (rest := rest) hs hstack).mpr ?_
  simp only [List.mapM_cons, List.mapM_nil, wp_bind', wp_pure']
  refine mu_make (U := s.setTop { f with stack := rest }) hkA hA hkC hC hn hk hl1 hl2 hh1 hh2 hcells hslots hdf (fun d' acts' => ?_)
  rw [mu_st_top]
  generalize hz : ({ cls := comp, slots := Array.replicate k.toNatClampNeg (defaultValue ty), vm := .none } : Cell) = z at hq ⊢
  have htj : (mu_st cA n.toNatClampNeg z s n.toNatClampNeg).topJava?.isSome := by rw [mu_st_tj]; exact hs
  simp only [wp_bind', Jvm.W.mark, Jvm.W.pushRef, State.topJava?_setTop' _ htj, Option.some.injEq, exists_eq_left', State.setTop_setTop]
  exact hq _ _
/-- resolved or not yet -/
theorem mu_cold {s : State} {f : JFrame} {index c : Nat} {vm' : Vm} {Q : Unit → Pre} (hs : s.topJava?.isSome) (hg : (Jvm.resolveClass f.method.cls index).Gives e.toSetting s.vm (.ok c) vm') (hr : vm'.classReady f.method.cls index c) (hsz : vm'.classes.size ≤ s.vm.classes.size) : wp (Jvm.Op.multianewarray.sem index 2) Q E e d acts ((s.setVm vm').setTop f) → wp (Jvm.Op.multianewarray.sem index 2) Q E e d acts (s.setTop f) := by
  simp only [Jvm.Op.multianewarray.sem, wp_bind']
  exact (Jvm.W.resolveClassAt_transfer (s := s.setTop f) (State.method?_setTop f hs) hg hr hsz).mpr
end MU1
section MU2
variable {p : Program} {l : Launch} {e : Env} {R : Room} {s : State} {m : MethodId} {args : Array Value} {below : List Frame} {meth : Method} {c : Code} {T : State} {locs : List Loc} {cells slots : Nat}
theorem mu_stand (X : Stand p l e R s m args below meth c T locs cells slots) (cA : ClassId) (N : Nat) (z : Cell) : ∀ i : Nat, Stand p l e R s m args below meth c (mu_st cA N z T i) locs (cells + 1 + i) (slots + N + i * z.slots.size)
  | 0 => by
    have h := X.pushed (mu_row cA N T.heap.size 0)
    rw [mu_row, arrV_size] at h
    rw [Nat.zero_mul]
    exact h
  | i + 1 => by
    have h := ((mu_stand X cA N z i).pushed z).stored (a := T.heap.size) (cell := mu_row cA N T.heap.size i) (by
      show ((mu_st cA N z T i).heap.push z)[T.heap.size]? = _
      rw [Array.getElem?_push, if_neg (by rw [mu_st_size]; omega)]
      exact mu_st_row cA N z T i) i (.ref (T.heap.size + 1 + i))
    rw [mu_row_put] at h
    have h2 := h.dropFresh (fun x hx => by rw [List.mem_singleton.mp hx]; exact X.heapGrown)
    rw [Nat.succ_mul, ← Nat.add_assoc (slots + N)]
    exact h2
/-- the machine's step: new T[n][k] -/
theorem mu_new2 (X : Stand p l e R s m args below meth c T locs cells slots) (hexec : p.tables.exec = Jvm.exec) {own : String} {index : Nat} {ty : FieldType} (hown : s.vm.findClass own = some m.cls) (hclink : (Cond.classLink own index ("[" ++ (FieldType.array ty).toString)).before args s = true) (hover : (Cond.arrayOver (.array ty)).before args s = true) (harr : (Cond.arrayClass ty).before args s = true)
    {g : JFrame} (hg : g.method = m) (hdg : decode c.code g.pc = .ok (.multianewarray index 2, 4)) {n k : Int32} {rest : List Value} (hstack : g.stack = .int k :: .int n :: rest) (hn : ¬ n < 0) (hk : ¬ k < 0) (hb1 : n.toNatClampNeg * 4 ≤ 536870912) (hb2 : k.toNatClampNeg * componentBytes ty ≤ 536870912) (hb3 : k.toNatClampNeg ≤ 536870912) (hdf : fits ty (defaultValue ty) = true)
    (hcells : cells + (1 + n.toNatClampNeg) ≤ R.cells) (hslots : slots + (n.toNatClampNeg + n.toNatClampNeg * k.toNatClampNeg) ≤ R.slots) :
    ∃ (vm₁ : Vm) (cA comp : ClassId), s.vm.findClass ("[" ++ (FieldType.array ty).toString) = some cA ∧ s.vm.findClass (FieldType.array ty).toString = some comp ∧ ArrOfT s cA (.array ty) ∧
      Stand p l e R s m args below meth c (mu_st cA n.toNatClampNeg { cls := comp, slots := Array.replicate k.toNatClampNeg (defaultValue ty), vm := .none } (T.setVm vm₁) n.toNatClampNeg) locs (cells + 1 + n.toNatClampNeg) (slots + n.toNatClampNeg + n.toNatClampNeg * k.toNatClampNeg) ∧
      ∀ target, Steps p.tables e below ((mu_st cA n.toNatClampNeg { cls := comp, slots := Array.replicate k.toNatClampNeg (defaultValue ty), vm := .none } (T.setVm vm₁) n.toNatClampNeg).setTop { g with pc := g.pc + 4, stack := .ref T.heap.size :: rest }) target → Steps p.tables e below (T.setTop g) target := by
  subst hg
  obtain ⟨comp, cA, kA, o1, -, o3, o4, o5⟩ := mu_over hover
  obtain ⟨cB, kC, c2, a1, a2, a3⟩ := Cond.arrayClass_spec harr
  have ecB : some comp = some cB := o1.symm.trans a1
  cases ecB
  obtain ⟨cl, q1, q2⟩ := Cond.classLink_spec hown hclink e.platform (by rw [X.admits.platform])
  have ecl : some cA = some cl := o5.symm.trans q1
  cases ecl
  obtain ⟨w1, w2, w3⟩ := State.classEntry (e := e) X.warmed q2
  generalize T.vm.noted g.method.cls index (.cls cA) = vm₁ at w1 w2 w3
  have hal : s.vm.Alike vm₁ := w2.alike
  obtain ⟨kA1, b1, b2⟩ := hal.2.2 _ _ o3
  obtain ⟨kC1, b3, b4⟩ := hal.2.2 _ _ a2
  have hA1 : kA1.kind = .array comp (.array ty) := by rw [b2]; exact o4
  have hC1 : kC1.kind = .array c2 ty := by rw [b4]; exact a3
  obtain ⟨r1, r2⟩ := X.roomAbove hcells hslots
  have X1 := mu_stand (X.noted w2) cA n.toNatClampNeg { cls := comp, slots := Array.replicate k.toNatClampNeg (defaultValue ty), vm := .none } n.toNatClampNeg
  refine ⟨vm₁, cA, comp, o5, o1, fun N9 z9 => ⟨fun q hq => (by cases hq), kA, o3, comp, o4⟩, by simpa using X1, fun target ht => ?_⟩
  refine Steps.instr (c := c) X.here ?_
  rw [hdg]
  show wpRun (p.tables.exec (.multianewarray index 2)) _ _ e (T.setTop g)
  rw [hexec]
  show wp (Jvm.Op.multianewarray.sem index 2) _ _ e false [] (T.setTop g)
  refine mu_cold X.here.top w1 w3 (by no_record) ?_
  refine mu_sem (s := T.setVm vm₁) X.here.top w3 b1 hA1 b3 hC1 hstack hn hk ?_ ?_ ?_ ?_ r1 r2 hdf (fun d' a' acts => ?_)
  · rw [Launch.admits_arrayLengthLimit X.admits]; omega
  · rw [Launch.admits_arrayLengthLimit X.admits]; omega
  · rw [Launch.admits_maxHeapBytes X.admits]; show ¬ n.toNatClampNeg * 4 > 536870912; omega
  · rw [Launch.admits_maxHeapBytes X.admits]; omega
  · rw [afterInstr_ok]
    exact ht
end MU2
