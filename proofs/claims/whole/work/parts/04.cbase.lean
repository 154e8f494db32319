/-! ===== BEGIN new T[n][m]: the outer array a place, the inner ones among the pooled ===== -/
/-- f, but v at every address of l -/
def vr_up {α : Type} (f : Nat → α) (l : List Nat) (v : α) : Nat → α := fun a => if a ∈ l then v else f a
theorem vr_up_in {α : Type} {f : Nat → α} {l : List Nat} {v : α} {a : Nat} (h : a ∈ l) : vr_up f l v a = v := if_pos h
theorem vr_up_ne {α : Type} {f : Nat → α} {l : List Nat} {v : α} {a : Nat} (h : a ∉ l) : vr_up f l v a = f a := if_neg h
theorem vr_rows {L l : List Nat} {f : Nat → va_E} {e : va_E} (h : ∀ a, a ∈ l → a ∉ L) : va_pl L f ++ l.map (fun a => (a, e)) = va_pl (L ++ l) (vr_up f l e) := by
  unfold va_pl
  rw [List.map_append]
  congr 1
  · apply List.map_congr_left
    intro a ha
    rw [vr_up_ne (fun q => h a q ha)]
  · apply List.map_congr_left
    intro a ha
    rw [vr_up_in ha]
theorem vr_lay {X rows : va_W} {x : Nat × va_E} {pl : va_W} {D : va_G} {cl : List vw_C} {H : Heap} (hP : va_P D cl (((X ++ pl) ++ [x]) ++ rows) H) : va_P D cl ((X ++ [x]) ++ (pl ++ rows)) H := by
  rw [List.append_assoc (X ++ pl)] at hP
  have h := va_P.swap hP
  rw [← List.append_assoc X] at h
  have h2 := va_P.swap h
  rw [List.append_assoc (X ++ [x])] at h2
  exact h2
theorem vr_layD {X rows : va_W} {x : Nat × va_E} {pl : va_W} {A : Nat → Prop} (hD : va_D A (((X ++ pl) ++ [x]) ++ rows)) : va_D A ((X ++ [x]) ++ (pl ++ rows)) := by
  rw [List.append_assoc (X ++ pl)] at hD
  have h := va_D.swap hD
  rw [← List.append_assoc X] at h
  have h2 := va_D.swap h
  rw [List.append_assoc (X ++ [x])] at h2
  exact h2
section VGM
variable {p : Program} {l : Launch} {e : Env} {R : Room} {s : State} {m : MethodId} {args : Array Value} {below : List Frame} {meth : Method} {c : Code} {H : Heap} {locs : List Loc} {cells slots : Nat} {Q : State → Prop}
variable {cc : ByteArray} {pc : Nat} {ls : Array Slot} {rest : List Value} {D : va_G} {cl : List vw_C} {A : Nat → Prop} {a : Nat} {tys : List (ClassId × FieldType)} {ws : va_W} {H0 : Heap}
theorem va_mna {X : va_W} {L : List Nat} {f : Nat → va_E} {cc : ByteArray} (hexec : p.tables.exec = Jvm.exec) (hb : c.code = cc) {own : String} {index : Nat} {ty : FieldType} {cy : ClassId} (hown : s.vm.findClass own = some m.cls) (hclink : (Cond.classLink own index ("[" ++ (FieldType.array ty).toString)).before args s = true) (hover : va_AOA ty s) (harr : (Cond.arrayClass ty).before args s = true) (hcy : s.vm.findClass (FieldType.array ty).toString = some cy)
    (hK : va_K D cl tys s) (hP : va_P D cl (X ++ va_pl L f) H) (hD : va_D A (X ++ va_pl L f)) (hS : va_S A H0 H locs) (hA : ∀ q, H0.size ≤ q → A q) {n k : Int32} {N' K' : Nat} {z : vp_A} (hn : ¬ n < 0) (hk : ¬ k < 0) (hN : n.toNatClampNeg = N') (hM : k.toNatClampNeg = K')
    (hb1 : N' * 4 ≤ 536870912) (hb2 : K' * componentBytes ty ≤ 536870912) (hb3 : K' ≤ 536870912) (hdf : fits ty (defaultValue ty) = true) (hdd : (defaultValue ty).isDefault = true) (hcells : cells + (1 + N') ≤ R.cells) (hslots : slots + (N' + N' * K') ≤ R.slots) (hz : ∀ c : ClassId, ({ cls := c, slots := Array.replicate K' (defaultValue ty), vm := .none } : Cell) = vp_cell c z) (hdg : decode cc pc = .ok (.multianewarray index 2, 4))
    (kk : ∀ (q : Nat) (r : Nat → Nat) (cA : ClassId) (H1 : Heap), (∀ i j : Nat, i < N' → j < N' → r i = r j → i = j) → (∀ i : Nat, i < N' → r i ∉ L) → va_K D cl (tys ++ [(cA, .array ty)]) s →
      va_P D cl ((X ++ [(q, .inl (cA, N', .inr (.inr (.inr (.inr (fun i => if i < N' then some (r i) else none))))))]) ++ va_pl (L ++ (List.range N').map r) (vr_up f ((List.range N').map r) (.inl (cy, z)))) H1 → va_D A ((X ++ [(q, .inl (cA, N', .inr (.inr (.inr (.inr (fun i => if i < N' then some (r i) else none))))))]) ++ va_pl (L ++ (List.range N').map r) (vr_up f ((List.range N').map r) (.inl (cy, z)))) → va_S A H0 H1 locs →
      W p l e R s m args below meth c H1 locs (cells + 1 + N') (slots + N' + N' * K') Q (F0 m (pc + 4) ls (.ref q :: rest))) : W p l e R s m args below meth c H locs cells slots Q (F0 m pc ls (.int k :: .int n :: rest)) := by
  subst hN
  subst hM
  intro T hT Xs
  obtain ⟨vm₁, cA, comp, fA, fC, hAr, X', step⟩ := mu_new2 Xs hexec hown hclink (va_AOA.use hover) harr (g := F0 m pc ls (.int k :: .int n :: rest)) rfl (by rw [hb]; exact hdg) rfl hn hk hb1 hb2 hb3 hdf hcells hslots
  have ec : some cy = some comp := hcy.symm.trans fC
  cases ec
  rw [hz cy] at X' step
  have hTh : (T.setVm vm₁).heap = H := hT
  have f1 := mu_st_size cA n.toNatClampNeg (vp_cell cy z) (T.setVm vm₁) n.toNatClampNeg
  have f2 := mu_st_row cA n.toNatClampNeg (vp_cell cy z) (T.setVm vm₁) n.toNatClampNeg
  have hold : ∀ x : Nat, x < H.size → (mu_st cA n.toNatClampNeg (vp_cell cy z) (T.setVm vm₁) n.toNatClampNeg).heap[x]? = H[x]? := fun x hx => (mu_st_old cA n.toNatClampNeg (vp_cell cy z) (T.setVm vm₁) (by rw [hTh]; exact hx) n.toNatClampNeg).trans (by rw [hTh])
  have hrow : ∀ j : Nat, j < n.toNatClampNeg → (mu_st cA n.toNatClampNeg (vp_cell cy z) (T.setVm vm₁) n.toNatClampNeg).heap[H.size + 1 + j]? = some (vp_cell cy z) := fun j hj => by
    have h9 := mu_st_in cA n.toNatClampNeg (vp_cell cy z) (T.setVm vm₁) n.toNatClampNeg j hj
    rw [hTh] at h9
    exact h9
  rw [hTh] at f1 f2
  generalize mu_st cA n.toNatClampNeg (vp_cell cy z) (T.setVm vm₁) n.toNatClampNeg = F at X' step f1 f2 hold hrow
  have hout : mu_row cA n.toNatClampNeg H.size n.toNatClampNeg = vp_cell cA (n.toNatClampNeg, .inr (.inr (.inr (.inr (fun i => if i < n.toNatClampNeg then some (H.size + 1 + i) else none))))) := (vp_cell_q cA _ _).symm
  rw [hout] at f2
  have hlt : ∀ a, a ∈ L → a < H.size := fun a ha => by
    obtain ⟨k9, hk9⟩ := va_pl_get (X := X) (f := f) ha
    exact (hP k9 _ hk9).lt
  have hnl : ∀ i : Nat, i < n.toNatClampNeg → H.size + 1 + i ∉ L := fun i _ h => by
    have := hlt _ h
    omega
  have hnm : ∀ a, a ∈ (List.range n.toNatClampNeg).map (fun i => H.size + 1 + i) → a ∉ L := fun a ha h => by
    obtain ⟨i, -, rfl⟩ := List.mem_map.mp ha
    have := hlt _ h
    omega
  have hP0 : va_P D cl (X ++ va_pl L f) F.heap := hP.kept (fun k9 x hx => hold x.1 ((hP k9 x hx).lt))
  have hP1 : va_P D cl ((X ++ va_pl L f) ++ [(H.size, .inl (cA, n.toNatClampNeg, .inr (.inr (.inr (.inr (fun i => if i < n.toNatClampNeg then some (H.size + 1 + i) else none))))))]) F.heap := hP0.app (fun k9 x hx => by
    have h0 : k9 < 1 := (List.getElem?_eq_some_iff.mp hx).1
    rw [show k9 = 0 by omega] at hx
    cases hx
    exact f2)
  have hP2 : va_P D cl (((X ++ va_pl L f) ++ [(H.size, .inl (cA, n.toNatClampNeg, .inr (.inr (.inr (.inr (fun i => if i < n.toNatClampNeg then some (H.size + 1 + i) else none))))))]) ++ ((List.range n.toNatClampNeg).map (fun i => H.size + 1 + i)).map (fun a => (a, .inl (cy, z)))) F.heap := hP1.app (fun k9 x hx => by
    obtain ⟨a, ha, rfl⟩ := List.mem_map.mp (List.mem_of_getElem? hx)
    obtain ⟨i, hi, rfl⟩ := List.mem_map.mp ha
    exact hrow i (List.mem_range.mp hi))
  have hD2 : va_D A (((X ++ va_pl L f) ++ [(H.size, .inl (cA, n.toNatClampNeg, .inr (.inr (.inr (.inr (fun i => if i < n.toNatClampNeg then some (H.size + 1 + i) else none))))))]) ++ ((List.range n.toNatClampNeg).map (fun i => H.size + 1 + i)).map (fun a => (a, .inl (cy, z)))) := by
    have hD1 := hD.push (e := .inl (cA, n.toNatClampNeg, .inr (.inr (.inr (.inr (fun i => if i < n.toNatClampNeg then some (H.size + 1 + i) else none)))))) hP rfl (hA _ hS.1)
    generalize hW1 : (X ++ va_pl L f) ++ [(H.size, .inl (cA, n.toNatClampNeg, .inr (.inr (.inr (.inr (fun i => if i < n.toNatClampNeg then some (H.size + 1 + i) else none))))))] = W1 at hD1 hP1 ⊢
    have hle : ∀ (k9 : Nat) (x : Nat × va_E), W1[k9]? = some x → x.1 ≤ H.size := fun k9 x hx => by
      rw [← hW1] at hx
      by_cases hl : k9 < (X ++ va_pl L f).length
      · rw [List.getElem?_append_left hl] at hx
        exact Nat.le_of_lt ((hP k9 x hx).lt)
      · rw [List.getElem?_append_right (by omega)] at hx
        have h0 : k9 - (X ++ va_pl L f).length < 1 := (List.getElem?_eq_some_iff.mp hx).1
        rw [show k9 - (X ++ va_pl L f).length = 0 by omega] at hx
        cases hx
        exact Nat.le_refl _
    have hr : ∀ (k9 : Nat) (x : Nat × va_E), (((List.range n.toNatClampNeg).map (fun i => H.size + 1 + i)).map (fun a => ((a, .inl (cy, z)) : Nat × va_E)))[k9]? = some x → x.1 = H.size + 1 + k9 := fun k9 x hx => by
      rw [List.getElem?_map, List.getElem?_map] at hx
      by_cases h9 : k9 < n.toNatClampNeg
      · rw [List.getElem?_range h9] at hx
        cases hx
        rfl
      · have hn0 : (List.range n.toNatClampNeg)[k9]? = none := List.getElem?_eq_none (by rw [List.length_range]; omega)
        rw [hn0] at hx
        cases hx
    refine ⟨fun i j x y hi hj hxy => ?_, fun k9 x hx => ?_⟩
    · by_cases h1 : i < W1.length <;> by_cases h2 : j < W1.length
      · rw [List.getElem?_append_left h1] at hi
        rw [List.getElem?_append_left h2] at hj
        exact hD1.1 i j x y hi hj hxy
      · rw [List.getElem?_append_left h1] at hi
        rw [List.getElem?_append_right (by omega)] at hj
        have := hle _ _ hi
        have := hr _ _ hj
        omega
      · rw [List.getElem?_append_right (by omega)] at hi
        rw [List.getElem?_append_left h2] at hj
        have := hle _ _ hj
        have := hr _ _ hi
        omega
      · rw [List.getElem?_append_right (by omega)] at hi hj
        have := hr _ _ hi
        have := hr _ _ hj
        omega
    · by_cases h1 : k9 < W1.length
      · rw [List.getElem?_append_left h1] at hx
        exact hD1.2 k9 x hx
      · rw [List.getElem?_append_right (by omega)] at hx
        have := hr _ _ hx
        exact hA _ (by have := hS.1; omega)
  have hK2 : va_K D cl (tys ++ [(cA, .array ty)]) s := ⟨hK.1, fun k9 x hx => by
    by_cases hl : k9 < tys.length
    · rw [List.getElem?_append_left hl] at hx
      exact hK.2 k9 x hx
    · rw [List.getElem?_append_right (by omega)] at hx
      have h0 : k9 - tys.length < 1 := (List.getElem?_eq_some_iff.mp hx).1
      rw [show k9 - tys.length = 0 by omega] at hx
      cases hx
      exact ⟨hAr, fA⟩⟩
  obtain ⟨t, a1, b1⟩ := kk H.size (fun i => H.size + 1 + i) cA F.heap (fun i j _ _ h => by have h9 : H.size + 1 + i = H.size + 1 + j := h; omega) hnl hK2 (by rw [← vr_rows hnm]; exact vr_lay hP2) (by rw [← vr_rows hnm]; exact vr_layD hD2) ⟨by rw [f1]; have := hS.1; omega, fun x h1 h2 => (hold x (Nat.lt_of_lt_of_le h1 hS.1)).trans (hS.2.1 x h1 h2), hS.2.2⟩ F rfl X'
  refine ⟨t, step t ?_, b1⟩
  have e : T.heap.size = H.size := by rw [hT]
  rw [e]
  exact a1
end VGM
/-! ===== END ===== -/
/-! rows for constructors: what makes cells -/
def cQn {S : Type} (D : va_G) (ws : va_W) (sz : Nat) (ws' : S → va_W) : Array Value → State → Outcome → State → Prop := va_Qv (fun (_ : S) => True) (fun u t => va_P D vwCl (ws' u) t.heap ∧ va_D (va_A ws sz) (ws' u)) (va_A ws sz)
theorem met_ofI {l : Launch} {y : MethodName} {w w' : List Cond} {rm : Room} {cc : ByteArray} {nL : Nat} {ret : Option FieldType} {own : String} {D : va_G} {k : Nat → ClassId} {av : List Value} {ws : va_W} {sz mc ms : Nat} {Qc : Array Value → State → Outcome → State → Prop} (lv : List (Nat × Value)) (hy : plainName y.cls = true) (hw : w = Cond.code y cc nL ret :: w') (ho : y.cls = own) (hn : y.name = "<init>") (hfit : (lg_sl av).length ≤ nL) (hlv : lv_args 0 av = lv)
    (body : ∀ (p : Program) (e : Env) (s : State) (m : MethodId) (args : Array Value) (below : List Frame) (meth : Method) (c : Code) (A : Nat → Prop), A = va_A ws sz → s.heap.size = sz → CX p s m args meth c cc w own nL D k A ret → meth.name = "<init>" → GG p l e rm s m args below meth c (MQ below Qc args s mc ms A) D A nL 0 0 0 lv [] ws) :
    Met l y w rm (cPre D k av ws sz) Qc mc ms (va_A ws sz) := by
  refine Met.ofW (cc := cc) (maxL := nL) (ret := ret) hy hw ?_
  intro p e s m args below meth c s₁ B hml hv
  obtain ⟨rfl, hsz, hP, hK, hD0, hN⟩ := hv
  have hl := lv_entry av (n := nL) hfit
  rw [lg_entry_eq]
  generalize (lg_sl av ++ List.replicate (nL - (lg_sl av).length) Slot.unset).toArray = ls at hl ⊢
  rw [hlv] at hl
  exact body p e s m _ below meth c (va_A ws sz) rfl hsz ⟨B.exec, B.bytes, atoms_spec (ws := w) B.pre, by rw [← ho]; exact findClass_of_methodNamed B.named, hK, hml, B.returns, B.notSynchronized, fun q h => Or.inr (hsz ▸ h), hN⟩ ((name_of_methodNamed B.named B.method).1.trans hn) s.heap [] ls hP (hD0.self) va_S.rf hl
section GN
variable {p : Program} {l : Launch} {e : Env} {R : Room} {s : State} {m : MethodId} {args : Array Value} {below : List Frame} {meth : Method} {c : Code} {Q : State → Prop} {D : va_G} {A : Nat → Prop} {nL cells slots : Nat} {lv lv' : List (Nat × Value)} {rest : List Value} {ws ws' : va_W} {cc : ByteArray} {Ts : List Cond} {own : String} {k : Nat → ClassId} {ret : Option FieldType}
theorem g_objInit (pc : Nat) (C : CX p s m args meth c cc Ts own nL D k A ret) {idx a : Nat} (h1 : Cond.methodLink own idx objectInit ∈ Ts) (h2 : Cond.instanceMethod objectInit ∈ Ts) (h3 : Cond.code objectInit ⟨#[0xb1]⟩ 1 none ∈ Ts) (hfr : 1 ≤ R.frames) (hlo : (rest.map fun v => v.category).sum + 12 ≤ R.locals) (hd : decode cc pc = .ok (.invokespecial idx, 3)) (kk : GG p l e R s m args below meth c Q D A nL cells slots (pc + 3) lv rest ws) : GG p l e R s m args below meth c Q D A nL cells slots pc lv (.ref a :: rest) ws :=
  fun H locs ls hP hD hS hl => W.objInit C.1 C.2.1 C.2.2.2.1 (C.2.2.1 _ h1) (C.2.2.1 _ h2) (C.2.2.1 _ h3) (g := F0 m pc ls (.ref a :: rest)) rfl (by rw [C.2.2.2.2.2.1]; exact hl.1) rfl hd hfr (by show 2 * 0 + _ + 12 ≤ _; omega) (kk H locs ls hP hD hS hl)
theorem g_newaI (pc : Nat) (C : CX p s m args meth c cc Ts own nL D k A ret) {n : Int32} (N : Nat) (harr : Cond.arrayClass .int ∈ Ts) (hn : ¬ n < 0) (hN : n.toNatClampNeg = N) (hbt : N * componentBytes .int ≤ 536870912) (hce : cells + 1 ≤ R.cells) (hsl : slots + N ≤ R.slots) (hd : decode cc pc = .ok (.newarray .int, 2)) (kk : ∀ q : Nat, GG p l e R s m args below meth c Q D A nL (cells + 1) (slots + N) (pc + 2) lv (.ref q :: rest) (ws ++ [(q, .inl (k 0, N, .inl (fun _ => 0)))])) : GG p l e R s m args below meth c Q D A nL cells slots pc lv (.int n :: rest) ws := by
  intro H locs ls hP hD hS hl
  refine va_newa (atype := .int) (ty := .int) (a0 := (N, .inl (fun _ => 0))) C.1 C.2.1 (C.2.2.1 _ harr) rfl C.2.2.2.2.1 hP hD hS C.2.2.2.2.2.2.2.2.1 (fun cA => rfl) hn hN hbt hce hsl hd (fun q cA H1 hK1 hP1 hD1 hS1 => ?_)
  have e1 : s.vm.findClass ("[" ++ (FieldType.toString .int)) = some cA := (hK1.2 6 (cA, .int) rfl).2
  have e2 : s.vm.findClass ("[" ++ (FieldType.toString .int)) = some (k 0) := (C.2.2.2.2.1.2 0 (k 0, .int) rfl).2
  have e3 : cA = k 0 := Option.some.inj (e1.symm.trans e2)
  subst e3
  exact kk q H1 locs ls hP1 hD1 hS1 hl
theorem g_newaJ (pc : Nat) (C : CX p s m args meth c cc Ts own nL D k A ret) {n : Int32} (N : Nat) (harr : Cond.arrayClass .long ∈ Ts) (hn : ¬ n < 0) (hN : n.toNatClampNeg = N) (hbt : N * componentBytes .long ≤ 536870912) (hce : cells + 1 ≤ R.cells) (hsl : slots + N ≤ R.slots) (hd : decode cc pc = .ok (.newarray .long, 2)) (kk : ∀ q : Nat, GG p l e R s m args below meth c Q D A nL (cells + 1) (slots + N) (pc + 2) lv (.ref q :: rest) (ws ++ [(q, .inl (k 1, N, .inr (.inl (fun _ => 0))))])) : GG p l e R s m args below meth c Q D A nL cells slots pc lv (.int n :: rest) ws := by
  intro H locs ls hP hD hS hl
  refine va_newa (atype := .long) (ty := .long) (a0 := (N, .inr (.inl (fun _ => 0)))) C.1 C.2.1 (C.2.2.1 _ harr) rfl C.2.2.2.2.1 hP hD hS C.2.2.2.2.2.2.2.2.1 (fun cA => rfl) hn hN hbt hce hsl hd (fun q cA H1 hK1 hP1 hD1 hS1 => ?_)
  have e1 : s.vm.findClass ("[" ++ (FieldType.toString .long)) = some cA := (hK1.2 6 (cA, .long) rfl).2
  have e2 : s.vm.findClass ("[" ++ (FieldType.toString .long)) = some (k 1) := (C.2.2.2.2.1.2 1 (k 1, .long) rfl).2
  have e3 : cA = k 1 := Option.some.inj (e1.symm.trans e2)
  subst e3
  exact kk q H1 locs ls hP1 hD1 hS1 hl
theorem g_newaB (pc : Nat) (C : CX p s m args meth c cc Ts own nL D k A ret) {n : Int32} (N : Nat) (harr : Cond.arrayClass .byte ∈ Ts) (hn : ¬ n < 0) (hN : n.toNatClampNeg = N) (hbt : N * componentBytes .byte ≤ 536870912) (hce : cells + 1 ≤ R.cells) (hsl : slots + N ≤ R.slots) (hd : decode cc pc = .ok (.newarray .byte, 2)) (kk : ∀ q : Nat, GG p l e R s m args below meth c Q D A nL (cells + 1) (slots + N) (pc + 2) lv (.ref q :: rest) (ws ++ [(q, .inl (k 2, N, .inl (fun _ => 0)))])) : GG p l e R s m args below meth c Q D A nL cells slots pc lv (.int n :: rest) ws := by
  intro H locs ls hP hD hS hl
  refine va_newa (atype := .byte) (ty := .byte) (a0 := (N, .inl (fun _ => 0))) C.1 C.2.1 (C.2.2.1 _ harr) rfl C.2.2.2.2.1 hP hD hS C.2.2.2.2.2.2.2.2.1 (fun cA => rfl) hn hN hbt hce hsl hd (fun q cA H1 hK1 hP1 hD1 hS1 => ?_)
  have e1 : s.vm.findClass ("[" ++ (FieldType.toString .byte)) = some cA := (hK1.2 6 (cA, .byte) rfl).2
  have e2 : s.vm.findClass ("[" ++ (FieldType.toString .byte)) = some (k 2) := (C.2.2.2.2.1.2 2 (k 2, .byte) rfl).2
  have e3 : cA = k 2 := Option.some.inj (e1.symm.trans e2)
  subst e3
  exact kk q H1 locs ls hP1 hD1 hS1 hl
theorem g_newaZ (pc : Nat) (C : CX p s m args meth c cc Ts own nL D k A ret) {n : Int32} (N : Nat) (harr : Cond.arrayClass .boolean ∈ Ts) (hn : ¬ n < 0) (hN : n.toNatClampNeg = N) (hbt : N * componentBytes .boolean ≤ 536870912) (hce : cells + 1 ≤ R.cells) (hsl : slots + N ≤ R.slots) (hd : decode cc pc = .ok (.newarray .boolean, 2)) (kk : ∀ q : Nat, GG p l e R s m args below meth c Q D A nL (cells + 1) (slots + N) (pc + 2) lv (.ref q :: rest) (ws ++ [(q, .inl (k 3, N, .inl (fun _ => 0)))])) : GG p l e R s m args below meth c Q D A nL cells slots pc lv (.int n :: rest) ws := by
  intro H locs ls hP hD hS hl
  refine va_newa (atype := .boolean) (ty := .boolean) (a0 := (N, .inl (fun _ => 0))) C.1 C.2.1 (C.2.2.1 _ harr) rfl C.2.2.2.2.1 hP hD hS C.2.2.2.2.2.2.2.2.1 (fun cA => rfl) hn hN hbt hce hsl hd (fun q cA H1 hK1 hP1 hD1 hS1 => ?_)
  have e1 : s.vm.findClass ("[" ++ (FieldType.toString .boolean)) = some cA := (hK1.2 6 (cA, .boolean) rfl).2
  have e2 : s.vm.findClass ("[" ++ (FieldType.toString .boolean)) = some (k 3) := (C.2.2.2.2.1.2 3 (k 3, .boolean) rfl).2
  have e3 : cA = k 3 := Option.some.inj (e1.symm.trans e2)
  subst e3
  exact kk q H1 locs ls hP1 hD1 hS1 hl
theorem g_newo (pc : Nat) (C : CX p s m args meth c cc Ts own nL D k A ret) {Cn : String} {T : u_T} {N ci index : Nat} (fs : List Value) (hin : ∀ w ∈ u_ws Cn T N, w ∈ Ts) (ty : Nat → FieldType) (hty : ∀ k, k < N → parseFieldDescriptor (T k).2.2.1 = some (ty k)) (h1 : Cond.classLink own index Cn ∈ Ts) (h2 : Cond.instantiable Cn N ∈ Ts) (h3 : Cond.initialized Cn ∈ Ts) (hc : vwCl[ci]? = some (Cn, T, N)) (hfs : ∀ j, j < N → defaultValue (ty j) = vp_V fs j) (hce : cells + 1 ≤ R.cells) (hsl : slots + N ≤ R.slots) (hd : decode cc pc = .ok (.new index, 3)) (kk : ∀ q : Nat, GG p l e R s m args below meth c Q D A nL (cells + 1) (slots + N) (pc + 3) lv (.ref q :: rest) (ws ++ [(q, .inr (ci, fs))])) : GG p l e R s m args below meth c Q D A nL cells slots pc lv rest ws :=
  fun H locs ls hP hD hS hl => va_new C.1 C.2.1 C.2.2.1 hin ty hty C.2.2.2.1 (C.2.2.1 _ h1) (C.2.2.1 _ h2) (C.2.2.1 _ h3) C.2.2.2.2.1 hP hD hS C.2.2.2.2.2.2.2.2.1 hc hfs hce hsl hd (fun q H1 hP1 hD1 hS1 => kk q H1 locs ls hP1 hD1 hS1 hl)
theorem g_putF (pc : Nat) (C : CX p s m args meth c cc Ts own nL D k A ret) (hin2 : meth.name = "<init>") {ref Cn : String} {T : u_T} {N ci index a : Nat} {fs : List Value} {v : Value} {ty : FieldType} (ws' : va_W) (hin : ∀ w ∈ u_ws Cn T N, w ∈ Ts) (ty0 : Nat → FieldType) (hty : ∀ k, k < N → parseFieldDescriptor (T k).2.2.1 = some (ty0 k)) (hnm : ∀ a, a < N → ∀ b, b < N → a ≠ b → (T a).2.1 ≠ (T b).2.1) (q0 j : Nat) (he : ws[q0]? = some (a, .inr (ci, fs))) (hc : vwCl[ci]? = some (Cn, T, N)) (hk : j < N) (hlink : Cond.fieldLink own index ref (T j).2.1 (T j).2.2.1 ∈ Ts) (hsame : (T j).1 = ref) (hfin : (T j).2.2.2 = true) (hdecl : (T j).1 = own) (hdt : parseFieldDescriptor (T j).2.2.1 = some ty) (hn : narrow ty v = v) (hfit : fits ty v = true) (hlen : j < fs.length) (hw : ws.set q0 (a, .inr (ci, fs.set j v)) = ws') (hd : decode cc pc = .ok (.putfield index, 3)) (kk : GG p l e R s m args below meth c Q D A nL cells slots (pc + 3) lv rest ws') : GG p l e R s m args below meth c Q D A nL cells slots pc lv (v :: .ref a :: rest) ws :=
  fun H locs ls hP hD hS hl => va_putF C.1 C.2.1 C.2.2.1 hin ty0 hty hnm C.2.2.2.1 C.2.2.2.2.1 hP hD hS q0 he hc j hk (C.2.2.1 _ hlink) (fun x h => by rw [← hsame]; exact h) hfin hin2 hdecl hdt hn hfit hlen hd (fun H1 locs1 hP1 hD1 hS1 => kk H1 locs1 ls (hw ▸ hP1) (hw ▸ hD1) hS1 hl)
theorem g_vretN {S : Type} (pc : Nat) {w0 : va_W} {sz : Nat} {ws' : S → va_W} (C : CX p s m args meth c cc Ts own nL D k A none) (hA : A = va_A w0 sz) (u : S) (hd : decode cc pc = .ok (.return_, 1)) (hw : ws = ws' u) : GG p l e R s m args below meth c (MQ below (cQn D w0 sz ws') args s cells slots A) D A nL cells slots pc lv [] ws :=
  fun H locs ls hP hD hS hl => W.vret C.1 C.2.1 C.2.2.2.2.2.2.1 (fun t ht hW => ⟨⟨u, rfl, trivial, by rw [← hw, ht]; exact hP, by rw [← hw, ← hA]; exact hD⟩, by rw [← hA]; exact hS.F ht⟩) hS.2.2 hd C.2.2.2.2.2.2.2.1
theorem g_callI {S : Type} (pc : Nat) (C : CX p s m args meth c cc Ts own nL D k A ret) {y : MethodName} {bytes : ByteArray} {maxL n index b mc ms : Nat} {wy wy' : List Cond} {rm : Room} {As : List Value} {wc : va_W} {wc' : S → va_W} (isC isR : List Nat) (hM : ∀ sz, Met l y wy rm (cPre D k (.ref b :: As) wc sz) (cQn D wc sz wc') mc ms (va_A wc sz)) (hG : GoodIn Ts wy) (hw0 : wy = Cond.code y bytes maxL none :: wy') (hlk : Cond.methodLink own index y ∈ Ts) (hi : Cond.instanceMethod y ∈ Ts) (hini : Cond.initialized y.cls ∈ Ts) (hy1 : y.name = "<init>") (hd0 : y.cls ≠ "java/lang/invoke/MethodHandle" ∧ y.cls ≠ "java/lang/invoke/VarHandle" ∧ (parseMethodDescriptor y.desc).map (fun d => d.parameters.length) = some n) (hn : As.length = n) (hR : rm.cells = mc ∧ rm.slots = ms ∧ rm.frames + 1 ≤ R.frames ∧ 8 + (maxL + 11) + rm.locals ≤ R.locals) (hst : (rest.map fun v => v.category).sum ≤ 8) (hcs : cells + mc ≤ R.cells ∧ slots + ms ≤ R.slots) (h1 : isC.map (fun i => ws[i]?) = wc.map some) (h2 : isR.map (fun i => ws[i]?) = (isR.filterMap (fun i => ws[i]?)).map some) (h3 : va_nd isC = true) (h4 : va_nd isR = true) (h6 : ∀ i ∈ isR, i ∉ isC) {st : List Value} (hsk : st = As.reverse ++ .ref b :: rest) (hd : decode cc pc = .ok (.invokespecial index, 3)) (kk : ∀ u : S, GG p l e R s m args below meth c Q D A nL (cells + mc) (slots + ms) (pc + 3) lv rest (isR.filterMap (fun i => ws[i]?) ++ wc' u)) : GG p l e R s m args below meth c Q D A nL cells slots pc lv st ws := by
  intro H locs ls hP hD hS hl
  have hF := va_free hD hS C.2.2.2.2.2.2.2.2.1 isC h1
  refine va_callv (va_runI (As := As) (rest := rest) ⟨C.1, C.2.1, C.2.2.2.2.2.1, C.2.2.2.1, C.2.2.1⟩ (hM H.size) (cwI n C.2.2.1 hG hw0 hR.1 hR.2.1 (C.2.2.1 _ hini) (C.2.2.1 _ hlk) (C.2.2.1 _ hi) hy1 hd0 ⟨hR.2.2.1, hR.2.2.2⟩) ⟨cPre_blind, fun U hU hW => ⟨rfl, by rw [hU], by rw [hU]; exact hP.sub isC (fm_of_map h1), va_K.moved hW.alike C.2.2.2.2.1, (hD.sub isC h3 h1).weaken (fun _ _ _ _ => trivial), C.2.2.2.2.2.2.2.2.2.call hW hU hS (va_free hD hS C.2.2.2.2.2.2.2.2.1 isC h1)⟩⟩ rfl hn hl.1 hsk (lv_room hst) hd hcs) hS (fun q _ h => hF q h) hF (fun u t H1 locs1 ht hvm hw hB hz1 hk1 hS1 => ?_)
  obtain ⟨hP1, hD1⟩ := hB
  rw [ht] at hP1
  obtain ⟨a, b⟩ := va_join hP hD isC isR h1 h2 h4 h6 hk1 hF hP1 hD1
  exact kk u H1 locs1 ls a b hS1 hl
theorem g_callIN {S : Type} (pc : Nat) (C : CX p s m args meth c cc Ts own nL D k A ret) {y : MethodName} {bytes : ByteArray} {maxL n index b mc ms : Nat} {wy wy' : List Cond} {rm : Room} {As : List Value} {wc : va_W} {wc' : S → va_W} (isC isR : List Nat) (hM : ∀ sz, Met l y wy rm (cPre D k (.ref b :: As) wc sz) (cQn D wc sz wc') mc ms (va_A wc sz)) (hG : GoodIn Ts wy) (hw0 : wy = Cond.code y bytes maxL none :: wy') {host : String} (hlk : va_Nw (.methodLinkNest own index y host) s) (hi : Cond.instanceMethod y ∈ Ts) (hini : Cond.initialized y.cls ∈ Ts) (hy1 : y.name = "<init>") (hd0 : y.cls ≠ "java/lang/invoke/MethodHandle" ∧ y.cls ≠ "java/lang/invoke/VarHandle" ∧ (parseMethodDescriptor y.desc).map (fun d => d.parameters.length) = some n) (hn : As.length = n) (hR : rm.cells = mc ∧ rm.slots = ms ∧ rm.frames + 1 ≤ R.frames ∧ 8 + (maxL + 11) + rm.locals ≤ R.locals) (hst : (rest.map fun v => v.category).sum ≤ 8) (hcs : cells + mc ≤ R.cells ∧ slots + ms ≤ R.slots) (h1 : isC.map (fun i => ws[i]?) = wc.map some) (h2 : isR.map (fun i => ws[i]?) = (isR.filterMap (fun i => ws[i]?)).map some) (h3 : va_nd isC = true) (h4 : va_nd isR = true) (h6 : ∀ i ∈ isR, i ∉ isC) {st : List Value} (hsk : st = As.reverse ++ .ref b :: rest) (hd : decode cc pc = .ok (.invokespecial index, 3)) (kk : ∀ u : S, GG p l e R s m args below meth c Q D A nL (cells + mc) (slots + ms) (pc + 3) lv rest (isR.filterMap (fun i => ws[i]?) ++ wc' u)) : GG p l e R s m args below meth c Q D A nL cells slots pc lv st ws := by
  intro H locs ls hP hD hS hl
  have hF := va_free hD hS C.2.2.2.2.2.2.2.2.1 isC h1
  refine va_callv (va_runIN (As := As) (rest := rest) ⟨C.1, C.2.1, C.2.2.2.2.2.1, C.2.2.2.1, C.2.2.1⟩ (hM H.size) ⟨va_cnB n C.2.2.1 hG hw0 hR.1 hR.2.1 hlk (C.2.2.1 _ hini) hd0 ⟨hR.2.2.1, hR.2.2.2⟩, hy1, C.2.2.1 _ hi⟩ ⟨cPre_blind, fun U hU hW => ⟨rfl, by rw [hU], by rw [hU]; exact hP.sub isC (fm_of_map h1), va_K.moved hW.alike C.2.2.2.2.1, (hD.sub isC h3 h1).weaken (fun _ _ _ _ => trivial), C.2.2.2.2.2.2.2.2.2.call hW hU hS (va_free hD hS C.2.2.2.2.2.2.2.2.1 isC h1)⟩⟩ rfl hn hl.1 hsk (lv_room hst) hd hcs) hS (fun q _ h => hF q h) hF (fun u t H1 locs1 ht hvm hw hB hz1 hk1 hS1 => ?_)
  obtain ⟨hP1, hD1⟩ := hB
  rw [ht] at hP1
  obtain ⟨a, b⟩ := va_join hP hD isC isR h1 h2 h4 h6 hk1 hF hP1 hD1
  exact kk u H1 locs1 ls a b hS1 hl
theorem GG.perm {pc : Nat} {st : List Value} (is : List Nat) (hn : va_nd is = true) (hs : is.map (fun i => ws[i]?) = ws'.map some) (kk : GG p l e R s m args below meth c Q D A nL cells slots pc lv st ws') : GG p l e R s m args below meth c Q D A nL cells slots pc lv st ws :=
  fun H locs ls hP hD hS hl => kk H locs ls (hP.sub is (fm_of_map hs)) (hD.sub is hn hs) hS hl
theorem GG.weq {pc : Nat} {st : List Value} (hw : ws = ws') (kk : GG p l e R s m args below meth c Q D A nL cells slots pc lv st ws') : GG p l e R s m args below meth c Q D A nL cells slots pc lv st ws := by rw [hw]; exact kk
theorem g_newq (pc : Nat) (C : CX p s m args meth c cc Ts own nL D k A ret) {n : Int32} {index : Nat} (N : Nat) (hcl : Cond.classLink own index "LinkDays$Sheet" ∈ Ts) (hn : ¬ n < 0) (hN : n.toNatClampNeg = N) (hbt : N * 4 ≤ 536870912) (hce : cells + 1 ≤ R.cells) (hsl : slots + N ≤ R.slots) (hd : decode cc pc = .ok (.anewarray index, 3)) (kk : ∀ q : Nat, GG p l e R s m args below meth c Q D A nL (cells + 1) (slots + N) (pc + 3) lv (.ref q :: rest) (ws ++ [(q, .inl (k 4, N, .inr (.inr (.inr (.inr (fun _ => none))))))])) : GG p l e R s m args below meth c Q D A nL cells slots pc lv (.int n :: rest) ws := by
  intro H locs ls hP hD hS hl
  refine va_newq C.1 C.2.1 C.2.2.2.1 (C.2.2.1 _ hcl) C.2.2.2.2.2.2.2.2.2.2.2.2.2.2.2.2.2.1 C.2.2.2.2.1 hP hD hS C.2.2.2.2.2.2.2.2.1 hn hN hbt hce hsl hd (fun q cA H1 hK1 hP1 hD1 hS1 => ?_)
  obtain ⟨kA1, comp1, -, -, -, e1⟩ := (hK1.2 6 (cA, .object "LinkDays$Sheet") rfl).2
  obtain ⟨kA2, comp2, -, -, -, e2⟩ := (C.2.2.2.2.1.2 4 (k 4, .object "LinkDays$Sheet") rfl).2
  have e3 : cA = k 4 := Option.some.inj (e1.symm.trans e2)
  subst e3
  exact kk q H1 locs ls hP1 hD1 hS1 hl
theorem g_astq (pc : Nat) (C : CX p s m args meth c cc Ts own nL D k A ret) {a v n : Nat} {f : Nat → Option Nat} {vs : List Value} {i : Int32} (ws' : va_W) (q0 qk : Nat) (ha : ws[q0]? = some (a, .inl (k 4, n, .inr (.inr (.inr (.inr f)))))) (hv : ws[qk]? = some (v, .inr (7, vs))) (hin : inb i n = true) (hw : ws.set q0 (a, .inl (k 4, n, .inr (.inr (.inr (.inr (va_up f i.toNatClampNeg (some v))))))) = ws') (hd : decode cc pc = .ok (.aastore, 1)) (kk : GG p l e R s m args below meth c Q D A nL cells slots (pc + 1) lv rest ws') : GG p l e R s m args below meth c Q D A nL cells slots pc lv (.ref v :: .int i :: .ref a :: rest) ws :=
  fun H locs ls hP hD hS hl => va_astq (r := (RX7, TX7, 4)) C.1 C.2.1 C.2.2.2.2.1 hP hD hS q0 4 qk 7 ha rfl hv rfl (inb_in hin) hd (fun H1 locs1 hP1 hD1 hS1 => kk H1 locs1 ls (hw ▸ hP1) (hw ▸ hD1) hS1 hl)
theorem g_mna (pc : Nat) (C : CX p s m args meth c cc Ts own nL D k A ret) {index : Nat} {n m2 : Int32} (N M : Nat) (hcl : Cond.classLink own index ("[" ++ (FieldType.array .int).toString) ∈ Ts) (harr : Cond.arrayClass .int ∈ Ts) (hn : ¬ n < 0) (hk : ¬ m2 < 0) (hN : n.toNatClampNeg = N) (hM : m2.toNatClampNeg = M) (hb1 : N * 4 ≤ 536870912) (hb2 : M * componentBytes .int ≤ 536870912) (hb3 : M ≤ 536870912) (hce : cells + (1 + N) ≤ R.cells) (hsl : slots + (N + N * M) ≤ R.slots) (hd : decode cc pc = .ok (.multianewarray index 2, 4)) (kk : ∀ (q : Nat) (r : Nat → Nat), GG p l e R s m args below meth c Q D A nL (cells + 1 + N) (slots + N + N * M) (pc + 4) lv (.ref q :: rest) ((ws ++ [(q, .inl (k 5, N, .inr (.inr (.inr (.inr (fun i => if i < N then some (r i) else none))))))]) ++ (List.range N).map (fun i => (r i, .inl (k 0, M, .inl (fun _ => 0)))))) : GG p l e R s m args below meth c Q D A nL cells slots pc lv (.int m2 :: .int n :: rest) ws := by
  intro H locs ls hP hD hS hl
  have e0 : s.vm.findClass (FieldType.array .int).toString = some (k 0) := (C.2.2.2.2.1.2 0 (k 0, .int) rfl).2
  have hw0 : ws ++ va_pl [] (fun _ => .inl (k 0, M, .inl (fun _ => 0))) = ws := by simp [va_pl]
  refine va_mna (ty := .int) (X := ws) (L := []) (f := fun _ => .inl (k 0, M, .inl (fun _ => 0))) (z := (M, .inl (fun _ => 0))) C.1 C.2.1 C.2.2.2.1 (C.2.2.1 _ hcl) C.2.2.2.2.2.2.2.2.2.2.2.2.2.2.2.2.2.2 (C.2.2.1 _ harr) e0 C.2.2.2.2.1 (by rw [hw0]; exact hP) (by rw [hw0]; exact hD) hS C.2.2.2.2.2.2.2.2.1 hn hk hN hM hb1 hb2 hb3 rfl rfl hce hsl (fun c => by rw [vp_cell_i, ← arrV_new]; rfl) hd (fun q r cA H1 hr1 hr2 hK1 hP1 hD1 hS1 => ?_)
  have e1 : s.vm.findClass ("[" ++ (FieldType.array FieldType.int).toString) = some cA := (hK1.2 6 (cA, .array .int) rfl).2
  have e2 : s.vm.findClass ("[" ++ (FieldType.array FieldType.int).toString) = some (k 5) := (C.2.2.2.2.1.2 5 (k 5, .array .int) rfl).2
  have e3 : cA = k 5 := Option.some.inj (e1.symm.trans e2)
  subst e3
  have hz : va_pl ([] ++ (List.range N).map r) (vr_up (fun _ => .inl (k 0, M, .inl (fun _ => 0))) ((List.range N).map r) (.inl (k 0, (M, .inl (fun _ => 0))))) = (List.range N).map (fun i => ((r i, .inl (k 0, M, .inl (fun _ => 0))) : Nat × va_E)) := by
    rw [List.nil_append]
    unfold va_pl
    rw [List.map_map]
    apply List.map_congr_left
    intro i hi
    simp only [Function.comp]
    rw [vr_up_in (List.mem_map_of_mem hi)]
  rw [hz] at hP1 hD1
  exact kk q r H1 locs ls hP1 hD1 hS1 hl
end GN
