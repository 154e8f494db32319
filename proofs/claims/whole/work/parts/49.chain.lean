/-! chain: the answer -/
/-- both read the tape alike -/
theorem read_ok {b : Nat → Nat} {tl : Nat} {bytes tape : Nat → Int32} (htl : tl ≤ 60) (hB : TB b tl bytes) (hT : TB b tl tape) {dk dl dc : Int32} {dw da du : Nat → Int32} (h0 : da 0 = 0) (rw' : Nat → Int32) : (∃ kd m w cs z z' wo ah cu rw2, kd ≤ 3 ∧ 1 ≤ m ∧ m ≤ 24 ∧ cs.length ≤ 5 ∧ CutR kd m cs cu ∧ WR m w wo ah rw2 ∧ f_X9_read (nI tl) bytes dk dl dc dw da du = some (nI m, z, nI kd, nI m, nI cs.length, wo, ah, cu) ∧ f_X11_faultOf (nI tl) tape rw' = some (-1, z', nI m, nI kd, nI (mask cs), rw2)) ∨ (∃ p z z' k2 l2 c2 wo ah cu mm kk mk rw2, p ≤ 60 ∧ ah 0 = 0 ∧ f_X9_read (nI tl) bytes dk dl dc dw da du = some (-20 - nI p, z, k2, l2, c2, wo, ah, cu) ∧ f_X11_faultOf (nI tl) tape rw' = some (nI p, z', mm, kk, mk, rw2)) := by
  have s0 := skp_le (b := b) (show 0 ≤ tl by omega)
  unfold f_X9_read f_X11_faultOf
  rw [show (0 : Int32) = nI 0 from rfl, sight_ok htl hB (Nat.zero_le _), ahead_ok htl hT (Nat.zero_le _)]
  rw [show nI 0 = (0 : Int32) from rfl]
  simp only [Option.bind_some]
  generalize hse : skp b tl 0 = s at *
  by_cases cE : SV b tl s = -1
  · rw [if_pos cE, cE]
    have ek : f_X11_kindOf (-1) = some (-1) := by
      unfold f_X11_kindOf B_X11_kindOf_41
      rw [if_neg (by decide), if_neg (by decide), if_neg (by decide), if_neg (by decide)]
    rw [ek]
    unfold B_X9_read_26 f_X9_faultAt
    simp only [Option.bind_some]
    rw [if_neg (show ¬ (0 : Int32) ≤ -1 by decide), if_neg (show ¬ (0 : Int32) ≤ -1 by decide)]
    exact Or.inr ⟨s, _, _, _, _, _, _, _, _, _, _, _, _, by omega, h0, rfl, rfl⟩
  · have hst : s < tl := by
      unfold SV at cE
      by_cases c : s < tl
      · exact c
      · rw [if_neg c] at cE; exact absurd rfl cE
    have esv : SV b tl s = nI (b s) := if_pos hst
    have hbs := hB s hst
    rw [if_neg cE, esv, index_ok (by omega), kindOf_ok (by omega)]
    simp only [Option.bind_some]
    unfold B_X9_read_26
    rcases kdV_cases (b s) with ek | ⟨kd, hkd, ek⟩
    · rw [ek]
      unfold f_X9_faultAt
      simp only [Option.bind_some]
      rw [if_neg (show ¬ (0 : Int32) ≤ -1 by decide), if_neg (show ¬ (0 : Int32) ≤ -1 by decide)]
      exact Or.inr ⟨s, _, _, _, _, _, _, _, _, _, _, _, _, by omega, h0, rfl, rfl⟩
    · rw [ek, if_pos (nI_pos' (by omega)), if_pos (nI_pos' (by omega)), nI_1]
      unfold f_X1_begin f_X9_readWorths
      simp only [Option.bind_some]
      obtain ⟨p, m, w, wo, ah, rw2, e1, e2, hp, hm, hW, hsk⟩ := worths_ok (wo := dw) (rw' := rw') htl hB hT (show s + 1 ≤ tl by omega) h0 (fun t => B_X9_readWorths_54 t.2.1 t.2.2.1 t.2.2.2.1 t.2.2.2.2) (fun t => B_X11_faultOf_113 (nI tl) t.1 t.2.1 (nI kd) 0 tape t.2.2)
      rw [e1, e2]
      have ah0 : ah 0 = 0 := hW.2 0 (Nat.zero_le _)
      unfold B_X9_readWorths_54
      simp only [Option.bind_some]
      rw [sight_ok htl hB hp]
      simp only [Option.bind_some]
      have hq := skp_le (b := b) hp
      have hqq := skp_skp (b := b) hp
      unfold B_X9_read_81 B_X9_read_94 f_X9_faultAt B_X11_faultOf_113
      simp only [Option.bind_some]
      by_cases c0 : m = 0
      · have e0 : nI m = 0 := by rw [c0]; rfl
        rw [if_pos (show nI m ≤ 0 from Int32.le_of_eq e0), if_pos e0, if_pos e0, hsk (by omega)]
        exact Or.inr ⟨p, _, _, _, _, _, _, _, _, _, _, _, _, by omega, ah0, rfl, rfl⟩
      · have n0 : ¬ nI m = 0 := nI_nz (by omega) c0
        rw [if_neg (show ¬ nI m ≤ 0 from nI_ge (a := 0) (by omega) (by omega)), if_neg n0, if_neg n0]
        have hN := notchN_le (kd := kd) (n := m)
        have emost : (if nI kd < 2 then B_X11_faultOf_142 (nI tl) (nI p) (nI m) (nI kd) 0 tape rw2 0 (nI m) else B_X11_faultOf_142 (nI tl) (nI p) (nI m) (nI kd) 0 tape rw2 1 (nI m)) = L_X11_faultOf_149 (nI tl) (nI m) (nI kd) tape rw2 (nI (notchN kd m)) (fun t => B_X11_faultOf_316 (nI tl) t.2.2.1 (nI m) (nI kd) t.2.2.2 tape rw2) FUEL (47, 0, nI p, 0) := by
          unfold B_X11_faultOf_142 notchN
          by_cases c2 : kd < 2
          · rw [if_pos (show nI kd < 2 from nI_lt (b := 2) c2 (by decide)), if_pos c2, show nI m - (0 : Int32) = nI (m - 0) from pk_sub (b := 0) (by omega)]
            rfl
          · rw [if_neg (show ¬ nI kd < 2 from nI_nlt (b := 2) (by omega) (by omega)), if_neg c2, show nI m - (1 : Int32) = nI (m - 1) from pk_sub (b := 1) (by omega)]
        rw [emost]
        generalize hqe : skp b tl p = q at *
        by_cases c47 : SV b tl q = 47
        · have hqt : q < tl := by
            unfold SV at c47
            by_cases c : q < tl
            · exact c
            · rw [if_neg c] at c47; exact absurd c47 (by decide)
          have hq47 := c47
          rw [c47, if_neg (show ¬ (47 : Int32) = -1 by decide), if_pos rfl, nI_1]
          -- the reference begins ahead of blanks: the same turn
          have eblank : L_X11_faultOf_149 (nI tl) (nI m) (nI kd) tape rw2 (nI (notchN kd m)) (fun t => B_X11_faultOf_316 (nI tl) t.2.2.1 (nI m) (nI kd) t.2.2.2 tape rw2) FUEL (47, 0, nI p, 0) = L_X11_faultOf_149 (nI tl) (nI m) (nI kd) tape rw2 (nI (notchN kd m)) (fun t => B_X11_faultOf_316 (nI tl) t.2.2.1 (nI m) (nI kd) t.2.2.2 tape rw2) FUEL (47, 0, nI q, 0) := by
            obtain ⟨f9, hf9⟩ : ∃ k, FUEL = k + 1 := ⟨FUEL - 1, by have := fuel_lt (n := 0) (by decide); omega⟩
            unfold L_X11_faultOf_149
            rw [hf9]
            show LB_X11_faultOf_149 _ _ _ _ _ _ _ _ 47 0 (nI p) 0 = LB_X11_faultOf_149 _ _ _ _ _ _ _ _ 47 0 (nI q) 0
            unfold LB_X11_faultOf_149
            rw [if_neg (show ¬ (5 : Int32) ≤ 0 by decide), if_neg (show ¬ (5 : Int32) ≤ 0 by decide), ahead_ok htl hT hp, ahead_ok htl hT hq, hqe, hqq]
          rw [eblank]
          rcases cuts_ok (rw' := rw2) htl hB hT hkd (by omega) hm hqt hqq hq47 du with ⟨cs', z, z', cu, l5, hCR, o1, o2⟩ | ⟨p2, z, z', cc, cu, mk, hp2, o1, o2⟩
          · rw [o1, o2]
            exact Or.inl ⟨kd, m, w, cs', _, _, wo, ah, cu, rw2, hkd, by omega, hm, l5, hCR, hW, rfl, rfl⟩
          · rw [o1, o2]
            exact Or.inr ⟨p2, _, _, _, _, _, _, _, _, _, _, _, _, hp2, ah0, rfl, rfl⟩
        · have eref : L_X11_faultOf_149 (nI tl) (nI m) (nI kd) tape rw2 (nI (notchN kd m)) (fun t => B_X11_faultOf_316 (nI tl) t.2.2.1 (nI m) (nI kd) t.2.2.2 tape rw2) FUEL (47, 0, nI p, 0) = some (if (0 : Int32) ≤ SV b tl q then nI q else -1, nI q, nI m, nI kd, 0, rw2) := by
            obtain ⟨f9, hf9⟩ : ∃ k, FUEL = k + 1 := ⟨FUEL - 1, by have := fuel_lt (n := 0) (by decide); omega⟩
            unfold L_X11_faultOf_149
            rw [hf9]
            show LB_X11_faultOf_149 _ _ _ _ _ _ _ _ 47 0 (nI p) 0 = _
            unfold LB_X11_faultOf_149
            rw [if_neg (by decide), ahead_ok htl hT hp, hqe]
            simp only [Option.bind_some]
            rw [if_neg c47]
            unfold B_X11_faultOf_316 B_X11_faultOf_331
            rw [ahead_ok htl hT hq, hqq]
            simp only [Option.bind_some]
            by_cases c6 : (0 : Int32) ≤ SV b tl q
            · rw [if_pos c6, if_pos c6]
            · rw [if_neg c6, if_neg c6]
          rw [eref]
          by_cases cq : SV b tl q = -1
          · rw [if_pos cq, cq, if_neg (show ¬ (0 : Int32) ≤ -1 by decide)]
            exact Or.inl ⟨kd, m, w, [], _, _, wo, ah, du, rw2, hkd, by omega, hm, by decide, ⟨List.Pairwise.nil, fun c hc => (by cases hc), fun i hi => absurd hi (by show ¬ i < 0; omega)⟩, hW, rfl, rfl⟩
          · have hp0 : (0 : Int32) ≤ SV b tl q := by
              unfold SV at cq ⊢
              by_cases c5 : q < tl
              · have := hB q c5
                rw [if_pos c5]; exact nI_pos' (by omega)
              · rw [if_neg c5] at cq; exact absurd rfl cq
            rw [if_neg cq, if_neg c47, if_pos hp0]
            exact Or.inr ⟨q, _, _, _, _, _, _, _, _, _, _, _, _, by omega, ah0, rfl, rfl⟩
theorem chainW {m : Nat} {w : Nat → Nat} {rw2 mw : Nat → Int32} (hm : m ≤ 24) (hw : ∀ i, i < m → rw2 i = nI (w i)) (kx : Int32 × (Nat → Int32) → Option (Int32 × Int32 × Int32 × Int32 × Int32 × Int32 × (Nat → Int32) × (Nat → Int32))) : ∃ mw', ((∀ i, i < m → mw' (2 + i) = nI (w i)) ∧ ∀ x, (x < 2 ∨ 2 + m ≤ x) → mw' x = mw x) ∧ L_X11_chain_52 (nI m) rw2 kx FUEL (0, mw) = kx (nI m, mw') := by
  unfold L_X11_chain_52
  refine upK (fun rec t => LB_X11_chain_52 (nI m) rw2 kx rec t.1 t.2) kx m (fun j f => (∀ i, i < j → f (2 + i) = nI (w i)) ∧ ∀ x, (x < 2 ∨ 2 + j ≤ x) → f x = mw x) (by omega) (fun j f hj hI rec => ⟨upd f (2 + j) (nI (w j)), ⟨fun i hi => ?_, fun x hx => ?_⟩, ?_⟩) (fun f _ rec => ?_) (j := 0) (s := mw) (by omega) ⟨fun i hi => absurd hi (by omega), fun x _ => rfl⟩
  · by_cases c : i = j
    · rw [c, pk_us]
    · rw [pk_un (by omega)]; exact hI.1 i (by omega)
  · rw [pk_un (by omega)]; exact hI.2 x (by omega)
  · show LB_X11_chain_52 _ _ _ rec (nI j) f = _
    unfold LB_X11_chain_52
    rw [if_neg (nI_ge hj (by omega)), ob_t (inb_nI (by omega) (by decide)), show (2 : Int32) + nI j = nI (2 + j) from nI_add 2 j, ob_t (inb_nI (by omega) (by decide)), nI_clamp (by omega), nI_clamp (by omega), hw j hj, nI_1]
  · show LB_X11_chain_52 _ _ _ rec (nI m) f = _
    unfold LB_X11_chain_52
    rw [if_pos (nI_le (Nat.le_refl _) (by omega))]
theorem m20 {p : Nat} (hp : p ≤ 60) : (-20 : Int32) - nI p ≤ 0 := by
  rw [Int32.le_iff_toInt_le, Int32.sub_eq_add_neg]
  revert p
  decide +kernel
theorem chainC_good {len dk dl dc ck cl cc : Int32} {bytes dw da du cw ca cu0 known : Nat → Int32} {m kd L : Nat} {z : Int32} {wo ah cu fk : Nat → Int32} (hm : 1 ≤ m) (hm2 : m ≤ 24) (e1 : f_X9_read len bytes dk dl dc dw da du = some (nI m, z, nI kd, nI m, nI L, wo, ah, cu)) (ef : f_X0_forget known = some fk) : f_X10_chain len bytes dk dl dc dw da du ck cl cc cw ca cu0 known = some (nI m, 0, z, nI kd, nI m, nI L, wo, ah, cu, nI kd, nI m, nI L, va_cpy wo cw 0 0 24, va_cpy ah ca 0 0 25, va_cpy cu cu0 0 0 5, fk) := by
  unfold f_X10_chain
  rw [e1, Option.bind_some]
  rw [if_neg (show ¬ nI m ≤ 0 from nI_ge (a := 0) (by omega) (by omega)), take_ok, Option.bind_some, ef, Option.bind_some]
  rfl
theorem chainC_bad {len dk dl dc ck cl cc : Int32} {bytes dw da du cw ca cu0 known : Nat → Int32} {p : Nat} {z k2 l2 c2 : Int32} {wo ah cu : Nat → Int32} (hp : p ≤ 60) (e1 : f_X9_read len bytes dk dl dc dw da du = some (-20 - nI p, z, k2, l2, c2, wo, ah, cu)) : f_X10_chain len bytes dk dl dc dw da du ck cl cc cw ca cu0 known = some (-20 - nI p, 0, z, k2, l2, c2, wo, ah, cu, ck, cl, cc, cw, ca, cu0, known) := by
  unfold f_X10_chain
  rw [e1, Option.bind_some]
  rw [if_pos (m20 hp)]
  rfl
theorem chainM_good {len z' : Int32} {tape rw' rw2 mw : Nat → Int32} {m kd : Nat} {w : Nat → Nat} {cs : List Nat} (hm : m ≤ 24) (hw : ∀ i, i < m → rw2 i = nI (w i)) (e2 : f_X11_faultOf len tape rw' = some (-1, z', nI m, nI kd, nI (mask cs), rw2)) : ∃ mw', f_X11_chain len tape rw' mw = some (nI m, 0, z', nI m, nI kd, nI (mask cs), rw2, mw') ∧ mw' 0 = nI kd ∧ mw' 1 = nI m ∧ (∀ i, i < m → mw' (2 + i) = nI (w i)) ∧ mw' 26 = nI (mask cs) ∧ ∀ x, 26 < x → mw' x = mw x := by
  obtain ⟨mw', ⟨q1, q2⟩, eq⟩ := chainW (w := w) (rw2 := rw2) (mw := upd (upd (upd mw 0 (nI kd)) 1 (nI m)) 26 (nI (mask cs))) hm hw (fun t => B_X11_chain_80 0 z' (nI m) (nI kd) (nI (mask cs)) rw2 t.2)
  refine ⟨mw', ?_, ?_, ?_, q1, ?_, fun x hx => ?_⟩
  · unfold f_X11_chain
    rw [e2, Option.bind_some]
    have i0 : (0 : Int32).toNatClampNeg = 0 := rfl
    have i1 : (1 : Int32).toNatClampNeg = 1 := rfl
    have i26 : (26 : Int32).toNatClampNeg = 26 := rfl
    rw [if_pos (show (-1 : Int32) < 0 by decide), ob_t (show inb (0 : Int32) 60 = true by decide), ob_t (show inb (1 : Int32) 60 = true by decide), ob_t (show inb (26 : Int32) 60 = true by decide), i0, i1, i26]
    exact eq
  · rw [q2 0 (by omega), pk_un (by omega), pk_un (by omega), pk_us]
  · rw [q2 1 (by omega), pk_un (by omega), pk_us]
  · rw [q2 26 (by omega), pk_us]
  · rw [q2 x (by omega), pk_un (by omega), pk_un (by omega), pk_un (by omega)]
theorem chainM_bad {len z' mm kk mk : Int32} {tape rw' rw2 mw : Nat → Int32} {p : Nat} (hp : p ≤ 60) (e2 : f_X11_faultOf len tape rw' = some (nI p, z', mm, kk, mk, rw2)) : f_X11_chain len tape rw' mw = some (-20 - nI p, 0, z', mm, kk, mk, rw2, mw) := by
  unfold f_X11_chain
  rw [e2, Option.bind_some]
  rw [if_neg (nI_pos (by omega))]
theorem tq_chain {x_hasImage : Int32} {x_chain_kind : Int32} {x_chain_links : Int32} {x_chain_cutCount : Int32} {x_best_known : Nat → Int32} {x_chain_worths : Nat → Int32} {x_chain_ahead : Nat → Int32} {x_chain_cuts : Nat → Int32} {x_tape_length : Int32} {x_tape_bytes : Nat → Int32} {x_draft_kind : Int32} {x_draft_links : Int32} {x_draft_cutCount : Int32} {x_draft_worths : Nat → Int32} {x_draft_ahead : Nat → Int32} {x_draft_cuts : Nat → Int32} {x_days_each : Int32} {x_days_off : Int32} {x_days_twice : Int32} {x_days_dues : Nat → Int32} {x_sets_whole : Int32} {x_sets_pieceCount : Int32} {x_sets_lookedBack : Int32} {x_sets_worths : Nat → Int32} {x_sets_ends : Nat → Int32} {x_sets_order : Nat → Int32} {x_sets_notes : Nat → Int32} {x_best_far : Nat → Int32} {x_best_rows : Nat → Nat → Int32} {x_sets_lookedAt : Nat → Int32} {x_imageChain_kind : Int32} {x_imageChain_links : Int32} {x_imageChain_cutCount : Int32} {x_imageChain_worths : Nat → Int32} {x_imageChain_ahead : Nat → Int32} {x_imageChain_cuts : Nat → Int32} {x_imageDays_each : Int32} {x_imageDays_off : Int32} {x_imageDays_twice : Int32} {x_imageDays_dues : Nat → Int32} {x_sheets_there : Nat → Int32} {x_sheets_lane : Nat → Int32} {x_sheets_length : Nat → Int32} {x_sheets_items : Nat → Nat → Int64} {y_isKept : Int32} {y_taped : Int32} {y_w : Nat → Int32} {y_tape : Nat → Int32} {y_readWorths : Nat → Int32} {y_lanes : Nat → Int32} {y_longs : Nat → Int32} {y_items : Nat → Int64} (hR : Rel x_chain_kind x_chain_links x_chain_cutCount x_chain_worths x_chain_ahead x_chain_cuts x_days_each x_days_off x_days_twice x_days_dues x_best_known x_best_far x_best_rows x_hasImage x_imageChain_kind x_imageChain_links x_imageChain_cutCount x_imageChain_worths x_imageChain_ahead x_imageChain_cuts x_imageDays_each x_imageDays_off x_imageDays_twice x_imageDays_dues x_tape_length x_tape_bytes x_sheets_there x_sheets_lane x_sheets_length x_sheets_items x_draft_ahead x_sets_whole x_sets_pieceCount x_sets_lookedBack x_sets_worths x_sets_lookedAt x_sets_ends x_sets_order x_sets_notes y_w y_isKept y_taped y_tape y_lanes y_longs y_items) : ∃ (rx : Int32 × Int32 × Int32 × Int32 × Int32 × Int32 × (Nat → Int32) × (Nat → Int32) × (Nat → Int32) × Int32 × Int32 × Int32 × (Nat → Int32) × (Nat → Int32) × (Nat → Int32) × (Nat → Int32)) (ry : Int32 × Int32 × Int32 × Int32 × Int32 × Int32 × (Nat → Int32) × (Nat → Int32)), f_X10_chain x_tape_length x_tape_bytes x_draft_kind x_draft_links x_draft_cutCount x_draft_worths x_draft_ahead x_draft_cuts x_chain_kind x_chain_links x_chain_cutCount x_chain_worths x_chain_ahead x_chain_cuts x_best_known = some rx ∧ f_X11_chain y_taped y_tape y_readWorths y_w = some ry ∧ rx.1 = ry.1 ∧ Rel rx.2.2.2.2.2.2.2.2.2.1 rx.2.2.2.2.2.2.2.2.2.2.1 rx.2.2.2.2.2.2.2.2.2.2.2.1 rx.2.2.2.2.2.2.2.2.2.2.2.2.1 rx.2.2.2.2.2.2.2.2.2.2.2.2.2.1 rx.2.2.2.2.2.2.2.2.2.2.2.2.2.2.1 x_days_each x_days_off x_days_twice x_days_dues rx.2.2.2.2.2.2.2.2.2.2.2.2.2.2.2 x_best_far x_best_rows x_hasImage x_imageChain_kind x_imageChain_links x_imageChain_cutCount x_imageChain_worths x_imageChain_ahead x_imageChain_cuts x_imageDays_each x_imageDays_off x_imageDays_twice x_imageDays_dues rx.2.1 x_tape_bytes x_sheets_there x_sheets_lane x_sheets_length x_sheets_items rx.2.2.2.2.2.2.2.1 x_sets_whole x_sets_pieceCount x_sets_lookedBack x_sets_worths x_sets_lookedAt x_sets_ends x_sets_order x_sets_notes ry.2.2.2.2.2.2.2 y_isKept ry.2.1 y_tape y_lanes y_longs y_items := by
  obtain ⟨hC, hI, ⟨hT, hd0, hH⟩, hS⟩ := id hR
  obtain ⟨kd0, n0, w0, cs0, r, off, dbl, hV, hCC, hM, hDV, hDC, hD, hBe⟩ := id hC
  obtain ⟨tl, htl, t1, t2, t3⟩ := id hT
  have hb : ∀ i, ∃ v, i < tl → 32 ≤ v ∧ v ≤ 126 ∧ x_tape_bytes i = nI v ∧ y_tape i = nI v := fun i => by
    by_cases c : i < tl
    · obtain ⟨v, hv⟩ := t3 i c
      exact ⟨v, fun _ => hv⟩
    · exact ⟨0, fun h => absurd h c⟩
  obtain ⟨b, hb⟩ := Classical.axiomOfChoice hb
  have hB : TB b tl x_tape_bytes := fun i hi => ⟨(hb i hi).2.2.1, (hb i hi).1, (hb i hi).2.1⟩
  have hTp : TB b tl y_tape := fun i hi => ⟨(hb i hi).2.2.2, (hb i hi).1, (hb i hi).2.1⟩
  have hT0 : RelT 0 x_tape_bytes 0 y_tape := ⟨0, by decide, rfl, rfl, fun i hi => absurd hi (by omega)⟩
  subst t1
  subst t2
  rcases read_ok (dk := x_draft_kind) (dl := x_draft_links) (dc := x_draft_cutCount) (dw := x_draft_worths) (du := x_draft_cuts) htl hB hTp hd0 y_readWorths with ⟨kd, m, w, cs, z, z', wo, ah, cu, rw2, k3, m1, m24, c5, hCR, hW, e1, e2⟩ | ⟨p, z, z', k2, l2, c2, wo, ah, cu, mm, kk, mk, rw2, hp, ah0, e1, e2⟩
  · obtain ⟨fk, ef, hfk⟩ := forget_ok x_best_known
    obtain ⟨mw', eM, r0, r1, r2, r3, r4⟩ := chainM_good (mw := y_w) m24 (fun i hi => (hW.1 i hi).2.2.2) e2
    have eC := chainC_good (ck := x_chain_kind) (cl := x_chain_links) (cc := x_chain_cutCount) (cw := x_chain_worths) (ca := x_chain_ahead) (cu0 := x_chain_cuts) m1 m24 e1 ef
    have hV2 : ChV kd m w cs := ⟨k3, m1, m24, fun i hi => ⟨(hW.1 i hi).1, (hW.1 i hi).2.1⟩, c5, hCR.1, hCR.2.1⟩
    have hCC2 : ChC kd m w cs (nI kd) (nI m) (nI cs.length) wo ah cu := ⟨rfl, rfl, rfl, fun i hi => (hW.1 i hi).2.2.1, hW.2, hCR.2.2⟩
    have hM2 : ChM kd m w cs 0 mw' := ⟨r0, r1, fun i hi => by rw [Nat.zero_add]; exact r2 i hi, r3⟩
    have hD2 : DaM r off dbl 0 mw' := ⟨(r4 27 (by omega)).trans hD.1, (r4 28 (by omega)).trans hD.2.1, (r4 29 (by omega)).trans hD.2.2⟩
    have a0 : ah 0 = 0 := hW.2 0 (Nat.zero_le _)
    exact ⟨_, _, eC, eM, rfl, ⟨kd, m, w, cs, r, off, dbl, hV2, ChC_take hV2 hCC2, hM2, hDV, hDC, hD2, BeC_forget hfk⟩, RelI_congr (fun x hx => r4 x (by omega)) hI, ⟨hT0, a0, hH⟩, hS⟩
  · have eM := chainM_bad (mw := y_w) hp e2
    have eC := chainC_bad (ck := x_chain_kind) (cl := x_chain_links) (cc := x_chain_cutCount) (cw := x_chain_worths) (ca := x_chain_ahead) (cu0 := x_chain_cuts) (known := x_best_known) hp e1
    exact ⟨_, _, eC, eM, rfl, hC, hI, ⟨hT0, ah0, hH⟩, hS⟩
