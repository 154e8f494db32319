/-! most, fewest: the answers -/
theorem notMost {kd n : Nat} {w : Nat → Nat} {cs : List Nat} {mw : Nat → Int32} (hV : ChV kd n w cs) (hM : ChM kd n w cs 0 mw) {k : Nat} (hk : k ≤ 4) (hkm : notchN kd n < k) (dues : Nat → Int32) (pc rs bs : Int32) (row f s v : Nat → Int32) (sums : Nat → Int64) : f_X11_findMost pc rs bs mw row f s v sums dues (nI k) = some (-4, pc, rs, bs, row, f, s, v, sums) := by
  obtain ⟨g1, g2, g3, -⟩ := id hV
  unfold f_X11_findMost
  rw [notchesM_ok g1 g2 g3 hM.1 hM.2.1, Option.bind_some, if_neg (nI_ge hkm (by omega))]
theorem nI_ne_m4 {a : Nat} (h : a < 2 ^ 31) : ¬ nI a = -4 := fun z => by
  have : ¬ nI a < 0 := nI_pos h
  rw [z] at this
  exact this (by decide)
theorem tq_most {x_hasImage : Int32} {x_chain_kind : Int32} {x_chain_links : Int32} {x_chain_cutCount : Int32} {x_best_known : Nat → Int32} {x_chain_worths : Nat → Int32} {x_chain_ahead : Nat → Int32} {x_chain_cuts : Nat → Int32} {x_tape_length : Int32} {x_tape_bytes : Nat → Int32} {x_draft_ahead : Nat → Int32} {x_pieces_count : Int32} {x_pieces_first : Nat → Int32} {x_pieces_size : Nat → Int32} {x_pieces_value : Nat → Int32} {x_days_each : Int32} {x_days_off : Int32} {x_days_twice : Int32} {x_days_dues : Nat → Int32} {x_sums_words : Int32} {x_sums_bits : Nat → Int64} {x_sets_whole : Int32} {x_sets_pieceCount : Int32} {x_sets_lookedBack : Int32} {x_sets_worths : Nat → Int32} {x_sets_ends : Nat → Int32} {x_sets_order : Nat → Int32} {x_sets_notes : Nat → Int32} {x_best_far : Nat → Int32} {x_choice_size : Int32} {x_choice_bound : Int32} {x_choice_row : Nat → Int32} {x_best_rows : Nat → Nat → Int32} {x_sets_lookedAt : Nat → Int32} {x_imageChain_kind : Int32} {x_imageChain_links : Int32} {x_imageChain_cutCount : Int32} {x_imageChain_worths : Nat → Int32} {x_imageChain_ahead : Nat → Int32} {x_imageChain_cuts : Nat → Int32} {x_imageDays_each : Int32} {x_imageDays_off : Int32} {x_imageDays_twice : Int32} {x_imageDays_dues : Nat → Int32} {x_sheets_there : Nat → Int32} {x_sheets_lane : Nat → Int32} {x_sheets_length : Nat → Int32} {x_sheets_items : Nat → Nat → Int64} {y_isKept : Int32} {y_taped : Int32} {y_pieces : Int32} {y_rowSet : Int32} {y_bestSet : Int32} {y_w : Nat → Int32} {y_firsts : Nat → Int32} {y_sizes : Nat → Int32} {y_worths : Nat → Int32} {y_tape : Nat → Int32} {y_dues : Nat → Int32} {y_sums : Nat → Int64} {y_row : Nat → Int32} {y_lanes : Nat → Int32} {y_longs : Nat → Int32} {y_items : Nat → Int64} (hR : Rel x_chain_kind x_chain_links x_chain_cutCount x_chain_worths x_chain_ahead x_chain_cuts x_days_each x_days_off x_days_twice x_days_dues x_best_known x_best_far x_best_rows x_hasImage x_imageChain_kind x_imageChain_links x_imageChain_cutCount x_imageChain_worths x_imageChain_ahead x_imageChain_cuts x_imageDays_each x_imageDays_off x_imageDays_twice x_imageDays_dues x_tape_length x_tape_bytes x_sheets_there x_sheets_lane x_sheets_length x_sheets_items x_draft_ahead x_sets_whole x_sets_pieceCount x_sets_lookedBack x_sets_worths x_sets_lookedAt x_sets_ends x_sets_order x_sets_notes y_w y_isKept y_taped y_tape y_lanes y_longs y_items) (p0 : Int32) (p1 : Int32) : ∃ (rx : Int32 × (Nat → Int32) × (Nat → Int32) × Int32 × Int32 × (Nat → Int32) × Int32 × (Nat → Int32) × (Nat → Int32) × (Nat → Int32) × Int32 × (Nat → Int64) × (Nat → Nat → Int32)) (ry : Int32 × Int32 × Int32 × Int32 × (Nat → Int32) × (Nat → Int32) × (Nat → Int32) × (Nat → Int32) × (Nat → Int32) × (Nat → Int64)), f_X10_most x_chain_kind x_chain_links x_best_known x_best_far x_chain_ahead x_days_dues x_choice_size x_choice_bound x_choice_row x_pieces_count x_pieces_first x_pieces_size x_pieces_value x_chain_worths x_sums_words x_sums_bits x_best_rows p0 p1 = some rx ∧ f_X11_most y_pieces y_rowSet y_bestSet y_dues y_w y_row y_firsts y_sizes y_worths y_sums p0 p1 = some ry ∧ rx.1 = ry.1 ∧ Rel x_chain_kind x_chain_links x_chain_cutCount x_chain_worths x_chain_ahead x_chain_cuts x_days_each x_days_off x_days_twice x_days_dues rx.2.1 rx.2.2.1 rx.2.2.2.2.2.2.2.2.2.2.2.2 x_hasImage x_imageChain_kind x_imageChain_links x_imageChain_cutCount x_imageChain_worths x_imageChain_ahead x_imageChain_cuts x_imageDays_each x_imageDays_off x_imageDays_twice x_imageDays_dues x_tape_length x_tape_bytes x_sheets_there x_sheets_lane x_sheets_length x_sheets_items x_draft_ahead x_sets_whole x_sets_pieceCount x_sets_lookedBack x_sets_worths x_sets_lookedAt x_sets_ends x_sets_order x_sets_notes y_w y_isKept y_taped y_tape y_lanes y_longs y_items := by
  obtain ⟨hC, hI, hT, hS⟩ := id hR
  obtain ⟨kd, n, w, cs, r, off, dbl, hV, hCC, hM, hDV, hDC, hD, hB⟩ := id hC
  obtain ⟨g1, g2, g3, g4, g5, g6, g7⟩ := id hV
  have hN := notchN_le (kd := kd) (n := n)
  obtain ⟨rd, er, hrd⟩ := layDues_ok hDV hD y_dues
  unfold f_X10_most f_X11_most B_X10_most_18 B_X11_most_26 B_X10_most_36 B_X10_most_71 B_X11_most_48 B_X11_most_70
  rw [within_ok, within_ok, in_lit p0 0 4 (by decide) (by decide), in_lit p1 (-1) 3 (by decide) (by decide), er]
  simp only [Option.bind_some]
  by_cases h0 : (0 : Int32) ≤ p0 ∧ p0 ≤ 4
  · rw [if_pos h0, if_neg n10, if_neg n10]
    by_cases h1 : (-1 : Int32) ≤ p1 ∧ p1 ≤ 3
    · rw [if_pos h1, if_neg n10, if_neg n10]
      obtain ⟨k, hk, rfl⟩ := nat_of (N := 4) (M := 4) (by decide) h0
      rw [hCC.1, hCC.2.1, notches_ok g1 g2 g3, Option.bind_some]
      rw [hCC.1, hCC.2.1] at hC
      have p1c : p1 = -1 ∨ ∃ i, i ≤ 3 ∧ p1 = nI i := by
        by_cases hneg : p1 < 0
        · left
          have a := Int32.le_iff_toInt_le.mp h1.1
          have b := Int32.lt_iff_toInt_lt.mp hneg
          apply Int32.toInt_inj.mp
          rw [show (-1 : Int32).toInt = -1 by decide] at a ⊢
          rw [show (0 : Int32).toInt = 0 by decide] at b
          omega
        · exact Or.inr (nI_of2 (M := 3) (n := 3) (by decide) hneg h1.2)
      by_cases hkm : k ≤ notchN kd n
      · rw [if_neg (nI_nlt hkm (by omega))]
        obtain ⟨B, pc', rs', row', f', s', v', sums', hb, hRB, eM⟩ := findMost_ok hV hM hDV.2.1 hrd hk hkm y_pieces y_rowSet y_bestSet y_row y_firsts y_sizes y_worths y_sums
        obtain ⟨kn2, fa2, cs2, cb2, ro2, pc2, f2, s2, v2, W2, bi2, rw2, eB, hB2, hkn⟩ := findBest_ok hV hCC hDV.2.1 hDC.2.2.2 hB hk hkm x_choice_size x_choice_bound x_choice_row x_pieces_count x_pieces_first x_pieces_size x_pieces_value x_sums_words x_sums_bits
        rw [hCC.1, hCC.2.1] at eB
        have hfar := farF_le kd n w r off dbl B
        rcases hB2 k hk with z | ⟨-, -, B', hb', hf', hr'⟩
        · rw [hkn] at z; exact absurd z n10
        · rw [hb] at hb'
          have := Option.some.inj hb'
          subst this
          have hC2 : RelC (nI kd) (nI n) x_chain_cutCount x_chain_worths x_chain_ahead x_chain_cuts x_days_each x_days_off x_days_twice x_days_dues kn2 fa2 rw2 y_w := ⟨kd, n, w, cs, r, off, dbl, hV, ⟨rfl, rfl, hCC.2.2⟩, hM, hDV, hDC, hD, hB2⟩
          rw [eM, Option.bind_some]
          dsimp only
          rw [if_neg (nI_ne_m4 (by omega))]
          rcases p1c with rfl | ⟨i, hi, rfl⟩
          · rw [if_pos (show (-1 : Int32) < nI k from Int32.lt_of_lt_of_le (show (-1 : Int32) < 0 by decide) (nI_pos' (by omega))), eB, Option.bind_some, if_neg (show ¬ (0 : Int32) ≤ -1 by decide), if_neg (show ¬ (0 : Int32) ≤ -1 by decide), ob_t (inb_nI (by omega) (by decide)), nI_clamp (by omega)]
            exact ⟨_, _, rfl, rfl, hf', hC2, hI, hT, hS⟩
          · rw [if_pos (nI_pos' (by omega))]
            by_cases hik : i < k
            · rw [if_pos (nI_lt hik (by omega)), eB, Option.bind_some, if_pos (nI_pos' (by omega)), if_neg (nI_ge hik (by omega)), ob_t (inb_nI (by omega) (by decide)), ob_t (inb_nI (by omega) (by decide)), nI_clamp (by omega), nI_clamp (by omega), atOf_ok hRB.2.1 (fun c hc => by have := hRB.2.2 c hc; omega) (by rw [hRB.1]; exact hik) (by omega)]
              exact ⟨_, _, rfl, rfl, hr' i hik, hC2, hI, hT, hS⟩
            · rw [if_neg (nI_nlt (by omega) (by omega)), if_pos (nI_le (by omega) (by omega))]
              exact ⟨_, _, rfl, rfl, rfl, hC, hI, hT, hS⟩
      · rw [if_pos (nI_lt (by omega) (by omega)), notMost hV hM hk (by omega), Option.bind_some]
        dsimp only
        rw [if_pos rfl]
        exact ⟨_, _, rfl, rfl, rfl, hC, hI, hT, hS⟩
    · rw [if_neg h1, if_pos rfl, if_pos rfl]
      exact ⟨_, _, rfl, rfl, rfl, hR⟩
  · rw [if_neg h0, if_pos rfl, if_pos rfl]
    exact ⟨_, _, rfl, rfl, rfl, hR⟩
def bV (f : List Nat → Nat) (m k : Nat) : Nat := match bst f m k with
  | none => 0
  | some B => f B
theorem tq_fewest {x_hasImage : Int32} {x_chain_kind : Int32} {x_chain_links : Int32} {x_chain_cutCount : Int32} {x_best_known : Nat → Int32} {x_chain_worths : Nat → Int32} {x_chain_ahead : Nat → Int32} {x_chain_cuts : Nat → Int32} {x_tape_length : Int32} {x_tape_bytes : Nat → Int32} {x_draft_ahead : Nat → Int32} {x_pieces_count : Int32} {x_pieces_first : Nat → Int32} {x_pieces_size : Nat → Int32} {x_pieces_value : Nat → Int32} {x_days_each : Int32} {x_days_off : Int32} {x_days_twice : Int32} {x_days_dues : Nat → Int32} {x_sums_words : Int32} {x_sums_bits : Nat → Int64} {x_sets_whole : Int32} {x_sets_pieceCount : Int32} {x_sets_lookedBack : Int32} {x_sets_worths : Nat → Int32} {x_sets_ends : Nat → Int32} {x_sets_order : Nat → Int32} {x_sets_notes : Nat → Int32} {x_best_far : Nat → Int32} {x_choice_size : Int32} {x_choice_bound : Int32} {x_choice_row : Nat → Int32} {x_best_rows : Nat → Nat → Int32} {x_sets_lookedAt : Nat → Int32} {x_imageChain_kind : Int32} {x_imageChain_links : Int32} {x_imageChain_cutCount : Int32} {x_imageChain_worths : Nat → Int32} {x_imageChain_ahead : Nat → Int32} {x_imageChain_cuts : Nat → Int32} {x_imageDays_each : Int32} {x_imageDays_off : Int32} {x_imageDays_twice : Int32} {x_imageDays_dues : Nat → Int32} {x_sheets_there : Nat → Int32} {x_sheets_lane : Nat → Int32} {x_sheets_length : Nat → Int32} {x_sheets_items : Nat → Nat → Int64} {y_isKept : Int32} {y_taped : Int32} {y_pieces : Int32} {y_rowSet : Int32} {y_bestSet : Int32} {y_w : Nat → Int32} {y_firsts : Nat → Int32} {y_sizes : Nat → Int32} {y_worths : Nat → Int32} {y_tape : Nat → Int32} {y_dues : Nat → Int32} {y_sums : Nat → Int64} {y_row : Nat → Int32} {y_lanes : Nat → Int32} {y_longs : Nat → Int32} {y_items : Nat → Int64} (hR : Rel x_chain_kind x_chain_links x_chain_cutCount x_chain_worths x_chain_ahead x_chain_cuts x_days_each x_days_off x_days_twice x_days_dues x_best_known x_best_far x_best_rows x_hasImage x_imageChain_kind x_imageChain_links x_imageChain_cutCount x_imageChain_worths x_imageChain_ahead x_imageChain_cuts x_imageDays_each x_imageDays_off x_imageDays_twice x_imageDays_dues x_tape_length x_tape_bytes x_sheets_there x_sheets_lane x_sheets_length x_sheets_items x_draft_ahead x_sets_whole x_sets_pieceCount x_sets_lookedBack x_sets_worths x_sets_lookedAt x_sets_ends x_sets_order x_sets_notes y_w y_isKept y_taped y_tape y_lanes y_longs y_items) (p0 : Int32) : ∃ (rx : Int32 × (Nat → Int32) × (Nat → Int32) × Int32 × Int32 × (Nat → Int32) × Int32 × (Nat → Int32) × (Nat → Int32) × (Nat → Int32) × Int32 × (Nat → Int64) × (Nat → Nat → Int32)) (ry : Int32 × Int32 × Int32 × Int32 × (Nat → Int32) × (Nat → Int32) × (Nat → Int32) × (Nat → Int32) × (Nat → Int32) × (Nat → Int64)), f_X10_fewest x_chain_kind x_chain_links x_chain_ahead x_days_dues x_best_known x_best_far x_choice_size x_choice_bound x_choice_row x_pieces_count x_pieces_first x_pieces_size x_pieces_value x_chain_worths x_sums_words x_sums_bits x_best_rows p0 = some rx ∧ f_X11_fewest y_pieces y_rowSet y_bestSet y_dues y_w y_row y_firsts y_sizes y_worths y_sums p0 = some ry ∧ rx.1 = ry.1 ∧ Rel x_chain_kind x_chain_links x_chain_cutCount x_chain_worths x_chain_ahead x_chain_cuts x_days_each x_days_off x_days_twice x_days_dues rx.2.1 rx.2.2.1 rx.2.2.2.2.2.2.2.2.2.2.2.2 x_hasImage x_imageChain_kind x_imageChain_links x_imageChain_cutCount x_imageChain_worths x_imageChain_ahead x_imageChain_cuts x_imageDays_each x_imageDays_off x_imageDays_twice x_imageDays_dues x_tape_length x_tape_bytes x_sheets_there x_sheets_lane x_sheets_length x_sheets_items x_draft_ahead x_sets_whole x_sets_pieceCount x_sets_lookedBack x_sets_worths x_sets_lookedAt x_sets_ends x_sets_order x_sets_notes y_w y_isKept y_taped y_tape y_lanes y_longs y_items := by
  obtain ⟨hC, hI, hT, hS⟩ := id hR
  obtain ⟨kd, n, w, cs, r, off, dbl, hV, hCC, hM, hDV, hDC, hD, hB⟩ := id hC
  obtain ⟨g1, g2, g3, g4, g5, g6, g7⟩ := id hV
  have hN := notchN_le (kd := kd) (n := n)
  have hpre : pre w n ≤ 216 := by have := pre_le n (fun i hi => (g4 i hi).2); omega
  obtain ⟨rd, er, hrd⟩ := layDues_ok hDV hD y_dues
  have ew : f_X1_whole x_chain_links x_chain_ahead = some (nI (pre w n)) := by
    unfold f_X1_whole
    rw [hCC.2.1, ob_t (inb_nI (by omega) (by decide)), nI_clamp (by omega), hCC.2.2.2.2.1 n (Nat.le_refl _)]
  unfold f_X10_fewest f_X11_fewest
  rw [within_ok, in_lit p0 0 60 (by decide) (by decide), er, ew]
  simp only [Option.bind_some]
  rw [covered_ok hDV.2.1 hpre hDC.2.2.2, Option.bind_some]
  by_cases h0 : (0 : Int32) ≤ p0 ∧ p0 ≤ 60
  · rw [if_pos h0, if_neg n10, if_neg n10]
    obtain ⟨N, hN60, rfl⟩ := nat_of (N := 60) (M := 60) (by decide) h0
    have ht60 := top_le n w r off dbl
    generalize hF : farF kd n w r off dbl = F at *
    have hF60 : ∀ S, F S ≤ 60 := fun S => by rw [← hF]; exact farF_le _ _ _ _ _ _ _
    have htop : ∀ S, F S ≤ topN n w r off dbl := fun S => by rw [← hF]; exact far_top _ _ _ _ _ _ _
    obtain ⟨K, hK, hmin⟩ := pk_least (fun k => k = 5 ∨ notchN kd n < k ∨ N ≤ bV F (notchN kd n) k) ⟨5, Or.inl rfl⟩
    have hK5 : K ≤ 5 := by
      refine Nat.le_of_not_lt (fun z => hmin 5 z (Or.inl rfl))
    have hbv : ∀ k B, bst F (notchN kd n) k = some B → bV F (notchN kd n) k = F B := fun k B h => by
      unfold bV; rw [h]
    have ans : ∃ a : Int32, (K ≤ 4 ∧ K ≤ notchN kd n ∧ a = nI K) ∨ (¬ (K ≤ 4 ∧ K ≤ notchN kd n) ∧ a = -4) := by
      by_cases h : K ≤ 4 ∧ K ≤ notchN kd n
      · exact ⟨nI K, Or.inl ⟨h.1, h.2, rfl⟩⟩
      · exact ⟨-4, Or.inr ⟨h, rfl⟩⟩
    obtain ⟨a, ha⟩ := ans
    have hmod : ∃ (z : Int32 × Int32 × Int32 × (Nat → Int32) × (Nat → Int32) × (Nat → Int32) × (Nat → Int32) × (Nat → Int32) × (Nat → Int64)), L_X11_fewest_20 rd y_w (nI N) (fun t => B_X11_fewest_42 t.2.1 t.2.2.1 t.2.2.2.1 rd t.2.2.2.2.1 t.2.2.2.2.2.1 t.2.2.2.2.2.2.1 t.2.2.2.2.2.2.2.1 t.2.2.2.2.2.2.2.2) FUEL ((0 : Int32), y_pieces, y_rowSet, y_bestSet, y_row, y_firsts, y_sizes, y_worths, y_sums) = some (a, z) := by
      unfold L_X11_fewest_20
      refine loopR _ (fun o => ∃ z, o = some (a, z)) (fun μ t => ∃ (k : Nat) (pc rs bs : Int32) (row f s v : Nat → Int32) (sums : Nat → Int64), t = (nI k, pc, rs, bs, row, f, s, v, sums) ∧ μ = 5 - k ∧ k ≤ 5 ∧ (k ≤ K ∨ ¬ (K ≤ 4 ∧ K ≤ notchN kd n))) ?_ FUEL 5 _ ⟨0, _, _, _, _, _, _, _, _, rfl, rfl, by decide, Or.inl (by omega)⟩ (fuel_lt (by decide))
      rintro μ t ⟨k, pc, rs, bs, row, f, s, v, sums, rfl, rfl, hk5, hkK⟩ rec
      by_cases e5 : k = 5
      · subst e5
        refine Or.inl ?_
        rcases ha with ⟨h1, h2, -⟩ | ⟨h1, rfl⟩
        · rcases hkK with z | z
          · omega
          · exact absurd ⟨h1, h2⟩ z
        · refine ⟨(pc, rs, bs, rd, row, f, s, v, sums), ?_⟩
          show LB_X11_fewest_20 _ _ _ _ rec (nI 5) pc rs bs row f s v sums = _
          unfold LB_X11_fewest_20
          rw [if_pos (by decide)]
          rfl
      · have e4 : k ≤ 4 := by omega
        show (∃ z, LB_X11_fewest_20 _ _ _ _ rec (nI k) pc rs bs row f s v sums = some (a, z)) ∨ ∃ μ' b, _ ∧ _ ∧ LB_X11_fewest_20 _ _ _ _ rec (nI k) pc rs bs row f s v sums = _
        unfold LB_X11_fewest_20
        rw [if_neg (show ¬ (5 : Int32) ≤ nI k from nI_ge (b := 5) (by omega) (by decide))]
        by_cases hkm : k ≤ notchN kd n
        · obtain ⟨B, pc', rs', row', f', s', v', sums', hb, hRB, eM⟩ := findMost_ok hV hM hDV.2.1 hrd e4 hkm pc rs bs row f s v sums
          rw [hF] at hb eM
          rw [eM, Option.bind_some]
          dsimp only
          have hB60 := hF60 B
          have hbvB := hbv k B hb
          by_cases hlt : F B < N
          · rw [if_pos (nI_lt hlt (by omega)), nI_1]
            refine Or.inr ⟨5 - (k + 1), _, by omega, ⟨k + 1, _, _, _, _, _, _, _, _, rfl, rfl, by omega, ?_⟩, rfl⟩
            rcases hkK with z | z
            · by_cases e : k = K
              · right
                rcases hK with h | h | h
                · omega
                · omega
                · rw [← e, hbvB] at h; omega
              · left; omega
            · exact Or.inr z
          · rw [if_neg (nI_nlt (by omega) (by omega))]
            left
            have hKk : K ≤ k := Nat.le_of_not_lt (fun z => hmin k z (Or.inr (Or.inr (by rw [hbvB]; omega))))
            have hkK2 : k = K := by
              rcases hkK with z | z
              · omega
              · exact absurd ⟨by omega, by omega⟩ z
            rcases ha with ⟨h1, h2, rfl⟩ | ⟨h1, rfl⟩
            · rw [hkK2]; exact ⟨_, rfl⟩
            · exact absurd ⟨by omega, by omega⟩ h1
        · rw [notMost hV hM e4 (by omega), Option.bind_some]
          dsimp only
          rw [if_pos (Int32.lt_of_lt_of_le (show (-4 : Int32) < 0 by decide) (nI_pos' (by omega))), nI_1]
          refine Or.inr ⟨5 - (k + 1), _, by omega, ⟨k + 1, _, _, _, _, _, _, _, _, rfl, rfl, by omega, ?_⟩, rfl⟩
          rcases hkK with z | z
          · by_cases e : k = K
            · right; omega
            · left; omega
          · exact Or.inr z
    obtain ⟨z, ez⟩ := hmod
    rw [ez]
    by_cases htop2 : N ≤ topN n w r off dbl
    · rw [if_pos (nI_le htop2 (by omega))]
      have hcls : ∃ rx : Int32 × (Nat → Int32) × (Nat → Int32) × Int32 × Int32 × (Nat → Int32) × Int32 × (Nat → Int32) × (Nat → Int32) × (Nat → Int32) × Int32 × (Nat → Int64) × (Nat → Nat → Int32), L_X10_fewest_35 x_chain_kind x_chain_links x_chain_ahead x_days_dues x_chain_worths (nI N) (fun t => B_X10_fewest_77 t.2.1 t.2.2.1 t.2.2.2.1 t.2.2.2.2.1 t.2.2.2.2.2.1 t.2.2.2.2.2.2.1 t.2.2.2.2.2.2.2.1 t.2.2.2.2.2.2.2.2.1 t.2.2.2.2.2.2.2.2.2.1 t.2.2.2.2.2.2.2.2.2.2.1 t.2.2.2.2.2.2.2.2.2.2.2.1 t.2.2.2.2.2.2.2.2.2.2.2.2) FUEL (0, x_best_known, x_best_far, x_choice_size, x_choice_bound, x_choice_row, x_pieces_count, x_pieces_first, x_pieces_size, x_pieces_value, x_sums_words, x_sums_bits, x_best_rows) = some rx ∧ rx.1 = a ∧ BeC kd n w r off dbl rx.2.1 rx.2.2.1 rx.2.2.2.2.2.2.2.2.2.2.2.2 := by
        unfold L_X10_fewest_35
        refine loopR _ (fun o => ∃ rx : Int32 × (Nat → Int32) × (Nat → Int32) × Int32 × Int32 × (Nat → Int32) × Int32 × (Nat → Int32) × (Nat → Int32) × (Nat → Int32) × Int32 × (Nat → Int64) × (Nat → Nat → Int32), o = some rx ∧ rx.1 = a ∧ BeC kd n w r off dbl rx.2.1 rx.2.2.1 rx.2.2.2.2.2.2.2.2.2.2.2.2) (fun μ t => ∃ (k : Nat) (kn fa : Nat → Int32) (cz cb : Int32) (ro : Nat → Int32) (pn : Int32) (f s v : Nat → Int32) (W : Int32) (bi : Nat → Int64) (rw' : Nat → Nat → Int32), t = (nI k, kn, fa, cz, cb, ro, pn, f, s, v, W, bi, rw') ∧ μ = 5 - k ∧ k ≤ 5 ∧ (k ≤ K ∨ ¬ (K ≤ 4 ∧ K ≤ notchN kd n)) ∧ BeC kd n w r off dbl kn fa rw') ?_ FUEL 5 _ ⟨0, _, _, _, _, _, _, _, _, _, _, _, _, rfl, rfl, by decide, Or.inl (by omega), hB⟩ (fuel_lt (by decide))
        rintro μ t ⟨k, kn, fa, cz, cb, ro, pn, f, s, v, W, bi, rw', rfl, rfl, hk5, hkK, hBk⟩ rec
        have stopA : (5 ≤ k ∨ notchN kd n < k) → a = -4 := fun hs => by
          rcases ha with ⟨h1, h2, -⟩ | ⟨-, rfl⟩
          · rcases hkK with z | z
            · omega
            · exact absurd ⟨h1, h2⟩ z
          · rfl
        show (∃ rx, LB_X10_fewest_35 _ _ _ _ _ _ _ rec (nI k) kn fa cz cb ro pn f s v W bi rw' = some rx ∧ _) ∨ ∃ μ' b, _ ∧ _ ∧ LB_X10_fewest_35 _ _ _ _ _ _ _ rec (nI k) kn fa cz cb ro pn f s v W bi rw' = _
        unfold LB_X10_fewest_35
        by_cases e5 : k = 5
        · rw [if_pos (show (4 : Int32) < nI k from nI_lt (a := 4) (by omega) (by omega))]
          exact Or.inl ⟨_, rfl, (stopA (Or.inl (by omega))).symm, hBk⟩
        · rw [if_neg (show ¬ (4 : Int32) < nI k from nI_nlt (a := 4) (by omega) (by decide)), hCC.1, hCC.2.1, notches_ok g1 g2 g3, Option.bind_some]
          by_cases hkm : k ≤ notchN kd n
          · rw [if_neg (nI_nlt hkm (by omega))]
            obtain ⟨kn2, fa2, cs2, cb2, ro2, pc2, f2, s2, v2, W2, bi2, rw2, eB, hB2, hkn⟩ := findBest_ok hV hCC hDV.2.1 hDC.2.2.2 hBk (show k ≤ 4 by omega) hkm cz cb ro pn f s v W bi
            rw [hCC.1, hCC.2.1] at eB
            rw [eB, Option.bind_some]
            dsimp only
            rw [ob_t (inb_nI (by omega) (by decide)), nI_clamp (by omega)]
            rcases hB2 k (by omega) with z | ⟨-, -, B, hb, hf, -⟩
            · rw [hkn] at z; exact absurd z n10
            · rw [hF] at hb hf
              have hbvB := hbv k B hb
              have hB60 := hF60 B
              by_cases hlt : F B < N
              · rw [if_pos (by rw [hf]; exact nI_lt hlt (by omega)), nI_1]
                refine Or.inr ⟨5 - (k + 1), _, by omega, ⟨k + 1, _, _, _, _, _, _, _, _, _, _, _, _, rfl, rfl, by omega, ?_, hB2⟩, rfl⟩
                rcases hkK with z | z
                · by_cases e : k = K
                  · right
                    rcases hK with h | h | h
                    · omega
                    · omega
                    · rw [← e, hbvB] at h; omega
                  · left; omega
                · exact Or.inr z
              · rw [if_neg (by rw [hf]; exact nI_nlt (by omega) (by omega))]
                have hKk : K ≤ k := Nat.le_of_not_lt (fun z => hmin k z (Or.inr (Or.inr (by rw [hbvB]; omega))))
                have hkK2 : k = K := by
                  rcases hkK with z | z
                  · omega
                  · exact absurd ⟨by omega, by omega⟩ z
                refine Or.inl ⟨_, rfl, ?_, hB2⟩
                rcases ha with ⟨h1, h2, rfl⟩ | ⟨h1, rfl⟩
                · rw [hkK2]
                · exact absurd ⟨by omega, by omega⟩ h1
          · rw [if_pos (nI_lt (by omega) (by omega))]
            exact Or.inl ⟨_, rfl, (stopA (Or.inr (by omega))).symm, hBk⟩
      obtain ⟨rx, ex, e1, hBx⟩ := hcls
      exact ⟨rx, _, ex, rfl, e1, ⟨kd, n, w, cs, r, off, dbl, hV, hCC, hM, hDV, hDC, hD, hBx⟩, hI, hT, hS⟩
    · rw [if_neg (nI_ge (by omega) (by omega))]
      have ha4 : a = -4 := by
        rcases ha with ⟨h1, h2, -⟩ | ⟨-, rfl⟩
        · exfalso
          rcases hK with h | h | h
          · omega
          · omega
          · unfold bV at h
            split at h
            · omega
            · rename_i B _
              have := htop B
              omega
        · rfl
      exact ⟨_, _, rfl, rfl, ha4.symm, hR⟩
  · rw [if_neg h0, if_pos rfl, if_pos rfl]
    exact ⟨_, _, rfl, rfl, rfl, hR⟩
