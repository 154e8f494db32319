/-! the mathematical state, and what ties the class and the reference to it -/
def pre (w : Nat → Nat) : Nat → Nat
  | 0 => 0
  | i + 1 => pre w i + w i
def mask : List Nat → Nat
  | [] => 0
  | c :: t => 2 ^ c + mask t
def notchN (kd n : Nat) : Nat := if kd < 2 then n else n - 1
/-- a chain as it may be: kind, links, worths, cuts (rising) -/
def ChV (kd n : Nat) (w : Nat → Nat) (cs : List Nat) : Prop := kd ≤ 3 ∧ 1 ≤ n ∧ n ≤ 24 ∧ (∀ i, i < n → 1 ≤ w i ∧ w i ≤ 9) ∧ cs.length ≤ 5 ∧ cs.Pairwise (· < ·) ∧ ∀ c ∈ cs, c < notchN kd n
/-- the class's chain -/
def ChC (kd n : Nat) (w : Nat → Nat) (cs : List Nat) (kind links cutCount : Int32) (worths ahead cuts : Nat → Int32) : Prop := kind = nI kd ∧ links = nI n ∧ cutCount = nI cs.length ∧ (∀ i, i < n → worths i = nI (w i)) ∧ (∀ i, i ≤ n → ahead i = nI (pre w i)) ∧ ∀ i, i < cs.length → cuts i = nI (cs.getD i 0)
/-- the reference's chain, from place o of its row -/
def ChM (kd n : Nat) (w : Nat → Nat) (cs : List Nat) (o : Nat) (mw : Nat → Int32) : Prop := mw o = nI kd ∧ mw (o + 1) = nI n ∧ (∀ i, i < n → mw (o + 2 + i) = nI (w i)) ∧ mw (o + 26) = nI (mask cs)
def dueF (r off dbl : Nat) : Nat → Nat
  | 0 => 0
  | d + 1 => dueF r off dbl d + (if off.testBit (d % 7) then 0 else if dbl.testBit (d % 7) then 2 * r else r)
def DaV (r off dbl : Nat) : Prop := 1 ≤ r ∧ r ≤ 9 ∧ off < 128 ∧ dbl < 128
def DaC (r off dbl : Nat) (each offc twice : Int32) (dues : Nat → Int32) : Prop := each = nI r ∧ offc = nI off ∧ twice = nI dbl ∧ ∀ d, d ≤ 60 → dues d = nI (dueF r off dbl d)
def DaM (r off dbl : Nat) (o : Nat) (mw : Nat → Int32) : Prop := mw (o + 27) = nI r ∧ mw (o + 28) = nI off ∧ mw (o + 29) = nI dbl
/-- pieces: first link, how many, worth; the last one first -/
def isStart (kd : Nat) (cs : List Nat) (k : Nat) : Bool := (decide (kd < 2) && cs.contains k) || (k == 0 || cs.contains (k - 1))
def lossN (kd : Nat) (cs : List Nat) (w : Nat → Nat) (k : Nat) : Nat := if kd = 3 ∧ k ∈ cs ∧ 1 < w k then w k - 1 else w k
def rawR (kd : Nat) (cs : List Nat) (w : Nat → Nat) : Nat → List (Nat × Nat × Nat)
  | 0 => []
  | k + 1 => if isStart kd cs k = true then (k, 1, lossN kd cs w k) :: rawR kd cs w k else match rawR kd cs w k with
    | [] => []
    | q :: t => (q.1, q.2.1 + 1, q.2.2 + lossN kd cs w k) :: t
def joinE : List (Nat × Nat × Nat) → List (Nat × Nat × Nat)
  | [] => []
  | p :: t => match t.reverse with
    | [] => [p]
    | q :: u => u.reverse ++ [(q.1, q.2.1 + p.2.1, q.2.2 + p.2.2)]
def pcs (kd n : Nat) (w : Nat → Nat) (cs : List Nat) : List (Nat × Nat × Nat) := if kd = 1 ∧ cs ≠ [] ∧ 0 ∉ cs ∧ n - 1 ∉ cs then joinE (rawR kd cs w n).reverse else (rawR kd cs w n).reverse
def vals (kd n : Nat) (w : Nat → Nat) (cs : List Nat) : List Nat := (pcs kd n w cs).map (fun q => q.2.2)
/-- the sums that pieces pay, as bits -/
def SB (vs : List Nat) : Nat := vs.foldl (fun b v => b ||| (b <<< v)) 1
def runD (p : Nat → Bool) : Nat → Nat → Nat
  | 0, d => d
  | f + 1, d => if p (d + 1) = true then runD p f (d + 1) else d
def farF (kd n : Nat) (w : Nat → Nat) (r off dbl : Nat) (cs : List Nat) : Nat := runD (fun d => (SB (vals kd n w cs)).testBit (dueF r off dbl d)) 60 0
/-- n numbers from a on -/
def upl (a : Nat) : Nat → List Nat
  | 0 => []
  | n + 1 => a :: upl (a + 1) n
/-- the next rising row of numbers below m -/
def nxt (m : Nat) : List Nat → Option (List Nat)
  | [] => none
  | a :: t => match nxt m t with
    | some t' => some (a :: t')
    | none => if a + 1 + t.length < m then some (upl (a + 1) (t.length + 1)) else none
/-- the rows from one on -/
def rowsF (m : Nat) : Nat → List Nat → List (List Nat)
  | 0, R => [R]
  | n + 1, R => R :: (match nxt m R with
    | none => []
    | some R' => rowsF m n R')
def allR (m k : Nat) : List (List Nat) := rowsF m (25 ^ 4) (upl 0 k)
/-- the first that is the most, so far -/
def stB (f : List Nat → Nat) (b : Option (List Nat)) (R : List Nat) : Option (List Nat) := match b with
  | none => some R
  | some B => if f B < f R then some R else some B
def bst (f : List Nat → Nat) (m k : Nat) : Option (List Nat) := (allR m k).foldl (stB f) none
/-- what is kept of the best cuts holds -/
def BeC (kd n : Nat) (w : Nat → Nat) (r off dbl : Nat) (known far : Nat → Int32) (rows : Nat → Nat → Int32) : Prop := ∀ k, k ≤ 4 → known k = 0 ∨ (known k = 1 ∧ k ≤ notchN kd n ∧ ∃ R, bst (farF kd n w r off dbl) (notchN kd n) k = some R ∧ far k = nI (farF kd n w r off dbl R) ∧ ∀ i, i < k → rows k i = nI (R.getD i 0))
def RelC (kind links cutCount : Int32) (worths ahead cuts : Nat → Int32) (each offc twice : Int32) (dues known far : Nat → Int32) (rows : Nat → Nat → Int32) (mw : Nat → Int32) : Prop := ∃ (kd n : Nat) (w : Nat → Nat) (cs : List Nat) (r off dbl : Nat), ChV kd n w cs ∧ ChC kd n w cs kind links cutCount worths ahead cuts ∧ ChM kd n w cs 0 mw ∧ DaV r off dbl ∧ DaC r off dbl each offc twice dues ∧ DaM r off dbl 0 mw ∧ BeC kd n w r off dbl known far rows
def RelI (hasImage kind links cutCount : Int32) (worths ahead cuts : Nat → Int32) (each offc twice : Int32) (dues : Nat → Int32) (isKept : Int32) (mw : Nat → Int32) : Prop := hasImage = isKept ∧ (hasImage = 0 ∨ (hasImage = 1 ∧ ∃ (kd n : Nat) (w : Nat → Nat) (cs : List Nat) (r off dbl : Nat), ChV kd n w cs ∧ ChC kd n w cs kind links cutCount worths ahead cuts ∧ ChM kd n w cs 30 mw ∧ DaV r off dbl ∧ DaC r off dbl each offc twice dues ∧ DaM r off dbl 30 mw))
def RelT (length : Int32) (bytes : Nat → Int32) (taped : Int32) (tape : Nat → Int32) : Prop := ∃ tl, tl ≤ 60 ∧ length = nI tl ∧ taped = nI tl ∧ ∀ i, i < tl → ∃ v, 32 ≤ v ∧ v ≤ 126 ∧ bytes i = nI v ∧ tape i = nI v
def RelS (there lane length : Nat → Int32) (items : Nat → Nat → Int64) (lanes longs : Nat → Int32) (mitems : Nat → Int64) : Prop := ∀ q, q < 4 → (∃ L, L ≤ 24 ∧ length q = nI L ∧ longs q = nI L) ∧ ((there q = 0 ∧ lanes q = -1) ∨ (there q = 1 ∧ ∃ la, la < 3 ∧ lane q = nI la ∧ lanes q = nI la)) ∧ ∀ i, i < 24 → items q i = mitems (24 * q + i)
/-! what handed keeps in its sets -/
def grp (κ : Nat → Nat) (w : Nat) : Nat → List Nat
  | 0 => []
  | n + 1 => if κ n = w then grp κ w n ++ [n] else grp κ w n
/-- what sets of pieces are worth -/
def ws (g : Nat → Nat) : Nat → Nat → Nat
  | 0, _ => 0
  | k + 1, S => ws g k S + (if S.testBit k = true then g k else 0)
/-- the groups, as the class's rows hold them -/
def GS (κ : Nat → Nat) (N : Nat) (whole : Int32) (ends order : Nat → Int32) : Prop := ∀ w, w < 2 ^ 30 → ∃ a, f_X6_from whole ends (nI w) = some (nI a) ∧ f_X6_to whole ends (nI w) = some (nI (a + (grp κ w N).length)) ∧ a + (grp κ w N).length ≤ 2048 ∧ ∀ i, i < (grp κ w N).length → order (a + i) = nI ((grp κ w N).getD i 0)
def pc (S : Nat) : Nat := ws (fun _ => 1) 11 S
def mnF (f : Nat → Nat) : List Nat → Nat → Nat
  | [], a => a
  | x :: t, a => mnF f t (if f x < a then f x else a)
/-- how many are handed behind a day, at the fewest -/
def Hk (G : Nat → List Nat) (n : Nat) : Nat → Nat → Nat
  | 0, _ => 0
  | k + 1, S => mnF (fun T => pc (S ^^^ T) + Hk G n k T) (G (n - k)) 1000000
/-- groups of days -/
def Gd (g : Nat → Nat) (L : Nat) (D : Nat → Nat) (d : Nat) : List Nat := grp (ws g L) (D d) (2 ^ L)
def NoI (G : Nat → List Nat) (n d : Nat) (notes : Nat → Int32) : Prop := ∀ d', d ≤ d' → d' ≤ n → ∀ S, S ∈ G d' → notes S = nI (Hk G n (n - d') S)
/-- what handed noted holds for the pieces and the dues that it was noted for -/
def RelH (whole pieceCount lookedBack : Int32) (worths lookedAt ends order notes : Nat → Int32) : Prop := lookedBack = 0 ∨ ∃ (q L : Nat) (g D : Nat → Nat), 1 ≤ q ∧ q ≤ 60 ∧ L ≤ 11 ∧ lookedBack = nI q ∧ pieceCount = nI L ∧ (∀ i, i < L → g i < 2 ^ 20 ∧ worths (2 ^ i) = nI (g i)) ∧ (∀ d, d ≤ 60 → D d < 2 ^ 30 ∧ lookedAt d = nI (D d)) ∧ GS (ws g L) (2 ^ L) whole ends order ∧ NoI (Gd g L D) q 1 notes
def Rel (x_chain_kind : Int32) (x_chain_links : Int32) (x_chain_cutCount : Int32) (x_chain_worths : Nat → Int32) (x_chain_ahead : Nat → Int32) (x_chain_cuts : Nat → Int32) (x_days_each : Int32) (x_days_off : Int32) (x_days_twice : Int32) (x_days_dues : Nat → Int32) (x_best_known : Nat → Int32) (x_best_far : Nat → Int32) (x_best_rows : Nat → Nat → Int32) (x_hasImage : Int32) (x_imageChain_kind : Int32) (x_imageChain_links : Int32) (x_imageChain_cutCount : Int32) (x_imageChain_worths : Nat → Int32) (x_imageChain_ahead : Nat → Int32) (x_imageChain_cuts : Nat → Int32) (x_imageDays_each : Int32) (x_imageDays_off : Int32) (x_imageDays_twice : Int32) (x_imageDays_dues : Nat → Int32) (x_tape_length : Int32) (x_tape_bytes : Nat → Int32) (x_sheets_there : Nat → Int32) (x_sheets_lane : Nat → Int32) (x_sheets_length : Nat → Int32) (x_sheets_items : Nat → Nat → Int64) (x_draft_ahead : Nat → Int32) (x_sets_whole : Int32) (x_sets_pieceCount : Int32) (x_sets_lookedBack : Int32) (x_sets_worths : Nat → Int32) (x_sets_lookedAt : Nat → Int32) (x_sets_ends : Nat → Int32) (x_sets_order : Nat → Int32) (x_sets_notes : Nat → Int32) (y_w : Nat → Int32) (y_isKept : Int32) (y_taped : Int32) (y_tape : Nat → Int32) (y_lanes : Nat → Int32) (y_longs : Nat → Int32) (y_items : Nat → Int64) : Prop :=
  RelC x_chain_kind x_chain_links x_chain_cutCount x_chain_worths x_chain_ahead x_chain_cuts x_days_each x_days_off x_days_twice x_days_dues x_best_known x_best_far x_best_rows y_w ∧ RelI x_hasImage x_imageChain_kind x_imageChain_links x_imageChain_cutCount x_imageChain_worths x_imageChain_ahead x_imageChain_cuts x_imageDays_each x_imageDays_off x_imageDays_twice x_imageDays_dues y_isKept y_w ∧ (RelT x_tape_length x_tape_bytes y_taped y_tape ∧ x_draft_ahead 0 = 0 ∧ RelH x_sets_whole x_sets_pieceCount x_sets_lookedBack x_sets_worths x_sets_lookedAt x_sets_ends x_sets_order x_sets_notes) ∧ RelS x_sheets_there x_sheets_lane x_sheets_length x_sheets_items y_lanes y_longs y_items
