/-! What the class's cells and the model's cells have to do with one another. Types of plies as lists of numbers below 12, the lowest ply first. -/
def i32 (z : Int) : Int32 := Int32.ofInt z
def i64 (z : Int) : Int64 := Int64.ofInt z
/-- a row of types in one number, four bits a ply -/
def pkN : List Nat → Nat
  | [] => 0
  | t :: l => t + 16 * pkN l
def pk (l : List Nat) : Int32 := Int32.ofNat (pkN l)
/-- twice the entry c (of nine) of a type, by the numbers of the kinds -/
def sTwo (a : Nat) : Int := if a = 0 then 1 else if a = 3 then -1 else 0
def sThree (a : Nat) : Int := if a = 0 ∨ a = 3 then 1 else -1
def sSkew (a : Nat) : Int := if a = 1 then 1 else if a = 2 then -1 else 0
def qe (nb : Nat → Int) (t c : Nat) : Int :=
  let k := 5 * (t / 4)
  let a := t % 4
  if c = 0 then 2 * nb k + 2 * nb (k + 1) * sTwo a + 2 * nb (k + 2) * sThree a
  else if c = 4 then 2 * nb k - 2 * nb (k + 1) * sTwo a + 2 * nb (k + 2) * sThree a
  else if c = 1 ∨ c = 3 then 2 * nb (k + 3) - 2 * nb (k + 2) * sThree a
  else if c = 8 then nb k - nb (k + 3) - 2 * nb (k + 2) * sThree a
  else nb (k + 1) * sSkew a
/-- the numbers of kn kinds are within their bounds, the class's cells are made of them -/
def PlOK (numbers cells : Nat → Int32) (kn : Nat) : Prop :=
  kn ≤ 3 ∧ ∃ nb : Nat → Int, (∀ k, k < kn → (1 ≤ nb (5 * k) ∧ nb (5 * k) ≤ 99) ∧ (0 ≤ nb (5 * k + 1) ∧ nb (5 * k + 1) ≤ 99) ∧ (0 ≤ nb (5 * k + 2) ∧ nb (5 * k + 2) ≤ 99) ∧ (0 ≤ nb (5 * k + 3) ∧ nb (5 * k + 3) ≤ 99) ∧ (1 ≤ nb (5 * k + 4) ∧ nb (5 * k + 4) ≤ 999)) ∧ (∀ q, q < 5 * kn → numbers q = i32 (nb q)) ∧ ∀ t, t < 4 * kn → ∀ c, c < 9 → cells (9 * t + c) = i32 (qe nb t c)
/-- one state of a plate: in the class a row, a size, a room; in the model 27 numbers -/
def Snap (numbers : Nat → Int32) (kn : Nat) (lines row size room : Int32) (mf : Nat → Int32) : Prop :=
  ∃ (l : List Nat) (rm : Nat), l.length ≤ 8 ∧ (∀ t ∈ l, t < 4 * kn) ∧ 1 ≤ rm ∧ rm ≤ 8 ∧ row = pk l ∧ size = nI l.length ∧ room = nI rm ∧ mf 0 = nI rm ∧ mf 1 = nI kn ∧ mf 2 = nI l.length ∧ mf 3 = lines ∧ (∀ q, q < 5 * kn → mf (4 + q) = numbers q) ∧ ∀ p, p < l.length → mf (19 + p) = nI (l.getD p 0)
/-- a plate with its acts that is told -/
def PNt (numbers cells rows sizes rooms : Nat → Int32) (told lines kinds acts : Int32) (mem : Nat → Int32) (acted : Int32) (past : Nat → Int32) : Prop :=
  ∃ kn a ln : Nat, told = 1 ∧ kinds = nI kn ∧ acts = nI a ∧ acted = nI a ∧ a ≤ 30 ∧ lines = nI ln ∧ 1 ≤ ln ∧ ln ≤ 600 ∧ PlOK numbers cells kn ∧ (∀ j, j < a → Snap numbers kn lines (rows j) (sizes j) (rooms j) (fun k => past (27 * j + k))) ∧ Snap numbers kn lines (rows a) (sizes a) (rooms a) mem
/-- no plate -/
def PN0 (rows sizes rooms : Nat → Int32) (told lines kinds acts : Int32) (mem : Nat → Int32) (acted : Int32) : Prop :=
  told = 0 ∧ lines = 0 ∧ kinds = 0 ∧ acts = 0 ∧ acted = 0 ∧ rows 0 = 0 ∧ sizes 0 = 0 ∧ rooms 0 = 0 ∧ ∀ k, k < 27 → mem k = 0
def PN (numbers cells rows sizes rooms : Nat → Int32) (told lines kinds acts : Int32) (mem : Nat → Int32) (acted : Int32) (past : Nat → Int32) : Prop :=
  PNt numbers cells rows sizes rooms told lines kinds acts mem acted past ∨ PN0 rows sizes rooms told lines kinds acts mem acted
/-- an image -/
def PI (k : Nat) (numbers cells rows sizes rooms : Nat → Int32) (told lines kinds acts : Int32) (images imageActed imagePast hasImage : Nat → Int32) : Prop :=
  (told = 0 ∧ hasImage k = 0) ∨ (hasImage k = 1 ∧ PNt numbers cells rows sizes rooms told lines kinds acts (fun q => images (27 * k + q)) (imageActed k) (fun q => imagePast (810 * k + q)))
/-- the tape -/
def PT (bytes : Nat → Int32) (size : Int32) (mtape : Nat → Int32) (mtaped : Int32) : Prop :=
  ∃ n : Nat, n ≤ 600 ∧ size = nI n ∧ mtaped = nI n ∧ ∀ k, k < n → ∃ c : Nat, c < 256 ∧ mtape k = nI c ∧ bytes k = (nI c).toInt8.toInt32
def PF (fault place mk mp : Int32) : Prop := fault = mk ∧ place = mp
/-- how long an array of rows may have to be -/
def potL : Nat → List (Nat × Nat)
  | 0 => [(1, 0)]
  | k + 1 => (potL k).flatMap (fun q => [(q.1 * (k + 1) / (q.2 + 1), q.2 + 1), (q.1 * (k + 1), 1)])
def potS : List Nat := (((List.range 9).flatMap (fun k => (potL k).map Prod.fst)).eraseDups)
def pot (n : Nat) : Nat := (potS.filter (fun v => decide (v ≤ n))).sum
theorem pot_le (n : Nat) : pot n ≤ 200000 := by
  have h1 : (potS.filter (fun v => decide (v ≤ n))).sum ≤ potS.sum := by
    induction potS with
    | nil => simp
    | cons a l ih =>
      rw [List.filter_cons]
      split
      · simp only [List.sum_cons]; omega
      · simp only [List.sum_cons]; omega
  have h2 : potS.sum ≤ 200000 := by decide +kernel
  exact Nat.le_trans h1 h2
def PS (sn : Nat) : Prop := ∃ k : Nat, k ≤ 11 ∧ sn = 32 * 2 ^ k
theorem PS_le {sn : Nat} (h : PS sn) : sn ≤ 65536 := by
  obtain ⟨k, hk, rfl⟩ := h
  have : (2 : Nat) ^ k ≤ 2 ^ 11 := Nat.pow_le_pow_right (by decide) hk
  omega
/-- sums over a row of types: entry c of A, B, D as whole numbers -/
def far (n k : Nat) : Int := 2 * (k : Int) + 1 - n
def wgt (w : Nat) (f : Int) : Int := if w = 2 then 3 * f * f + 1 else if w = 1 then f else 1
def tot (ce : Nat → Int) (n w c : Nat) : Nat → List Nat → Int
  | _, [] => 0
  | k, t :: l => wgt w (far n k) * ce (9 * t + c) + tot ce n w c (k + 1) l
/-- mirrored, flat, straight -/
def isMir (l : List Nat) : Bool := l == l.reverse
def isFla (ce : Nat → Int) (l : List Nat) : Bool := [0, 1, 2, 4, 8].all (fun c => tot ce l.length 1 c 0 l == 0)
def isStr (ce : Nat → Int) (l : List Nat) : Bool := tot ce l.length 0 2 0 l == 0 && tot ce l.length 2 2 0 l == 0
def shp (ce : Nat → Int) (l : List Nat) : Nat := (if isMir l then 1 else 0) + (if isFla ce l then 2 else 0) + (if isStr ce l then 4 else 0)
/-- all orders of the plies of a bag (how many of each type), the row so far reversed: no run longer than rm, the least first -/
def runTop : List Nat → Nat
  | [] => 0
  | [_] => 1
  | a :: b :: l => if a % 4 = b % 4 then runTop (b :: l) + 1 else 1
def ords (rm : Nat) : Nat → (Nat → Nat) → List Nat → List (List Nat)
  | 0, _, pre => [pre.reverse]
  | d + 1, cnt, pre => (List.range 12).flatMap (fun t => if cnt t = 0 ∨ rm < runTop (t :: pre) then [] else ords rm d (fun x => if x = t then cnt x - 1 else cnt x) (t :: pre))
def cntOf (l : List Nat) : Nat → Nat := fun t => l.count t
def ordL (rm : Nat) (l : List Nat) : List (List Nat) := ords rm l.length (cntOf l) []
/-- the orders that the class keeps -/
def PO (cells : Nat → Int32) (rows_n : Nat) (rows : Nat → Int64) (size ready pool plies room : Int32) : Prop :=
  rows_n ≤ 40320 ∧ (ready = 0 ∨ (ready = 1 ∧ ∃ (l : List Nat) (rm : Nat), l.length ≤ 8 ∧ (∀ t ∈ l, t < 12) ∧ l.Pairwise (· ≤ ·) ∧ 1 ≤ rm ∧ rm ≤ 8 ∧ pool = pk l ∧ plies = nI l.length ∧ room = nI rm ∧ size = nI (ordL rm l).length ∧ (ordL rm l).length ≤ rows_n ∧ ∀ k, k < (ordL rm l).length → rows k = i64 ((pkN ((ordL rm l).getD k []) : Int) + 4294967296 * (shp (fun q => (cells q).toInt) ((ordL rm l).getD k [])))))
