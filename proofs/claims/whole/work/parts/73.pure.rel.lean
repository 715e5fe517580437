/-! THE RELATION between the planner's state and the reference's (a first draft of the words; nothing is proved of it here) -/
/-- an entry of the cache: block, stamp, touched, owner, fetched at, ahead -/
abbrev zEnt : Type := Int32 × Int32 × Int32 × Int32 × Int32 × Int32
def cEnt (σ : ST) (s : Nat) : zEnt := (σ 4 s, σ 5 s, σ 6 s, σ 7 s, σ 8 s, σ 9 s)
def rEnt (R : Nat → Int32) (i : Nat) : zEnt := (R (30 + 8 * i) - 1, R (32 + 8 * i), R (35 + 8 * i), R (34 + 8 * i) - 1, R (36 + 8 * i), R (33 + 8 * i))
def clsL (σ : ST) (size : Nat) : List zEnt := (List.range size).map (cEnt σ)
def refL (R : Nat → Int32) (room : Nat) : List zEnt := ((List.range room).filter (fun i => decide (0 < R (30 + 8 * i)))).map (rEnt R)
/-- terms within their bounds -/
def relTerms (σ : ST) (R : Nat → Int32) : Prop := ∀ k, k < 10 → σ 1 k = R k ∧ lowF k ≤ R k ∧ R k ≤ highF k
/-- counts: those that both keep as numbers; all of them nI of some number below 2 ^ 28 -/
def relCounts (σ : ST) (R : Nat → Int32) : Prop := (∀ k, k < 10 → σ 2 k = R (10 + k)) ∧ σ 2 14 = R 20 ∧ σ 3 9 = R 21 ∧ σ 18 4 = R 22 ∧ σ 2 17 = R 23 ∧ σ 2 19 = R 24 ∧ σ 2 30 = R 25 ∧ σ 22 2 = R 26 ∧ σ 2 32 = R 27 ∧ σ 2 33 = R 28
/-- the cache: the same entries in some order; every block of a slot is found by 'where'; blocks and stamps are apart -/
def relCache (σ : ST) (R : Nat → Int32) (dk : Nat → Int32) : Prop := ∃ room size : Nat, R 0 = nI room ∧ 4 ≤ room ∧ room ≤ 64 ∧ σ 3 7 = nI size ∧ size ≤ room ∧ (refL R room).Perm (clsL σ size) ∧
  (∀ i, i < room → 0 ≤ R (30 + 8 * i) ∧ (0 < R (30 + 8 * i) → (R (33 + 8 * i) = 0 ∨ R (33 + 8 * i) = 1) ∧ R (37 + 8 * i) = (if R (34 + 8 * i) = 0 then 0 else 1) ∧ R (31 + 8 * i) = dk (R (30 + 8 * i) - 1).toNatClampNeg)) ∧
  (∀ s, s < size → ∃ b : Nat, b < 10000 ∧ σ 4 s = nI b ∧ σ 10 b = nI (s + 1)) ∧ (∀ b, b < 10000 → σ 10 b = 0 ∨ ∃ s, s < size ∧ σ 10 b = nI (s + 1) ∧ σ 4 s = nI b) ∧
  (∀ s t, s < size → t < size → σ 5 s = σ 5 t → s = t) ∧ σ 3 8 = nI ((clsL σ size).countP (fun e => decide (e.2.2.2.2.2 = 1)))
/-- streams: place by place; a free place keeps what it likes -/
def relStreams (σ : ST) (R : Nat → Int32) : Prop := ∀ p, p < 6 → (σ (12 + p) 0 = -1 ∧ R (542 + 12 * p) = 0) ∨ (R (542 + 12 * p) = 1 ∧ 0 ≤ σ (12 + p) 0 ∧ ∀ k, k < 11 → σ (12 + p) k = R (543 + 12 * p + k))
/-- the log of windows: a ring against a row that is shifted -/
def relLog (σ : ST) (R : Nat → Int32) : Prop := ∃ lg nx : Nat, lg ≤ 40 ∧ nx < 40 ∧ R 26 = nI lg ∧ σ 22 1 = nI nx ∧ ∀ i w, i < lg → w < 4 → R (614 + 4 * i + w) = σ 23 (4 * ((nx + 40 - lg + i) % 40) + w)
/-- the trace: a ring against a row that is shifted -/
def relTrace (σ : ST) (R : Nat → Int32) : Prop := ∃ len el : Nat, len ≤ 400 ∧ el < 400 ∧ R 22 = nI len ∧ σ 18 3 = nI el ∧ ∀ i, i < len → R (774 + 3 * i) = σ 19 ((el + i) % 400) ∧ R (775 + 3 * i) = σ 20 ((el + i) % 400) ∧ R (776 + 3 * i) = σ 21 ((el + i) % 400)
/-- content and badness of the disk -/
def contentF (cells : Nat → Int32) (b : Nat) : Int32 := if cells b < 0 then -1 - cells b else cells b
def relDisk (cells : Nat → Int32) (dk bad : Nat → Int32) : Prop := ∀ b, b < 10000 → contentF cells b = dk b ∧ bad b = (if cells b < 0 then 1 else 0) ∧ 0 ≤ dk b ∧ dk b < 1000003
def relEng (σ : ST) (R dk : Nat → Int32) : Prop := relTerms σ R ∧ relCounts σ R ∧ relCache σ R dk ∧ relStreams σ R ∧ relLog σ R ∧ relTrace σ R
