theorem up6 (a0 a1 a2 a3 a4 a5 : Nat) : va_up (va_up (va_up (va_up (va_up (va_up (fun _ => none) 0 (some a0)) 1 (some a1)) 2 (some a2)) 3 (some a3)) 4 (some a4)) 5 (some a5) = (fun j => ([a0, a1, a2, a3, a4, a5] : List Nat)[j]?) := by
  funext j
  match j with
  | 0 => rfl
  | 1 => rfl
  | 2 => rfl
  | 3 => rfl
  | 4 => rfl
  | 5 => rfl
  | j + 6 => simp [va_up]
theorem up2 (a0 a1 : Nat) : va_up (va_up (fun _ => none) 0 (some a0)) 1 (some a1) = (fun j => ([a0, a1] : List Nat)[j]?) := by
  funext j
  match j with
  | 0 => rfl
  | 1 => rfl
  | j + 2 => simp [va_up]
/-- the planner's first state -/
def engS : ST := fun c => if c = 1 then va_cpy atF (fun _ => 0) 0 0 10 else if c = 0 then (fun k => if k = 9 then -1 else 0) else if 12 ≤ c ∧ c < 18 then (fun k => if k = 0 then -1 else if k = 6 then -1 else 0) else fun _ => 0
def tau0 (dq : ST) : ST := fun c => if c < 100 then engS c else if c < 200 then engS (c - 100) else if c < 300 then engS (c - 200) else if c < 400 then engS (c - 300) else if c = 401 then dq 1 else fun _ => 0
def adT (h : Nat) (f : Nat → Nat) : Nat → Nat := fun c => if c < 100 then f (2 + c) else if c < 200 then f (27 + (c - 100)) else if c < 300 then f (62 + (c - 200)) else if c < 400 then f (89 + (c - 300)) else if c = 400 then f 0 else if c = 401 then f 1 else if c = 402 then f 60 else if c = 403 then f 61 else if c = 404 then f 87 else if c = 405 then f 88 else if c < 600 then f (52 + (c - 500)) else if c = 600 then h else if c = 601 then f 57 else if c = 602 then f 58 else f 59
def jsT : List Nat := ([3, 4, 5, 6, 7, 8, 9, 10, 11, 12, 13, 14, 15, 16, 17, 18, 19, 20, 21, 22, 23, 24, 25, 26, 27, 1, 2, 28, 29, 30, 31, 32, 33, 34, 35, 36, 37, 38, 39, 40, 41, 42, 43, 44, 45, 46, 47, 48] ++ ([49, 50, 51, 52, 63, 64, 65, 66, 67, 68, 69, 70, 71, 72, 73, 74, 75, 76, 77, 78, 79, 80, 81, 82, 83, 84, 85, 86, 87, 90, 91, 92, 93, 94, 95, 96, 97, 98, 99, 100, 101, 102, 103, 104, 105, 106, 107, 108] ++ [109, 110, 111, 112, 113, 114, 61, 62, 88, 89, 53, 54, 55, 56, 57, 0, 58, 59, 60]))
set_option maxRecDepth 100000 in
set_option maxHeartbeats 40000000 in
theorem wT_start (cI cZ cS cD cE : ClassId) (dq : ST) (h : Nat) (f : Nat → Nat) : jsT.map (fun i => (po_X7_init cI cZ cS cD cE dq h f)[i]?) = (wfT (adT h f) cI cZ cS cD cE (tau0 dq)).map some := by
  unfold po_X7_init
  simp only [up6]
  simp only [up2]
  rfl
