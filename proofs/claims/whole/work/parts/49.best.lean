/-! best: the orders of the walls -/
def extP (n : Nat) : Nat → List Nat → List (List Nat)
  | 0, p => [p]
  | k + 1, p => ((List.range n).filter (fun v => !p.contains v)).flatMap (fun v => extP n k (p ++ [v]))
def Krow (n : Nat) (l : List Nat) : Mem := fun c j => if c = 32 then nI (l.getD j j) else if c = 24 ∧ j = 5 then nI n else 0
def nxOK (n : Nat) (r : List Nat) (t : List (List Nat)) : Bool :=
  match f_Day_nextRow (Krow n r) with
  | none => false
  | some (K, b) => match t with
    | [] => !b
    | r' :: _ => b && (List.range 6).all (fun i => K 32 i == nI (r'.getD i i))
def chkR (n : Nat) : List (List Nat) → Bool
  | [] => true
  | r :: t => nxOK n r t && (r.length == n) && r.all (fun x => decide (x < n)) && chkR n t
theorem chk_all : ∀ n, n < 7 → chkR n (extP n n []) = true ∧ (extP n n []).head? = some (List.range n) ∧ (extP n n []).length ≤ 720 := by decide +kernel
