/-! the first text: the two objects, new, are related -/
def ch0 : List Int32 := [114, 105, 112, 101, 110, 115, 32, 54, 48, 32, 45, 32, 119, 97, 114, 109, 32, 45, 32, 100, 105, 114, 116, 32, 42, 32, 52, 32, 45, 32, 97, 103, 101, 32, 42, 32, 50, 32, 59, 32, 116, 97, 107, 101, 115, 32, 50, 32, 59, 32, 115, 112, 111, 105, 108, 115, 32, 111, 102, 102, 32, 42, 32, 111, 102, 102, 32, 42, 32, 121, 97, 114, 100, 115, 32, 59, 32, 32, 32, 32]
def XT0 (sz : Int32) : Mem := fun c j => if c = 14 then ch0.getD j 0 else if c = 13 ∧ j = 1 then sz else 0
def okI (A B X : Mem) (r : Int32) : Bool :=
  (r == -1) && (A 1 5 == 0) && (B 0 12 == 0) && (A 0 6 == 1) && (B 0 3 == 1) && (A 1 6 == 0) && (B 0 4 == 0) && (List.range 6).all (fun j => A 2 j == B 4 j) && (B 4 3 == 1) &&
  (A 13 1 == 0) && (B 0 6 == 0) && (A 21 0 == 0) && (List.range 4).all (fun s => A (60 + 2 * s) 1 == -1 && B 19 s == 0) && (A 0 2 == 0) && (B 0 47 == -1) &&
  (B 2 0 == 80) && (List.range 80).all (fun j => B 1 (160 * 0 + j) == XT0 80 14 j && XT0 80 14 j == nI (XT0 80 14 j).toNatClampNeg && decide ((XT0 80 14 j).toNatClampNeg < 256)) &&
  (List.range 160).all (fun j => A 43 j == X 20 j) && (List.range 4).all (fun j => A 44 j == X 21 j)
def okIO (a b : Option Mem) (x : Option (Mem × Int32)) : Bool := match a, b, x with
  | some A, some B, some (X, r) => okI A B X r
  | _, _, _ => false
theorem ok_first : okIO (x_initTail MX0) (m_initTail MM0) (f_Reader_read (XT0 80)) = true := by decide +kernel
theorem okIO_e {a b : Option Mem} {x : Option (Mem × Int32)} (h : okIO a b x = true) : ∃ A B X r, a = some A ∧ b = some B ∧ x = some (X, r) ∧ okI A B X r = true := by
  match a, b, x with
  | some A, some B, some (X, r) => exact ⟨A, B, X, r, rfl, rfl, rfl, h⟩
  | none, _, _ => cases h
  | some A, none, _ => cases h
  | some A, some B, none => cases h
theorem first_rel : ∃ A B, x_initTail MX0 = some A ∧ m_initTail MM0 = some B ∧ Rel A B := by
  obtain ⟨A, B, X, r, hA, hB, hX, h⟩ := okIO_e ok_first
  refine ⟨A, B, hA, hB, 0, 1, ?_⟩
  unfold okI at h
  simp only [Bool.and_eq_true, beq_iff_eq, List.all_eq_true, List.mem_range, decide_eq_true_eq] at h
  obtain ⟨⟨⟨⟨⟨⟨⟨⟨⟨⟨⟨⟨⟨⟨⟨⟨⟨⟨h1, h2⟩, h3⟩, h4⟩, h5⟩, h6⟩, h7⟩, h8⟩, h9⟩, h10⟩, h11⟩, h12⟩, h13⟩, h14⟩, h15⟩, h16⟩, h17⟩, h18⟩, h19⟩ := h
  subst h1
  refine ⟨⟨by omega, h2, h3, by omega, by omega, h4, h5, ⟨0, by omega, h6, h7⟩, fun t ht => ?_, h8, fun i hi => absurd hi (Nat.not_lt_zero i), by rw [h9]; decide, fun i hi => absurd hi (Nat.not_lt_zero i)⟩, ⟨0, by omega, h10, h11, fun j hj => absurd hj (Nat.not_lt_zero j)⟩, h12, fun s hs => Or.inl (h13 s hs), Or.inl ⟨h14, h15⟩⟩
  have ht0 : t = 0 := by omega
  subst ht0
  refine ⟨XT0 80, X, 80, by omega, rfl, fun j hj => ⟨_, (h17 j hj).2, (h17 j hj).1.2⟩, rfl, hX, h16, fun j hj => (h17 j hj).1.1, h18, h19⟩
