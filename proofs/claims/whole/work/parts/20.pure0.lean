/-! ===== pure rows: what the printed functions do, no machine any more ===== -/
theorem bnd_s {α β : Type} (x : α) (f : α → β) : bnd x f = f x := Eq.trans (Eq.refl _) (Eq.refl _)
theorem jp_s {α β : Type} (k : α) (f : α → β) : jp k f = f k := Eq.trans (Eq.refl _) (Eq.refl _)
theorem obp_s {α β : Type} (a : α) (k : α → Option β) : ob (some a) k = k a := Eq.trans (Eq.refl _) (Eq.refl _)
theorem obp2_s {α γ β : Type} (a : α) (c : γ) (k : α → γ → Option β) : ob2 (some (a, c)) k = k a c := Eq.trans (Eq.refl _) (Eq.refl _)
theorem ck_s {β : Type} {i : Int32} {n : Nat} (x : Option β) (h : ¬ (i < 0 ∨ n ≤ i.toNatClampNeg)) : ck i n x = x := by unfold ck; exact if_neg h
theorem ck_n {β : Type} {k n : Nat} (x : Option β) (h : k < n) (hn : n < 2 ^ 31) : ck (nI k) n x = x := ck_s x (nI_in h hn)
theorem nz_s {β : Type} {y : Int32} (x : Option β) (h : ¬ y = 0) : nz y x = x := by unfold nz; exact if_neg h
theorem nzL_s {β : Type} {y : Int64} (x : Option β) (h : ¬ y = 0) : nzL y x = x := by unfold nzL; exact if_neg h
theorem rq_s {β : Type} {c : Prop} [Decidable c] (x : Option β) (h : c) : rq c x = x := by unfold rq; exact if_pos h
theorem oc_0 {α β : Type} (n : β) (f : α → β) : oc none n f = n := rfl
theorem oc_1 {α β : Type} (a : α) (n : β) (f : α → β) : oc (some a) n f = f a := rfl
theorem wr_at (M : Mem) (c k : Nat) (x : Int32) (a j : Nat) : wr M c k x a j = if a = c ∧ j = k then x else M a j := by
  unfold wr upd
  by_cases h : a = c
  · subst h
    by_cases g : j = k
    · subst g; simp
    · simp [g]
  · simp [h]
theorem wr_hit (M : Mem) (c k : Nat) (x : Int32) : wr M c k x c k = x := by rw [wr_at]; simp
theorem wr_off (M : Mem) (c k : Nat) (x : Int32) (a j : Nat) (h : ¬ (a = c ∧ j = k)) : wr M c k x a j = M a j := by rw [wr_at, if_neg h]
theorem nI_lit0 : (0 : Int32) = nI 0 := rfl
theorem nI_lit1 : (1 : Int32) = nI 1 := rfl
theorem nI_lit2 : (2 : Int32) = nI 2 := rfl
theorem nI_lit3 : (3 : Int32) = nI 3 := rfl
theorem nI_lit4 : (4 : Int32) = nI 4 := rfl
theorem nI_lit5 : (5 : Int32) = nI 5 := rfl
theorem nI_lit6 : (6 : Int32) = nI 6 := rfl
theorem nI_lit7 : (7 : Int32) = nI 7 := rfl
theorem nI_lit8 : (8 : Int32) = nI 8 := rfl
theorem nI_lit9 : (9 : Int32) = nI 9 := rfl
theorem nI_lit10 : (10 : Int32) = nI 10 := rfl
theorem nI_lit11 : (11 : Int32) = nI 11 := rfl
theorem nI_lit12 : (12 : Int32) = nI 12 := rfl
theorem nI_lit13 : (13 : Int32) = nI 13 := rfl
theorem nI_lit14 : (14 : Int32) = nI 14 := rfl
theorem nI_lit15 : (15 : Int32) = nI 15 := rfl
theorem nI_lit20 : (20 : Int32) = nI 20 := rfl
theorem nI_lit40 : (40 : Int32) = nI 40 := rfl
theorem nI_lit60 : (60 : Int32) = nI 60 := rfl
theorem nI_lit160 : (160 : Int32) = nI 160 := rfl
theorem nI_lit255 : (255 : Int32) = nI 255 := rfl
theorem nI_lit720 : (720 : Int32) = nI 720 := rfl
theorem nI_lit4000 : (4000 : Int32) = nI 4000 := rfl
theorem nI_mul (a b : Nat) : nI a * nI b = nI (a * b) := by
  unfold nI
  exact (Int32.ofNat_mul a b).symm
theorem nI_sub {a b : Nat} (h : b ≤ a) : nI a - nI b = nI (a - b) := by
  have e : nI a = nI (a - b) + nI b := by rw [nI_add, Nat.sub_add_cancel h]
  rw [e]
  exact Int32.add_sub_cancel _ _
theorem nI_eqI {a b : Nat} (ha : a < 2 ^ 31) (hb : b < 2 ^ 31) : (nI a = nI b) = (a = b) := propext (nI_eq ha hb)
theorem nI_leE {a b : Nat} (ha : a < 2 ^ 31) (hb : b < 2 ^ 31) : (nI a ≤ nI b) = (a ≤ b) := propext (nI_leI ha hb)
theorem nI_ltE {a b : Nat} (ha : a < 2 ^ 31) (hb : b < 2 ^ 31) : (nI a < nI b) = (a < b) := propext (nI_ltI ha hb)
theorem nI_neg1 {a : Nat} (ha : a < 2 ^ 31) : (nI a = -1) = False := by
  refine eq_false (fun h => ?_)
  have := congrArg Int32.toInt h
  rw [nI_toInt ha] at this
  have e : (-1 : Int32).toInt = -1 := by decide
  omega
theorem nI_lt0 {a : Nat} (ha : a < 2 ^ 31) : (nI a < 0) = False := eq_false (nI_pos ha)
theorem nI_cl {n : Nat} (h : n < 2 ^ 31) : (nI n).toNatClampNeg = n := nI_clamp h
theorem i_add {a b : Int32} (h1 : -2147483648 ≤ a.toInt + b.toInt) (h2 : a.toInt + b.toInt < 2147483648) : (a + b).toInt = a.toInt + b.toInt := by
  rw [Int32.toInt_add]
  exact Int.bmod_eq_of_le (by omega) (by omega)
theorem i_sub {a b : Int32} (h1 : -2147483648 ≤ a.toInt - b.toInt) (h2 : a.toInt - b.toInt < 2147483648) : (a - b).toInt = a.toInt - b.toInt := by
  rw [Int32.toInt_sub]
  exact Int.bmod_eq_of_le (by omega) (by omega)
theorem i_mul {a b : Int32} (h1 : -2147483648 ≤ a.toInt * b.toInt) (h2 : a.toInt * b.toInt < 2147483648) : (a * b).toInt = a.toInt * b.toInt := by
  rw [Int32.toInt_mul]
  exact Int.bmod_eq_of_le (by omega) (by omega)
theorem i_lt {a b : Int32} : a < b ↔ a.toInt < b.toInt := Int32.lt_iff_toInt_lt
theorem i_le {a b : Int32} : a ≤ b ↔ a.toInt ≤ b.toInt := Int32.le_iff_toInt_le
theorem i_eq {a b : Int32} : a = b ↔ a.toInt = b.toInt := Int32.toInt_inj.symm
theorem i_nI {n : Nat} (h : n < 2147483648) : (nI n).toInt = (n : Int) := nI_toInt h
theorem i_ofnat {x : Int32} {n : Nat} (h0 : 0 ≤ x.toInt) (h : x.toInt ≤ (n : Int)) : ∃ j : Nat, j ≤ n ∧ x = nI j ∧ x.toInt = (j : Int) := by
  refine ⟨x.toInt.toNat, by omega, ?_, by omega⟩
  have hlt : x.toInt < 2147483648 := Int32.toInt_lt x
  rw [i_eq, i_nI (by omega)]
  omega
/-- a loop that counts up to n -/
theorem lp_up {β σ : Type} (F : Nat → Int32 → σ → Option β) (j : σ → Option β) (n : Nat) (I : Nat → σ → Prop)
    (hstop : ∀ fu s, I n s → F (fu + 1) (nI n) s = j s)
    (hstep : ∀ fu k s, k < n → I k s → ∃ s', I (k + 1) s' ∧ F (fu + 1) (nI k) s = F fu (nI (k + 1)) s') :
    ∀ fu k s, k ≤ n → n < fu + k → I k s → ∃ s', I n s' ∧ F fu (nI k) s = j s' := by
  intro fu
  induction fu with
  | zero => intro k s h1 h2; omega
  | succ fu ih =>
    intro k s h1 h2 hI
    by_cases hk : k = n
    · subst hk
      exact ⟨s, hI, hstop fu s hI⟩
    · obtain ⟨s', hI', e⟩ := hstep fu k s (by omega) hI
      obtain ⟨s2, hI2, e2⟩ := ih (k + 1) s' (by omega) (by omega) hI'
      exact ⟨s2, hI2, e.trans e2⟩
theorem lp_FU {β σ : Type} (F : Nat → Int32 → σ → Option β) (j : σ → Option β) (n : Nat) (I : Nat → σ → Prop) (hn : n < 100000)
    (hstop : ∀ fu s, I n s → F (fu + 1) (nI n) s = j s)
    (hstep : ∀ fu k s, k < n → I k s → ∃ s', I (k + 1) s' ∧ F (fu + 1) (nI k) s = F fu (nI (k + 1)) s')
    {s : σ} (h0 : I 0 s) : ∃ s', I n s' ∧ F FU 0 s = j s' :=
  lp_up F j n I hstop hstep FU 0 s (Nat.zero_le n) (by unfold FU; omega) h0
theorem i_rng (a lo hi : Int32) : (if a < lo then some false else if hi < a then some false else some true) = some (decide (lo ≤ a ∧ a ≤ hi)) := by
  by_cases g1 : a < lo
  · rw [if_pos g1, decide_eq_false (fun h => by have h1 := i_le.mp h.1; have h2 := i_lt.mp g1; omega)]
  · rw [if_neg g1]
    by_cases g2 : hi < a
    · rw [if_pos g2, decide_eq_false (fun h => by have h1 := i_le.mp h.2; have h2 := i_lt.mp g2; omega)]
    · rw [if_neg g2, decide_eq_true ⟨i_le.mpr (by rw [i_lt] at g1; omega), i_le.mpr (by rw [i_lt] at g2; omega)⟩]
theorem i_in {a : Int32} {lo hi : Int32} {lo' hi' : Int64} (h1 : lo.toInt64 = lo') (h2 : hi.toInt64 = hi') : m_in a.toInt64 lo' hi' = some (decide (lo ≤ a ∧ a ≤ hi)) := by
  subst h1
  subst h2
  unfold m_in
  have e1 : (lg_cmp a.toInt64 lo.toInt64 < 0) ↔ a < lo := by
    rw [lg_cmp_lt, Int64.lt_iff_toInt_lt, Int32.toInt_toInt64, Int32.toInt_toInt64, i_lt]
  have e2 : (0 < lg_cmp a.toInt64 hi.toInt64) ↔ hi < a := by
    rw [lg_cmp_gt, Int64.lt_iff_toInt_lt, Int32.toInt_toInt64, Int32.toInt_toInt64, i_lt]
  simp only [e1, e2]
  exact i_rng a lo hi
