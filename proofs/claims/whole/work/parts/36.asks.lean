/-! what is asked of a day that was lived -/
theorem fold_up {β : Type} (F : Nat → Int32 → Int32 → Option β) (j : Int32 → Option β) (g : Nat → Int32) (n : Nat)
    (hstop : ∀ fu, F (fu + 1) (g n) (nI n) = j (g n)) (hstep : ∀ fu k, k < n → F (fu + 1) (g k) (nI k) = F fu (g (k + 1)) (nI (k + 1))) :
    ∀ fu k, k ≤ n → n < fu + k → F fu (g k) (nI k) = j (g n) := by
  intro fu
  induction fu with
  | zero => intro k h1 h2; omega
  | succ fu ih =>
    intro k h1 h2
    by_cases hk : k = n
    · subst hk; exact hstop fu
    · rw [hstep fu k (by omega)]
      exact ih (k + 1) (by omega) (by omega)
theorem fold_FU {β : Type} (F : Nat → Int32 → Int32 → Option β) (j : Int32 → Option β) (g : Nat → Int32) (n : Nat) (hn : n < 100000)
    (hstop : ∀ fu, F (fu + 1) (g n) (nI n) = j (g n)) (hstep : ∀ fu k, k < n → F (fu + 1) (g k) (nI k) = F fu (g (k + 1)) (nI (k + 1))) : F FU (g 0) 0 = j (g n) :=
  fold_up F j g n hstop hstep FU 0 (Nat.zero_le _) (by unfold FU; omega)
def bitsF (p : Nat → Bool) : Nat → Int32
  | 0 => 0
  | k + 1 => bitsF p k ||| (if p k = true then 1 <<< (nI k &&& 31) else 0)
theorem bit_ne : ∀ k, k < 6 → ¬ (1 : Int32) <<< (nI k &&& 31) = 0 := by decide
theorem bitsF_0 {p : Nat → Bool} : ∀ k, k ≤ 6 → (bitsF p k = 0 ↔ ∀ i, i < k → p i = false) := by
  intro k
  induction k with
  | zero => exact fun _ => ⟨fun _ i hi => by omega, fun _ => rfl⟩
  | succ k ih =>
    intro hk
    rw [bitsF, Int32.or_eq_zero_iff, ih (by omega)]
    constructor
    · rintro ⟨h1, h2⟩ i hi
      by_cases hik : i = k
      · subst hik
        cases hp : p i with
        | false => rfl
        | true => rw [if_pos hp] at h2; exact absurd h2 (bit_ne i (by omega))
      · exact h1 i (by omega)
    · intro h
      refine ⟨fun i hi => h i (by omega), ?_⟩
      rw [h k (by omega)]
      rfl
theorem bitsF_ext {p q : Nat → Bool} : ∀ k, (∀ i, i < k → p i = q i) → bitsF p k = bitsF q k := by
  intro k
  induction k with
  | zero => intro _; rfl
  | succ k ih =>
    intro h
    rw [bitsF, bitsF, ih (fun i hi => h i (by omega)), h k (by omega)]
theorem bitsF_tail {p : Nat → Bool} {n : Nat} : ∀ d, (∀ i, n ≤ i → i < n + d → p i = false) → bitsF p (n + d) = bitsF p n := by
  intro d
  induction d with
  | zero => intro _; rfl
  | succ d ih =>
    intro h
    show bitsF p (n + d + 1) = _
    rw [bitsF, ih (fun i h1 h2 => h i h1 (by omega)), h (n + d) (by omega) (by omega)]
    exact Int32.or_zero
theorem late_cl (M : Mem) : f_Day_late M = some (bitsF (fun i => decide (¬ M 39 i ≤ 0)) 6) := by
  unfold f_Day_late
  rw [jp_s]
  refine fold_FU (fun fu v k => f_Day_late_L4 M (fun v1 => some v1) fu v k) (fun v1 => some v1) (bitsF (fun i => decide (¬ M 39 i ≤ 0))) 6 (by omega) (fun fu => ?_) (fun fu k hk => ?_)
  · show f_Day_late_L4 M _ (fu + 1) _ (nI 6) = _
    simp only [f_Day_late_L4, if_pos (show (6 : Int32) ≤ nI 6 by decide)]
  · show f_Day_late_L4 M _ (fu + 1) _ (nI k) = f_Day_late_L4 M _ fu _ (nI (k + 1))
    simp only [f_Day_late_L4, if_neg (show ¬ (6 : Int32) ≤ nI k from nI_ge (b := 6) hk (by omega)), ck_n _ hk (show 6 < 2 ^ 31 by omega), nI_cl (show k < 2 ^ 31 by omega), jp_s, bnd_s, nI_1, bitsF]
    by_cases g : M 39 k ≤ 0
    · rw [if_pos g, if_neg (by simp [g])]
    · rw [if_neg g, if_pos (by simp [g])]
theorem early_cl (M : Mem) : f_Day_early M = some (bitsF (fun i => decide (¬ 0 ≤ M 39 i)) 6) := by
  unfold f_Day_early
  rw [jp_s]
  refine fold_FU (fun fu v k => f_Day_early_L4 M (fun v1 => some v1) fu v k) (fun v1 => some v1) (bitsF (fun i => decide (¬ 0 ≤ M 39 i))) 6 (by omega) (fun fu => ?_) (fun fu k hk => ?_)
  · show f_Day_early_L4 M _ (fu + 1) _ (nI 6) = _
    simp only [f_Day_early_L4, if_pos (show (6 : Int32) ≤ nI 6 by decide)]
  · show f_Day_early_L4 M _ (fu + 1) _ (nI k) = f_Day_early_L4 M _ fu _ (nI (k + 1))
    simp only [f_Day_early_L4, if_neg (show ¬ (6 : Int32) ≤ nI k from nI_ge (b := 6) hk (by omega)), ck_n _ hk (show 6 < 2 ^ 31 by omega), nI_cl (show k < 2 ^ 31 by omega), jp_s, bnd_s, nI_1, bitsF]
    by_cases g : 0 ≤ M 39 k
    · rw [if_pos g, if_neg (by simp [g])]
    · rw [if_neg g, if_pos (by simp [g])]
theorem set_late {B : Mem} {N : Nat} (hN : N ≤ 6) (h : B 0 12 = nI N) : m_setOf B 1 = some (bitsF (fun i => decide (¬ B 16 i ≤ 0)) N) := by
  unfold m_setOf
  rw [jp_s]
  refine fold_FU (fun fu v k => m_setOf_L4 B 1 (fun v1 => some v1) fu v k) (fun v1 => some v1) (bitsF (fun i => decide (¬ B 16 i ≤ 0))) N (by omega) (fun fu => ?_) (fun fu k hk => ?_)
  · show m_setOf_L4 B 1 _ (fu + 1) _ (nI N) = _
    simp only [m_setOf_L4, h, if_pos (Int32.le_refl (nI N))]
  · show m_setOf_L4 B 1 _ (fu + 1) _ (nI k) = m_setOf_L4 B 1 _ fu _ (nI (k + 1))
    simp only [m_setOf_L4, h, if_neg (nI_ge hk (show N < 2 ^ 31 by omega)), ck_n _ (show k < 6 by omega) (show 6 < 2 ^ 31 by omega), nI_cl (show k < 2 ^ 31 by omega), jp_s, bnd_s, nI_1, bitsF, if_neg (show ¬ (1 : Int32) ≤ 0 by decide)]
    by_cases g : B 16 k ≤ 0
    · rw [if_pos g, if_neg (by simp [g])]
    · rw [if_neg g, if_pos (by simp [g])]
theorem set_early {B : Mem} {N : Nat} (hN : N ≤ 6) (h : B 0 12 = nI N) : m_setOf B (-1) = some (bitsF (fun i => decide (¬ 0 ≤ B 16 i)) N) := by
  unfold m_setOf
  rw [jp_s]
  refine fold_FU (fun fu v k => m_setOf_L4 B (-1) (fun v1 => some v1) fu v k) (fun v1 => some v1) (bitsF (fun i => decide (¬ 0 ≤ B 16 i))) N (by omega) (fun fu => ?_) (fun fu k hk => ?_)
  · show m_setOf_L4 B (-1) _ (fu + 1) _ (nI N) = _
    simp only [m_setOf_L4, h, if_pos (Int32.le_refl (nI N))]
  · show m_setOf_L4 B (-1) _ (fu + 1) _ (nI k) = m_setOf_L4 B (-1) _ fu _ (nI (k + 1))
    simp only [m_setOf_L4, h, if_neg (nI_ge hk (show N < 2 ^ 31 by omega)), ck_n _ (show k < 6 by omega) (show 6 < 2 ^ 31 by omega), nI_cl (show k < 2 ^ 31 by omega), jp_s, bnd_s, nI_1, bitsF, if_pos (show (-1 : Int32) ≤ 0 by decide)]
    by_cases g : 0 ≤ B 16 k
    · rw [if_pos g, if_neg (by simp [g])]
    · rw [if_neg g, if_pos (by simp [g])]
theorem Lived.late {A B A' B' : Mem} {n N : Nat} (h : Lived A B A' B' n) (hnN : n ≤ N) (hN : N ≤ 6) (hB : B' 0 12 = nI N) : ∃ v, f_Day_late A' = some v ∧ m_setOf B' 1 = some v := by
  obtain ⟨-, -, -, -, -, h6, h7⟩ := h
  refine ⟨_, late_cl A', ?_⟩
  rw [set_late hN hB]
  have e : 6 = N + (6 - N) := by omega
  rw [e, bitsF_tail (6 - N) (fun i h1 h2 => by rw [h7 i (by omega) (by omega)]; decide)]
  congr 1
  exact bitsF_ext _ (fun i hi => by rw [(h6 i (by omega)).2.2.2])
theorem Lived.early {A B A' B' : Mem} {n N : Nat} (h : Lived A B A' B' n) (hnN : n ≤ N) (hN : N ≤ 6) (hB : B' 0 12 = nI N) : ∃ v, f_Day_early A' = some v ∧ m_setOf B' (-1) = some v := by
  obtain ⟨-, -, -, -, -, h6, h7⟩ := h
  refine ⟨_, early_cl A', ?_⟩
  rw [set_early hN hB]
  have e : 6 = N + (6 - N) := by omega
  rw [e, bitsF_tail (6 - N) (fun i h1 h2 => by rw [h7 i (by omega) (by omega)]; decide)]
  congr 1
  exact bitsF_ext _ (fun i hi => by rw [(h6 i (by omega)).2.2.2])
/-! ### tests -/
theorem in_b {a : Int32} {lo hi : Int32} {lo' hi' : Int64} (h1 : lo.toInt64 = lo') (h2 : hi.toInt64 = hi') : ∃ z, m_in a.toInt64 lo' hi' = some z ∧ (z = true ↔ lo.toInt ≤ a.toInt ∧ a.toInt ≤ hi.toInt) :=
  ⟨_, i_in h1 h2, by rw [decide_eq_true_iff, i_le, i_le]⟩
theorem has2 {A B : Mem} {n : Nat} (hn : n ≤ 6) (hA : A 1 5 = nI n) (hB : B 0 12 = nI n) (w : Int32) : ∃ z, f_Site_has A 1 w = some z ∧ m_isWall B w = some z ∧ (z = true ↔ ∃ i, i < n ∧ w = nI i) := by
  have e1 : (nI n - 1).toInt = (n : Int) - 1 := by
    have c1 : (1 : Int32).toInt = 1 := by decide
    rw [i_sub (by rw [c1, i_nI (by omega)]; omega) (by rw [c1, i_nI (by omega)]; omega), c1, i_nI (by omega)]
  have c0 : (0 : Int32).toInt = 0 := by decide
  have c6 : (6 : Int32).toInt = 6 := by decide
  obtain ⟨z, z1, z2⟩ := in_b (a := w) (lo := 0) (hi := nI n - 1) (lo' := 0) (hi' := (nI n - 1).toInt64) (by decide) rfl
  have hz : z = true ↔ ∃ i, i < n ∧ w = nI i := by
    rw [z2, e1, c0]
    constructor
    · rintro ⟨g1, g2⟩
      obtain ⟨j, j1, j2, j3⟩ := i_ofnat (x := w) (n := 5) g1 (by omega)
      exact ⟨j, by omega, j2⟩
    · rintro ⟨i, g1, g2⟩
      rw [g2, i_nI (by omega)]
      omega
  refine ⟨z, ?_, ?_, hz⟩
  · unfold f_Site_has
    rw [hA]
    by_cases g : ∃ i, i < n ∧ w = nI i
    · rw [hz.mpr g]
      obtain ⟨i, g1, g2⟩ := g
      rw [g2, if_neg (nI_pos (by omega)), if_neg (nI_ge g1 (by omega)), if_neg (show ¬ (6 : Int32) ≤ nI i from nI_ge (b := 6) (by omega) (by omega))]
    · have hzf : z = false := by
        cases z with
        | false => rfl
        | true => exact absurd (hz.mp rfl) g
      rw [hzf]
      by_cases g1 : w < 0
      · rw [if_pos g1]
      · rw [if_neg g1]
        by_cases g2 : nI n ≤ w
        · rw [if_pos g2]
        · exfalso
          apply g
          rw [i_lt] at g1
          rw [i_le, i_nI (by omega)] at g2
          obtain ⟨j, j1, j2, j3⟩ := i_ofnat (x := w) (n := 6) (by omega) (by omega)
          exact ⟨j, by omega, j2⟩
  · unfold m_isWall
    rw [hB, z1, obp_s]
theorem isday2 {A B : Mem} {n : Nat} (hn : n ≤ 6) (hA : A 1 5 = nI n) (hB : B 0 12 = nI n) (a : Int32) : ∃ z, x_isOfDay A a = some z ∧ m_isTells B a = some z ∧ (z = true → (∃ k, k ≤ 4 ∧ a = nI k) ∨ (∃ k, 10 ≤ k ∧ k < 50 ∧ a = nI k ∧ ∃ i, i < n ∧ a - a / 10 * 10 = nI i)) := by
  have c0 : (0 : Int32).toInt = 0 := by decide
  have c4 : (4 : Int32).toInt = 4 := by decide
  have c10 : (10 : Int32).toInt = 10 := by decide
  have c49 : (49 : Int32).toInt = 49 := by decide
  have c50 : (50 : Int32).toInt = 50 := by decide
  obtain ⟨z, z1, z2⟩ := in_b (a := a) (lo := 0) (hi := 4) (lo' := 0) (hi' := 4) (by decide) (by decide)
  obtain ⟨y, y1, y2⟩ := in_b (a := a) (lo := 10) (hi := 49) (lo' := 10) (hi' := 49) (by decide) (by decide)
  obtain ⟨x, x1, x2, x3⟩ := has2 hn hA hB (a - a / 10 * 10)
  rw [c0, c4] at z2
  rw [c10, c49] at y2
  unfold x_isOfDay m_isTells
  rw [z1, y1, x1, x2]
  by_cases g10 : 10 ≤ a
  · have g := i_le.mp g10
    have hz : z = false := by cases z with
      | false => rfl
      | true => have := z2.mp rfl; omega
    subst hz
    rw [if_pos g10]
    by_cases g50 : 50 ≤ a
    · have g' := i_le.mp g50
      have hy : y = false := by cases y with
        | false => rfl
        | true => have := y2.mp rfl; omega
      subst hy
      exact ⟨false, by rw [if_pos g50], by simp only [obp_s]; rfl, fun h => by cases h⟩
    · have g' : a.toInt < 50 := by
        have : ¬ (50 : Int32).toInt ≤ a.toInt := fun h => g50 (i_le.mpr h)
        omega
      have hy : y = true := y2.mpr (by omega)
      subst hy
      refine ⟨x, ?_, ?_, fun h => Or.inr ?_⟩
      · rw [if_neg g50, obp_s]
        cases x <;> rfl
      · simp only [obp_s]
        cases x <;> rfl
      · obtain ⟨j, j1, j2, j3⟩ := i_ofnat (x := a) (n := 49) (by omega) (by omega)
        exact ⟨j, by omega, by omega, j2, x3.mp h⟩
  · have g : a.toInt < 10 := by
      have : ¬ (10 : Int32).toInt ≤ a.toInt := fun h => g10 (i_le.mpr h)
      omega
    have hy : y = false := by cases y with
      | false => rfl
      | true => have := y2.mp rfl; omega
    subst hy
    rw [if_neg g10]
    refine ⟨z, ?_, ?_, fun h => Or.inl ?_⟩
    · by_cases g0 : a < 0
      · rw [if_pos g0]
        have := i_lt.mp g0
        cases z with
        | false => rfl
        | true => have := z2.mp rfl; omega
      · rw [if_neg g0]
        by_cases g4 : 4 < a
        · rw [if_pos g4]
          have := i_lt.mp g4
          cases z with
          | false => rfl
          | true => have := z2.mp rfl; omega
        · rw [if_neg g4]
          have h0 : ¬ a.toInt < (0 : Int32).toInt := fun h => g0 (i_lt.mpr h)
          have h4 : ¬ (4 : Int32).toInt < a.toInt := fun h => g4 (i_lt.mpr h)
          rw [z2.mpr (by omega)]
    · simp only [obp_s]
      cases z <;> rfl
    · have := z2.mp h
      obtain ⟨j, j1, j2, j3⟩ := i_ofnat (x := a) (n := 4) (by omega) (by omega)
      exact ⟨j, j1, j2⟩
theorem div10 : ∀ k, k < 50 → nI k / 10 = nI (k / 10) := by decide +kernel
/-- what a day tells -/
theorem ofday2 {A B A' B' : Mem} {n N : Nat} (h : Lived A B A' B' n) (hnN : n ≤ N) (hN : N ≤ 6) (hB : B' 0 12 = nI N) (hA : A' 1 5 = nI N) {a : Int32} (ha : (∃ k, k ≤ 4 ∧ a = nI k) ∨ (∃ k, 10 ≤ k ∧ k < 50 ∧ a = nI k ∧ ∃ i, i < N ∧ a - a / 10 * 10 = nI i)) : ∃ v, x_ofDay A' a = some v ∧ m_tells B' a = some v := by
  obtain ⟨v3, p3, q3⟩ := h.late hnN hN hB
  obtain ⟨v4, p4, q4⟩ := h.early hnN hN hB
  obtain ⟨-, -, h1, h2, h3, h6, h7⟩ := h
  rcases ha with ⟨k, hk, rfl⟩ | ⟨k, hk1, hk2, rfl, i, hi, hmod⟩
  · match k, hk with
    | 0, _ => exact ⟨A' 23 16, rfl, by rw [h1]; rfl⟩
    | 1, _ => exact ⟨A' 23 14, rfl, by rw [h2]; rfl⟩
    | 2, _ => exact ⟨A' 23 15, rfl, by rw [h3]; rfl⟩
    | 3, _ =>
      refine ⟨v3, ?_, ?_⟩
      · show ob (f_Day_late A') (fun v2 => some v2) = _
        rw [p3, obp_s]
      · show ob (m_setOf B' 1) (fun v5 => some v5) = _
        rw [q3, obp_s]
    | 4, _ =>
      refine ⟨v4, ?_, ?_⟩
      · show ob (f_Day_early A') (fun v2 => some v2) = _
        rw [p4, obp_s]
      · show ob (m_setOf B' (-1)) (fun v5 => some v5) = _
        rw [q4, obp_s]
  · obtain ⟨z, z1, -, z3⟩ := has2 (B := B') hN hA hB (nI i)
    have hz : z = true := z3.mpr ⟨i, hi, rfl⟩
    subst hz
    obtain ⟨y1, y2, y3, y4⟩ := h6 i (by omega)
    have hn : ∀ j, j < 5 → ¬ nI k = nI j := fun j hj e => by have := nI_inj e (by omega) (by omega); omega
    have f0 : ¬ nI k = 0 := hn 0 (by omega)
    have f1 : ¬ nI k = 1 := hn 1 (by omega)
    have f2 : ¬ nI k = 2 := hn 2 (by omega)
    have f3 : ¬ nI k = 3 := hn 3 (by omega)
    have f4 : ¬ nI k = 4 := hn 4 (by omega)
    have hcl : x_ofDay A' (nI k) = x_ofWallsDay A' (nI i) (nI (k / 10)) := by
      unfold x_ofDay
      rw [if_neg f0, if_neg f1, if_neg f2, if_neg f3, if_neg f4, hmod, div10 k hk2]
      cases x_ofWallsDay A' (nI i) (nI (k / 10)) <;> rfl
    have g5 : (5 : Int32) ≤ nI k := nI_le (a := 5) (by omega) (by omega)
    have hcl2 : ∀ q, 1 ≤ q → q < 5 → k / 10 = q → x_ofDay A' (nI k) = some (A' (35 + q) i) := fun q q1 q2 hq => by
      rw [hcl, hq]
      unfold x_ofWallsDay
      rw [z1, obp_s]
      match q, q1, q2 with
      | 1, _, _ => rw [if_pos rfl, if_pos (by decide), ck_n _ (show i < 6 by omega) (by omega), nI_cl (by omega)]
      | 2, _, _ => rw [if_pos rfl, if_neg (by decide), if_pos (by decide), ck_n _ (show i < 6 by omega) (by omega), nI_cl (by omega)]
      | 3, _, _ => rw [if_pos rfl, if_neg (by decide), if_neg (by decide), if_pos (by decide), ck_n _ (show i < 6 by omega) (by omega), nI_cl (by omega)]
      | 4, _, _ => rw [if_pos rfl, if_neg (by decide), if_neg (by decide), if_neg (by decide), if_pos (by decide), ck_n _ (show i < 6 by omega) (by omega), nI_cl (by omega)]
    have hrf : m_tells B' (nI k) = if 20 ≤ k then (if 30 ≤ k then (if 40 ≤ k then some (B' 16 i) else some (B' 15 i)) else some (B' 14 i)) else some (B' 13 i) := by
      have l20 : (20 : Int32) ≤ nI k ↔ 20 ≤ k := nI_leI (a := 20) (by omega) (by omega)
      have l30 : (30 : Int32) ≤ nI k ↔ 30 ≤ k := nI_leI (a := 30) (by omega) (by omega)
      have l40 : (40 : Int32) ≤ nI k ↔ 40 ≤ k := nI_leI (a := 40) (by omega) (by omega)
      unfold m_tells
      simp only [if_pos g5, hmod, bnd_s, ck_n _ (show i < 6 by omega) (show 6 < 2 ^ 31 by omega), nI_cl (show i < 2 ^ 31 by omega), l20, l30, l40]
    by_cases g2 : 20 ≤ k
    · by_cases g3 : 30 ≤ k
      · by_cases g4 : 40 ≤ k
        · exact ⟨_, hcl2 4 (by omega) (by omega) (by omega), by rw [hrf, if_pos g2, if_pos g3, if_pos g4, ← y4]⟩
        · exact ⟨_, hcl2 3 (by omega) (by omega) (by omega), by rw [hrf, if_pos g2, if_pos g3, if_neg g4, ← y3]⟩
      · exact ⟨_, hcl2 2 (by omega) (by omega) (by omega), by rw [hrf, if_pos g2, if_neg g3, ← y2]⟩
    · exact ⟨_, hcl2 1 (by omega) (by omega) (by omega), by rw [hrf, if_neg g2, ← y1]⟩
/-! ### the trial, told as the site or otherwise -/
theorem trial0 {A B : Mem} {n tc : Nat} (h : Sites A B n tc) : ∃ A1 r, x_startTrial A = some A1 ∧ Base A1 B n n r ∧ (∀ i, i < 6 → A1 32 i = nI i) ∧ same pX A A1 ∧ r < tc := by
  obtain ⟨A1, a1, a2, a3, a4, a5, a6⟩ := start_ok A
  obtain ⟨b1, b2, b3, b4, b5, b6, b7, ⟨r, b8, b9, b10⟩, b11, b12, b13, b14⟩ := h
  refine ⟨A1, r, a1, ⟨Nat.le_refl _, b1, by rw [a3]; exact b2, b3, by rw [a4]; exact b9, b10, by omega, ?_, fun j hj => by rw [(a5 j hj).1]; exact b12 j hj, fun i hi => ?_, b14⟩, a6, a2.mono (fun c j g => by unfold pX; omega), b8⟩
  · exact (b11 r b8).keep (fun j => a2 _ _ (by omega)) (fun j => a2 _ _ (by omega)) (fun j => rfl) rfl
  · obtain ⟨q1, q2, q3, q4, q5⟩ := a5 i (by omega)
    rw [q2, q3, q4, q5]
    exact b13 i hi
theorem base_dial {A B B1 : Mem} {n N r d : Nat} {v : Int32} (h : Base A B n N r) (hd : d < 6) (hv : d = 3 → 1 ≤ v.toInt) (hB : same (fun c j => c = 4 ∧ j = d) B B1) (hB1 : B1 4 d = v) : Base (wr A 25 d v) B1 n N r := by
  obtain ⟨a1, a2, a3, a4, a5, a6, a7, a8, a9, a10, a11, a12⟩ := h
  have hA : same (fun c j => c = 25 ∧ j = d) A (wr A 25 d v) := same.rf.wr ⟨rfl, rfl⟩
  refine ⟨a1, a2, ?_, ?_, ?_, ?_, a7, ?_, ?_, ?_, ?_, ?_⟩
  · rw [hA _ _ (by omega)]; exact a3
  · rw [hB _ _ (by omega)]; exact a4
  · rw [hA _ _ (by omega)]; exact a5
  · rw [hB _ _ (by omega)]; exact a6
  · exact a8.keep (fun j => hA _ _ (by omega)) (fun j => hA _ _ (by omega)) (fun j => hB _ _ (by omega)) (hB _ _ (by omega))
  · intro j hj
    by_cases hjd : j = d
    · subst hjd; rw [wr_hit, hB1]
    · rw [hA _ _ (by omega), hB _ _ (by omega)]; exact a9 j hj
  · intro i hi
    rw [hA 26 _ (by omega), hA 27 _ (by omega), hA 28 _ (by omega), hA 29 _ (by omega), hB 5 _ (by omega), hB 6 _ (by omega), hB 7 _ (by omega), hB 8 _ (by omega)]
    exact a10 i hi
  · by_cases h3 : d = 3
    · subst h3; rw [hB1]; exact hv rfl
    · rw [hB _ _ (by omega)]; exact a11
  · intro i hi
    rw [hB 5 _ (by omega), hB 6 _ (by omega), hB 7 _ (by omega), hB 8 _ (by omega)]
    exact a12 i hi
theorem base_rule {A B B1 : Mem} {n N r t : Nat} (h : Base A B n N r) (ht : t < 6) (hT : TextRel A B t) (hB : same (fun c j => c = 0 ∧ j = 4) B B1) (hB1 : B1 0 4 = nI t) : Base (wr A 24 6 (nI t)) B1 n N t := by
  obtain ⟨a1, a2, a3, a4, a5, a6, a7, a8, a9, a10, a11, a12⟩ := h
  have hA : same (fun c j => c = 24 ∧ j = 6) A (wr A 24 6 (nI t)) := same.rf.wr ⟨rfl, rfl⟩
  refine ⟨a1, a2, ?_, ?_, wr_hit _ _ _ _, hB1, ht, ?_, ?_, ?_, ?_, ?_⟩
  · rw [hA _ _ (by omega)]; exact a3
  · rw [hB _ _ (by omega)]; exact a4
  · exact hT.keep (fun j => hA _ _ (by omega)) (fun j => hA _ _ (by omega)) (fun j => hB _ _ (by omega)) (hB _ _ (by omega))
  · intro j hj
    rw [hA _ _ (by omega), hB _ _ (by omega)]; exact a9 j hj
  · intro i hi
    rw [hA 26 _ (by omega), hA 27 _ (by omega), hA 28 _ (by omega), hA 29 _ (by omega), hB 5 _ (by omega), hB 6 _ (by omega), hB 7 _ (by omega), hB 8 _ (by omega)]
    exact a10 i hi
  · rw [hB _ _ (by omega)]; exact a11
  · intro i hi
    rw [hB 5 _ (by omega), hB 6 _ (by omega), hB 7 _ (by omega), hB 8 _ (by omega)]
    exact a12 i hi
theorem base_kind {A B B1 : Mem} {n N r w : Nat} {v : Int32} (h : Base A B n N r) (hw : w < N) (hv : 0 ≤ v.toInt ∧ v.toInt ≤ 5) (hB : same (fun c j => c = 5 ∧ j = w) B B1) (hB1 : B1 5 w = v) : Base (wr A 26 w v) B1 n N r := by
  obtain ⟨a1, a2, a3, a4, a5, a6, a7, a8, a9, a10, a11, a12⟩ := h
  have hA : same (fun c j => c = 26 ∧ j = w) A (wr A 26 w v) := same.rf.wr ⟨rfl, rfl⟩
  refine ⟨a1, a2, ?_, ?_, ?_, ?_, a7, ?_, ?_, ?_, ?_, ?_⟩
  · rw [hA _ _ (by omega)]; exact a3
  · rw [hB _ _ (by omega)]; exact a4
  · rw [hA _ _ (by omega)]; exact a5
  · rw [hB _ _ (by omega)]; exact a6
  · exact a8.keep (fun j => hA _ _ (by omega)) (fun j => hA _ _ (by omega)) (fun j => hB _ _ (by omega)) (hB _ _ (by omega))
  · intro j hj
    rw [hA _ _ (by omega), hB _ _ (by omega)]; exact a9 j hj
  · intro i hi
    rw [hA 27 _ (by omega), hA 28 _ (by omega), hA 29 _ (by omega), hB 6 _ (by omega), hB 7 _ (by omega), hB 8 _ (by omega)]
    refine ⟨?_, (a10 i hi).2⟩
    by_cases hiw : i = w
    · subst hiw; rw [wr_hit, hB1]
    · rw [hA _ _ (by omega), hB _ _ (by omega)]; exact (a10 i hi).1
  · rw [hB _ _ (by omega)]; exact a11
  · intro i hi
    rw [hB 6 _ (by omega), hB 7 _ (by omega), hB 8 _ (by omega)]
    refine ⟨?_, (a12 i hi).2⟩
    by_cases hiw : i = w
    · subst hiw; rw [hB1]; exact hv
    · rw [hB _ _ (by omega)]; exact (a12 i hi).1
theorem base_size {A B : Mem} {n N r m : Nat} (h : Base A B n N r) (hm : m ≤ N) : Base (wr A 24 5 (nI m)) B m N r := by
  obtain ⟨a1, a2, a3, a4, a5, a6, a7, a8, a9, a10, a11, a12⟩ := h
  have hA : same (fun c j => c = 24 ∧ j = 5) A (wr A 24 5 (nI m)) := same.rf.wr ⟨rfl, rfl⟩
  refine ⟨hm, a2, wr_hit _ _ _ _, a4, ?_, a6, a7, ?_, ?_, ?_, a11, a12⟩
  · rw [hA _ _ (by omega)]; exact a5
  · exact a8.keep (fun j => hA _ _ (by omega)) (fun j => hA _ _ (by omega)) (fun j => rfl) rfl
  · intro j hj
    rw [hA _ _ (by omega)]; exact a9 j hj
  · intro i hi
    rw [hA 26 _ (by omega), hA 27 _ (by omega), hA 28 _ (by omega), hA 29 _ (by omega)]
    exact a10 i hi
theorem base_wet {A A1 B B1 : Mem} {n N r : Nat} {f : Nat → Int32} (h : Base A B n N r) (hA : same (fun c _ => c = 29) A A1) (hA1 : ∀ i, i < N → A1 29 i = f i) (hB : same (fun c _ => c = 8) B B1) (hB1 : ∀ i, i < N → B1 8 i = f i) (hf : ∀ i, i < N → f i = 0 ∨ f i = 1) : Base A1 B1 n N r := by
  obtain ⟨a1, a2, a3, a4, a5, a6, a7, a8, a9, a10, a11, a12⟩ := h
  refine ⟨a1, a2, ?_, ?_, ?_, ?_, a7, ?_, ?_, ?_, ?_, ?_⟩
  · rw [hA _ _ (by omega)]; exact a3
  · rw [hB _ _ (by omega)]; exact a4
  · rw [hA _ _ (by omega)]; exact a5
  · rw [hB _ _ (by omega)]; exact a6
  · exact a8.keep (fun j => hA _ _ (by omega)) (fun j => hA _ _ (by omega)) (fun j => hB _ _ (by omega)) (hB _ _ (by omega))
  · intro j hj
    rw [hA _ _ (by omega), hB _ _ (by omega)]; exact a9 j hj
  · intro i hi
    rw [hA 26 _ (by omega), hA 27 _ (by omega), hA 28 _ (by omega), hB 5 _ (by omega), hB 6 _ (by omega), hB 7 _ (by omega), hA1 i hi, hB1 i hi]
    exact ⟨(a10 i hi).1, (a10 i hi).2.1, (a10 i hi).2.2.1, rfl⟩
  · rw [hB _ _ (by omega)]; exact a11
  · intro i hi
    rw [hB 5 _ (by omega), hB 6 _ (by omega), hB 7 _ (by omega), hB1 i hi]
    exact ⟨(a12 i hi).1, (a12 i hi).2.1, (a12 i hi).2.2.1, hf i hi⟩
