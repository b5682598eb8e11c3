/-! what is reckoned ahead of a day -/
def Valid (B : Mem) (N : Nat) : Prop := 1 ≤ (B 4 3).toInt ∧ (∀ i, i < N → (0 ≤ (B 5 i).toInt ∧ (B 5 i).toInt ≤ 5) ∧ (0 ≤ (B 6 i).toInt ∧ (B 6 i).toInt ≤ 9) ∧ (1 ≤ (B 7 i).toInt ∧ (B 7 i).toInt ≤ 20) ∧ (B 8 i = 0 ∨ B 8 i = 1))
/-- the trial's site is as the reference's; n walls of N come into the day -/
def Base (A B : Mem) (n N r : Nat) : Prop := n ≤ N ∧ N ≤ 6 ∧ A 24 5 = nI n ∧ B 0 12 = nI N ∧ A 24 6 = nI r ∧ B 0 4 = nI r ∧ r < 6 ∧ TextRel A B r ∧ (∀ j, j < 6 → A 25 j = B 4 j) ∧ (∀ i, i < N → A 26 i = B 5 i ∧ A 27 i = B 6 i ∧ A 28 i = B 7 i ∧ A 29 i = B 8 i) ∧ Valid B N
/-- what a day may change of the class's memory, of the reference's -/
def pS (c j : Nat) : Prop := (30 ≤ c ∧ c ≤ 39) ∨ (c = 23 ∧ 12 ≤ j)
def pT (c j : Nat) : Prop := (9 ≤ c ∧ c ≤ 16) ∨ (c = 0 ∧ 13 ≤ j ∧ j ≤ 44)
theorem Base.keep {A B A' B' : Mem} {n N r : Nat} (h : Base A B n N r) (hA : same pS A A') (hB : same pT B B') : Base A' B' n N r := by
  obtain ⟨a1, a2, a3, a4, a5, a6, a7, a8, a9, a10, a11, a12⟩ := h
  refine ⟨a1, a2, ?_, ?_, ?_, ?_, a7, ?_, ?_, ?_, ?_, ?_⟩
  · rw [hA _ _ (by unfold pS; omega)]; exact a3
  · rw [hB _ _ (by unfold pT; omega)]; exact a4
  · rw [hA _ _ (by unfold pS; omega)]; exact a5
  · rw [hB _ _ (by unfold pT; omega)]; exact a6
  · exact a8.keep (fun j => hA _ _ (by unfold pS; omega)) (fun j => hA _ _ (by unfold pS; omega)) (fun j => hB _ _ (by unfold pT; omega)) (hB _ _ (by unfold pT; omega))
  · intro j hj
    rw [hA _ _ (by unfold pS; omega), hB _ _ (by unfold pT; omega)]
    exact a9 j hj
  · intro i hi
    rw [hA 26 _ (by unfold pS; omega), hA 27 _ (by unfold pS; omega), hA 28 _ (by unfold pS; omega), hA 29 _ (by unfold pS; omega), hB 5 _ (by unfold pT; omega), hB 6 _ (by unfold pT; omega), hB 7 _ (by unfold pT; omega), hB 8 _ (by unfold pT; omega)]
    exact a10 i hi
  · rw [hB 4 _ (by unfold pT; omega)]; exact a11
  · intro i hi
    rw [hB 5 _ (by unfold pT; omega), hB 6 _ (by unfold pT; omega), hB 7 _ (by unfold pT; omega), hB 8 _ (by unfold pT; omega)]
    exact a12 i hi
def plo (w : Nat) : Int32 := if w = 2 then 0 else 1
def phi (w : Nat) : Int32 := if w = 0 then 240 else if w = 1 then 20 else 999
theorem plo_ok : ∀ w, w < 3 → tb 2 w = plo w ∧ tb 3 w = phi w ∧ plo w ≤ phi w := by decide
/-- what THE RULE tells, as a number -/
def said (A : Mem) (w i : Nat) (off : Int32) : Int32 := match f_Day_tells A (nI w) (nI i) off with
  | some p => p.2
  | none => 0
theorem Base.says {A0 B0 A B : Mem} {n N r : Nat} (h : Base A0 B0 n N r) (hA : same pS A0 A) (hB : same pT B0 B) {w i : Nat} (hw : w < 3) (hi : i < N) (off : Int32) :
    (∃ A', f_Day_tells A (nI w) (nI i) off = some (A', said A0 w i off) ∧ same (fun c _ => c = 30 ∨ c = 31) A A') ∧
    (∃ B', m_says B (nI w) (nI i) off (plo w) (phi w) = some (B', said A0 w i off) ∧ same (fun c j => c = 0 ∧ 13 ≤ j ∧ j ≤ 27) B B') ∧ plo w ≤ said A0 w i off ∧ said A0 w i off ≤ phi w := by
  obtain ⟨p1, p2, p3⟩ := plo_ok w hw
  have go : ∀ {A B : Mem}, Base A B n N r → ∃ A' B' v, f_Day_tells A (nI w) (nI i) off = some (A', v) ∧ m_says B (nI w) (nI i) off (plo w) (phi w) = some (B', v) ∧ same (fun c _ => c = 30 ∨ c = 31) A A' ∧ same (fun c j => c = 0 ∧ 13 ≤ j ∧ j ≤ 27) B B' ∧ plo w ≤ v ∧ v ≤ phi w := by
    intro A B h
    obtain ⟨a1, a2, a3, a4, a5, a6, a7, a8, a9, a10, a11⟩ := h
    exact tells_ok hw (by omega) a7 a5 a6 a8 (fun j hj => a9 j (by omega)) (a10 i hi).2.2.1 (a10 i hi).2.1 p1 p2 p3
  obtain ⟨A1, B1, v1, x1, y1, -, -, l1, u1⟩ := go h
  obtain ⟨A2, B2, v2, x2, y2, s2, -, -, -⟩ := go (h.keep hA same.rf)
  obtain ⟨A3, B3, v3, x3, y3, -, s3, -, -⟩ := go (h.keep same.rf hB)
  have e1 : said A0 w i off = v1 := by unfold said; rw [x1]
  have e2 : v2 = v1 := by rw [y1] at y2; exact (oi2 y2).2.symm
  have e3 : v3 = v1 := by rw [x1] at x3; exact (oi2 x3).2.symm
  rw [e1]
  exact ⟨⟨A2, by rw [x2, e2], s2⟩, ⟨B3, by rw [y3, e3], s3⟩, l1, u1⟩
theorem mx1 (x : Int32) : imax 1 x = if 1 ≤ x then x else 1 := by
  unfold imax
  by_cases g : 1 < x
  · rw [if_pos g, if_pos (by rw [i_lt] at g; rw [i_le]; omega)]
  · rw [if_neg g]
    by_cases g2 : 1 ≤ x
    · rw [if_pos g2, i_eq]; rw [i_lt] at g; rw [i_le] at g2; omega
    · rw [if_neg g2]
theorem mx0 (x : Int32) : imax 0 x = if 0 ≤ x then x else 0 := by
  unfold imax
  by_cases g : 0 < x
  · rw [if_pos g, if_pos (by rw [i_lt] at g; rw [i_le]; omega)]
  · rw [if_neg g]
    by_cases g2 : 0 ≤ x
    · rw [if_pos g2, i_eq]; rw [i_lt] at g; rw [i_le] at g2; omega
    · rw [if_neg g2]
def ripK (k n w v : Int32) : Int32 := match f_Kind_ripens k n w v with
  | some x => x
  | none => 0
theorem ripK_ok (k n w v : Int32) : f_Kind_ripens k n w v = some (ripK k n w v) := by
  have : ∃ x, f_Kind_ripens k n w v = some x := by
    unfold f_Kind_ripens
    simp only [jp_s]
    repeat' split
    all_goals exact ⟨_, rfl⟩
  obtain ⟨x, hx⟩ := this
  unfold ripK
  rw [hx]
def lastK (k n : Int32) : Int32 := match f_Kind_lasts k n with
  | some x => x
  | none => 0
theorem lastK_ok (k n : Int32) : f_Kind_lasts k n = some (lastK k n) := by
  have : ∃ x, f_Kind_lasts k n = some x := by
    unfold f_Kind_lasts
    repeat' split
    all_goals exact ⟨_, rfl⟩
  obtain ⟨x, hx⟩ := this
  unfold lastK
  rw [hx]
def takeK (k y v : Int32) : Int32 := match f_Kind_takes k y v with
  | some x => x
  | none => 0
theorem takeK_ok (k n v : Int32) : f_Kind_takes k n v = some (takeK k n v) := by
  have : ∃ x, f_Kind_takes k n v = some x := by
    unfold f_Kind_takes
    repeat' split
    all_goals exact ⟨_, rfl⟩
  obtain ⟨x, hx⟩ := this
  unfold takeK
  rw [hx]
def wetI (x : Int32) : Int32 := if x = 1 then 1 else 0
/-- RIPENS, LASTS, TAKES of wall i -/
def ripV (A : Mem) (i : Nat) : Int32 := ripK (A 26 i) (A 27 i) (wetI (A 29 i)) (said A 0 i 0)
def lastV (A : Mem) (i : Nat) : Int32 := lastK (A 26 i) (A 27 i)
def takeV (A : Mem) (i : Nat) : Int32 := takeK (A 26 i) (A 28 i) (said A 1 i 0)
theorem takeV_bd {A B : Mem} {n N r : Nat} (h : Base A B n N r) {i : Nat} (hi : i < N) : 1 ≤ (takeV A i).toInt ∧ (takeV A i).toInt ≤ 1000 := by
  obtain ⟨-, -, h1, h2⟩ := h.says same.rf same.rf (w := 1) (by omega) hi 0
  obtain ⟨a1, a2, a3, a4, a5, a6, a7, a8, a9, a10, a11, a12⟩ := h
  obtain ⟨-, -, hy, -⟩ := a12 i hi
  rw [← (a10 i hi).2.2.1] at hy
  rw [i_le] at h1 h2
  have c1 : (plo 1).toInt = 1 := by decide
  have c2 : (phi 1).toInt = 20 := by decide
  have c3 : (2 : Int32).toInt = 2 := by decide
  have c4 : (3 : Int32).toInt = 3 := by decide
  have c5 : (1 : Int32).toInt = 1 := by decide
  obtain ⟨y, hyy⟩ : ∃ y, y = A 28 i := ⟨_, rfl⟩
  obtain ⟨v, hvv⟩ : ∃ v, v = said A 1 i 0 := ⟨_, rfl⟩
  rw [← hyy] at hy
  rw [← hvv] at h1 h2
  have m0 : 0 ≤ y.toInt * v.toInt := Int.mul_nonneg (by omega) (by omega)
  have m1 : y.toInt * v.toInt ≤ 20 * 20 := Int.mul_le_mul (by omega) (by omega) (by omega) (by omega)
  have e1 : (y * v).toInt = y.toInt * v.toInt := i_mul (by omega) (by omega)
  have n0 : 0 ≤ (2 * y).toInt * v.toInt := by
    have e2 : (2 * y).toInt = 2 * y.toInt := by rw [i_mul (by rw [c3]; omega) (by rw [c3]; omega), c3]
    rw [e2]
    exact Int.mul_nonneg (by omega) (by omega)
  have n1 : (2 * y).toInt * v.toInt ≤ 40 * 20 := by
    have e2 : (2 * y).toInt = 2 * y.toInt := by rw [i_mul (by rw [c3]; omega) (by rw [c3]; omega), c3]
    rw [e2]
    exact Int.mul_le_mul (by omega) (by omega) (by omega) (by omega)
  have e3 : (2 * y * v).toInt = (2 * y).toInt * v.toInt := i_mul (by omega) (by omega)
  have e4 : (y * v + 3).toInt = (y * v).toInt + 3 := by rw [i_add (by rw [c4]; omega) (by rw [c4]; omega), c4]
  have hx : ∀ x : Int32, 0 ≤ x.toInt → x.toInt ≤ 1000 → 1 ≤ (imax 1 x).toInt ∧ (imax 1 x).toInt ≤ 1000 := fun x x0 x1 => by
    rw [mx1]
    by_cases g : 1 ≤ x
    · rw [if_pos g]; rw [i_le, c5] at g; omega
    · rw [if_neg g, c5]; omega
  unfold takeV takeK f_Kind_takes
  rw [← hyy, ← hvv]
  by_cases k3 : A 26 i = 3
  · rw [if_pos k3]; exact hx _ (by omega) (by omega)
  · rw [if_neg k3]
    by_cases k5 : A 26 i = 5
    · rw [if_pos k5]; exact hx _ (by omega) (by omega)
    · rw [if_neg k5]; exact hx _ (by omega) (by omega)
theorem rip_rf {A0 B0 B : Mem} {n N r : Nat} (h : Base A0 B0 n N r) (hB : same pT B0 B) {i : Nat} (hi : i < N) : ∃ B', m_ripensOf B (nI i) = some (B', ripV A0 i) ∧ same (fun c j => c = 0 ∧ 13 ≤ j ∧ j ≤ 27) B B' := by
  obtain ⟨-, ⟨B', b1, b2⟩, -, -⟩ := h.says same.rf hB (w := 0) (by omega) hi 0
  refine ⟨B', ?_, b2⟩
  obtain ⟨a1, a2, a3, a4, a5, a6, a7, a8, a9, a10, a11, a12⟩ := h
  obtain ⟨q1, q2, q3, q4⟩ := a10 i hi
  have e5 : B 5 i = A0 26 i := by rw [hB _ _ (by unfold pT; omega), q1]
  have e6 : B 6 i = A0 27 i := by rw [hB _ _ (by unfold pT; omega), q2]
  have e8 : B' 8 i = A0 29 i := by rw [b2 _ _ (by omega), hB _ _ (by unfold pT; omega), q4]
  have b1 : m_says B 0 (nI i) 0 1 240 = some (B', said A0 0 i 0) := b1
  unfold m_ripensOf ripV ripK f_Kind_ripens wetI
  obtain ⟨k, hk⟩ : ∃ k, k = A0 26 i := ⟨_, rfl⟩
  obtain ⟨nb, hnb⟩ : ∃ k, k = A0 27 i := ⟨_, rfl⟩
  obtain ⟨v, hv⟩ : ∃ k, k = said A0 0 i 0 := ⟨_, rfl⟩
  simp only [ck_n _ (show i < 6 by omega) (show 6 < 2 ^ 31 by omega), nI_cl (show i < 2 ^ 31 by omega), bnd_s, e5, e6, b1, obp2_s, jp_s, e8, mx1, ← hk, ← hnb, ← hv]
  by_cases k1 : k = 1
  · have k3 : ¬ k = 3 := by rw [k1]; decide
    simp only [if_pos k1, if_neg k3]
    by_cases hw : A0 29 i = 1
    · simp only [if_pos hw, if_neg (show ¬ (1 : Int32) = 0 by decide)]
      split <;> rfl
    · simp only [if_neg hw, if_true]
      split <;> rfl
  · by_cases k3 : k = 3
    · have k2 : ¬ k = 2 := by rw [k3]; decide
      simp only [if_neg k1, if_neg k2, if_pos k3]
      by_cases hw : A0 29 i = 1
      · simp only [if_pos hw, if_neg (show ¬ (1 : Int32) = 0 by decide)]
        split <;> rfl
      · simp only [if_neg hw, if_true]
        split <;> rfl
    · by_cases k2 : k = 2
      · have k4 : ¬ k = 4 := by rw [k2]; decide
        simp only [if_neg k1, if_neg k3, if_pos k2, if_neg k4]
        simp only [ite_self]
        split <;> rfl
      · by_cases k4 : k = 4
        · simp only [if_neg k1, if_neg k3, if_neg k2, if_pos k4]
          by_cases hw : A0 29 i = 1
          · simp only [if_pos hw, if_neg (show ¬ (1 : Int32) = 0 by decide)]
            split <;> rfl
          · simp only [if_neg hw, if_true]
            split <;> rfl
        · simp only [if_neg k1, if_neg k3, if_neg k2, if_neg k4]
          simp only [ite_self]
          split <;> rfl
theorem last_rf {A0 B0 B : Mem} {n N r : Nat} (h : Base A0 B0 n N r) (hB : same pT B0 B) {i : Nat} (hi : i < N) : m_lastsOf B (nI i) = some (lastV A0 i) := by
  obtain ⟨a1, a2, a3, a4, a5, a6, a7, a8, a9, a10, a11, a12⟩ := h
  obtain ⟨q1, q2, q3, q4⟩ := a10 i hi
  have e5 : B 5 i = A0 26 i := by rw [hB _ _ (by unfold pT; omega), q1]
  have e6 : B 6 i = A0 27 i := by rw [hB _ _ (by unfold pT; omega), q2]
  have e82 : ∀ x : Int32, 10 - x - 2 = 8 - x := fun x => by
    rw [Int32.sub_eq_add_neg, Int32.sub_eq_add_neg, Int32.sub_eq_add_neg, Int32.add_assoc, Int32.add_comm (-x) (-2), ← Int32.add_assoc]
    rfl
  unfold m_lastsOf lastV lastK f_Kind_lasts
  obtain ⟨k, hk⟩ : ∃ k, k = A0 26 i := ⟨_, rfl⟩
  simp only [ck_n _ (show i < 6 by omega) (show 6 < 2 ^ 31 by omega), nI_cl (show i < 2 ^ 31 by omega), bnd_s, e5, e6, jp_s, mx0, ← hk, e82]
  by_cases k1 : k = 1
  · simp only [if_pos k1]
    split <;> rfl
  · by_cases k3 : k = 3
    · have k2 : ¬ k = 2 := by rw [k3]; decide
      simp only [if_neg k1, if_neg k2, if_pos k3]
      split <;> rfl
    · by_cases k4 : k = 4
      · have k2 : ¬ k = 2 := by rw [k4]; decide
        simp only [if_neg k1, if_neg k2, if_neg k3, if_pos k4]
        rfl
      · simp only [if_neg k1, if_neg k3, if_neg k4]
        by_cases k2 : k = 2
        · rw [if_pos k2]; rfl
        · rw [if_neg k2]; rfl
theorem take_rf {A0 B0 B : Mem} {n N r : Nat} (h : Base A0 B0 n N r) (hB : same pT B0 B) {i : Nat} (hi : i < N) : ∃ B', m_takesOf B (nI i) = some (B', takeV A0 i) ∧ same (fun c j => c = 0 ∧ 13 ≤ j ∧ j ≤ 27) B B' := by
  obtain ⟨-, ⟨B', b1, b2⟩, -, -⟩ := h.says same.rf hB (w := 1) (by omega) hi 0
  refine ⟨B', ?_, b2⟩
  obtain ⟨a1, a2, a3, a4, a5, a6, a7, a8, a9, a10, a11, a12⟩ := h
  obtain ⟨q1, q2, q3, q4⟩ := a10 i hi
  have e5 : B' 5 i = A0 26 i := by rw [b2 _ _ (by omega), hB _ _ (by unfold pT; omega), q1]
  have e7 : B 7 i = A0 28 i := by rw [hB _ _ (by unfold pT; omega), q3]
  have b1 : m_says B 1 (nI i) 0 1 20 = some (B', said A0 1 i 0) := b1
  unfold m_takesOf takeV takeK f_Kind_takes
  obtain ⟨k, hk⟩ : ∃ k, k = A0 26 i := ⟨_, rfl⟩
  simp only [ck_n _ (show i < 6 by omega) (show 6 < 2 ^ 31 by omega), nI_cl (show i < 2 ^ 31 by omega), bnd_s, e7, b1, obp2_s, jp_s, e5, mx1, ← hk, Int32.mul_assoc]
  by_cases k3 : k = 3
  · simp only [if_pos k3]
    split <;> rfl
  · by_cases k5 : k = 5
    · simp only [if_neg k3, if_pos k5]
      split <;> rfl
    · simp only [if_neg k3, if_neg k5]
      split <;> rfl
/-- the minutes that putting wall i on takes, by the hands there are -/
def putV (A : Mem) (i : Nat) : Int32 := imax 1 (takeV A i / imax 1 (A 25 3))
theorem putV_bd {A B : Mem} {n N r : Nat} (h : Base A B n N r) {i : Nat} (hi : i < N) : 1 ≤ (putV A i).toInt ∧ (putV A i).toInt ≤ 1000 := by
  obtain ⟨t1, t2⟩ := takeV_bd h hi
  have c5 : (1 : Int32).toInt = 1 := by decide
  have hh : 1 ≤ (imax 1 (A 25 3)).toInt := by
    rw [mx1]
    by_cases g : 1 ≤ A 25 3
    · rw [if_pos g]; rw [i_le, c5] at g; exact g
    · rw [if_neg g, c5]; omega
  have hd : (takeV A i / imax 1 (A 25 3)).toInt ≤ 1000 := by
    rw [Int32.toInt_div, Int.bmod_eq_of_le]
    · have := Int.tdiv_le_self (b := (imax 1 (A 25 3)).toInt) (a := (takeV A i).toInt) (by omega)
      omega
    · have := Int.tdiv_nonneg (a := (takeV A i).toInt) (b := (imax 1 (A 25 3)).toInt) (by omega) (by omega)
      omega
    · have := Int.tdiv_le_self (b := (imax 1 (A 25 3)).toInt) (a := (takeV A i).toInt) (by omega)
      omega
  unfold putV
  rw [mx1]
  by_cases g : 1 ≤ takeV A i / imax 1 (A 25 3)
  · rw [if_pos g]; rw [i_le, c5] at g; omega
  · rw [if_neg g, c5]; omega
theorem reckon_cl {A0 B0 : Mem} {n N r : Nat} (h : Base A0 B0 n N r) : ∃ A', f_Day_reckon A0 = some A' ∧ same (fun c _ => c = 30 ∨ c = 31 ∨ (33 ≤ c ∧ c ≤ 35)) A0 A' ∧ ∀ i, i < n → A' 33 i = ripV A0 i ∧ A' 34 i = lastV A0 i ∧ A' 35 i = takeV A0 i := by
  obtain ⟨a1, a2, a3, a4, a5, a6, a7, a8, a9, a10, a11, a12⟩ := id h
  have key : ∃ M', ((same (fun c _ => c = 30 ∨ c = 31 ∨ (33 ≤ c ∧ c ≤ 35)) A0 M' ∧ ∀ i, i < n → M' 33 i = ripV A0 i ∧ M' 34 i = lastV A0 i ∧ M' 35 i = takeV A0 i)) ∧ f_Day_reckon_L2 (fun M1 => some M1) FU 0 A0 = some M' := by
    refine lp_FU (fun fu k M => f_Day_reckon_L2 (fun M1 => some M1) fu k M) (fun M => some M) n (fun k M => same (fun c _ => c = 30 ∨ c = 31 ∨ (33 ≤ c ∧ c ≤ 35)) A0 M ∧ ∀ i, i < k → M 33 i = ripV A0 i ∧ M 34 i = lastV A0 i ∧ M 35 i = takeV A0 i) (by omega) ?_ ?_ (s := A0) ⟨same.rf, fun i hi => by omega⟩
    · intro fu M hI
      have h5 : M 24 5 = nI n := by rw [hI.1 _ _ (by omega)]; exact a3
      show f_Day_reckon_L2 _ (fu + 1) (nI n) M = _
      simp only [f_Day_reckon_L2, h5, if_pos (Int32.le_refl (nI n))]
    · intro fu k M hk hI
      obtain ⟨hs, hv⟩ := hI
      have h5 : M 24 5 = nI n := by rw [hs _ _ (by omega)]; exact a3
      have hp : same pS A0 M := hs.mono (fun c j h => by unfold pS; omega)
      obtain ⟨⟨M1, m1, m2⟩, -, -, -⟩ := h.says hp same.rf (w := 0) (by omega) (show k < N by omega) 0
      obtain ⟨M2, hM2⟩ : ∃ M2, M2 = wr (wr M1 33 k (ripV A0 k)) 34 k (lastV A0 k) := ⟨_, rfl⟩
      have s2 : same (fun c _ => c = 30 ∨ c = 31 ∨ (33 ≤ c ∧ c ≤ 35)) A0 M2 := by
        rw [hM2]
        exact ((hs.trans (m2.mono (fun c j h => by omega))).wr (by omega)).wr (by omega)
      obtain ⟨⟨M3, m3, m4⟩, -, -, -⟩ := h.says (s2.mono (fun c j h => by unfold pS; omega)) same.rf (w := 1) (by omega) (show k < N by omega) 0
      refine ⟨wr M3 35 k (takeV A0 k), ⟨(s2.trans (m4.mono (fun c j h => by omega))).wr (by omega), fun i hi => ?_⟩, ?_⟩
      · have q33 : wr M3 35 k (takeV A0 k) 33 i = if i = k then ripV A0 k else M 33 i := by
          rw [wr_off _ _ _ _ _ _ (by omega), m4 _ _ (by omega), hM2, wr_off _ _ _ _ _ _ (by omega), wr_at]
          by_cases hik : i = k
          · rw [if_pos ⟨rfl, hik⟩, if_pos hik]
          · rw [if_neg (fun h => hik h.2), if_neg hik, m2 _ _ (by omega)]
        have q34 : wr M3 35 k (takeV A0 k) 34 i = if i = k then lastV A0 k else M 34 i := by
          rw [wr_off _ _ _ _ _ _ (by omega), m4 _ _ (by omega), hM2, wr_at]
          by_cases hik : i = k
          · rw [if_pos ⟨rfl, hik⟩, if_pos hik]
          · rw [if_neg (fun h => hik h.2), if_neg hik, wr_off _ _ _ _ _ _ (by omega), m2 _ _ (by omega)]
        have q35 : wr M3 35 k (takeV A0 k) 35 i = if i = k then takeV A0 k else M 35 i := by
          rw [wr_at]
          by_cases hik : i = k
          · rw [if_pos ⟨rfl, hik⟩, if_pos hik]
          · rw [if_neg (fun h => hik h.2), if_neg hik, m4 _ _ (by omega), hM2, wr_off _ _ _ _ _ _ (by omega), wr_off _ _ _ _ _ _ (by omega), m2 _ _ (by omega)]
        rw [q33, q34, q35]
        by_cases hik : i = k
        · subst hik
          rw [if_pos rfl, if_pos rfl, if_pos rfl]
          exact ⟨rfl, rfl, rfl⟩
        · rw [if_neg hik, if_neg hik, if_neg hik]
          exact hv i (by omega)
      · have g1 : ¬ nI n ≤ nI k := nI_ge hk (by omega)
        have g2 : ¬ (6 : Int32) ≤ nI k := nI_ge (b := 6) (by omega) (by omega)
        have e26 : M 26 k = A0 26 k := hs _ _ (by omega)
        have e27 : M 27 k = A0 27 k := hs _ _ (by omega)
        have e29 : M 29 k = A0 29 k := hs _ _ (by omega)
        have m1 : f_Day_tells M 0 (nI k) 0 = some (M1, said A0 0 k 0) := m1
        have m3 : f_Day_tells M2 1 (nI k) 0 = some (M3, said A0 1 k 0) := m3
        have e28 : M2 28 k = A0 28 k := s2 _ _ (by omega)
        have hR : ∀ w, w = wetI (A0 29 k) → f_Kind_ripens (A0 26 k) (A0 27 k) w (said A0 0 k 0) = some (ripV A0 k) := fun w hw => by rw [hw]; exact ripK_ok _ _ _ _
        have hLk : f_Kind_lasts (A0 26 k) (A0 27 k) = some (lastV A0 k) := lastK_ok _ _
        have hTk : f_Kind_takes (A0 26 k) (A0 28 k) (said A0 1 k 0) = some (takeV A0 k) := takeK_ok _ _ _
        show f_Day_reckon_L2 _ (fu + 1) (nI k) M = f_Day_reckon_L2 _ fu (nI (k + 1)) _
        simp only [f_Day_reckon_L2, h5, if_neg g1, if_neg g2, ck_n _ (show k < 6 by omega) (show 6 < 2 ^ 31 by omega), nI_cl (show k < 2 ^ 31 by omega), bnd_s, jp_s, e26, e27, e29, m1, obp2_s, nI_1]
        by_cases hw : A0 29 k = 1
        · simp only [if_pos hw, hR 1 (by unfold wetI; rw [if_pos hw]), obp_s, hLk, ← hM2, m3, obp2_s, e28, hTk]
        · simp only [if_neg hw, hR 0 (by unfold wetI; rw [if_neg hw]), obp_s, hLk, ← hM2, m3, obp2_s, e28, hTk]
  obtain ⟨A', ⟨i1, i2⟩, e⟩ := key
  refine ⟨A', ?_, i1, i2⟩
  unfold f_Day_reckon
  rw [jp_s]
  exact e
theorem gathers_rf {A0 B0 : Mem} {n N r : Nat} (h : Base A0 B0 n N r) : ∃ B', m_gathers B0 = some B' ∧ same (fun c j => (10 ≤ c ∧ c ≤ 12) ∨ (c = 0 ∧ 13 ≤ j ∧ j ≤ 27)) B0 B' ∧ ∀ i, i < N → B' 10 i = ripV A0 i ∧ B' 11 i = lastV A0 i ∧ B' 12 i = putV A0 i := by
  obtain ⟨a1, a2, a3, a4, a5, a6, a7, a8, a9, a10, a11, a12⟩ := id h
  have key : ∃ M', ((same (fun c j => (10 ≤ c ∧ c ≤ 12) ∨ (c = 0 ∧ 13 ≤ j ∧ j ≤ 27)) B0 M' ∧ ∀ i, i < N → M' 10 i = ripV A0 i ∧ M' 11 i = lastV A0 i ∧ M' 12 i = putV A0 i)) ∧ m_gathers_L2 (fun M1 => some M1) FU 0 B0 = some M' := by
    refine lp_FU (fun fu k M => m_gathers_L2 (fun M1 => some M1) fu k M) (fun M => some M) N (fun k M => same (fun c j => (10 ≤ c ∧ c ≤ 12) ∨ (c = 0 ∧ 13 ≤ j ∧ j ≤ 27)) B0 M ∧ ∀ i, i < k → M 10 i = ripV A0 i ∧ M 11 i = lastV A0 i ∧ M 12 i = putV A0 i) (by omega) ?_ ?_ (s := B0) ⟨same.rf, fun i hi => by omega⟩
    · intro fu M hI
      have h5 : M 0 12 = nI N := by rw [hI.1 _ _ (by omega)]; exact a4
      show m_gathers_L2 _ (fu + 1) (nI N) M = _
      simp only [m_gathers_L2, h5, if_pos (Int32.le_refl (nI N))]
    · intro fu k M hk hI
      obtain ⟨hs, hv⟩ := hI
      have h5 : M 0 12 = nI N := by rw [hs _ _ (by omega)]; exact a4
      obtain ⟨M1, m1, m2⟩ := rip_rf h (hs.mono (fun c j h => by unfold pT; omega)) hk
      have s1 : same (fun c j => (10 ≤ c ∧ c ≤ 12) ∨ (c = 0 ∧ 13 ≤ j ∧ j ≤ 27)) B0 (wr M1 10 k (ripV A0 k)) := (hs.trans (m2.mono (fun c j h => by omega))).wr (by omega)
      have hl := last_rf h (s1.mono (fun c j h => by unfold pT; omega)) hk
      have s2 := s1.wr (c := 11) (k := k) (x := lastV A0 k) (by omega)
      obtain ⟨M3, m3, m4⟩ := take_rf h (s2.mono (fun c j h => by unfold pT; omega)) hk
      have s3 := s2.trans (m4.mono (Q := fun c j => (10 ≤ c ∧ c ≤ 12) ∨ (c = 0 ∧ 13 ≤ j ∧ j ≤ 27)) (fun c j h => by omega))
      refine ⟨wr M3 12 k (putV A0 k), ⟨s3.wr (by omega), fun i hi => ?_⟩, ?_⟩
      · have q10 : wr M3 12 k (putV A0 k) 10 i = if i = k then ripV A0 k else M 10 i := by
          rw [wr_off _ _ _ _ _ _ (by omega), m4 _ _ (by omega), wr_off _ _ _ _ _ _ (by omega), wr_at]
          by_cases hik : i = k
          · rw [if_pos ⟨rfl, hik⟩, if_pos hik]
          · rw [if_neg (fun h => hik h.2), if_neg hik, m2 _ _ (by omega)]
        have q11 : wr M3 12 k (putV A0 k) 11 i = if i = k then lastV A0 k else M 11 i := by
          rw [wr_off _ _ _ _ _ _ (by omega), m4 _ _ (by omega), wr_at]
          by_cases hik : i = k
          · rw [if_pos ⟨rfl, hik⟩, if_pos hik]
          · rw [if_neg (fun h => hik h.2), if_neg hik, wr_off _ _ _ _ _ _ (by omega), m2 _ _ (by omega)]
        have q12 : wr M3 12 k (putV A0 k) 12 i = if i = k then putV A0 k else M 12 i := by
          rw [wr_at]
          by_cases hik : i = k
          · rw [if_pos ⟨rfl, hik⟩, if_pos hik]
          · rw [if_neg (fun h => hik h.2), if_neg hik, m4 _ _ (by omega), wr_off _ _ _ _ _ _ (by omega), wr_off _ _ _ _ _ _ (by omega), m2 _ _ (by omega)]
        rw [q10, q11, q12]
        by_cases hik : i = k
        · subst hik
          rw [if_pos rfl, if_pos rfl, if_pos rfl]
          exact ⟨rfl, rfl, rfl⟩
        · rw [if_neg hik, if_neg hik, if_neg hik]
          exact hv i (by omega)
      · have g1 : ¬ nI N ≤ nI k := nI_ge hk (by omega)
        have e43 : M3 4 3 = A0 25 3 := by rw [s3 _ _ (by omega), a9 3 (by omega)]
        have hh : imax 1 (A0 25 3) = A0 25 3 := by
          have c5 : (1 : Int32).toInt = 1 := by decide
          rw [mx1, if_pos]
          rw [i_le, c5, a9 3 (by omega)]
          exact a11
        have hn0 : ¬ A0 25 3 = 0 := by
          rw [a9 3 (by omega), i_eq]
          have c0 : (0 : Int32).toInt = 0 := by decide
          omega
        have hq : (if 1 ≤ takeV A0 k / A0 25 3 then takeV A0 k / A0 25 3 else 1) = putV A0 k := by unfold putV; rw [hh, mx1]
        have k3 : ∀ (x : Option Mem), ck 3 6 x = x := fun x => ck_n (k := 3) x (by omega) (by omega)
        have t3 : (3 : Int32).toNatClampNeg = 3 := rfl
        show m_gathers_L2 _ (fu + 1) (nI k) M = m_gathers_L2 _ fu (nI (k + 1)) _
        simp only [m_gathers_L2, h5, if_neg g1, m1, obp2_s, ck_n _ (show k < 6 by omega) (show 6 < 2 ^ 31 by omega), nI_cl (show k < 2 ^ 31 by omega), bnd_s, hl, obp_s, m3, k3, t3, e43, nz_s _ hn0, jp_s, nI_1]
        rw [← hq]
        by_cases g : 1 ≤ takeV A0 k / A0 25 3
        · rw [if_pos g, if_pos g]
        · rw [if_neg g, if_neg g]
  obtain ⟨B', ⟨i1, i2⟩, e⟩ := key
  refine ⟨B', ?_, i1, i2⟩
  unfold m_gathers
  rw [jp_s]
  exact e
