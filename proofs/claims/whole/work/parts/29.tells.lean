/-! what THE RULE tells, on both sides -/
def TextRel (A B : Mem) (t : Nat) : Prop := ∃ (X X' : Mem) (n : Nat), n ≤ 160 ∧ X 13 1 = nI n ∧ (∀ j, j < n → by8 (X 14 j)) ∧ X 21 0 = 0 ∧ f_Reader_read X = some (X', -1) ∧ B 2 t = nI n ∧ (∀ j, j < n → B 1 (160 * t + j) = X 14 j) ∧ (∀ j, j < 160 → A (43 + 3 * t) j = X' 20 j) ∧ (∀ j, j < 4 → A (44 + 3 * t) j = X' 21 j)
theorem TextRel.keep {A B A' B' : Mem} {t : Nat} (h : TextRel A B t) (h1 : ∀ j, A' (43 + 3 * t) j = A (43 + 3 * t) j) (h2 : ∀ j, A' (44 + 3 * t) j = A (44 + 3 * t) j) (h3 : ∀ j, B' 1 (160 * t + j) = B 1 (160 * t + j)) (h4 : B' 2 t = B 2 t) : TextRel A' B' t := by
  obtain ⟨X, X', n, a1, a2, a3, a4, a5, a6, a7, a8, a9⟩ := h
  exact ⟨X, X', n, a1, a2, a3, a4, a5, by rw [h4]; exact a6, fun j hj => by rw [h3]; exact a7 j hj, fun j hj => by rw [h1]; exact a8 j hj, fun j hj => by rw [h2]; exact a9 j hj⟩
theorem mono4 {e : Nat → Nat} (h0 : e 0 ≤ e 1) (h1 : e 1 ≤ e 2) (h2 : e 2 ≤ e 3) (h3 : e 3 ≤ 160) {w : Nat} (hw : w < 3) : e w ≤ e (w + 1) ∧ e (w + 1) ≤ 160 := by
  match w, hw with
  | 0, _ => exact ⟨h0, Nat.le_trans h1 (Nat.le_trans h2 h3)⟩
  | 1, _ => exact ⟨h1, Nat.le_trans h2 h3⟩
  | 2, _ => exact ⟨h2, h3⟩
theorem says_core {A B : Mem} {t w : Nat} (h : TextRel A B t) (ht : t < 6) (hw : w < 3) (hnm : ∀ u, 1 ≤ u → u ≤ 6 → A 31 (u - 1) = nmB B u) :
    ∃ A' B' v, f_Text_value A (42 + 3 * t) (nI w) = some (A', v) ∧ m_read B (nI t) (nI w) = some (B', v) ∧ same (fun c _ => c = 30) A A' ∧ same pM B B' := by
  obtain ⟨X, X', n, a1, a2, a3, a4, a5, a6, a7, a8, a9⟩ := h
  obtain ⟨X2, B', r, v, e, b1, b2, b3, b4, b5, b6, b7, b8, b9, b10, b11, b12⟩ := read_ok a1 ht a2 a3 a4 a6 a7 hw
  rw [a5] at b1
  obtain ⟨e1, e2⟩ := oi2 b1
  subst e1
  have hev := b12 e2.symm []
  have hle := mono4 b8 b9 b10 b11 hw
  have t1 : 42 + 3 * t + 1 = 43 + 3 * t := by omega
  have t2 : 42 + 3 * t + 2 = 44 + 3 * t := by omega
  obtain ⟨A', c1, c2⟩ := value_ok (M := A) (t := 42 + 3 * t) (v := v) hw hle.1 hle.2 (by omega) (by rw [t2, a9 w (by omega)]; exact b6 w (by omega)) (by rw [t2, a9 (w + 1) (by omega)]; exact b6 (w + 1) (by omega)) hnm (by
    rw [t1, evr_ext (g := X' 20) [] _ (fun j j1 j2 => a8 j (by omega))]
    exact hev)
  exact ⟨A', B', v, c1, b2, c2, b4⟩
theorem within_ok {v lo hi : Int32} (h : lo ≤ hi) : m_within v lo hi = some (imax lo (imin hi v)) := by
  unfold m_within imax imin
  by_cases g1 : lo ≤ v
  · rw [if_pos g1]
    by_cases g2 : v ≤ hi
    · rw [if_pos g2]
      by_cases g3 : v < hi
      · rw [if_pos g3]
        by_cases g4 : lo < v
        · rw [if_pos g4]
        · rw [if_neg g4]
          congr 1
          rw [i_le] at g1
          rw [i_lt] at g4
          rw [i_eq]
          omega
      · rw [if_neg g3]
        have : v = hi := by rw [i_le] at g2; rw [i_lt] at g3; rw [i_eq]; omega
        subst this
        by_cases g4 : lo < v
        · rw [if_pos g4]
        · rw [if_neg g4]
          congr 1
          rw [i_le] at g1
          rw [i_lt] at g4
          rw [i_eq]
          omega
    · rw [if_neg g2]
      have g3 : ¬ v < hi := by rw [i_le] at g2; rw [i_lt]; omega
      rw [if_neg g3]
      by_cases g4 : lo < hi
      · rw [if_pos g4]
      · rw [if_neg g4]
        congr 1
        rw [i_le] at h
        rw [i_lt] at g4
        rw [i_eq]
        omega
  · rw [if_neg g1]
    have g3 : v < hi := by rw [i_le] at g1 h; rw [i_lt]; omega
    have g4 : ¬ lo < v := by rw [i_le] at g1; rw [i_lt]; omega
    rw [if_pos g3, if_neg g4]
theorem clamp_bd {v lo hi : Int32} (h : lo ≤ hi) : lo ≤ imax lo (imin hi v) ∧ imax lo (imin hi v) ≤ hi := by
  unfold imax imin
  rw [i_le] at h
  by_cases g3 : v < hi
  · rw [if_pos g3]
    by_cases g4 : lo < v
    · rw [if_pos g4]; rw [i_lt] at g3 g4; rw [i_le, i_le]; omega
    · rw [if_neg g4, i_le, i_le]; omega
  · rw [if_neg g3]
    by_cases g4 : lo < hi
    · rw [if_pos g4]; rw [i_lt] at g4; rw [i_le, i_le]; omega
    · rw [if_neg g4, i_le, i_le]; omega
theorem tells_ok {A B : Mem} {w i r : Nat} {off lo hi : Int32} (hw : w < 3) (hi6 : i < 6) (hr : r < 6) (hA6 : A 24 6 = nI r) (hB4 : B 0 4 = nI r) (hT : TextRel A B r) (hd : ∀ j, j < 3 → A 25 j = B 4 j) (hy : A 28 i = B 7 i) (hn : A 27 i = B 6 i) (hlo : tb 2 w = lo) (hhi : tb 3 w = hi) (hlh : lo ≤ hi) :
    ∃ A' B' v, f_Day_tells A (nI w) (nI i) off = some (A', v) ∧ m_says B (nI w) (nI i) off lo hi = some (B', v) ∧ same (fun c _ => c = 30 ∨ c = 31) A A' ∧ same (fun c j => c = 0 ∧ 13 ≤ j ∧ j ≤ 27) B B' ∧ lo ≤ v ∧ v ≤ hi := by
  obtain ⟨A1, hA1⟩ : ∃ A1 : Mem, A1 = wr (wr (wr (wr (wr (wr A 31 0 (A 25 0)) 31 1 (A 25 1)) 31 2 (A 25 2)) 31 3 (A 28 i)) 31 4 off) 31 5 (A 27 i) := ⟨_, rfl⟩
  obtain ⟨B1, hB1⟩ : ∃ B1 : Mem, B1 = wr (wr (wr (wr (wr (wr B 0 13 (B 4 0)) 0 14 (B 4 1)) 0 15 (B 4 2)) 0 16 (B 7 i)) 0 17 off) 0 18 (B 6 i) := ⟨_, rfl⟩
  have sA1 : same (fun c _ => c = 30 ∨ c = 31) A A1 := by
    rw [hA1]
    exact (((((same.rf.wr (Or.inr rfl)).wr (Or.inr rfl)).wr (Or.inr rfl)).wr (Or.inr rfl)).wr (Or.inr rfl)).wr (Or.inr rfl)
  have sB1 : same (fun c j => c = 0 ∧ 13 ≤ j ∧ j ≤ 18) B B1 := by
    rw [hB1]
    exact (((((same.rf.wr ⟨rfl, by omega, by omega⟩).wr ⟨rfl, by omega, by omega⟩).wr ⟨rfl, by omega, by omega⟩).wr ⟨rfl, by omega, by omega⟩).wr ⟨rfl, by omega, by omega⟩).wr ⟨rfl, by omega, by omega⟩
  have hnm : ∀ u, 1 ≤ u → u ≤ 6 → A1 31 (u - 1) = nmB B1 u := by
    intro u u1 u2
    rw [hA1, hB1]
    unfold nmB
    rw [if_pos u2]
    match u, u1, u2 with
    | 1, _, _ => simp [wr_at, hd]
    | 2, _, _ => simp [wr_at, hd]
    | 3, _, _ => simp [wr_at, hd]
    | 4, _, _ => simp [wr_at, hy]
    | 5, _, _ => simp [wr_at]
    | 6, _, _ => simp [wr_at, hn]
  have hT1 : TextRel A1 B1 r := hT.keep (fun j => sA1 _ _ (by omega)) (fun j => sA1 _ _ (by omega)) (fun j => sB1 _ _ (by omega)) (sB1 _ _ (by omega))
  obtain ⟨A2, B2, v, c1, c2, c3, c4⟩ := says_core hT1 hr hw hnm
  refine ⟨A2, B2, imax lo (imin hi v), ?_, ?_, sA1.trans (c3.mono (fun c j h => Or.inl h)), (sB1.mono (fun c j h => ⟨h.1, by omega, by omega⟩)).trans (c4.mono (fun c j h => ⟨h.1, by have := h.2; omega, by have := h.2; omega⟩)), clamp_bd hlh⟩
  · have k0 : ∀ (x : Option (Mem × Int32)), ck 0 6 x = x := fun x => ck_n (k := 0) x (by omega) (by omega)
    have k1 : ∀ (x : Option (Mem × Int32)), ck 1 6 x = x := fun x => ck_n (k := 1) x (by omega) (by omega)
    have k2 : ∀ (x : Option (Mem × Int32)), ck 2 6 x = x := fun x => ck_n (k := 2) x (by omega) (by omega)
    have k3 : ∀ (x : Option (Mem × Int32)), ck 3 6 x = x := fun x => ck_n (k := 3) x (by omega) (by omega)
    have k4 : ∀ (x : Option (Mem × Int32)), ck 4 6 x = x := fun x => ck_n (k := 4) x (by omega) (by omega)
    have k5 : ∀ (x : Option (Mem × Int32)), ck 5 6 x = x := fun x => ck_n (k := 5) x (by omega) (by omega)
    have t0 : (0 : Int32).toNatClampNeg = 0 := rfl
    have t1 : (1 : Int32).toNatClampNeg = 1 := rfl
    have t2 : (2 : Int32).toNatClampNeg = 2 := rfl
    have t3 : (3 : Int32).toNatClampNeg = 3 := rfl
    have t4 : (4 : Int32).toNatClampNeg = 4 := rfl
    have t5 : (5 : Int32).toNatClampNeg = 5 := rfl
    have w1 : ∀ (M : Mem) k x, wr M 31 k x 25 = M 25 := fun M k x => funext fun j => wr_off _ _ _ _ _ _ (by omega)
    have w2 : ∀ (M : Mem) k x, wr M 31 k x 28 = M 28 := fun M k x => funext fun j => wr_off _ _ _ _ _ _ (by omega)
    have w3 : ∀ (M : Mem) k x, wr M 31 k x 27 = M 27 := fun M k x => funext fun j => wr_off _ _ _ _ _ _ (by omega)
    unfold f_Day_tells
    simp only [hA6, bnd_s, if_neg (nI_pos (show r < 2 ^ 31 by omega)), if_neg (show ¬ (6 : Int32) ≤ nI r from nI_ge (b := 6) hr (by omega)), ck_n _ hr (show 6 < 2 ^ 31 by omega), nI_cl (show r < 2 ^ 31 by omega), k0, k1, k2, k3, k4, k5, t0, t1, t2, t3, t4, t5, ck_n _ hi6 (show 6 < 2 ^ 31 by omega), nI_cl (show i < 2 ^ 31 by omega), w1, w2, w3]
    rw [← hA1, c1, obp2_s, ck_n _ hw (by omega), ck_n _ hw (by omega), nI_cl (by omega), hlo, hhi]
  · have k0 : ∀ (x : Option (Mem × Int32)), ck 0 6 x = x := fun x => ck_n (k := 0) x (by omega) (by omega)
    have k1 : ∀ (x : Option (Mem × Int32)), ck 1 6 x = x := fun x => ck_n (k := 1) x (by omega) (by omega)
    have k2 : ∀ (x : Option (Mem × Int32)), ck 2 6 x = x := fun x => ck_n (k := 2) x (by omega) (by omega)
    have t0 : (0 : Int32).toNatClampNeg = 0 := rfl
    have t1 : (1 : Int32).toNatClampNeg = 1 := rfl
    have t2 : (2 : Int32).toNatClampNeg = 2 := rfl
    have w1 : ∀ (M : Mem) k x, wr M 0 k x 4 = M 4 := fun M k x => funext fun j => wr_off _ _ _ _ _ _ (by omega)
    have w2 : ∀ (M : Mem) k x, wr M 0 k x 7 = M 7 := fun M k x => funext fun j => wr_off _ _ _ _ _ _ (by omega)
    have w3 : ∀ (M : Mem) k x, wr M 0 k x 6 = M 6 := fun M k x => funext fun j => wr_off _ _ _ _ _ _ (by omega)
    have h4 : B1 0 4 = nI r := by rw [sB1 0 4 (by omega)]; exact hB4
    unfold m_says
    simp only [bnd_s, k0, k1, k2, t0, t1, t2, ck_n _ hi6 (show 6 < 2 ^ 31 by omega), nI_cl (show i < 2 ^ 31 by omega), w1, w2, w3]
    rw [← hB1, h4, c2, obp2_s, within_ok hlh, obp_s]
