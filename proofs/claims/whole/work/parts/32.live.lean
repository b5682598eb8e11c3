/-! a day, on both sides -/
theorem jp_to {α β : Type} {k : α → β} {f : (α → β) → β} (a : α) (h : ∀ j, f j = j a) : jp k f = k a := h k
theorem jp_to2 {α γ β : Type} {k : α → γ → β} {f : (α → γ → β) → β} (a : α) (c : γ) (h : ∀ j, f j = j a c) : jp k f = k a c := h k
/-- all is reckoned, the order told: the day may begin -/
def Ready (A B : Mem) (n N r : Nat) (ro : Nat → Nat) : Prop := Base A B n N r ∧ (∀ i, i < n → A 33 i = B 10 i ∧ A 34 i = B 11 i ∧ imax 1 (A 35 i / imax 1 (A 25 3)) = B 12 i ∧ 1 ≤ (B 12 i).toInt ∧ (B 12 i).toInt ≤ 1000) ∧ (∀ i, i < n → ro i < n ∧ A 32 i = nI (ro i) ∧ B 9 i = nI (ro i)) ∧ B 0 29 = nI n
def pD (c j : Nat) : Prop := c = 30 ∨ c = 31 ∨ (36 ≤ c ∧ c ≤ 39) ∨ (c = 23 ∧ 12 ≤ j)
def pE (c j : Nat) : Prop := (13 ≤ c ∧ c ≤ 16) ∨ (c = 0 ∧ 13 ≤ j ∧ j ≤ 27) ∨ (c = 0 ∧ 37 ≤ j ∧ j ≤ 41)
theorem pD_S {c j : Nat} (h : pD c j) : pS c j := by unfold pD at h; unfold pS; omega
theorem pE_T {c j : Nat} (h : pE c j) : pT c j := by unfold pE at h; unfold pT; omega
/-- both stand in minute m: put have been put on, ended are trowelled -/
def LR (A1 B1 : Mem) (n : Nat) (ro : Nat → Nat) (A B : Mem) (put ended m : Nat) : Prop :=
  same pD A1 A ∧ same pE B1 B ∧ A 23 12 = nI put ∧ B 0 38 = nI put ∧ put ≤ n ∧ A 23 13 = nI ended ∧ ended ≤ m ∧ A 23 14 = nI m ∧ B 0 37 = nI m ∧ m ≤ 5020 ∧ A 23 15 = B 0 40 ∧ A 23 16 = B 0 41 ∧
  (∀ i, i < 6 → A 36 i = B 13 i ∧ A 37 i = B 14 i ∧ A 38 i = B 15 i ∧ A 39 i = B 16 i) ∧ (0 < put → B 0 39 = A 36 (ro (put - 1))) ∧ (∀ i, n ≤ i → i < 6 → A 39 i = 0)
section LIVE
variable {A1 B1 A B : Mem} {n N r put ended m : Nat} {ro : Nat → Nat}
theorem LR.scanA (h : Ready A1 B1 n N r ro) (R : LR A1 B1 n ro A B put ended m) : f_Day_firstRipe A = some (scan (A 38) (A 37) ro (nI m) (B1 4 5) put) ∧ m_toTrowel B = some (scan (A 38) (A 37) ro (nI m) (B1 4 5) put) := by
  obtain ⟨⟨b1, b2, b3, b4, b5, b6, b7, b8, b9, b10, b11⟩, h2, h3, h4⟩ := h
  obtain ⟨r1, r2, r3, r4, r5, r6, r7, r8, r9, r10, r11, r12, r13, r14, r15⟩ := R
  have e25 : A 25 5 = B1 4 5 := by rw [r1 _ _ (by unfold pD; omega)]; exact b9 5 (by omega)
  have ha := first_ok (M := A) (ro := ro) (put := put) (by omega) r3 (fun i hi => ⟨by have := (h3 i (by omega)).1; omega, by rw [r1 _ _ (by unfold pD; omega)]; exact (h3 i (by omega)).2.1⟩)
  rw [r8, e25] at ha
  exact ⟨ha, totrow_ok (by omega) r4 (fun i hi => ⟨by have := (h3 i (by omega)).1; omega, by rw [r2 _ _ (by unfold pE; omega)]; exact (h3 i (by omega)).2.2⟩) (fun i hi => (r13 i hi).2.2.1.symm) (fun i hi => (r13 i hi).2.1.symm) r9 (by rw [r2 _ _ (by unfold pE; omega)])⟩
theorem LR.ro6 (h : Ready A1 B1 n N r ro) (R : LR A1 B1 n ro A B put ended m) : ∀ i, i < put → ro i < 6 := fun i hi => by
  have h3 := (h.2.2.1 i (by have := R.2.2.2.2.1; omega)).1
  have := h.1.1
  have := h.1.2.1
  omega
/-- the wall w is trowelled -/
theorem trowel2 (h : Ready A1 B1 n N r ro) (R : LR A1 B1 n ro A B put ended m) {w : Nat} (hw : w < n) (hm : m < 4000) : ∃ A' B' m', f_Day_trowel A (nI w) = some A' ∧ m_trowels B (nI w) = some B' ∧ LR A1 B1 n ro A' B' put (ended + 1) m' ∧ m + 1 ≤ m' := by
  obtain ⟨hb, h2, h3, h4⟩ := id h
  obtain ⟨b1, b2, b3, b4, b5, b6, b7, b8, b9, b10, b11, b12⟩ := id hb
  obtain ⟨r1, r2, r3, r4, r5, r6, r7, r8, r9, r10, r11, r12, r13, r14, r15⟩ := R
  obtain ⟨w36, w37, w38, w39⟩ := r13 w (by omega)
  have e34 : A 34 w = B1 11 w := by rw [r1 _ _ (by unfold pD; omega)]; exact (h2 w hw).2.1
  have f11 : B 11 w = B1 11 w := r2 _ _ (by unfold pE; omega)
  obtain ⟨y, hy1, hy⟩ : ∃ y : Nat, (1 ≤ y ∧ y ≤ 20) ∧ B1 7 w = nI y := by
    obtain ⟨-, -, hy, -⟩ := b12 w (by omega)
    obtain ⟨j, j1, j2, j3⟩ := i_ofnat (x := B1 7 w) (n := 20) (by omega) hy.2
    exact ⟨j, ⟨by omega, j1⟩, j2⟩
  obtain ⟨off, hoff⟩ : ∃ off : Int32, off = if nI m - B 14 w - B1 11 w ≤ 0 then (if 0 ≤ nI m - B 14 w then 0 else nI m - B 14 w) else nI m - B 14 w - B1 11 w := ⟨_, rfl⟩
  -- how bad
  obtain ⟨A2, hA2⟩ : ∃ A2 : Mem, A2 = wr A 39 w off := ⟨_, rfl⟩
  obtain ⟨B2, hB2⟩ : ∃ B2 : Mem, B2 = wr (wr B 15 w (nI m)) 16 w off := ⟨_, rfl⟩
  have sA2 : same pD A1 A2 := by rw [hA2]; exact r1.wr (by unfold pD; omega)
  have sB2 : same pE B1 B2 := by rw [hB2]; exact (r2.wr (by unfold pE; omega)).wr (by unfold pE; omega)
  obtain ⟨⟨A3, a3, s3⟩, ⟨B3, c3, t3⟩, -, -⟩ := hb.says (sA2.mono (fun c j h => pD_S h)) (sB2.mono (fun c j h => pE_T h)) (w := 2) (by omega) (show w < N by omega) off
  have a3 : f_Day_tells A2 2 (nI w) off = some (A3, said A1 2 w off) := a3
  have c3 : m_says B2 2 (nI w) off 0 999 = some (B3, said A1 2 w off) := c3
  obtain ⟨A4, B4, x, hA4, hB4, s4, t4⟩ : ∃ A4 B4 : Mem, ∃ x : Int32,
      (if off = 0 then some A2 else ob2 (f_Day_tells A2 2 (nI w) off) fun (M12 : Mem) (v13 : Int32) => bnd (wr M12 23 16 ((A2 23 16) + v13)) fun (M14 : Mem) => some M14) = some A4 ∧
      (if off = 0 then some (B2, (0 : Int32)) else ob2 (m_says B2 2 (nI w) off 0 999) fun (M13 : Mem) (v14 : Int32) => some (M13, v14)) = some (B4, x) ∧
      (same (fun c j => c = 30 ∨ c = 31 ∨ (c = 23 ∧ j = 16)) A2 A4 ∧ A4 23 16 = A 23 16 + x) ∧ same (fun c j => c = 0 ∧ 13 ≤ j ∧ j ≤ 27) B2 B4 := by
    have e16 : A2 23 16 = A 23 16 := by rw [hA2, wr_off _ _ _ _ _ _ (by omega)]
    by_cases h0 : off = 0
    · exact ⟨A2, B2, 0, by rw [if_pos h0], by rw [if_pos h0], ⟨same.rf, by rw [e16, Int32.add_zero]⟩, same.rf⟩
    · refine ⟨wr A3 23 16 (A2 23 16 + said A1 2 w off), B3, said A1 2 w off, by rw [if_neg h0, a3, obp2_s, bnd_s], by rw [if_neg h0, c3, obp2_s], ⟨(s3.mono (fun c j h => by omega)).wr (by omega), by rw [wr_hit, e16]⟩, t3⟩
  obtain ⟨s4, s4x⟩ := s4
  have q28 : A4 28 w = B1 7 w := by rw [s4 _ _ (by omega), sA2 _ _ (by unfold pD; omega)]; exact (b10 w (by omega)).2.2.1
  have q7 : B4 7 w = B1 7 w := by rw [t4 _ _ (by omega), sB2 _ _ (by unfold pE; omega)]
  have m4 : A4 23 14 = nI m := by rw [s4 _ _ (by omega), hA2, wr_off _ _ _ _ _ _ (by omega)]; exact r8
  have n4 : B4 0 37 = nI m := by rw [t4 _ _ (by omega), hB2, wr_off _ _ _ _ _ _ (by omega), wr_off _ _ _ _ _ _ (by omega)]; exact r9
  have e4 : A4 23 13 = nI ended := by rw [s4 _ _ (by omega), hA2, wr_off _ _ _ _ _ _ (by omega)]; exact r6
  refine ⟨wr (wr (wr A4 38 w (nI m)) 23 14 (nI (m + y))) 23 13 (nI (ended + 1)), wr (wr B4 0 41 (B 0 41 + x)) 0 37 (nI (m + y)), m + y, ?_, ?_, ⟨?_, ?_, ?_, ?_, r5, ?_, by omega, ?_, ?_, by omega, ?_, ?_, ?_, ?_, ?_⟩, by omega⟩
  · have hbody : ∀ j7 : Mem → Option Mem, (if A2 39 w = 0 then j7 A2 else ob2 (f_Day_tells A2 2 (nI w) (A2 39 w)) fun (M12 : Mem) (v13 : Int32) => bnd (wr M12 23 16 ((A2 23 16) + v13)) fun (M14 : Mem) => j7 M14) = j7 A4 := fun j7 => by
      have e39 : A2 39 w = off := by rw [hA2, wr_hit]
      rw [e39]
      by_cases h0 : off = 0
      · rw [if_pos h0] at hA4 ⊢
        rw [oi hA4]
      · rw [if_neg h0] at hA4 ⊢
        rw [a3, obp2_s, bnd_s] at hA4 ⊢
        rw [oi hA4]
    have hoffA : ∀ j4 : Int32 → Option Mem, (if nI m - (A 37 w + A 34 w) ≤ 0 then (if 0 ≤ nI m - A 37 w then j4 0 else j4 (nI m - A 37 w)) else j4 (nI m - (A 37 w + A 34 w))) = j4 off := fun j4 => by
      rw [e34, w37, ← Int32.sub_sub, hoff]
      by_cases g1 : nI m - B 14 w - B1 11 w ≤ 0
      · rw [if_pos g1, if_pos g1]
        by_cases g2 : 0 ≤ nI m - B 14 w
        · rw [if_pos g2, if_pos g2]
        · rw [if_neg g2, if_neg g2]
      · rw [if_neg g1, if_neg g1]
    have q1 : wr A4 38 w (nI m) 23 14 = nI m := by rw [wr_off _ _ _ _ _ _ (by omega)]; exact m4
    have q2 : wr A4 38 w (nI m) 28 w = nI y := by rw [wr_off _ _ _ _ _ _ (by omega), q28, hy]
    have q3 : wr (wr A4 38 w (nI m)) 23 14 (nI (m + y)) 23 13 = nI ended := by rw [wr_off _ _ _ _ _ _ (by omega), wr_off _ _ _ _ _ _ (by omega)]; exact e4
    unfold f_Day_trowel
    simp only [ck_n _ (show w < 6 by omega) (show 6 < 2 ^ 31 by omega), nI_cl (show w < 2 ^ 31 by omega), r8]
    rw [bnd_s, bnd_s]
    refine (jp_to off hoffA).trans ?_
    try dsimp only
    rw [bnd_s, ← hA2]
    refine (jp_to A4 hbody).trans ?_
    try dsimp only
    rw [bnd_s, m4, bnd_s, q1, q2, nI_add, bnd_s, q3, nI_1]
  · have e15 : wr B 15 w (nI m) 16 = B 16 := funext fun j => wr_off _ _ _ _ _ _ (by omega)
    have hoffB : ∀ j5 : Int32 → Option Mem, (if nI m - B 14 w - B1 11 w ≤ 0 then (if 0 ≤ nI m - B 14 w then j5 0 else j5 (nI m - B 14 w)) else j5 (nI m - B 14 w - B1 11 w)) = j5 off := fun j5 => by
      rw [hoff]
      by_cases g1 : nI m - B 14 w - B1 11 w ≤ 0
      · rw [if_pos g1, if_pos g1]
        by_cases g2 : 0 ≤ nI m - B 14 w
        · rw [if_pos g2, if_pos g2]
        · rw [if_neg g2, if_neg g2]
      · rw [if_neg g1, if_neg g1]
    have hbody : ∀ j9 : Int32 → Mem → Option Mem, (if B2 16 w = 0 then j9 0 B2 else ob2 (m_says B2 2 (nI w) (B2 16 w) 0 999) fun (M13 : Mem) (v14 : Int32) => j9 v14 M13) = j9 x B4 := fun j9 => by
      have e16 : B2 16 w = off := by rw [hB2, wr_hit]
      rw [e16]
      by_cases h0 : off = 0
      · rw [if_pos h0] at hB4 ⊢
        obtain ⟨g1, g2⟩ := oi2 hB4
        rw [g1, g2]
      · rw [if_neg h0] at hB4 ⊢
        rw [c3, obp2_s] at hB4 ⊢
        obtain ⟨g1, g2⟩ := oi2 hB4
        rw [g1, g2]
    have q41 : B2 0 41 = B 0 41 := by rw [hB2, wr_off _ _ _ _ _ _ (by omega), wr_off _ _ _ _ _ _ (by omega)]
    have q37 : wr B4 0 41 (B 0 41 + x) 0 37 = nI m := by rw [wr_off _ _ _ _ _ _ (by omega)]; exact n4
    have q77 : wr B4 0 41 (B 0 41 + x) 7 w = nI y := by rw [wr_off _ _ _ _ _ _ (by omega), q7, hy]
    unfold m_trowels
    simp only [ck_n _ (show w < 6 by omega) (show 6 < 2 ^ 31 by omega), nI_cl (show w < 2 ^ 31 by omega), r9, f11]
    rw [bnd_s, bnd_s, bnd_s]
    refine (jp_to off hoffB).trans ?_
    try dsimp only
    rw [bnd_s, ← hB2]
    refine (jp_to2 x B4 hbody).trans ?_
    try dsimp only
    rw [bnd_s, q41, bnd_s, q37, q77, nI_add]
  · exact (((sA2.trans (s4.mono (fun c j h => by unfold pD; omega))).wr (by unfold pD; omega)).wr (by unfold pD; omega)).wr (by unfold pD; omega)
  · exact ((sB2.trans (t4.mono (fun c j h => by unfold pE; omega))).wr (by unfold pE; omega)).wr (by unfold pE; omega)
  · rw [wr_off _ _ _ _ _ _ (by omega), wr_off _ _ _ _ _ _ (by omega), wr_off _ _ _ _ _ _ (by omega), s4 _ _ (by omega), hA2, wr_off _ _ _ _ _ _ (by omega)]; exact r3
  · rw [wr_off _ _ _ _ _ _ (by omega), wr_off _ _ _ _ _ _ (by omega), t4 _ _ (by omega), hB2, wr_off _ _ _ _ _ _ (by omega), wr_off _ _ _ _ _ _ (by omega)]; exact r4
  · rw [wr_hit]
  · rw [wr_off _ _ _ _ _ _ (by omega), wr_hit]
  · rw [wr_hit]
  · rw [wr_off _ _ _ _ _ _ (by omega), wr_off _ _ _ _ _ _ (by omega), wr_off _ _ _ _ _ _ (by omega), s4 _ _ (by omega), hA2, wr_off _ _ _ _ _ _ (by omega), wr_off _ _ _ _ _ _ (by omega), wr_off _ _ _ _ _ _ (by omega), t4 _ _ (by omega), hB2, wr_off _ _ _ _ _ _ (by omega), wr_off _ _ _ _ _ _ (by omega)]; exact r11
  · rw [wr_off _ _ _ _ _ _ (by omega), wr_off _ _ _ _ _ _ (by omega), wr_off _ _ _ _ _ _ (by omega), s4x, wr_off _ _ _ _ _ _ (by omega), wr_hit, r12]
  · intro i hi
    have A36 : ∀ c, c = 36 ∨ c = 37 → wr (wr (wr A4 38 w (nI m)) 23 14 (nI (m + y))) 23 13 (nI (ended + 1)) c i = A c i := fun c hc => by
      rw [wr_off _ _ _ _ _ _ (by omega), wr_off _ _ _ _ _ _ (by omega), wr_off _ _ _ _ _ _ (by omega), s4 _ _ (by omega), hA2, wr_off _ _ _ _ _ _ (by omega)]
    have B13 : ∀ c, c = 13 ∨ c = 14 → wr (wr B4 0 41 (B 0 41 + x)) 0 37 (nI (m + y)) c i = B c i := fun c hc => by
      rw [wr_off _ _ _ _ _ _ (by omega), wr_off _ _ _ _ _ _ (by omega), t4 _ _ (by omega), hB2, wr_off _ _ _ _ _ _ (by omega), wr_off _ _ _ _ _ _ (by omega)]
    have A38 : wr (wr (wr A4 38 w (nI m)) 23 14 (nI (m + y))) 23 13 (nI (ended + 1)) 38 i = if i = w then nI m else A 38 i := by
      rw [wr_off _ _ _ _ _ _ (by omega), wr_off _ _ _ _ _ _ (by omega), wr_at]
      by_cases hiw : i = w
      · rw [if_pos ⟨rfl, hiw⟩, if_pos hiw]
      · rw [if_neg (fun h => hiw h.2), if_neg hiw, s4 _ _ (by omega), hA2, wr_off _ _ _ _ _ _ (by omega)]
    have B15 : wr (wr B4 0 41 (B 0 41 + x)) 0 37 (nI (m + y)) 15 i = if i = w then nI m else B 15 i := by
      rw [wr_off _ _ _ _ _ _ (by omega), wr_off _ _ _ _ _ _ (by omega), t4 _ _ (by omega), hB2, wr_off _ _ _ _ _ _ (by omega), wr_at]
      by_cases hiw : i = w
      · rw [if_pos ⟨rfl, hiw⟩, if_pos hiw]
      · rw [if_neg (fun h => hiw h.2), if_neg hiw]
    have A39 : wr (wr (wr A4 38 w (nI m)) 23 14 (nI (m + y))) 23 13 (nI (ended + 1)) 39 i = if i = w then off else A 39 i := by
      rw [wr_off _ _ _ _ _ _ (by omega), wr_off _ _ _ _ _ _ (by omega), wr_off _ _ _ _ _ _ (by omega), s4 _ _ (by omega), hA2, wr_at]
      by_cases hiw : i = w
      · rw [if_pos ⟨rfl, hiw⟩, if_pos hiw]
      · rw [if_neg (fun h => hiw h.2), if_neg hiw]
    have B16 : wr (wr B4 0 41 (B 0 41 + x)) 0 37 (nI (m + y)) 16 i = if i = w then off else B 16 i := by
      rw [wr_off _ _ _ _ _ _ (by omega), wr_off _ _ _ _ _ _ (by omega), t4 _ _ (by omega), hB2, wr_at]
      by_cases hiw : i = w
      · rw [if_pos ⟨rfl, hiw⟩, if_pos hiw]
      · rw [if_neg (fun h => hiw h.2), if_neg hiw, wr_off _ _ _ _ _ _ (by omega)]
    obtain ⟨x1, x2, x3, x4⟩ := r13 i hi
    rw [A36 36 (Or.inl rfl), A36 37 (Or.inr rfl), B13 13 (Or.inl rfl), B13 14 (Or.inr rfl), A38, B15, A39, B16, x3, x4]
    exact ⟨x1, x2, rfl, rfl⟩
  · intro hp
    rw [wr_off _ _ _ _ _ _ (by omega), wr_off _ _ _ _ _ _ (by omega), t4 _ _ (by omega), hB2, wr_off _ _ _ _ _ _ (by omega), wr_off _ _ _ _ _ _ (by omega), wr_off _ _ _ _ _ _ (by omega), wr_off _ _ _ _ _ _ (by omega), wr_off _ _ _ _ _ _ (by omega), s4 _ _ (by omega), hA2, wr_off _ _ _ _ _ _ (by omega)]
    exact r14 hp
  · intro i hi1 hi2
    rw [wr_off _ _ _ _ _ _ (by omega), wr_off _ _ _ _ _ _ (by omega), wr_off _ _ _ _ _ _ (by omega), s4 _ _ (by omega), hA2, wr_off _ _ _ _ _ _ (by omega)]
    exact r15 i hi1 hi2
/-- the next wall of the order is begun -/
theorem begin2 (h : Ready A1 B1 n N r ro) (R : LR A1 B1 n ro A B put ended m) (hp : put < n) (hm : m < 4000) : ∃ A' B' m', f_Day_begin A (nI (ro put)) = some A' ∧ m_begins B (nI (ro put)) = some B' ∧ LR A1 B1 n ro A' B' (put + 1) ended m' ∧ m + 1 ≤ m' := by
  obtain ⟨hb, h2, h3, h4⟩ := id h
  obtain ⟨b1, b2, b3, b4, b5, b6, b7, b8, b9, b10, b11, b12⟩ := id hb
  obtain ⟨r1, r2, r3, r4, r5, r6, r7, r8, r9, r10, r11, r12, r13, r14, r15⟩ := R
  obtain ⟨hw, -, -⟩ := h3 put hp
  obtain ⟨w, hwe⟩ : ∃ w, w = ro put := ⟨_, rfl⟩
  rw [← hwe] at hw ⊢
  obtain ⟨x33, x34, x35, x36, x37⟩ := h2 w hw
  obtain ⟨d, hd1, hd2, hd3⟩ := i_ofnat (x := B1 12 w) (n := 1000) (by omega) x37
  have e33 : A 33 w = B1 10 w := by rw [r1 _ _ (by unfold pD; omega)]; exact x33
  have e35 : A 35 w = A1 35 w := r1 _ _ (by unfold pD; omega)
  have e25 : A 25 3 = A1 25 3 := r1 _ _ (by unfold pD; omega)
  have f12 : B 12 w = nI d := by rw [r2 _ _ (by unfold pE; omega)]; exact hd2
  have f10 : B 10 w = B1 10 w := r2 _ _ (by unfold pE; omega)
  refine ⟨wr (wr (wr (wr A 36 w (nI m)) 23 14 (nI (m + d))) 37 w (nI (m + d) + B1 10 w)) 23 12 (nI (put + 1)), wr (wr (wr (wr (wr B 13 w (nI m)) 0 39 (nI m)) 0 37 (nI (m + d))) 14 w (nI (m + d) + B1 10 w)) 0 38 (nI (put + 1)), m + d, ?_, ?_, ⟨?_, ?_, wr_hit _ _ _ _, wr_hit _ _ _ _, hp, ?_, by omega, ?_, ?_, by omega, ?_, ?_, ?_, ?_, ?_⟩, by omega⟩
  · have hh : ¬ imax 1 (A1 25 3) = 0 := by
      have c5 : (1 : Int32).toInt = 1 := by decide
      have c0 : (0 : Int32).toInt = 0 := by decide
      intro h0
      rw [mx1] at h0
      by_cases g : 1 ≤ A1 25 3
      · rw [if_pos g] at h0; rw [h0, i_le] at g; omega
      · rw [if_neg g] at h0; exact absurd h0 (by decide)
    have k3 : ∀ (x : Option Mem), ck 3 6 x = x := fun x => ck_n (k := 3) x (by omega) (by omega)
    have t3 : (3 : Int32).toNatClampNeg = 3 := rfl
    have q1 : wr A 36 w (nI m) 23 14 = nI m := by rw [wr_off _ _ _ _ _ _ (by omega)]; exact r8
    have q2 : wr A 36 w (nI m) 35 w = A1 35 w := by rw [wr_off _ _ _ _ _ _ (by omega)]; exact e35
    have q3 : wr (wr A 36 w (nI m)) 23 14 (nI (m + d)) 23 14 = nI (m + d) := wr_hit _ _ _ _
    have q4 : wr (wr A 36 w (nI m)) 23 14 (nI (m + d)) 33 w = B1 10 w := by rw [wr_off _ _ _ _ _ _ (by omega), wr_off _ _ _ _ _ _ (by omega)]; exact e33
    have q5 : wr (wr (wr A 36 w (nI m)) 23 14 (nI (m + d))) 37 w (nI (m + d) + B1 10 w) 23 12 = nI put := by rw [wr_off _ _ _ _ _ _ (by omega), wr_off _ _ _ _ _ _ (by omega), wr_off _ _ _ _ _ _ (by omega)]; exact r3
    have hd' : imax 1 (A1 35 w / imax 1 (A1 25 3)) = nI d := by rw [x35, hd2]
    unfold f_Day_begin
    simp only [k3, t3, e25, bnd_s, ck_n _ (show w < 6 by omega) (show 6 < 2 ^ 31 by omega), nI_cl (show w < 2 ^ 31 by omega), r8, nz_s _ hh, q1, q2, hd', nI_add, q3, q4, q5, nI_1]
  · have q1 : wr B 13 w (nI m) 0 37 = nI m := by rw [wr_off _ _ _ _ _ _ (by omega)]; exact r9
    have q2 : wr (wr B 13 w (nI m)) 0 39 (nI m) 0 37 = nI m := by rw [wr_off _ _ _ _ _ _ (by omega)]; exact q1
    have q3 : wr (wr B 13 w (nI m)) 0 39 (nI m) 12 w = nI d := by rw [wr_off _ _ _ _ _ _ (by omega), wr_off _ _ _ _ _ _ (by omega)]; exact f12
    have q4 : wr (wr (wr B 13 w (nI m)) 0 39 (nI m)) 0 37 (nI (m + d)) 0 37 = nI (m + d) := wr_hit _ _ _ _
    have q5 : wr (wr (wr B 13 w (nI m)) 0 39 (nI m)) 0 37 (nI (m + d)) 10 w = B1 10 w := by rw [wr_off _ _ _ _ _ _ (by omega), wr_off _ _ _ _ _ _ (by omega), wr_off _ _ _ _ _ _ (by omega)]; exact f10
    have q6 : wr (wr (wr (wr B 13 w (nI m)) 0 39 (nI m)) 0 37 (nI (m + d))) 14 w (nI (m + d) + B1 10 w) 0 38 = nI put := by rw [wr_off _ _ _ _ _ _ (by omega), wr_off _ _ _ _ _ _ (by omega), wr_off _ _ _ _ _ _ (by omega), wr_off _ _ _ _ _ _ (by omega)]; exact r4
    unfold m_begins
    simp only [bnd_s, ck_n _ (show w < 6 by omega) (show 6 < 2 ^ 31 by omega), nI_cl (show w < 2 ^ 31 by omega), r9, q1, q2, q3, nI_add, q4, q5, q6, nI_1]
  · exact (((r1.wr (by unfold pD; omega)).wr (by unfold pD; omega)).wr (by unfold pD; omega)).wr (by unfold pD; omega)
  · exact ((((r2.wr (by unfold pE; omega)).wr (by unfold pE; omega)).wr (by unfold pE; omega)).wr (by unfold pE; omega)).wr (by unfold pE; omega)
  · rw [wr_off _ _ _ _ _ _ (by omega), wr_off _ _ _ _ _ _ (by omega), wr_off _ _ _ _ _ _ (by omega), wr_off _ _ _ _ _ _ (by omega)]; exact r6
  · rw [wr_off _ _ _ _ _ _ (by omega), wr_off _ _ _ _ _ _ (by omega), wr_hit]
  · rw [wr_off _ _ _ _ _ _ (by omega), wr_off _ _ _ _ _ _ (by omega), wr_hit]
  · rw [wr_off _ _ _ _ _ _ (by omega), wr_off _ _ _ _ _ _ (by omega), wr_off _ _ _ _ _ _ (by omega), wr_off _ _ _ _ _ _ (by omega), wr_off _ _ _ _ _ _ (by omega), wr_off _ _ _ _ _ _ (by omega), wr_off _ _ _ _ _ _ (by omega), wr_off _ _ _ _ _ _ (by omega), wr_off _ _ _ _ _ _ (by omega)]; exact r11
  · rw [wr_off _ _ _ _ _ _ (by omega), wr_off _ _ _ _ _ _ (by omega), wr_off _ _ _ _ _ _ (by omega), wr_off _ _ _ _ _ _ (by omega), wr_off _ _ _ _ _ _ (by omega), wr_off _ _ _ _ _ _ (by omega), wr_off _ _ _ _ _ _ (by omega), wr_off _ _ _ _ _ _ (by omega), wr_off _ _ _ _ _ _ (by omega)]; exact r12
  · intro i hi
    obtain ⟨x1, x2, x3, x4⟩ := r13 i hi
    have A36 : wr (wr (wr (wr A 36 w (nI m)) 23 14 (nI (m + d))) 37 w (nI (m + d) + B1 10 w)) 23 12 (nI (put + 1)) 36 i = if i = w then nI m else A 36 i := by
      rw [wr_off _ _ _ _ _ _ (by omega), wr_off _ _ _ _ _ _ (by omega), wr_off _ _ _ _ _ _ (by omega), wr_at]
      by_cases hiw : i = w
      · rw [if_pos ⟨rfl, hiw⟩, if_pos hiw]
      · rw [if_neg (fun h => hiw h.2), if_neg hiw]
    have A37 : wr (wr (wr (wr A 36 w (nI m)) 23 14 (nI (m + d))) 37 w (nI (m + d) + B1 10 w)) 23 12 (nI (put + 1)) 37 i = if i = w then nI (m + d) + B1 10 w else A 37 i := by
      rw [wr_off _ _ _ _ _ _ (by omega), wr_at]
      by_cases hiw : i = w
      · rw [if_pos ⟨rfl, hiw⟩, if_pos hiw]
      · rw [if_neg (fun h => hiw h.2), if_neg hiw, wr_off _ _ _ _ _ _ (by omega), wr_off _ _ _ _ _ _ (by omega)]
    have A38 : wr (wr (wr (wr A 36 w (nI m)) 23 14 (nI (m + d))) 37 w (nI (m + d) + B1 10 w)) 23 12 (nI (put + 1)) 38 i = A 38 i := by rw [wr_off _ _ _ _ _ _ (by omega), wr_off _ _ _ _ _ _ (by omega), wr_off _ _ _ _ _ _ (by omega), wr_off _ _ _ _ _ _ (by omega)]
    have A39 : wr (wr (wr (wr A 36 w (nI m)) 23 14 (nI (m + d))) 37 w (nI (m + d) + B1 10 w)) 23 12 (nI (put + 1)) 39 i = A 39 i := by rw [wr_off _ _ _ _ _ _ (by omega), wr_off _ _ _ _ _ _ (by omega), wr_off _ _ _ _ _ _ (by omega), wr_off _ _ _ _ _ _ (by omega)]
    have B13 : wr (wr (wr (wr (wr B 13 w (nI m)) 0 39 (nI m)) 0 37 (nI (m + d))) 14 w (nI (m + d) + B1 10 w)) 0 38 (nI (put + 1)) 13 i = if i = w then nI m else B 13 i := by
      rw [wr_off _ _ _ _ _ _ (by omega), wr_off _ _ _ _ _ _ (by omega), wr_off _ _ _ _ _ _ (by omega), wr_off _ _ _ _ _ _ (by omega), wr_at]
      by_cases hiw : i = w
      · rw [if_pos ⟨rfl, hiw⟩, if_pos hiw]
      · rw [if_neg (fun h => hiw h.2), if_neg hiw]
    have B14 : wr (wr (wr (wr (wr B 13 w (nI m)) 0 39 (nI m)) 0 37 (nI (m + d))) 14 w (nI (m + d) + B1 10 w)) 0 38 (nI (put + 1)) 14 i = if i = w then nI (m + d) + B1 10 w else B 14 i := by
      rw [wr_off _ _ _ _ _ _ (by omega), wr_at]
      by_cases hiw : i = w
      · rw [if_pos ⟨rfl, hiw⟩, if_pos hiw]
      · rw [if_neg (fun h => hiw h.2), if_neg hiw, wr_off _ _ _ _ _ _ (by omega), wr_off _ _ _ _ _ _ (by omega), wr_off _ _ _ _ _ _ (by omega)]
    have B15 : wr (wr (wr (wr (wr B 13 w (nI m)) 0 39 (nI m)) 0 37 (nI (m + d))) 14 w (nI (m + d) + B1 10 w)) 0 38 (nI (put + 1)) 15 i = B 15 i := by rw [wr_off _ _ _ _ _ _ (by omega), wr_off _ _ _ _ _ _ (by omega), wr_off _ _ _ _ _ _ (by omega), wr_off _ _ _ _ _ _ (by omega), wr_off _ _ _ _ _ _ (by omega)]
    have B16 : wr (wr (wr (wr (wr B 13 w (nI m)) 0 39 (nI m)) 0 37 (nI (m + d))) 14 w (nI (m + d) + B1 10 w)) 0 38 (nI (put + 1)) 16 i = B 16 i := by rw [wr_off _ _ _ _ _ _ (by omega), wr_off _ _ _ _ _ _ (by omega), wr_off _ _ _ _ _ _ (by omega), wr_off _ _ _ _ _ _ (by omega), wr_off _ _ _ _ _ _ (by omega)]
    rw [A36, A37, A38, A39, B13, B14, B15, B16, x1, x2]
    exact ⟨rfl, rfl, x3, x4⟩
  · intro _
    have e1 : put + 1 - 1 = put := by omega
    rw [e1, ← hwe, wr_off _ _ _ _ _ _ (by omega), wr_off _ _ _ _ _ _ (by omega), wr_off _ _ _ _ _ _ (by omega), wr_hit, wr_off _ _ _ _ _ _ (by omega), wr_off _ _ _ _ _ _ (by omega), wr_off _ _ _ _ _ _ (by omega), wr_hit]
  · intro i hi1 hi2
    rw [wr_off _ _ _ _ _ _ (by omega), wr_off _ _ _ _ _ _ (by omega), wr_off _ _ _ _ _ _ (by omega), wr_off _ _ _ _ _ _ (by omega)]
    exact r15 i hi1 hi2
end LIVE
