/-! a day: the minutes that are waited, and all of it -/
/-- until when nothing can be done -/
def unt (tr rp : Nat → Int32) (ro : Nat → Nat) (eg v1 : Int32) : Nat → Int32
  | 0 => v1
  | k + 1 => if tr (ro k) = -1 then imin (unt tr rp ro eg v1 k) (rp (ro k) - eg) else unt tr rp ro eg v1 k
theorem imin_le (x y : Int32) : imin x y ≤ x ∧ imin x y ≤ y ∧ (imin x y = x ∨ imin x y = y) := by
  unfold imin
  by_cases g : y < x
  · rw [if_pos g]; rw [i_lt] at g; exact ⟨by rw [i_le]; omega, by rw [i_le]; omega, Or.inr rfl⟩
  · rw [if_neg g]; rw [i_lt] at g; exact ⟨by rw [i_le]; omega, by rw [i_le]; omega, Or.inl rfl⟩
theorem unt_ok {tr rp : Nat → Int32} {ro : Nat → Nat} {eg v1 mn : Int32} (h1 : mn < v1) : ∀ k, (∀ i, i < k → tr (ro i) = -1 → mn < rp (ro i) - eg) → mn < unt tr rp ro eg v1 k ∧ unt tr rp ro eg v1 k ≤ v1 ∧ ∀ i, i < k → tr (ro i) = -1 → unt tr rp ro eg v1 k ≤ rp (ro i) - eg := by
  intro k
  induction k with
  | zero => exact fun _ => ⟨h1, Int32.le_refl _, fun i hi => by omega⟩
  | succ k ih =>
    intro hq
    obtain ⟨i1, i2, i3⟩ := ih (fun i hi => hq i (by omega))
    rw [unt]
    by_cases g : tr (ro k) = -1
    · rw [if_pos g]
      obtain ⟨m1, m2, m3⟩ := imin_le (unt tr rp ro eg v1 k) (rp (ro k) - eg)
      refine ⟨?_, ?_, fun i hi ht => ?_⟩
      · rcases m3 with m3 | m3
        · rw [m3]; exact i1
        · rw [m3]; exact hq k (by omega) g
      · rw [i_le] at m1 i2 ⊢; omega
      · by_cases hik : i = k
        · subst hik; exact m2
        · have := i3 i (by omega) ht
          rw [i_le] at this m1 ⊢
          omega
    · rw [if_neg g]
      refine ⟨i1, i2, fun i hi ht => ?_⟩
      by_cases hik : i = k
      · subst hik; exact absurd ht g
      · exact i3 i (by omega) ht
theorem wait_loop {M : Mem} {ro : Nat → Nat} {put : Nat} {v1 : Int32} (hp : put ≤ 6) (h12 : M 23 12 = nI put) (hro : ∀ i, i < put → ro i < 6 ∧ M 32 i = nI (ro i)) (j4 : Int32 → Option Mem) :
    ∀ fu k, k ≤ put → put < fu + k → f_Day_waitOn_L33 M j4 fu (unt (M 38) (M 37) ro (M 25 5) v1 k) (nI k) = j4 (unt (M 38) (M 37) ro (M 25 5) v1 put) := by
  intro fu
  induction fu with
  | zero => intro k h1 h2; omega
  | succ fu ih =>
    intro k h1 h2
    by_cases hk : k = put
    · subst hk
      simp only [f_Day_waitOn_L33, h12, if_pos (Int32.le_refl (nI k))]
    · have g1 : ¬ nI put ≤ nI k := nI_ge (by omega) (by omega)
      have g2 : ¬ (6 : Int32) ≤ nI k := nI_ge (b := 6) (by omega) (by omega)
      obtain ⟨r1, r2⟩ := hro k (by omega)
      have ih := ih (k + 1) (by omega) (by omega)
      have k5 : ∀ (x : Option Mem), ck 5 6 x = x := fun x => ck_n (k := 5) x (by omega) (by omega)
      have t5 : (5 : Int32).toNatClampNeg = 5 := rfl
      rw [unt] at ih
      simp only [f_Day_waitOn_L33, h12, if_neg g1, if_neg g2, ck_n _ (show k < 6 by omega) (show 6 < 2 ^ 31 by omega), nI_cl (show k < 2 ^ 31 by omega), bnd_s, r2, ck_n _ r1 (show 6 < 2 ^ 31 by omega), nI_cl (show ro k < 2 ^ 31 by omega), k5, t5, nI_1]
      by_cases c1 : M 38 (ro k) = -1
      · rw [if_pos c1] at ih ⊢
        exact ih
      · rw [if_neg c1] at ih ⊢
        exact ih
section LIVE
variable {A1 B1 A B : Mem} {n N r put ended m : Nat} {ro : Nat → Nat}
/-- the reference waits, minute by minute -/
theorem wait_rf (h : Ready A1 B1 n N r ro) (j9 : Mem → Option Mem) (fu : Nat) (he : ended < n) {tr rp : Nat → Int32} : ∀ d t (B : Mem), same pE B1 B → B 0 38 = nI put → put ≤ n → (∀ i, i < 6 → B 15 i = tr i) → (∀ i, i < 6 → B 14 i = rp i) → B 0 37 = nI t → t + d ≤ 4000 →
    (∀ s, t ≤ s → s < t + d → scan tr rp ro (nI s) (B1 4 5) put = -1 ∧ (n ≤ put ∨ (0 < put ∧ nI s < B 0 39 + B1 4 4))) →
    ∃ B', m_lives_L69 j9 (fu + d) (nI ended) B = m_lives_L69 j9 fu (nI ended) B' ∧ same (fun c j => c = 0 ∧ (j = 37 ∨ j = 40)) B B' ∧ B' 0 37 = nI (t + d) ∧ B' 0 40 = B 0 40 + nI d := by
  intro d
  induction d with
  | zero =>
    intro t B s1 s2 s3 s4 s5 s6 s7 s8
    exact ⟨B, rfl, same.rf, s6, (Int32.add_zero _).symm⟩
  | succ d ih =>
    intro t B s1 s2 s3 s4 s5 s6 s7 s8
    obtain ⟨⟨b1, b2, b3, b4, b5, b6, b7, b8, b9, b10, b11⟩, h2, h3, h4⟩ := id h
    obtain ⟨q1, q2⟩ := s8 t (Nat.le_refl _) (by omega)
    have hsc : m_toTrowel B = some (-1) := by
      rw [← q1]
      exact totrow_ok (by omega) s2 (fun i hi => ⟨by have := (h3 i (by omega)).1; omega, by rw [s1 _ _ (by unfold pE; omega)]; exact (h3 i (by omega)).2.2⟩) s4 s5 s6 (s1 _ _ (by unfold pE; omega))
    obtain ⟨B2, hB2⟩ : ∃ B2 : Mem, B2 = wr (wr B 0 37 (nI (t + 1))) 0 40 (B 0 40 + 1) := ⟨_, rfl⟩
    have sB2 : same (fun c j => c = 0 ∧ (j = 37 ∨ j = 40)) B B2 := by
      rw [hB2]
      exact (same.rf.wr ⟨rfl, Or.inl rfl⟩).wr ⟨rfl, Or.inr rfl⟩
    have e39 : B2 0 39 = B 0 39 := sB2 _ _ (by omega)
    obtain ⟨B', c1, c2, c3, c4⟩ := ih (t + 1) B2 (s1.trans (sB2.mono (fun c j h => by unfold pE; omega))) (by rw [sB2 _ _ (by omega)]; exact s2) s3 (fun i hi => by rw [sB2 _ _ (by omega)]; exact s4 i hi) (fun i hi => by rw [sB2 _ _ (by omega)]; exact s5 i hi) (by rw [hB2, wr_off _ _ _ _ _ _ (by omega), wr_hit]) (by omega) (fun s g1 g2 => by rw [e39]; exact s8 s (by omega) (by omega))
    refine ⟨B', ?_, sB2.trans c2, by rw [c3]; congr 1; omega, ?_⟩
    · rw [← c1]
      have g29 : B 0 29 = nI n := by rw [s1 _ _ (by unfold pE; omega)]; exact h4
      have k1 : ¬ nI n ≤ nI ended := nI_ge he (by omega)
      have k2 : ¬ (4000 : Int32) ≤ nI t := nI_ge (b := 4000) (by omega) (by omega)
      have k4 : ∀ (x : Option Mem), ck 4 6 x = x := fun x => ck_n (k := 4) x (by omega) (by omega)
      have t4 : (4 : Int32).toNatClampNeg = 4 := rfl
      have e44 : B 4 4 = B1 4 4 := s1 _ _ (by unfold pE; omega)
      have w1 : wr B 0 37 (nI (t + 1)) 0 40 = B 0 40 := wr_off _ _ _ _ _ _ (by omega)
      show m_lives_L69 j9 (fu + d + 1) (nI ended) B = _
      simp only [m_lives_L69, g29, if_neg k1, s6, if_neg k2, hsc, obp_s, if_true, jp_s, bnd_s, nI_1, w1, ← hB2, s2, k4, t4, e44]
      rcases q2 with q2 | ⟨q2, q3⟩
      · rw [if_pos (nI_le q2 (by omega))]
      · by_cases hnp : n ≤ put
        · rw [if_pos (nI_le hnp (by omega))]
        · have p0 : ¬ nI put = 0 := nI_ne0 q2 (by omega)
          rw [if_neg (nI_ge (by omega) (by omega)), if_neg p0, if_pos q3]
    · rw [c4, hB2, wr_hit]
      have e1 : (1 : Int32) + nI d = nI (d + 1) := by rw [Int32.add_comm]; exact nI_1 d
      rw [Int32.add_assoc, e1]
/-- nothing can be done: both come to the minute in which something can -/
theorem wait2 (h : Ready A1 B1 n N r ro) (R : LR A1 B1 n ro A B put ended m) (he : ended < n) (hm : m < 4000) (hs : scan (A 38) (A 37) ro (nI m) (B1 4 5) put = -1) (hq : n ≤ put ∨ (0 < put ∧ nI m < B 0 39 + B1 4 4)) (j9 : Mem → Option Mem) :
    ∃ A' m', m + 1 ≤ m' ∧ m' ≤ 4000 ∧ f_Day_waitOn A = some A' ∧ ∀ fu, ∃ B', m_lives_L69 j9 (fu + (m' - m)) (nI ended) B = m_lives_L69 j9 fu (nI ended) B' ∧ LR A1 B1 n ro A' B' put ended m' := by
  have h6 := LR.ro6 h R
  obtain ⟨⟨b1, b2, b3, b4, b5, b6, b7, b8, b9, b10, b11⟩, h2, h3, h4⟩ := id h
  obtain ⟨r1, r2, r3, r4, r5, r6, r7, r8, r9, r10, r11, r12, r13, r14, r15⟩ := R
  have hquiet := (scan_none put h6).mp hs
  have e25 : ∀ j, j < 6 → A 25 j = B1 4 j := fun j hj => by rw [r1 _ _ (by unfold pD; omega)]; exact b9 j hj
  have c4k : (4000 : Int32).toInt = 4000 := by decide
  have hmI : (nI m).toInt = (m : Int) := i_nI (by omega)
  -- the bound by the next beginning
  obtain ⟨v1, hv1, hv1a, hv1b, hv1c⟩ : ∃ v1 : Int32, v1 = (if n ≤ put then 4000 else imin 4000 (A 36 (ro (put - 1)) + A 25 4)) ∧ nI m < v1 ∧ v1 ≤ 4000 ∧ (¬ n ≤ put → v1 ≤ A 36 (ro (put - 1)) + A 25 4) := by
    refine ⟨_, rfl, ?_⟩
    by_cases hnp : n ≤ put
    · rw [if_pos hnp]
      exact ⟨by rw [i_lt, hmI, c4k]; omega, Int32.le_refl _, fun h => absurd hnp h⟩
    · rw [if_neg hnp]
      obtain ⟨m1, m2, m3⟩ := imin_le 4000 (A 36 (ro (put - 1)) + A 25 4)
      rcases hq with hq | ⟨hq1, hq2⟩
      · exact absurd hq hnp
      · refine ⟨?_, m1, fun _ => m2⟩
        rw [r14 hq1, ← e25 4 (by omega)] at hq2
        rcases m3 with m3 | m3
        · rw [m3, i_lt, hmI, c4k]; omega
        · rw [m3]; exact hq2
  have eB5 : A 25 5 = B1 4 5 := e25 5 (by omega)
  obtain ⟨u1, u2, u3⟩ := unt_ok (tr := A 38) (rp := A 37) (ro := ro) (eg := A 25 5) (v1 := v1) (mn := nI m) hv1a put (fun i hi ht => by
    have := hquiet i hi
    rw [eB5]
    by_cases g : nI m < A 37 (ro i) - B1 4 5
    · exact g
    · exact absurd ⟨ht, g⟩ this)
  obtain ⟨U, hU⟩ : ∃ U, U = unt (A 38) (A 37) ro (A 25 5) v1 put := ⟨_, rfl⟩
  rw [← hU] at u1 u2 u3
  have hU1 : (m : Int) < U.toInt := by rw [i_lt, hmI] at u1; exact u1
  have hU2 : U.toInt ≤ 4000 := by rw [i_le] at u2 hv1b; omega
  obtain ⟨u, hu1, hu2, hu3⟩ := i_ofnat (x := U) (n := 4000) (by omega) hU2
  have hum : m + 1 ≤ u := by omega
  refine ⟨wr (wr A 23 15 (A 23 15 + nI (u - m))) 23 14 (nI u), u, hum, hu1, ?_, fun fu => ?_⟩
  · have hloop := wait_loop (M := A) (ro := ro) (put := put) (v1 := v1) (by omega) r3 (fun i hi => ⟨h6 i hi, by rw [r1 _ _ (by unfold pD; omega)]; exact (h3 i (by omega)).2.1⟩) (fun v3 => bnd (imax v3 ((A 23 14) + 1)) fun (v5 : Int32) => bnd (wr A 23 15 ((A 23 15) + (v5 - (A 23 14)))) fun (M6 : Mem) => bnd (wr M6 23 14 v5) fun (M7 : Mem) => some M7) FU 0 (Nat.zero_le _) (by unfold FU; omega)
    have e24 : A 24 5 = nI n := by rw [r1 _ _ (by unfold pD; omega)]; exact b3
    have himax : imax U (nI m + 1) = nI u := by
      unfold imax
      rw [nI_1, if_neg, hu2]
      rw [hu2]
      exact nI_nlt hum (by omega)
    have hfin : (fun v3 => bnd (imax v3 ((A 23 14) + 1)) fun (v5 : Int32) => bnd (wr A 23 15 ((A 23 15) + (v5 - (A 23 14)))) fun (M6 : Mem) => bnd (wr M6 23 14 v5) fun (M7 : Mem) => some M7) U = some (wr (wr A 23 15 (A 23 15 + nI (u - m))) 23 14 (nI u)) := by
      simp only [bnd_s, r8, himax, nI_sub (show m ≤ u by omega)]
    rw [← hU] at hloop
    have hloop := hloop.trans hfin
    have hgo : f_Day_waitOn A = (f_Day_waitOn_L33 A (fun v3 => bnd (imax v3 ((A 23 14) + 1)) fun (v5 : Int32) => bnd (wr A 23 15 ((A 23 15) + (v5 - (A 23 14)))) fun (M6 : Mem) => bnd (wr M6 23 14 v5) fun (M7 : Mem) => some M7) FU v1 0) := by
      unfold f_Day_waitOn
      rw [jp_s]
      by_cases hnp : n ≤ put
      · rw [e24, r3, if_pos (nI_le hnp (by omega))]
        dsimp only
        rw [jp_s, hv1, if_pos hnp]
      · obtain ⟨hq1, hq2⟩ := hq.resolve_left hnp
        have hnb : f_Day_nextBegins A = some (A 36 (ro (put - 1)) + A 25 4) := by
          have k4 : ∀ (x : Option Int32), ck 4 6 x = x := fun x => ck_n (k := 4) x (by omega) (by omega)
          have t4 : (4 : Int32).toNatClampNeg = 4 := rfl
          have e1 : nI put - 1 = nI (put - 1) := nI_sub (b := 1) hq1
          have e32 : A 32 (put - 1) = nI (ro (put - 1)) := by rw [r1 _ _ (by unfold pD; omega)]; exact (h3 (put - 1) (by omega)).2.1
          unfold f_Day_nextBegins
          rw [r3, if_neg (nI_nle hq1 (by omega)), if_neg (show ¬ (6 : Int32) < nI put from nI_nlt (a := 6) (by omega) (by omega)), e1, ck_n _ (show put - 1 < 6 by omega) (by omega), nI_cl (by omega), e32, ck_n _ (h6 (put - 1) (by omega)) (by omega), nI_cl (by have := h6 (put - 1) (by omega); omega), k4, t4]
        rw [e24, r3, if_neg (nI_ge (by omega) (by omega)), hnb, obp_s]
        dsimp only
        rw [jp_s, hv1, if_neg hnp]
    rw [hgo]
    exact hloop
  · obtain ⟨B', c1, c2, c3, c4⟩ := wait_rf h j9 fu he (tr := A 38) (rp := A 37) (u - m) m B r2 r4 r5 (fun i hi => (r13 i hi).2.2.1.symm) (fun i hi => (r13 i hi).2.1.symm) r9 (by omega) (fun s g1 g2 => by
      have hsI : (nI s).toInt = (s : Int) := i_nI (by omega)
      constructor
      · refine (scan_none put h6).mpr (fun i hi hx => ?_)
        have := u3 i hi hx.1
        rw [eB5] at this
        have hx2 := hx.2
        rw [i_le] at this
        rw [i_lt, hsI] at hx2
        omega
      · by_cases hnp : n ≤ put
        · exact Or.inl hnp
        · obtain ⟨hq1, hq2⟩ := hq.resolve_left hnp
          refine Or.inr ⟨hq1, ?_⟩
          have := hv1c hnp
          rw [r14 hq1, ← e25 4 (by omega), i_lt, hsI]
          rw [i_le] at this u2
          omega)
    have e1 : m + (u - m) = u := by omega
    rw [e1] at c3
    refine ⟨B', c1, r1.wr (by unfold pD; omega) |>.wr (by unfold pD; omega), r2.trans (c2.mono (fun c j h => by unfold pE; omega)), ?_, ?_, r5, ?_, by omega, wr_hit _ _ _ _, c3, by omega, ?_, ?_, ?_, ?_, ?_⟩
    · rw [wr_off _ _ _ _ _ _ (by omega), wr_off _ _ _ _ _ _ (by omega)]; exact r3
    · rw [c2 _ _ (by omega)]; exact r4
    · rw [wr_off _ _ _ _ _ _ (by omega), wr_off _ _ _ _ _ _ (by omega)]; exact r6
    · rw [wr_off _ _ _ _ _ _ (by omega), wr_hit, c4, r11]
    · rw [wr_off _ _ _ _ _ _ (by omega), wr_off _ _ _ _ _ _ (by omega), c2 _ _ (by omega)]; exact r12
    · intro i hi
      rw [wr_off _ _ _ _ _ _ (by omega), wr_off _ _ _ _ _ _ (by omega), wr_off _ _ _ _ _ _ (by omega), wr_off _ _ _ _ _ _ (by omega), wr_off _ _ _ _ _ _ (by omega), wr_off _ _ _ _ _ _ (by omega), wr_off _ _ _ _ _ _ (by omega), wr_off _ _ _ _ _ _ (by omega), c2 _ _ (by omega), c2 _ _ (by omega), c2 _ _ (by omega), c2 _ _ (by omega)]
      exact r13 i hi
    · intro hp
      rw [c2 _ _ (by omega), wr_off _ _ _ _ _ _ (by omega), wr_off _ _ _ _ _ _ (by omega)]
      exact r14 hp
    · intro i g1 g2
      rw [wr_off _ _ _ _ _ _ (by omega), wr_off _ _ _ _ _ _ (by omega)]
      exact r15 i g1 g2
theorem live_loop (h : Ready A1 B1 n N r ro) (j4 j9 : Mem → Option Mem) : ∀ fu1 fu2 st A B put ended m, LR A1 B1 n ro A B put ended m → st ≤ m → 5100 < fu1 + m → 5100 < fu2 + m →
    ∃ A' B' put' ended' m', f_Day_live_L6 j4 fu1 (nI st) A = j4 A' ∧ m_lives_L69 j9 fu2 (nI ended) B = j9 B' ∧ LR A1 B1 n ro A' B' put' ended' m' := by
  intro fu1
  induction fu1 with
  | zero => intro fu2 st A B put ended m R; have := R.2.2.2.2.2.2.2.2.2.1; omega
  | succ fu1 ih =>
    intro fu2 st A B put ended m R hst hf1 hf2
    have h6 := LR.ro6 h R
    obtain ⟨sc1, sc2⟩ := LR.scanA h R
    obtain ⟨⟨b1, b2, b3, b4, b5, b6, b7, b8, b9, b10, b11⟩, h2, h3, h4⟩ := id h
    obtain ⟨r1, r2, r3, r4, r5, r6, r7, r8, r9, r10, r11, r12, r13, r14, r15⟩ := id R
    obtain ⟨fu2, rfl⟩ : ∃ f, fu2 = f + 1 := ⟨fu2 - 1, by omega⟩
    have e24 : A 24 5 = nI n := by rw [r1 _ _ (by unfold pD; omega)]; exact b3
    have g29 : B 0 29 = nI n := by rw [r2 _ _ (by unfold pE; omega)]; exact h4
    by_cases hex : n ≤ ended ∨ 4000 ≤ m
    · refine ⟨A, B, put, ended, m, ?_, ?_, R⟩
      · by_cases g : 4000 ≤ st
        · simp only [f_Day_live_L6, if_pos (show (4000 : Int32) ≤ nI st from nI_le (a := 4000) g (by omega))]
        · have g0 : ¬ (4000 : Int32) ≤ nI st := nI_ge (b := 4000) (by omega) (by omega)
          by_cases he : n ≤ ended
          · simp only [f_Day_live_L6, if_neg g0, e24, r6, if_pos (nI_le he (show ended < 2 ^ 31 by omega))]
          · have hm : 4000 ≤ m := hex.resolve_left he
            simp only [f_Day_live_L6, if_neg g0, e24, r6, if_neg (nI_ge (show ended < n by omega) (show n < 2 ^ 31 by omega)), r8, if_pos (show (4000 : Int32) ≤ nI m from nI_le (a := 4000) hm (by omega))]
      · by_cases he : n ≤ ended
        · simp only [m_lives_L69, g29, if_pos (nI_le he (show ended < 2 ^ 31 by omega))]
        · have hm : 4000 ≤ m := hex.resolve_left he
          simp only [m_lives_L69, g29, if_neg (nI_ge (show ended < n by omega) (show n < 2 ^ 31 by omega)), r9, if_pos (show (4000 : Int32) ≤ nI m from nI_le (a := 4000) hm (by omega))]
    · have he : ended < n := by omega
      have hm : m < 4000 := by omega
      have g0 : ¬ (4000 : Int32) ≤ nI st := nI_ge (b := 4000) (by omega) (by omega)
      have g1 : ¬ nI n ≤ nI ended := nI_ge he (by omega)
      have g2 : ¬ (4000 : Int32) ≤ nI m := nI_ge (b := 4000) (by omega) (by omega)
      obtain ⟨f, hf⟩ : ∃ f, f = scan (A 38) (A 37) ro (nI m) (B1 4 5) put := ⟨_, rfl⟩
      rw [← hf] at sc1 sc2
      by_cases hf0 : f = -1
      · -- none is ripe
        have e44 : B 4 4 = B1 4 4 := r2 _ _ (by unfold pE; omega)
        have e254 : A 25 4 = B1 4 4 := by rw [r1 _ _ (by unfold pD; omega)]; exact b9 4 (by omega)
        have k4 : ∀ (x : Option Mem), ck 4 6 x = x := fun x => ck_n (k := 4) x (by omega) (by omega)
        have t4 : (4 : Int32).toNatClampNeg = 4 := rfl
        have hmay : ∃ z, f_Day_mayBegin A = some z ∧ (z = true ↔ put < n ∧ (put = 0 ∨ ¬ nI m < B 0 39 + B1 4 4)) := by
          unfold f_Day_mayBegin
          rw [e24, r3, r8]
          by_cases hnp : n ≤ put
          · rw [if_pos (nI_le hnp (by omega))]
            exact ⟨false, rfl, fun h => (by cases h), fun h => by omega⟩
          · rw [if_neg (nI_ge (by omega) (by omega)), if_neg (show ¬ (6 : Int32) ≤ nI put from nI_ge (b := 6) (by omega) (by omega))]
            by_cases hp0 : put = 0
            · subst hp0
              rw [if_pos (show nI 0 = 0 from rfl)]
              exact ⟨true, rfl, fun _ => ⟨by omega, Or.inl rfl⟩, fun _ => rfl⟩
            · have hnb : f_Day_nextBegins A = some (B 0 39 + B1 4 4) := by
                have k4 : ∀ (x : Option Int32), ck 4 6 x = x := fun x => ck_n (k := 4) x (by omega) (by omega)
                have e1 : nI put - 1 = nI (put - 1) := nI_sub (b := 1) (by omega)
                have e32 : A 32 (put - 1) = nI (ro (put - 1)) := by rw [r1 _ _ (by unfold pD; omega)]; exact (h3 (put - 1) (by omega)).2.1
                unfold f_Day_nextBegins
                rw [r3, if_neg (nI_nle (by omega) (by omega)), if_neg (show ¬ (6 : Int32) < nI put from nI_nlt (a := 6) (by omega) (by omega)), e1, ck_n _ (show put - 1 < 6 by omega) (by omega), nI_cl (by omega), e32, ck_n _ (h6 (put - 1) (by omega)) (by omega), nI_cl (by have := h6 (put - 1) (by omega); omega), k4, t4, r14 (by omega), e254]
              rw [if_neg (nI_ne0 (by omega) (by omega)), hnb, obp_s]
              by_cases hlt : nI m < B 0 39 + B1 4 4
              · rw [if_pos hlt]
                exact ⟨false, rfl, fun h => (by cases h), fun h => (h.2.elim hp0 (fun g => g hlt)).elim⟩
              · rw [if_neg hlt]
                exact ⟨true, rfl, fun _ => ⟨by omega, Or.inr hlt⟩, fun _ => rfl⟩
        obtain ⟨z, z1, z2⟩ := hmay
        cases z with
        | true =>
          obtain ⟨hp, hpb⟩ := z2.mp rfl
          obtain ⟨A2, B2, m2, a2, c2, R2, l2⟩ := begin2 h R hp hm
          obtain ⟨A', B', put', ended', m', x1, x2, x3⟩ := ih fu2 (st + 1) A2 B2 (put + 1) ended m2 R2 (by omega) (by omega) (by omega)
          have e32 : A 32 put = nI (ro put) := by rw [r1 _ _ (by unfold pD; omega)]; exact (h3 put hp).2.1
          have e9 : B 9 put = nI (ro put) := by rw [r2 _ _ (by unfold pE; omega)]; exact (h3 put hp).2.2
          refine ⟨A', B', put', ended', m', ?_, ?_, x3⟩
          · simp only [f_Day_live_L6, if_neg g0, e24, r6, if_neg g1, r8, if_neg g2, sc1, obp_s, if_pos hf0, z1, if_true, r3, ck_n _ (show put < 6 by omega) (show 6 < 2 ^ 31 by omega), nI_cl (show put < 2 ^ 31 by omega), e32, a2, bnd_s, nI_1]
            exact x1
          · simp only [m_lives_L69, g29, if_neg g1, r9, if_neg g2, sc2, obp_s, if_pos hf0, jp_s, r4, if_neg (nI_ge hp (show n < 2 ^ 31 by omega)), ck_n _ (show put < 6 by omega) (show 6 < 2 ^ 31 by omega), nI_cl (show put < 2 ^ 31 by omega), e9, c2, k4, t4, e44]
            by_cases hp0 : put = 0
            · rw [if_pos (by rw [hp0]; rfl)]
              exact x2
            · rw [if_neg (nI_ne0 (by omega) (by omega)), if_neg (hpb.resolve_left hp0)]
              exact x2
        | false =>
          have hq : n ≤ put ∨ (0 < put ∧ nI m < B 0 39 + B1 4 4) := by
            by_cases hnp : n ≤ put
            · exact Or.inl hnp
            · refine Or.inr ?_
              by_cases hp0 : put = 0
              · exact absurd (z2.mpr ⟨by omega, Or.inl hp0⟩) (by simp)
              · refine ⟨by omega, ?_⟩
                by_cases hlt : nI m < B 0 39 + B1 4 4
                · exact hlt
                · exact absurd (z2.mpr ⟨by omega, Or.inr hlt⟩) (by simp)
          obtain ⟨A2, m2, l2, l3, a2, hB⟩ := wait2 h R he hm (by rw [← hf]; exact hf0) hq j9
          obtain ⟨B2, c2, R2⟩ := hB (fu2 + 1 - (m2 - m))
          have e1 : fu2 + 1 - (m2 - m) + (m2 - m) = fu2 + 1 := by omega
          rw [e1] at c2
          obtain ⟨A', B', put', ended', m', x1, x2, x3⟩ := ih (fu2 + 1 - (m2 - m)) (st + 1) A2 B2 put ended m2 R2 (by omega) (by omega) (by omega)
          refine ⟨A', B', put', ended', m', ?_, by rw [c2]; exact x2, x3⟩
          simp only [f_Day_live_L6, if_neg g0, e24, r6, if_neg g1, r8, if_neg g2, sc1, obp_s, if_pos hf0, z1, Bool.false_eq_true, if_false, a2, bnd_s, nI_1]
          exact x1
      · -- the wall w is ripe
        obtain ⟨w, w1, w2⟩ := scan_lt (tr := A 38) (rp := A 37) (ro := ro) (mn := nI m) (eg := B1 4 5) (k := put) (n := n) (by omega) (fun i hi => (h3 i (by omega)).1) (by rw [← hf]; exact hf0)
        rw [← hf] at w2
        obtain ⟨A2, B2, m2, a2, c2, R2, l2⟩ := trowel2 h R w1 hm
        obtain ⟨A', B', put', ended', m', x1, x2, x3⟩ := ih fu2 (st + 1) A2 B2 put (ended + 1) m2 R2 (by omega) (by omega) (by omega)
        refine ⟨A', B', put', ended', m', ?_, ?_, x3⟩
        · simp only [f_Day_live_L6, if_neg g0, e24, r6, if_neg g1, r8, if_neg g2, sc1, obp_s, if_neg hf0]
          rw [w2, a2, obp_s, bnd_s, nI_1]
          exact x1
        · simp only [m_lives_L69, g29, if_neg g1, r9, if_neg g2, sc2, obp_s, if_neg hf0]
          rw [w2, c2, obp_s, bnd_s, nI_1]
          exact x2
end LIVE
