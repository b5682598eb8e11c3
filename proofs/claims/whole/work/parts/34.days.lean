/-! a whole day, from its dawn; reckoned ahead -/
theorem dawn_cl (M0 : Mem) : ∃ M', f_Day_dawn M0 = some M' ∧ same pD M0 M' ∧ M' 23 12 = nI 0 ∧ M' 23 13 = nI 0 ∧ M' 23 14 = nI 0 ∧ M' 23 15 = 0 ∧ M' 23 16 = 0 ∧ ∀ i, i < 6 → M' 36 i = -1 ∧ M' 37 i = -1 ∧ M' 38 i = -1 ∧ M' 39 i = 0 := by
  obtain ⟨M1, hM1⟩ : ∃ M1 : Mem, M1 = wr (wr (wr (wr (wr M0 23 12 0) 23 13 0) 23 14 0) 23 15 0) 23 16 0 := ⟨_, rfl⟩
  have key : ∃ M', (same (fun c _ => 36 ≤ c ∧ c ≤ 39) M1 M' ∧ ∀ i, i < 6 → M' 36 i = -1 ∧ M' 37 i = -1 ∧ M' 38 i = -1 ∧ M' 39 i = 0) ∧ f_Day_dawn_L27 (fun M6 => some M6) FU 0 M1 = some M' := by
    refine lp_FU (fun fu k M => f_Day_dawn_L27 (fun M6 => some M6) fu k M) (fun M => some M) 6 (fun k M => same (fun c _ => 36 ≤ c ∧ c ≤ 39) M1 M ∧ ∀ i, i < k → M 36 i = -1 ∧ M 37 i = -1 ∧ M 38 i = -1 ∧ M 39 i = 0) (by omega) ?_ ?_ (s := M1) ⟨same.rf, fun i hi => by omega⟩
    · intro fu M hI
      show f_Day_dawn_L27 _ (fu + 1) (nI 6) M = _
      simp only [f_Day_dawn_L27, if_pos (show (6 : Int32) ≤ nI 6 by decide)]
    · intro fu k M hk hI
      obtain ⟨hs, hv⟩ := hI
      refine ⟨wr (wr (wr (wr M 36 k (-1)) 37 k (-1)) 38 k (-1)) 39 k 0, ⟨(((hs.wr (by omega)).wr (by omega)).wr (by omega)).wr (by omega), fun i hi => ?_⟩, ?_⟩
      · by_cases hik : i = k
        · subst hik
          simp [wr_at]
        · have := hv i (by omega)
          simp [wr_at, hik]
          exact this
      · show f_Day_dawn_L27 _ (fu + 1) (nI k) M = f_Day_dawn_L27 _ fu (nI (k + 1)) _
        simp only [f_Day_dawn_L27, if_neg (show ¬ (6 : Int32) ≤ nI k from nI_ge (b := 6) hk (by omega)), ck_n _ hk (show 6 < 2 ^ 31 by omega), nI_cl (show k < 2 ^ 31 by omega), bnd_s, nI_1]
  obtain ⟨M', ⟨k1, k2⟩, e⟩ := key
  refine ⟨M', ?_, ?_, ?_, ?_, ?_, ?_, ?_, k2⟩
  · unfold f_Day_dawn
    rw [bnd_s, bnd_s, bnd_s, bnd_s, bnd_s, jp_s, ← hM1]
    exact e
  · refine same.trans ?_ (k1.mono (fun c j h => by unfold pD; omega))
    rw [hM1]
    exact ((((same.rf.wr (by unfold pD; omega)).wr (by unfold pD; omega)).wr (by unfold pD; omega)).wr (by unfold pD; omega)).wr (by unfold pD; omega)
  all_goals (rw [k1 _ _ (by omega), hM1]; simp [wr_at]; try rfl)
theorem dawn_rf (M0 : Mem) : ∃ M', m_lives_L2 (fun M1 => some M1) FU 0 M0 = some M' ∧ same (fun c _ => 13 ≤ c ∧ c ≤ 16) M0 M' ∧ ∀ i, i < 6 → M' 13 i = -1 ∧ M' 14 i = -1 ∧ M' 15 i = -1 ∧ M' 16 i = 0 := by
  have key : ∃ M', (same (fun c _ => 13 ≤ c ∧ c ≤ 16) M0 M' ∧ ∀ i, i < 6 → M' 13 i = -1 ∧ M' 14 i = -1 ∧ M' 15 i = -1 ∧ M' 16 i = 0) ∧ m_lives_L2 (fun M6 => some M6) FU 0 M0 = some M' := by
    refine lp_FU (fun fu k M => m_lives_L2 (fun M6 => some M6) fu k M) (fun M => some M) 6 (fun k M => same (fun c _ => 13 ≤ c ∧ c ≤ 16) M0 M ∧ ∀ i, i < k → M 13 i = -1 ∧ M 14 i = -1 ∧ M 15 i = -1 ∧ M 16 i = 0) (by omega) ?_ ?_ (s := M0) ⟨same.rf, fun i hi => by omega⟩
    · intro fu M hI
      show m_lives_L2 _ (fu + 1) (nI 6) M = _
      simp only [m_lives_L2, if_pos (show (6 : Int32) ≤ nI 6 by decide)]
    · intro fu k M hk hI
      obtain ⟨hs, hv⟩ := hI
      refine ⟨wr (wr (wr (wr M 13 k (-1)) 14 k (-1)) 15 k (-1)) 16 k 0, ⟨(((hs.wr (by omega)).wr (by omega)).wr (by omega)).wr (by omega), fun i hi => ?_⟩, ?_⟩
      · by_cases hik : i = k
        · subst hik
          simp [wr_at]
        · have := hv i (by omega)
          simp [wr_at, hik]
          exact this
      · show m_lives_L2 _ (fu + 1) (nI k) M = m_lives_L2 _ fu (nI (k + 1)) _
        simp only [m_lives_L2, if_neg (show ¬ (6 : Int32) ≤ nI k from nI_ge (b := 6) hk (by omega)), ck_n _ hk (show 6 < 2 ^ 31 by omega), nI_cl (show k < 2 ^ 31 by omega), bnd_s, nI_1]
  obtain ⟨M', ⟨k1, k2⟩, e⟩ := key
  exact ⟨M', e, k1, k2⟩
theorem L2_cont {j2 : Mem → Option Mem} : ∀ fu k M M', m_lives_L2 (fun M1 => some M1) fu k M = some M' → m_lives_L2 j2 fu k M = j2 M' := by
  intro fu
  induction fu with
  | zero => intro k M M' h; simp only [m_lives_L2] at h; cases h
  | succ fu ih =>
    intro k M M' h
    simp only [m_lives_L2] at h ⊢
    by_cases g : 6 ≤ k
    · rw [if_pos g] at h ⊢
      rw [oi h]
    · rw [if_neg g] at h ⊢
      have hin := (ck_e h).1
      rw [ck_s _ hin] at h ⊢
      simp only [bnd_s] at h ⊢
      rw [ck_s _ hin] at h ⊢
      rw [ck_s _ hin] at h ⊢
      rw [ck_s _ hin] at h ⊢
      exact ih _ _ _ h
/-- what a day that has been lived leaves -/
def Lived (A B A' B' : Mem) (n : Nat) : Prop := same pS A A' ∧ same pT B B' ∧ A' 23 16 = B' 0 41 ∧ A' 23 14 = B' 0 37 ∧ A' 23 15 = B' 0 40 ∧ (∀ i, i < 6 → A' 36 i = B' 13 i ∧ A' 37 i = B' 14 i ∧ A' 38 i = B' 15 i ∧ A' 39 i = B' 16 i) ∧ (∀ i, n ≤ i → i < 6 → A' 39 i = 0)
theorem live_ok {A1 B1 : Mem} {n N r : Nat} {ro : Nat → Nat} (h : Ready A1 B1 n N r ro) : ∃ A' B', f_Day_live A1 = some A' ∧ m_lives B1 = some B' ∧ same pD A1 A' ∧ same pE B1 B' ∧ A' 23 16 = B' 0 41 ∧ A' 23 14 = B' 0 37 ∧ A' 23 15 = B' 0 40 ∧ (∀ i, i < 6 → A' 36 i = B' 13 i ∧ A' 37 i = B' 14 i ∧ A' 38 i = B' 15 i ∧ A' 39 i = B' 16 i) ∧ (∀ i, n ≤ i → i < 6 → A' 39 i = 0) := by
  obtain ⟨A2, a1, a2, a3, a4, a5, a6, a7, a8⟩ := dawn_cl A1
  obtain ⟨B2, c1, c2, c3⟩ := dawn_rf B1
  obtain ⟨B3, hB3⟩ : ∃ B3 : Mem, B3 = wr (wr (wr (wr (wr B2 0 37 0) 0 38 0) 0 39 0) 0 40 0) 0 41 0 := ⟨_, rfl⟩
  have sB3 : same (fun c j => c = 0 ∧ 37 ≤ j ∧ j ≤ 41) B2 B3 := by
    rw [hB3]
    exact ((((same.rf.wr (by omega)).wr (by omega)).wr (by omega)).wr (by omega)).wr (by omega)
  have R : LR A1 B1 n ro A2 B3 0 0 0 := by
    refine ⟨a2, (c2.mono (fun c j h => by unfold pE; omega)).trans (sB3.mono (fun c j h => by unfold pE; omega)), a3, ?_, Nat.zero_le _, a4, Nat.le_refl _, a5, ?_, by omega, ?_, ?_, ?_, fun h => by omega, fun i _ hi => (a8 i hi).2.2.2⟩
    · rw [hB3]; simp [wr_at]; rfl
    · rw [hB3]; simp [wr_at]; rfl
    · rw [a6, hB3]; simp [wr_at]
    · rw [a7, hB3]; simp [wr_at]
    · intro i hi
      obtain ⟨x1, x2, x3, x4⟩ := a8 i hi
      obtain ⟨y1, y2, y3, y4⟩ := c3 i hi
      rw [sB3 13 _ (by omega), sB3 14 _ (by omega), sB3 15 _ (by omega), sB3 16 _ (by omega), x1, x2, x3, x4, y1, y2, y3, y4]
      exact ⟨rfl, rfl, rfl, rfl⟩
  obtain ⟨A', B', put, ended, m, x1, x2, x3⟩ := live_loop h (fun M3 => some M3) (fun M8 => some M8) FU FU 0 A2 B3 0 0 0 R (Nat.le_refl _) (by unfold FU; omega) (by unfold FU; omega)
  obtain ⟨r1, r2, r3, r4, r5, r6, r7, r8, r9, r10, r11, r12, r13, r14, r15⟩ := x3
  refine ⟨A', B', ?_, ?_, r1, r2, r12, by rw [r8, r9], r11, r13, r15⟩
  · unfold f_Day_live
    rw [a1, obp_s, jp_s]
    exact x1
  · unfold m_lives
    rw [jp_s, L2_cont FU 0 B1 B2 c1, bnd_s, bnd_s, bnd_s, bnd_s, bnd_s, jp_s, ← hB3]
    exact x2
theorem ready_of {A B Ar Bg B2 : Mem} {n N r : Nat} {ro : Nat → Nat} (h : Base A B n N r) (sA : same (fun c _ => c = 30 ∨ c = 31 ∨ (33 ≤ c ∧ c ≤ 35)) A Ar) (vA : ∀ i, i < n → Ar 33 i = ripV A i ∧ Ar 34 i = lastV A i ∧ Ar 35 i = takeV A i) (sB : same (fun c j => (10 ≤ c ∧ c ≤ 12) ∨ (c = 0 ∧ 13 ≤ j ∧ j ≤ 27)) B Bg) (vB : ∀ i, i < N → Bg 10 i = ripV A i ∧ Bg 11 i = lastV A i ∧ Bg 12 i = putV A i) (s2 : same (fun c j => c = 9 ∨ (c = 0 ∧ j = 29)) Bg B2) (hro : ∀ i, i < n → ro i < n ∧ A 32 i = nI (ro i) ∧ B2 9 i = nI (ro i)) (h29 : B2 0 29 = nI n) : Ready Ar B2 n N r ro := by
  have hnN := h.1
  refine ⟨h.keep (sA.mono (fun c j g => by unfold pS; omega)) ((sB.mono (fun c j g => by unfold pT; omega)).trans (s2.mono (fun c j g => by unfold pT; omega))), fun i hi => ?_, fun i hi => ?_, h29⟩
  · obtain ⟨v1, v2, v3⟩ := vA i hi
    obtain ⟨w1, w2, w3⟩ := vB i (by omega)
    obtain ⟨p1, p2⟩ := putV_bd h (show i < N by omega)
    have e12 : B2 12 i = putV A i := by rw [s2 _ _ (by omega)]; exact w3
    refine ⟨by rw [v1, s2 _ _ (by omega), w1], by rw [v2, s2 _ _ (by omega), w2], ?_, by rw [e12]; exact p1, by rw [e12]; exact p2⟩
    rw [e12, v3, sA 25 3 (by omega)]
    rfl
  · obtain ⟨q1, q2, q3⟩ := hro i hi
    exact ⟨q1, by rw [sA _ _ (by omega)]; exact q2, q3⟩
/-- PLAIN days, n walls -/
theorem plain_ok {A B : Mem} {n N r : Nat} (h : Base A B n N r) (hrow : ∀ i, i < 6 → A 32 i = nI i) : ∃ Ar A' B', f_Day_reckon A = some Ar ∧ f_Day_live Ar = some A' ∧ m_livesPlain B (nI n) = some B' ∧ Lived A B A' B' n ∧ (∀ i, i < n → A' 33 i = B' 10 i) := by
  have hnN := h.1
  have hN6 := h.2.1
  obtain ⟨Ar, a1, a2, a3⟩ := reckon_cl h
  obtain ⟨Bg, c1, c2, c3⟩ := gathers_rf h
  -- the order by numbers
  have key : ∃ M', (same (fun c _ => c = 9) (wr Bg 0 29 (nI n)) M' ∧ ∀ i, i < n → M' 9 i = nI i) ∧ m_livesPlain_L11 (nI n) (fun M4 => ob (m_lives M4) fun (M7 : Mem) => some M7) FU 0 (wr Bg 0 29 (nI n)) = (fun M4 => ob (m_lives M4) fun (M7 : Mem) => some M7) M' := by
    refine lp_FU (fun fu k M => m_livesPlain_L11 (nI n) (fun M4 => ob (m_lives M4) fun (M7 : Mem) => some M7) fu k M) (fun M4 => ob (m_lives M4) fun (M7 : Mem) => some M7) n (fun k M => same (fun c _ => c = 9) (wr Bg 0 29 (nI n)) M ∧ ∀ i, i < k → M 9 i = nI i) (by omega) ?_ ?_ (s := wr Bg 0 29 (nI n)) ⟨same.rf, fun i hi => by omega⟩
    · intro fu M hI
      show m_livesPlain_L11 (nI n) _ (fu + 1) (nI n) M = _
      simp only [m_livesPlain_L11, if_pos (Int32.le_refl (nI n))]
    · intro fu k M hk hI
      obtain ⟨hs, hv⟩ := hI
      refine ⟨wr M 9 k (nI k), ⟨hs.wr rfl, fun i hi => ?_⟩, ?_⟩
      · rw [wr_at]
        by_cases hik : i = k
        · rw [if_pos ⟨rfl, hik⟩, hik]
        · rw [if_neg (fun h => hik h.2)]; exact hv i (by omega)
      · show m_livesPlain_L11 (nI n) _ (fu + 1) (nI k) M = m_livesPlain_L11 (nI n) _ fu (nI (k + 1)) _
        simp only [m_livesPlain_L11, if_neg (nI_ge hk (show n < 2 ^ 31 by omega)), ck_n _ (show k < 6 by omega) (show 6 < 2 ^ 31 by omega), nI_cl (show k < 2 ^ 31 by omega), bnd_s, nI_1]
  obtain ⟨B2, ⟨k1, k2⟩, ek⟩ := key
  have s2 : same (fun c j => c = 9 ∨ (c = 0 ∧ j = 29)) Bg B2 := same.trans (same.rf.wr (Or.inr ⟨rfl, rfl⟩)) (k1.mono (fun c j g => Or.inl g))
  have hR := ready_of (ro := fun i => i) h a2 a3 c2 c3 s2 (fun i hi => ⟨hi, hrow i (by omega), k2 i hi⟩) (by rw [k1 _ _ (by omega), wr_hit])
  obtain ⟨A', B', l1, l2, l3, l4, l5, l6, l7, l8, l9⟩ := live_ok hR
  refine ⟨Ar, A', B', a1, l1, ?_, ⟨(a2.mono (fun c j g => by unfold pS; omega)).trans (l3.mono (fun c j g => pD_S g)), (c2.mono (fun c j g => by unfold pT; omega)).trans ((s2.mono (fun c j g => by unfold pT; omega)).trans (l4.mono (fun c j g => pE_T g))), l5, l6, l7, l8, l9⟩, fun i hi => ?_⟩
  · unfold m_livesPlain
    rw [c1, obp_s, bnd_s, jp_s, ek]
    show ob (m_lives B2) _ = _
    rw [l2, obp_s]
  · rw [l3 _ _ (by unfold pD; omega), (a3 i hi).1, l4 _ _ (by unfold pE; omega), s2 _ _ (by omega), (c3 i (by omega)).1]
