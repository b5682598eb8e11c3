/-! the calls that read days back: books, warms, film -/
theorem sheet2 (a : Int32) : (∃ s, s < 4 ∧ a = nI s ∧ x_sheetAt a = some (some (60 + 2 * s)) ∧ m_isSheet a = some true) ∨ (x_sheetAt a = some none ∧ m_isSheet a = some false) := by
  have c0 : (0 : Int32).toInt = 0 := by decide
  have c3 : (3 : Int32).toInt = 3 := by decide
  have c4 : (4 : Int32).toInt = 4 := by decide
  obtain ⟨z, z1, z2⟩ := in_b (a := a) (lo := 0) (hi := 3) (lo' := 0) (hi' := 3) (by decide) (by decide)
  rw [c0, c3] at z2
  by_cases g : 0 ≤ a.toInt ∧ a.toInt ≤ 3
  · obtain ⟨s, s1, s2, s3⟩ := i_ofnat (x := a) (n := 3) g.1 g.2
    refine Or.inl ⟨s, by omega, s2, ?_, ?_⟩
    · unfold x_sheetAt
      rw [jp_s, s2, if_neg (nI_pos (by omega)), if_neg (show ¬ (4 : Int32) ≤ nI s from nI_ge (b := 4) (by omega) (by omega)), ck_n _ (by omega) (by omega), nI_cl (by omega)]
    · unfold m_isSheet
      rw [z1, obp_s, z2.mpr g]
  · refine Or.inr ⟨?_, ?_⟩
    · unfold x_sheetAt
      rw [jp_s]
      by_cases h0 : a < 0
      · rw [if_pos h0]
      · rw [if_neg h0]
        rw [i_lt, c0] at h0
        rw [if_pos (by rw [i_le, c4]; omega)]
    · unfold m_isSheet
      rw [z1, obp_s]
      cases z with
      | false => rfl
      | true => exact absurd (z2.mp rfl) g
theorem unlike_cl {M : Mem} {t n : Nat} (hn : n ≤ 6) (h : M 24 5 = nI n) : f_Day_unlike M t = some (bitsF (fun i => decide (¬ M 38 i = M (t + 1) i)) n) := by
  unfold f_Day_unlike
  rw [jp_s]
  refine fold_FU (fun fu v k => f_Day_unlike_L4 M t (fun v1 => some v1) fu v k) (fun v1 => some v1) (bitsF (fun i => decide (¬ M 38 i = M (t + 1) i))) n (by omega) (fun fu => ?_) (fun fu k hk => ?_)
  · show f_Day_unlike_L4 M t _ (fu + 1) _ (nI n) = _
    simp only [f_Day_unlike_L4, h, if_pos (Int32.le_refl (nI n))]
  · show f_Day_unlike_L4 M t _ (fu + 1) _ (nI k) = f_Day_unlike_L4 M t _ fu _ (nI (k + 1))
    simp only [f_Day_unlike_L4, h, if_neg (nI_ge hk (show n < 2 ^ 31 by omega)), if_neg (show ¬ (6 : Int32) ≤ nI k from nI_ge (b := 6) (by omega) (by omega)), ck_n _ (show k < 6 by omega) (show 6 < 2 ^ 31 by omega), ck_n _ (show k < 40 by omega) (show 40 < 2 ^ 31 by omega), nI_cl (show k < 2 ^ 31 by omega), jp_s, bnd_s, nI_1, bitsF]
    by_cases g : M 38 k = M (t + 1) k
    · rw [if_pos g, if_neg (by simp [g])]
    · rw [if_neg g, if_pos (by simp [g])]
theorem so_loop {B : Mem} {s n : Nat} (hs : s < 4) (hn : n ≤ 6) (h : B 0 12 = nI n) (j4 : Unit → Option (Mem × Bool)) : ∀ fu k, k ≤ n → n < fu + k →
    (m_isSo_L10 (nI s) B j4 fu (nI k) = j4 () ∧ ∀ i, k ≤ i → i < n → B 15 i = B 22 (40 * s + i)) ∨ (m_isSo_L10 (nI s) B j4 fu (nI k) = some (B, false) ∧ ∃ i, i < n ∧ ¬ B 15 i = B 22 (40 * s + i)) := by
  intro fu
  induction fu with
  | zero => intro k h1 h2; omega
  | succ fu ih =>
    intro k h1 h2
    by_cases hk : k = n
    · subst hk
      exact Or.inl ⟨by simp only [m_isSo_L10, h, if_pos (Int32.le_refl (nI k))], fun i g1 g2 => by omega⟩
    · have g : ¬ nI n ≤ nI k := nI_ge (by omega) (by omega)
      have e : (40 : Int32) * nI s + nI k = nI (40 * s + k) := by rw [show (40 : Int32) = nI 40 from rfl, nI_mul, nI_add]
      have hb : m_isSo_L10 (nI s) B j4 (fu + 1) (nI k) = if B 15 k = B 22 (40 * s + k) then m_isSo_L10 (nI s) B j4 fu (nI (k + 1)) else some (B, false) := by
        simp only [m_isSo_L10, h, if_neg g, ck_n _ (show k < 6 by omega) (show 6 < 2 ^ 31 by omega), e, ck_n _ (show 40 * s + k < 160 by omega) (show 160 < 2 ^ 31 by omega), nI_cl (show k < 2 ^ 31 by omega), nI_cl (show 40 * s + k < 2 ^ 31 by omega), bnd_s, nI_1]
      by_cases c : B 15 k = B 22 (40 * s + k)
      · rw [hb, if_pos c]
        rcases ih (k + 1) (by omega) (by omega) with ⟨x1, x2⟩ | ⟨x1, x2⟩
        · refine Or.inl ⟨x1, fun i g1 g2 => ?_⟩
          by_cases hik : i = k
          · subst hik; exact c
          · exact x2 i (by omega) g2
        · exact Or.inr ⟨x1, x2⟩
      · rw [hb, if_neg c]
        exact Or.inr ⟨rfl, k, by omega, c⟩
theorem isSo_ok {B1 B' : Mem} {s n : Nat} (hs : s < 4) (hn : n ≤ 6) (hB1 : B1 0 12 = nI n) (hl : m_livesPlain B1 (nI n) = some B') (h : B' 0 12 = nI n) : ∃ z, m_isSo B1 (nI s) = some (B', z) ∧ (z = true ↔ ∀ i, i < n → B' 15 i = B' 22 (40 * s + i)) := by
  unfold m_isSo
  rw [hB1, hl, obp_s, jp_s]
  rcases so_loop hs hn h (fun _ => some (B', true)) FU 0 (Nat.zero_le _) (by unfold FU; omega) with ⟨x1, x2⟩ | ⟨x1, i, x2, x3⟩
  · exact ⟨true, x1, fun _ i hi => x2 i (Nat.zero_le _) hi, fun _ => rfl⟩
  · exact ⟨false, x1, fun g => (by cases g), fun g => absurd (g i x2) x3⟩
/-- a day with the trial made otherwise: what both find of a SHEET -/
theorem step_mod {A Bw B1 M2 M4 : Mem} {n tc r s : Nat} {back : Mem → Mem} (hRel : Rel A Bw) (hS : Sites A Bw n tc) (sY : same pY A M2) (sM : same pY M2 M4) (hb : Base M4 B1 n n r) (row : ∀ i, i < 6 → M4 32 i = nI i) (hback : ∀ B', same pT B1 B' → same pT Bw (back B')) (hs : s < 4) (hit : ∀ i, i < n → A (61 + 2 * s) i = B1 22 (40 * s + i)) :
    ∃ M6 A' B' u z, f_Day_reckon M4 = some M6 ∧ f_Day_live M6 = some A' ∧ f_Day_unlike A' (60 + 2 * s) = some u ∧ m_isSo B1 (nI s) = some (B', z) ∧ (z = true ↔ u = 0) ∧ Rel A' (back B') ∧ same pY A A' ∧ same pT B1 B' := by
  obtain ⟨Ar, A', B', p1, p2, p3, p4, p5⟩ := plain_ok hb row
  have hn := hS.1
  have sA : same pY A A' := sY.trans (sM.trans (p4.1.mono (fun c j g => pS_Y g)))
  have e12 : B' 0 12 = nI n := by rw [p4.2.1 _ _ (by unfold pT; omega)]; exact hb.2.2.2.1
  have e24 : A' 24 5 = nI n := by rw [p4.1 _ _ (by unfold pS; omega)]; exact hb.2.2.1
  obtain ⟨z, z1, z2⟩ := isSo_ok hs hn hb.2.2.2.1 p3 e12
  refine ⟨Ar, A', B', _, z, p1, p2, unlike_cl hn e24, z1, ?_, hRel.keep (sA.mono (fun c j g => pY_X g)) (hback B' p4.2.1), sA, p4.2.1⟩
  rw [z2, bitsF_0 n hn]
  have e : ∀ i, i < n → A' (60 + 2 * s + 1) i = B' 22 (40 * s + i) := fun i hi => by
    rw [sA _ _ (by unfold pY; omega), p4.2.1 22 _ (by unfold pT; omega), ← hit i hi]
    congr 1
    omega
  constructor
  · intro h i hi
    have := h i hi
    rw [← (p4.2.2.2.2.2.1 i (by omega)).2.2.1, ← e i hi] at this
    rw [this]
    simp
  · intro h i hi
    have := h i hi
    rw [← (p4.2.2.2.2.2.1 i (by omega)).2.2.1, ← e i hi]
    simpa using this
/-- a SHEET as told, of n numbers -/
def Full (A B : Mem) (s n : Nat) : Prop := ∀ i, i < n → A (61 + 2 * s) i = B 22 (40 * s + i)
theorem bit64 : ∀ k, k < 10 → ((1 : Int64) <<< ((nI k).toInt64 &&& 63)).toInt32 = (1 : Int32) <<< (nI k &&& 31) := by decide
theorem dials_loop {d s was' : Nat} {was : Int32} (hd : d = 1 ∨ d = 2) (hs : s < 4) (w : Int32) (hw : w = if d = 2 then 1 else 2) {n0 : Nat} (j3 : Int64 → Mem → Option (Mem × Int64)) (j13 : Int32 → Mem → Option (Mem × Int32)) :
    ∀ fu1 fu2 k A B b6, Rel A (wr B 4 d was) → A 1 5 = nI n0 → n0 ≤ 6 → Full A B s n0 → k ≤ 10 → 10 < fu1 + k → 10 < fu2 + k →
      ∃ A' B' b', x_dialsOf_L5 (60 + 2 * s) (nI d) j3 fu1 b6 (nI k) A = j3 b' A' ∧ m_books_L178 (nI s) w 10 j13 fu2 b6.toInt32 (nI k) B = j13 b'.toInt32 B' ∧ Rel A' (wr B' 4 d was) := by
  intro fu1
  induction fu1 with
  | zero => intro fu2 k A B b6 h h0 h0' hF h1 h2; omega
  | succ fu1 ih =>
    intro fu2 k A B b6 h h0 h0' hF h1 h2 h3
    obtain ⟨fu2, rfl⟩ : ∃ f, fu2 = f + 1 := ⟨fu2 - 1, by omega⟩
    have hd6 : d < 6 := by omega
    have etb : tb 1 d = nI 9 := by rcases hd with rfl | rfl <;> decide
    have hcd : ∀ (x : Option (Mem × Int64)), ck (nI d) 9 x = x := fun x => ck_n x (by omega) (by omega)
    have hcl : (nI d).toNatClampNeg = d := nI_cl (by omega)
    by_cases hk : k = 10
    · subst hk
      exact ⟨A, B, b6, by simp only [x_dialsOf_L5, hcd, hcl, etb, if_pos (show nI 9 < nI 10 by decide)], by simp only [m_books_L178, if_pos (show (10 : Int32) ≤ nI 10 by decide)], h⟩
    · have g : ¬ nI 9 < nI k := nI_nlt (by omega) (by omega)
      have g2 : ¬ (10 : Int32) ≤ nI k := nI_ge (b := 10) (by omega) (by omega)
      obtain ⟨n, tc, hS, hrest⟩ := id h
      have hnn : n = n0 := by have := hS.2.1; rw [h0] at this; exact (nI_inj this (by omega) (by have := hS.1; omega)).symm
      subst hnn
      obtain ⟨M2, r, a1, a2, a3, a4, a5⟩ := trialY hS
      have hb := base_dial (B1 := wr B 4 d (nI k)) (v := nI k) a2 hd6 (by omega) (fun c j g => by rw [wr_off _ _ _ _ _ _ g, wr_off _ _ _ _ _ _ g]) (wr_hit _ _ _ _)
      obtain ⟨M6, A', B', u, z, p1, p2, p3, p4, p5, p6, p7, p8⟩ := step_mod (s := s) (back := fun B' => wr B' 4 d was) h hS a4 (same.rf.wr (by unfold pY; omega)) hb (fun i hi => by rw [wr_off _ _ _ _ _ _ (by omega)]; exact a3 i hi) (fun B' sB c j g => by
        rw [wr_at, wr_at]
        by_cases hcj : c = 4 ∧ j = d
        · rw [if_pos hcj, if_pos hcj]
        · rw [if_neg hcj, if_neg hcj, sB c j g, wr_off _ _ _ _ _ _ hcj]) hs (fun i hi => by rw [wr_off _ _ _ _ _ _ (by omega)]; exact hF i hi)
      have hF' : Full A' B' s n := fun i hi => by
        rw [p7 _ _ (by unfold pY; omega), p8 22 _ (by unfold pT; omega), wr_off _ _ _ _ _ _ (by omega)]
        exact hF i hi
      have h0'' : A' 1 5 = nI n := by rw [p7 _ _ (by unfold pY; omega)]; exact h0
      have hlay : m_laysSort B w (nI k) = some (wr B 4 d (nI k)) := by
        have k2 : ∀ (x : Option Mem), ck 2 6 x = x := fun x => ck_n (k := 2) x (by omega) (by omega)
        have k1 : ∀ (x : Option Mem), ck 1 6 x = x := fun x => ck_n (k := 1) x (by omega) (by omega)
        unfold m_laysSort
        rw [hw]
        rcases hd with rfl | rfl
        · rw [if_neg (show ¬ (1 : Nat) = 2 by omega), if_neg (by decide), if_pos (by decide), jp_s, if_neg (by decide)]
          dsimp only
          rw [k1, bnd_s]
          rfl
        · rw [if_pos rfl, if_neg (by decide), if_pos (by decide), jp_s, if_pos (by decide)]
          dsimp only
          rw [k2, bnd_s]
          rfl
      by_cases hu : u = 0
      · have hz : z = true := p5.mpr hu
        subst hz
        obtain ⟨A2, B2, b2, q1, q2, q3⟩ := ih fu2 (k + 1) A' B' (b6 ||| ((1 : Int64) <<< ((nI k).toInt64 &&& 63))) p6 h0'' h0' hF' (by omega) (by omega) (by omega)
        refine ⟨A2, B2, b2, ?_, ?_, q3⟩
        · simp only [x_dialsOf_L5, hcd, hcl, etb, if_neg g, a1, obp_s, turn_ok M2 hd6, p1, p2, p3, if_pos hu, bnd_s, nI_1]
          exact q1
        · rw [Int64.toInt32_or, bit64 k (by omega)] at q2
          simp only [m_books_L178, if_neg g2, hlay, obp_s, p4, obp2_s, jp_s, if_true, bnd_s, nI_1]
          exact q2
      · have hz : z = false := by
          cases z with
          | false => rfl
          | true => exact absurd (p5.mp rfl) hu
        subst hz
        obtain ⟨A2, B2, b2, q1, q2, q3⟩ := ih fu2 (k + 1) A' B' b6 p6 h0'' h0' hF' (by omega) (by omega) (by omega)
        refine ⟨A2, B2, b2, ?_, ?_, q3⟩
        · simp only [x_dialsOf_L5, hcd, hcl, etb, if_neg g, a1, obp_s, turn_ok M2 hd6, p1, p2, p3, if_neg hu, bnd_s, nI_1]
          exact q1
        · simp only [m_books_L178, if_neg g2, hlay, obp_s, p4, obp2_s, jp_s, Bool.false_eq_true, if_false, bnd_s, nI_1, Int32.zero_shiftLeft, Int32.or_zero]
          exact q2
theorem warms_loop {s : Nat} {was : Int32} (hs : s < 4) {n0 : Nat} (j3 j8 : Int64 → Mem → Option (Mem × Int64)) :
    ∀ fu1 fu2 k A B b6, Rel A (wr B 4 0 was) → A 1 5 = nI n0 → n0 ≤ 6 → Full A B s n0 → k ≤ 41 → 41 < fu1 + k → 41 < fu2 + k →
      ∃ A' B' b', x_dialsOf_L5 (60 + 2 * s) 0 j3 fu1 b6 (nI k) A = j3 b' A' ∧ m_warms_L45 (nI s) j8 fu2 b6 (nI k) B = j8 b' B' ∧ Rel A' (wr B' 4 0 was) := by
  intro fu1
  induction fu1 with
  | zero => intro fu2 k A B b6 h h0 h0' hF h1 h2; omega
  | succ fu1 ih =>
    intro fu2 k A B b6 h h0 h0' hF h1 h2 h3
    obtain ⟨fu2, rfl⟩ : ∃ f, fu2 = f + 1 := ⟨fu2 - 1, by omega⟩
    have etb : tb 1 (0 : Int32).toNatClampNeg = nI 40 := by decide
    have hcd : ∀ (x : Option (Mem × Int64)), ck 0 9 x = x := fun x => ck_n (k := 0) x (by omega) (by omega)
    have hc6 : ∀ (x : Option (Mem × Int64)), ck 0 6 x = x := fun x => ck_n (k := 0) x (by omega) (by omega)
    have t0 : (0 : Int32).toNatClampNeg = 0 := rfl
    by_cases hk : k = 41
    · subst hk
      exact ⟨A, B, b6, by simp only [x_dialsOf_L5, hcd, etb, if_pos (show nI 40 < nI 41 by decide)], by simp only [m_warms_L45, if_pos (show (40 : Int32) < nI 41 by decide)], h⟩
    · have g : ¬ nI 40 < nI k := nI_nlt (by omega) (by omega)
      have g2 : ¬ (40 : Int32) < nI k := nI_nlt (a := 40) (by omega) (by omega)
      obtain ⟨n, tc, hS, hrest⟩ := id h
      have hnn : n = n0 := by have := hS.2.1; rw [h0] at this; exact (nI_inj this (by omega) (by have := hS.1; omega)).symm
      subst hnn
      obtain ⟨M2, r, a1, a2, a3, a4, a5⟩ := trialY hS
      have hb := base_dial (d := 0) (B1 := wr B 4 0 (nI k)) (v := nI k) a2 (by omega) (by omega) (fun c j g => by rw [wr_off _ _ _ _ _ _ g, wr_off _ _ _ _ _ _ g]) (wr_hit _ _ _ _)
      obtain ⟨M6, A', B', u, z, p1, p2, p3, p4, p5, p6, p7, p8⟩ := step_mod (s := s) (back := fun B' => wr B' 4 0 was) h hS a4 (same.rf.wr (by unfold pY; omega)) hb (fun i hi => by rw [wr_off _ _ _ _ _ _ (by omega)]; exact a3 i hi) (fun B' sB c j g => by
        rw [wr_at, wr_at]
        by_cases hcj : c = 4 ∧ j = 0
        · rw [if_pos hcj, if_pos hcj]
        · rw [if_neg hcj, if_neg hcj, sB c j g, wr_off _ _ _ _ _ _ hcj]) hs (fun i hi => by rw [wr_off _ _ _ _ _ _ (by omega)]; exact hF i hi)
      have hF' : Full A' B' s n := fun i hi => by
        rw [p7 _ _ (by unfold pY; omega), p8 22 _ (by unfold pT; omega), wr_off _ _ _ _ _ _ (by omega)]
        exact hF i hi
      have h0'' : A' 1 5 = nI n := by rw [p7 _ _ (by unfold pY; omega)]; exact h0
      have ht : f_Site_turn M2 24 0 (nI k) = some (wr M2 25 0 (nI k)) := turn_ok M2 (d := 0) (by omega) (nI k)
      by_cases hu : u = 0
      · have hz : z = true := p5.mpr hu
        subst hz
        obtain ⟨A2, B2, b2, q1, q2, q3⟩ := ih fu2 (k + 1) A' B' (b6 ||| ((1 : Int64) <<< ((nI k).toInt64 &&& 63))) p6 h0'' h0' hF' (by omega) (by omega) (by omega)
        refine ⟨A2, B2, b2, ?_, ?_, q3⟩
        · simp only [x_dialsOf_L5, hcd, etb, if_neg g, a1, obp_s, ht, p1, p2, p3, if_pos hu, bnd_s, nI_1]
          exact q1
        · simp only [m_warms_L45, if_neg g2, hc6, t0, bnd_s, p4, obp2_s, jp_s, if_true, nI_1]
          exact q2
      · have hz : z = false := by
          cases z with
          | false => rfl
          | true => exact absurd (p5.mp rfl) hu
        subst hz
        obtain ⟨A2, B2, b2, q1, q2, q3⟩ := ih fu2 (k + 1) A' B' b6 p6 h0'' h0' hF' (by omega) (by omega) (by omega)
        refine ⟨A2, B2, b2, ?_, ?_, q3⟩
        · simp only [x_dialsOf_L5, hcd, etb, if_neg g, a1, obp_s, ht, p1, p2, p3, if_neg hu, bnd_s, nI_1]
          exact q1
        · simp only [m_warms_L45, if_neg g2, hc6, t0, bnd_s, p4, obp2_s, jp_s, Bool.false_eq_true, if_false, nI_1, Int64.zero_shiftLeft, Int64.or_zero]
          exact q2
theorem texts_loop {s : Nat} {was : Int32} (hs : s < 4) {n0 tc0 : Nat} (j3 j13 : Int32 → Mem → Option (Mem × Int32)) :
    ∀ fu1 fu2 k A B b6, Rel A (wr B 0 4 was) → A 1 5 = nI n0 → n0 ≤ 6 → A 0 6 = nI tc0 → tc0 ≤ 6 → Full A B s n0 → k ≤ tc0 → tc0 < fu1 + k → tc0 < fu2 + k →
      ∃ A' B' b', x_textsOf_L4 (60 + 2 * s) j3 fu1 b6 (nI k) A = j3 b' A' ∧ m_books_L178 (nI s) 3 (nI tc0) j13 fu2 b6 (nI k) B = j13 b' B' ∧ Rel A' (wr B' 0 4 was) := by
  intro fu1
  induction fu1 with
  | zero => intro fu2 k A B b6 h h0 h0' ht ht' hF h1 h2; omega
  | succ fu1 ih =>
    intro fu2 k A B b6 h h0 h0' ht ht' hF h1 h2 h3
    obtain ⟨fu2, rfl⟩ : ∃ f, fu2 = f + 1 := ⟨fu2 - 1, by omega⟩
    by_cases hk : k = tc0
    · subst hk
      exact ⟨A, B, b6, by simp only [x_textsOf_L4, ht, if_pos (Int32.le_refl (nI k))], by simp only [m_books_L178, if_pos (Int32.le_refl (nI k))], h⟩
    · have g : ¬ nI tc0 ≤ nI k := nI_ge (by omega) (by omega)
      obtain ⟨n, tc, hS, hrest⟩ := id h
      have hnn : n = n0 := by have := hS.2.1; rw [h0] at this; exact (nI_inj this (by omega) (by have := hS.1; omega)).symm
      subst hnn
      have htt : tc = tc0 := by have := hS.2.2.2.2.2.1; rw [ht] at this; exact (nI_inj this (by omega) (by have := hS.2.2.2.2.1; omega)).symm
      subst htt
      obtain ⟨M2, r, a1, a2, a3, a4, a5⟩ := trialY hS
      have hT : TextRel M2 (wr B 0 4 was) k := by
        refine (hS.2.2.2.2.2.2.2.2.1 k (by omega)).keep (fun j => a4 _ _ (by unfold pY; omega)) (fun j => a4 _ _ (by unfold pY; omega)) (fun j => rfl) rfl
      have hb := base_rule (B1 := wr B 0 4 (nI k)) a2 (show k < 6 by omega) hT (fun c j g => by rw [wr_off _ _ _ _ _ _ g, wr_off _ _ _ _ _ _ g]) (wr_hit _ _ _ _)
      obtain ⟨M6, A', B', u, z, p1, p2, p3, p4, p5, p6, p7, p8⟩ := step_mod (s := s) (back := fun B' => wr B' 0 4 was) h hS a4 (same.rf.wr (by unfold pY; omega)) hb (fun i hi => by rw [wr_off _ _ _ _ _ _ (by omega)]; exact a3 i hi) (fun B' sB c j g => by
        rw [wr_at, wr_at]
        by_cases hcj : c = 0 ∧ j = 4
        · rw [if_pos hcj, if_pos hcj]
        · rw [if_neg hcj, if_neg hcj, sB c j g, wr_off _ _ _ _ _ _ hcj]) hs (fun i hi => by rw [wr_off _ _ _ _ _ _ (by omega)]; exact hF i hi)
      have hF' : Full A' B' s n := fun i hi => by
        rw [p7 _ _ (by unfold pY; omega), p8 22 _ (by unfold pT; omega), wr_off _ _ _ _ _ _ (by omega)]
        exact hF i hi
      have h0'' : A' 1 5 = nI n := by rw [p7 _ _ (by unfold pY; omega)]; exact h0
      have ht'' : A' 0 6 = nI tc := by rw [p7 _ _ (by unfold pY; omega)]; exact ht
      have hlay : m_laysSort B 3 (nI k) = some (wr B 0 4 (nI k)) := by
        unfold m_laysSort
        rw [if_pos rfl, bnd_s]
      by_cases hu : u = 0
      · have hz : z = true := p5.mpr hu
        subst hz
        obtain ⟨A2, B2, b2, q1, q2, q3⟩ := ih fu2 (k + 1) A' B' (b6 ||| ((1 : Int32) <<< (nI k &&& 31))) p6 h0'' h0' ht'' ht' hF' (by omega) (by omega) (by omega)
        refine ⟨A2, B2, b2, ?_, ?_, q3⟩
        · simp only [x_textsOf_L4, ht, if_neg g, a1, obp_s, bnd_s, p1, p2, p3, if_pos hu, nI_1]
          exact q1
        · simp only [m_books_L178, if_neg g, hlay, obp_s, p4, obp2_s, jp_s, if_true, bnd_s, nI_1]
          exact q2
      · have hz : z = false := by
          cases z with
          | false => rfl
          | true => exact absurd (p5.mp rfl) hu
        subst hz
        obtain ⟨A2, B2, b2, q1, q2, q3⟩ := ih fu2 (k + 1) A' B' b6 p6 h0'' h0' ht'' ht' hF' (by omega) (by omega) (by omega)
        refine ⟨A2, B2, b2, ?_, ?_, q3⟩
        · simp only [x_textsOf_L4, ht, if_neg g, a1, obp_s, bnd_s, p1, p2, p3, if_neg hu, nI_1]
          exact q1
        · simp only [m_books_L178, if_neg g, hlay, obp_s, p4, obp2_s, jp_s, Bool.false_eq_true, if_false, bnd_s, nI_1, Int32.zero_shiftLeft, Int32.or_zero]
          exact q2
theorem kinds_loop {s w : Nat} {was : Int32} (hs : s < 4) {n0 : Nat} (hw : w < n0) (j3 j13 : Int32 → Mem → Option (Mem × Int32)) :
    ∀ fu1 fu2 k A B b6, Rel A (wr B 5 w was) → A 1 5 = nI n0 → n0 ≤ 6 → Full A B s n0 → k ≤ 6 → 6 < fu1 + k → 6 < fu2 + k →
      ∃ A' B' b', x_kindsOf_L5 (60 + 2 * s) (nI w) j3 fu1 b6 (nI k) A = j3 b' A' ∧ m_books_L178 (nI s) (nI (10 + w)) 6 j13 fu2 b6 (nI k) B = j13 b' B' ∧ Rel A' (wr B' 5 w was) := by
  intro fu1
  induction fu1 with
  | zero => intro fu2 k A B b6 h h0 h0' hF h1 h2; omega
  | succ fu1 ih =>
    intro fu2 k A B b6 h h0 h0' hF h1 h2 h3
    obtain ⟨fu2, rfl⟩ : ∃ f, fu2 = f + 1 := ⟨fu2 - 1, by omega⟩
    by_cases hk : k = 6
    · subst hk
      exact ⟨A, B, b6, by simp only [x_kindsOf_L5, if_pos (show (6 : Int32) ≤ nI 6 by decide)], by simp only [m_books_L178, if_pos (show (6 : Int32) ≤ nI 6 by decide)], h⟩
    · have g : ¬ (6 : Int32) ≤ nI k := nI_ge (b := 6) (by omega) (by omega)
      obtain ⟨n, tc, hS, hrest⟩ := id h
      have hnn : n = n0 := by have := hS.2.1; rw [h0] at this; exact (nI_inj this (by omega) (by have := hS.1; omega)).symm
      subst hnn
      obtain ⟨M2, r, a1, a2, a3, a4, a5⟩ := trialY hS
      have hb := base_kind (B1 := wr B 5 w (nI k)) (v := nI k) a2 hw (by rw [i_nI (by omega)]; omega) (fun c j g => by rw [wr_off _ _ _ _ _ _ g, wr_off _ _ _ _ _ _ g]) (wr_hit _ _ _ _)
      obtain ⟨M6, A', B', u, z, p1, p2, p3, p4, p5, p6, p7, p8⟩ := step_mod (s := s) (back := fun B' => wr B' 5 w was) h hS a4 (same.rf.wr (by unfold pY; omega)) hb (fun i hi => by rw [wr_off _ _ _ _ _ _ (by omega)]; exact a3 i hi) (fun B' sB c j g => by
        rw [wr_at, wr_at]
        by_cases hcj : c = 5 ∧ j = w
        · rw [if_pos hcj, if_pos hcj]
        · rw [if_neg hcj, if_neg hcj, sB c j g, wr_off _ _ _ _ _ _ hcj]) hs (fun i hi => by rw [wr_off _ _ _ _ _ _ (by omega)]; exact hF i hi)
      have hF' : Full A' B' s n := fun i hi => by
        rw [p7 _ _ (by unfold pY; omega), p8 22 _ (by unfold pT; omega), wr_off _ _ _ _ _ _ (by omega)]
        exact hF i hi
      have h0'' : A' 1 5 = nI n := by rw [p7 _ _ (by unfold pY; omega)]; exact h0
      obtain ⟨y, y1, -, y3⟩ := has2 (A := M2) (B := wr B 5 w was) hS.1 (by rw [a4 _ _ (by unfold pY; omega)]; exact h0) hS.2.2.1 (nI w)
      have hy : y = true := y3.mpr ⟨w, hw, rfl⟩
      subst hy
      have hlay : m_laysSort B (nI (10 + w)) (nI k) = some (wr B 5 w (nI k)) := by
        have n3 : ¬ nI (10 + w) = 3 := fun e => by have := nI_inj (b := 3) e (by omega) (by omega); omega
        have n9 : ¬ nI (10 + w) ≤ 9 := nI_ge (a := 9) (by omega) (by omega)
        have e : nI (10 + w) - 10 = nI w := by rw [show (10 : Int32) = nI 10 from rfl, nI_sub (by omega)]; congr 1; omega
        unfold m_laysSort
        rw [if_neg n3, if_neg n9, e, ck_n _ (show w < 6 by omega) (by omega), nI_cl (by omega), bnd_s]
      have hck : ∀ (x : Option (Mem × Int32)), ck (nI w) 6 x = x := fun x => ck_n x (by omega) (by omega)
      have hcl : (nI w).toNatClampNeg = w := nI_cl (by omega)
      by_cases hu : u = 0
      · have hz : z = true := p5.mpr hu
        subst hz
        obtain ⟨A2, B2, b2, q1, q2, q3⟩ := ih fu2 (k + 1) A' B' (b6 ||| ((1 : Int32) <<< (nI k &&& 31))) p6 h0'' h0' hF' (by omega) (by omega) (by omega)
        refine ⟨A2, B2, b2, ?_, ?_, q3⟩
        · simp only [x_kindsOf_L5, if_neg g, a1, obp_s, y1, jp_s, if_true, hck, hcl, bnd_s, p1, p2, p3, if_pos hu, nI_1]
          exact q1
        · simp only [m_books_L178, if_neg g, hlay, obp_s, p4, obp2_s, jp_s, if_true, bnd_s, nI_1]
          exact q2
      · have hz : z = false := by
          cases z with
          | false => rfl
          | true => exact absurd (p5.mp rfl) hu
        subst hz
        obtain ⟨A2, B2, b2, q1, q2, q3⟩ := ih fu2 (k + 1) A' B' b6 p6 h0'' h0' hF' (by omega) (by omega) (by omega)
        refine ⟨A2, B2, b2, ?_, ?_, q3⟩
        · simp only [x_kindsOf_L5, if_neg g, a1, obp_s, y1, jp_s, if_true, hck, hcl, bnd_s, p1, p2, p3, if_neg hu, nI_1]
          exact q1
        · simp only [m_books_L178, if_neg g, hlay, obp_s, p4, obp2_s, jp_s, Bool.false_eq_true, if_false, bnd_s, nI_1, Int32.zero_shiftLeft, Int32.or_zero]
          exact q2
