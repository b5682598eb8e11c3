/-! sheet, cell, image, back -/
theorem FU_S : FU = 99999 + 1 := rfl
theorem sheetR_of {A B : Mem} (h : Rel A B) {s : Nat} (hs : s < 4) : SheetR A B s := by
  obtain ⟨n, tc, -, -, -, h4, -⟩ := h
  exact h4 s hs
theorem c_sheet {A B : Mem} (h : Rel A B) (a1 a2 a3 : Int32) : Two (x_sheet A a1 a2 a3) (m_sheet B a1 a2 a3) := by
  have cm : (-1 : Int32).toInt = -1 := by decide
  have c0 : (0 : Int32).toInt = 0 := by decide
  have c2 : (2 : Int32).toInt = 2 := by decide
  have c3 : (3 : Int32).toInt = 3 := by decide
  have c40 : (40 : Int32).toInt = 40 := by decide
  rcases sheet2 a1 with ⟨s, hs, rfl, s1, s2⟩ | ⟨s1, s2⟩
  · obtain ⟨z, z1, z2⟩ := in_b (a := a2) (lo := -1) (hi := 2) (lo' := -1) (hi' := 2) (by decide) (by decide)
    rw [cm, c2] at z2
    by_cases g : -1 ≤ a2.toInt ∧ a2.toInt ≤ 2
    · by_cases gm : a2 = -1
      · subst gm
        obtain ⟨A1, b1, b2, b3, b4, b5⟩ := become_ok A (60 + 2 * s) (-1) 0
        have hb : vp_nar .boolean 0 = 0 := by decide
        have hck : ∀ (x : Option (Mem × Int32)), ck (nI s) 4 x = x := fun x => ck_n x hs (by omega)
        obtain ⟨B1, hB1⟩ : ∃ B1 : Mem, B1 = wr (wr (wr B 19 s 0) 20 s (-1)) 21 s a3 := ⟨_, rfl⟩
        have hL : m_sheet_L77 (nI s) (-1) a3 (fun M14 => some (M14, 1)) FU 0 B1 = some (B1, 1) := by
          rw [FU_S, m_sheet_L77]
          by_cases q : a3 ≤ 0
          · rw [if_pos q]
          · rw [if_neg q, if_pos (by decide)]
        refine ⟨A1, B1, 1, ?_, ?_, rel_sheet h hs (b2.mono (fun c j g => by unfold pZ; omega)) (by rw [hB1]; exact ((same.rf.wr (by unfold pW; omega)).wr (by unfold pW; omega)).wr (by unfold pW; omega)) (Or.inl ⟨b3, by rw [hB1]; simp [wr_at]⟩)⟩
        · unfold x_sheet
          rw [s1, obp_s, oc_1, if_neg (by decide), if_pos (by decide), if_pos rfl, b1, obp_s]
        · unfold m_sheet
          rw [s2, obp_s, if_pos rfl, z1, obp_s, if_pos (z2.mpr g)]
          simp only [jp_s, if_pos (show (-1 : Int32) < 0 by decide), hck, nI_cl (show s < 2 ^ 31 by omega), hb, bnd_s, ← hB1]
          exact hL
      · have gm' : ¬ a2.toInt = -1 := fun q => gm (by rw [i_eq, cm]; exact q)
        obtain ⟨so, so1, rfl, so3⟩ := i_ofnat (x := a2) (n := 2) (by omega) g.2
        have n1 : ¬ nI so < -1 := by rw [i_lt, cm]; omega
        have n2 : nI so < 3 := by rw [i_lt, c3]; omega
        have n0 : ¬ nI so < 0 := nI_pos (by omega)
        by_cases h40 : a3 ≤ 40
        · by_cases h0 : 0 ≤ a3
          · rw [i_le, c40] at h40
            rw [i_le, c0] at h0
            obtain ⟨sz, sz1, rfl, sz3⟩ := i_ofnat (x := a3) (n := 40) h0 h40
            obtain ⟨A2, b1, b2, b3, b4, b5⟩ := become_ok A (60 + 2 * s) (nI so) (nI sz)
            obtain ⟨B2, c1, c2, c3, c4, c5, c6⟩ := sheet_rf B hs (so := so) (by omega) (sz := sz) (by omega)
            refine ⟨A2, B2, 1, ?_, c1, rel_sheet h hs (b2.mono (fun c j g => by unfold pZ; omega)) c2 (Or.inr ⟨so, sz, by omega, by omega, b3, c4, c3, b4, c5, fun i hi => ?_⟩)⟩
            · unfold x_sheet
              rw [s1, obp_s, oc_1, if_neg n1, if_pos n2, if_neg gm, if_pos (by rw [i_le, c40]; exact h40), if_pos (by rw [i_le, c0]; exact h0), b1, obp_s]
            · rw [c6 i hi, show 61 + 2 * s = 60 + 2 * s + 1 by omega, b5 i (by omega)]
          · refine ⟨A, B, -14, ?_, ?_, h⟩
            · unfold x_sheet
              rw [s1, obp_s, oc_1, if_neg n1, if_pos n2, if_neg gm, if_pos h40, if_neg h0]
            · unfold m_sheet
              rw [s2, obp_s, if_pos rfl, z1, obp_s, if_pos (z2.mpr g)]
              simp only [jp_s, if_neg n0, if_pos h40, if_neg h0]
        · refine ⟨A, B, -2, ?_, ?_, h⟩
          · unfold x_sheet
            rw [s1, obp_s, oc_1, if_neg n1, if_pos n2, if_neg gm, if_neg h40]
          · unfold m_sheet
            rw [s2, obp_s, if_pos rfl, z1, obp_s, if_pos (z2.mpr g)]
            simp only [jp_s, if_neg n0, if_neg h40]
    · refine ⟨A, B, -2, ?_, ?_, h⟩
      · unfold x_sheet
        rw [s1, obp_s, oc_1]
        by_cases q : a2 < -1
        · rw [if_pos q]
        · rw [if_neg q]
          rw [i_lt, cm] at q
          rw [if_neg (by rw [i_lt, c3]; omega)]
      · unfold m_sheet
        rw [s2, obp_s, if_pos rfl, z1, obp_s, if_neg (fun q => g (z2.mp q))]
  · unfold x_sheet m_sheet
    rw [s1, s2, obp_s, obp_s, oc_0]
    exact ⟨A, B, -2, rfl, rfl, h⟩
theorem sz_1 {n : Nat} (h : n ≤ 160) : (nI n - 1).toInt = (n : Int) - 1 := by
  cases n with
  | zero => decide
  | succ n => rw [nI_pred, i_nI (by omega)]; omega
theorem sheet_has {A : Mem} {t sz : Nat} (a : Int32) (hsz : sz ≤ 40) (h : A t 2 = nI sz) : ∃ z, f_Sheet_has A t a = some z ∧ m_in a.toInt64 0 ((nI sz - 1).toInt64) = some z ∧ (z = true ↔ ∃ i, i < sz ∧ a = nI i) := by
  have c0 : (0 : Int32).toInt = 0 := by decide
  have c40 : (40 : Int32).toInt = 40 := by decide
  obtain ⟨z, z1, z2⟩ := in_b (a := a) (lo := 0) (hi := nI sz - 1) (lo' := 0) (hi' := (nI sz - 1).toInt64) (by decide) rfl
  rw [c0, sz_1 (by omega)] at z2
  refine ⟨z, ?_, z1, ?_⟩
  · unfold f_Sheet_has
    rw [h]
    by_cases g : 0 ≤ a.toInt ∧ a.toInt ≤ (sz : Int) - 1
    · rw [if_neg (by rw [i_lt, c0]; omega), if_neg (by rw [i_le, i_nI (by omega)]; omega), if_neg (by rw [i_le, c40]; omega), z2.mpr g]
    · have hz : z = false := by
        cases z with
        | false => rfl
        | true => exact absurd (z2.mp rfl) g
      subst hz
      by_cases q : a < 0
      · rw [if_pos q]
      · rw [if_neg q]
        rw [i_lt, c0] at q
        rw [if_pos (by rw [i_le, i_nI (by omega)]; omega)]
  · rw [z2]
    constructor
    · rintro ⟨h1, h2⟩
      obtain ⟨i, i1, i2, i3⟩ := i_ofnat (x := a) (n := 40) h1 (by omega)
      exact ⟨i, by omega, i2⟩
    · rintro ⟨i, h1, rfl⟩
      rw [i_nI (by omega)]
      omega
theorem c_cell {A B : Mem} (h : Rel A B) (a1 a2 a3 : Int32) : Two (x_cell A a1 a2 a3) (m_cell B a1 a2 a3) := by
  unfold x_cell m_cell
  rcases sheet2 a1 with ⟨s, hs, rfl, s1, s2⟩ | ⟨s1, s2⟩
  · have hck : ∀ (x : Option (Mem × Int32)), ck (nI s) 4 x = x := fun x => ck_n x hs (by omega)
    rw [s1, s2, obp_s, obp_s, oc_1, if_pos rfl, nI_cl (show s < 2 ^ 31 by omega), hck, hck, hck]
    rcases miss2 (sheetR_of h hs) with ⟨m1, m2⟩ | ⟨m1, m2, so, sz, m3, m4, m5, m6, m7, m8, m9⟩
    · rw [m1, obp_s, if_pos rfl, if_pos m2]
      exact ⟨A, B, -11, rfl, rfl, h⟩
    · obtain ⟨z, z1, z2, z3⟩ := sheet_has (A := A) a2 m4 m7
      rw [m1, obp_s, if_neg (by decide), if_neg m2, z1, m8, z2, obp_s, obp_s]
      by_cases g : z = true
      · obtain ⟨i, i1, rfl⟩ := z3.mp g
        have hck2 : ∀ (x : Option (Mem × Int32)), ck (nI s) 4 x = x := hck
        have hI : ∀ (x : Option Mem), ck (nI i) 40 x = x := fun x => ck_n x (by omega) (by omega)
        have e : (40 : Int32) * nI s + nI i = nI (40 * s + i) := by rw [show (40 : Int32) = nI 40 from rfl, nI_mul, nI_add]
        have hJ : ∀ (x : Option (Mem × Int32)), ck (nI (40 * s + i)) 160 x = x := fun x => ck_n x (by omega) (by omega)
        obtain ⟨v, hv⟩ : ∃ v, v = if nI so = 0 then a3.toInt8.toInt32 else if nI so = 1 then a3.toInt16.toInt32 else a3 := ⟨_, rfl⟩
        have hput : f_Sheet_put A (60 + 2 * s) (nI i) a3 = some (wr A (60 + 2 * s + 1) i v) := by
          unfold f_Sheet_put
          rw [z1, obp_s, if_pos g, jp_s, m5, hv]
          by_cases q0 : nI so = 0
          · rw [if_pos q0, if_pos q0]; dsimp only; rw [hI, nI_cl (by omega), bnd_s]
          · rw [if_neg q0, if_neg q0]
            by_cases q1 : nI so = 1
            · rw [if_pos q1, if_pos q1]; dsimp only; rw [hI, nI_cl (by omega), bnd_s]
            · rw [if_neg q1, if_neg q1]; dsimp only; rw [hI, nI_cl (by omega), bnd_s]
        refine ⟨_, wr B 22 (40 * s + i) v, 1, by rw [if_pos g, hput, obp_s], ?_, ?_⟩
        · rw [if_pos g, jp_s, m6, e, hv]
          by_cases q0 : nI so = 0
          · rw [if_pos q0, if_pos q0]; dsimp only; rw [hJ, nI_cl (by omega), bnd_s]
          · rw [if_neg q0, if_neg q0, hck]
            by_cases q1 : nI so = 1
            · rw [if_pos q1, if_pos q1]; dsimp only; rw [hJ, nI_cl (by omega), bnd_s]
            · rw [if_neg q1, if_neg q1]; dsimp only; rw [hJ, nI_cl (by omega), bnd_s]
        · refine rel_sheet h hs (same.rf.wr (by unfold pZ; omega)) (same.rf.wr (by unfold pW; omega)) ?_
          rcases sheetR_of h hs with ⟨g1, g2⟩ | ⟨so', z', g1, g2, g3, g4, g5, g6, g7, g8⟩
          · exact absurd g2 m2
          · have ez : z' = sz := nI_inj (g6.symm.trans m7) (by omega) (by omega)
            subst ez
            refine Or.inr ⟨so', z', g1, g2, ?_, ?_, ?_, ?_, ?_, fun q hq => ?_⟩
            · rw [wr_off _ _ _ _ _ _ (by omega)]; exact g3
            · rw [wr_off _ _ _ _ _ _ (by omega)]; exact g4
            · rw [wr_off _ _ _ _ _ _ (by omega)]; exact g5
            · rw [wr_off _ _ _ _ _ _ (by omega)]; exact g6
            · rw [wr_off _ _ _ _ _ _ (by omega)]; exact g7
            · rw [wr_at, wr_at]
              by_cases qi : q = i
              · rw [if_pos ⟨by omega, qi⟩, if_pos ⟨rfl, by omega⟩]
              · rw [if_neg (fun w => qi w.2), if_neg (fun w => qi (by omega))]
                exact g8 q hq
      · rw [if_neg g, if_neg g]
        exact ⟨A, B, -12, rfl, rfl, h⟩
  · rw [s1, s2, obp_s, obp_s, oc_0]
    exact ⟨A, B, -2, rfl, rfl, h⟩
/-! image and back -/
theorem c_image {A B : Mem} (h : Rel A B) : Two (x_image A) (m_image B) := by
  obtain ⟨n, tc, ⟨b1, b2, b3, b4, b5, b6, b7, ⟨r, b8, b9, b10⟩, b11, b12, b13, b14, b15⟩, ⟨sz, t1, t2, t3, t4⟩, h3, h4, h5⟩ := id h
  obtain ⟨A1, p1, p2, p3, p4, p5⟩ := site_become (t := 7) (t1 := 1) (by omega) A
  have k1 : ∀ j : Mem → Option (Mem × Int32), ∃ M', (same (fun c _ => c = 17) B M' ∧ ∀ i, i < 6 → M' 17 i = B 4 i) ∧ m_image_L2 j FU 0 B = j M' := fun j => by
    refine lp_FU (fun fu k M => m_image_L2 j fu k M) j 6 (fun k M => same (fun c _ => c = 17) B M ∧ ∀ i, i < k → M 17 i = B 4 i) (by omega) ?_ ?_ (s := B) ⟨same.rf, fun i hi => by omega⟩
    · intro fu M hI
      show m_image_L2 _ (fu + 1) (nI 6) M = _
      simp only [m_image_L2, if_pos (show (6 : Int32) ≤ nI 6 by decide)]
    · intro fu k M hk hI
      obtain ⟨hs, hv⟩ := hI
      refine ⟨wr M 17 k (M 4 k), ⟨hs.wr rfl, fun i hi => ?_⟩, ?_⟩
      · rw [wr_at]
        by_cases hik : i = k
        · rw [if_pos ⟨rfl, hik⟩, hik]; exact hs _ _ (by omega)
        · rw [if_neg (fun h => hik h.2)]; exact hv i (by omega)
      · show m_image_L2 _ (fu + 1) (nI k) M = m_image_L2 _ fu (nI (k + 1)) _
        simp only [m_image_L2, if_neg (show ¬ (6 : Int32) ≤ nI k from nI_ge (b := 6) hk (by omega)), ck_n _ hk (show 6 < 2 ^ 31 by omega), nI_cl (show k < 2 ^ 31 by omega), bnd_s, nI_1]
  have k2 : ∀ (M0 : Mem) (j : Mem → Option (Mem × Int32)), ∃ M', (same (fun c _ => c = 18) M0 M' ∧ ∀ i, i < 6 → M' 18 i = M0 6 i ∧ M' 18 (6 + i) = M0 7 i ∧ M' 18 (12 + i) = M0 8 i) ∧ m_image_L28 j FU 0 M0 = j M' := fun M0 j => by
    refine lp_FU (fun fu k M => m_image_L28 j fu k M) j 6 (fun k M => same (fun c _ => c = 18) M0 M ∧ ∀ i, i < k → M 18 i = M0 6 i ∧ M 18 (6 + i) = M0 7 i ∧ M 18 (12 + i) = M0 8 i) (by omega) ?_ ?_ (s := M0) ⟨same.rf, fun i hi => by omega⟩
    · intro fu M hI
      show m_image_L28 _ (fu + 1) (nI 6) M = _
      simp only [m_image_L28, if_pos (show (6 : Int32) ≤ nI 6 by decide)]
    · intro fu k M hk hI
      obtain ⟨hs, hv⟩ := hI
      have e6 : (6 : Int32) + nI k = nI (6 + k) := nI_add 6 k
      have e12 : (12 : Int32) + nI k = nI (12 + k) := nI_add 12 k
      refine ⟨wr (wr (wr M 18 k (M0 6 k)) 18 (6 + k) (M0 7 k)) 18 (12 + k) (M0 8 k), ⟨((hs.wr rfl).wr rfl).wr rfl, fun i hi => ?_⟩, ?_⟩
      · by_cases hik : i = k
        · subst hik
          simp [wr_at]
        · obtain ⟨v1, v2, v3⟩ := hv i (by omega)
          have n1 : ¬ i = 12 + k := by omega
          have n2 : ¬ i = 6 + k := by omega
          have n3 : ¬ 6 + i = 12 + k := by omega
          have n4 : ¬ 6 + i = k := by omega
          have n5 : ¬ 12 + i = 6 + k := by omega
          have n6 : ¬ 12 + i = k := by omega
          simp [wr_at, hik, n1, n2, n3, n4, n5, n6, v1, v2, v3]
      · have u1 : M 6 k = M0 6 k := hs _ _ (by omega)
        have u2 : wr M 18 k (M0 6 k) 7 k = M0 7 k := by rw [wr_off _ _ _ _ _ _ (by omega)]; exact hs _ _ (by omega)
        have u3 : wr (wr M 18 k (M0 6 k)) 18 (6 + k) (M0 7 k) 8 k = M0 8 k := by rw [wr_off _ _ _ _ _ _ (by omega), wr_off _ _ _ _ _ _ (by omega)]; exact hs _ _ (by omega)
        show m_image_L28 _ (fu + 1) (nI k) M = m_image_L28 _ fu (nI (k + 1)) _
        simp only [m_image_L28, if_neg (show ¬ (6 : Int32) ≤ nI k from nI_ge (b := 6) hk (by omega)), ck_n _ hk (show 6 < 2 ^ 31 by omega), e6, e12, ck_n _ (show k < 18 by omega) (show 18 < 2 ^ 31 by omega), ck_n _ (show 6 + k < 18 by omega) (show 18 < 2 ^ 31 by omega), ck_n _ (show 12 + k < 18 by omega) (show 18 < 2 ^ 31 by omega), nI_cl (show k < 2 ^ 31 by omega), nI_cl (show 6 + k < 2 ^ 31 by omega), nI_cl (show 12 + k < 2 ^ 31 by omega), bnd_s, u1, u2, u3, nI_1]
  obtain ⟨B1, ⟨q1, q2⟩, q3⟩ := k1 (fun (M1 : Mem) => jp (fun (M3 : Mem) => bnd (wr M3 0 47 (M3 0 12)) fun (M5 : Mem) => bnd (wr M5 0 48 (M5 0 4)) fun (M6 : Mem) => some (M6, (M6 0 12))) fun j4 => m_image_L28 j4 FU 0 M1)
  obtain ⟨B2, ⟨r1, r2⟩, r3⟩ := k2 B1 (fun (M3 : Mem) => bnd (wr M3 0 47 (M3 0 12)) fun (M5 : Mem) => bnd (wr M5 0 48 (M5 0 4)) fun (M6 : Mem) => some (M6, (M6 0 12)))
  have e12 : B2 0 12 = nI n := by rw [r1 _ _ (by omega), q1 _ _ (by omega)]; exact b3
  have e4 : B2 0 4 = nI r := by rw [r1 _ _ (by omega), q1 _ _ (by omega)]; exact b10
  obtain ⟨B3, hB3⟩ : ∃ B3 : Mem, B3 = wr (wr B2 0 47 (nI n)) 0 48 (nI r) := ⟨_, rfl⟩
  obtain ⟨A2, hA2⟩ : ∃ A2 : Mem, A2 = wr A1 0 2 1 := ⟨_, rfl⟩
  have hA : same (fun c j => (7 ≤ c ∧ c ≤ 12) ∨ (c = 0 ∧ j = 2)) A A2 := by
    rw [hA2]
    exact (p2.mono (fun c j g => by unfold pK at g; omega)).trans (same.rf.wr (Or.inr ⟨rfl, rfl⟩))
  have hB : same (fun c j => c = 17 ∨ c = 18 ∨ (c = 0 ∧ (j = 47 ∨ j = 48))) B B3 := by
    rw [hB3]
    exact (q1.mono (fun c j g => Or.inl g)).trans ((r1.mono (fun c j g => Or.inr (Or.inl g))).trans ((same.rf.wr (by omega)).wr (by omega)))
  refine ⟨A2, B3, nI n, ?_, ?_, n, tc, ⟨b1, ?_, ?_, b4, b5, ?_, ?_, ⟨r, b8, ?_, ?_⟩, fun t ht => ?_, fun j hj => ?_, fun i hi => ?_, ?_, fun i hi => ?_⟩, ⟨sz, t1, ?_, ?_, fun j hj => ?_⟩, ?_, fun q hq => ?_, Or.inr ⟨?_, n, r, Nat.le_refl _, b8, ?_, ?_, ?_, ?_, fun j hj => ?_, ?_, fun i hi => ?_⟩⟩
  · unfold x_image
    have e : A2 1 5 = nI n := by rw [hA _ _ (by omega)]; exact b2
    rw [p1, obp_s, bnd_s, ← hA2, e]
  · unfold m_image
    rw [jp_s]
    refine Eq.trans q3 ?_
    show jp _ _ = _
    rw [jp_s]
    refine Eq.trans r3 ?_
    have e4' : wr B2 0 47 (nI n) 0 4 = nI r := by rw [wr_off _ _ _ _ _ _ (by omega)]; exact e4
    have e12' : B3 0 12 = nI n := by rw [hB _ _ (by omega)]; exact b3
    rw [e12, bnd_s, e4', bnd_s, ← hB3, e12']
  · rw [hA _ _ (by omega)]; exact b2
  · rw [hB _ _ (by omega)]; exact b3
  · rw [hA _ _ (by omega)]; exact b6
  · rw [hB _ _ (by omega)]; exact b7
  · rw [hA _ _ (by omega)]; exact b9
  · rw [hB _ _ (by omega)]; exact b10
  · exact (b11 t ht).keep (fun j => hA _ _ (by omega)) (fun j => hA _ _ (by omega)) (fun j => hB _ _ (by omega)) (hB _ _ (by omega))
  · rw [hA _ _ (by omega), hB _ _ (by omega)]; exact b12 j hj
  · rw [hA 3 _ (by omega), hA 4 _ (by omega), hA 5 _ (by omega), hA 6 _ (by omega), hB 5 _ (by omega), hB 6 _ (by omega), hB 7 _ (by omega), hB 8 _ (by omega)]
    exact b13 i hi
  · rw [hB _ _ (by omega)]; exact b14
  · rw [hB 5 _ (by omega), hB 6 _ (by omega), hB 7 _ (by omega), hB 8 _ (by omega)]
    exact b15 i hi
  · rw [hA _ _ (by omega)]; exact t2
  · rw [hB _ _ (by omega)]; exact t3
  · rw [hA _ _ (by omega), hB _ _ (by omega)]; exact t4 j hj
  · rw [hA _ _ (by omega)]; exact h3
  · rcases h4 q hq with ⟨g1, g2⟩ | ⟨so, z, g1, g2, g3, g4, g5, g6, g7, g8⟩
    · exact Or.inl ⟨by rw [hA _ _ (by omega)]; exact g1, by rw [hB _ _ (by omega)]; exact g2⟩
    · exact Or.inr ⟨so, z, g1, g2, by rw [hA _ _ (by omega)]; exact g3, by rw [hB _ _ (by omega)]; exact g4, by rw [hB _ _ (by omega)]; exact g5, by rw [hA _ _ (by omega)]; exact g6, by rw [hB _ _ (by omega)]; exact g7, fun i hi => by rw [hA _ _ (by omega), hB _ _ (by omega)]; exact g8 i hi⟩
  · rw [hA2, wr_hit]
  · rw [hA2, wr_off _ _ _ _ _ _ (by omega), p3]; exact b2
  · rw [hB3, wr_off _ _ _ _ _ _ (by omega), wr_hit]
  · rw [hA2, wr_off _ _ _ _ _ _ (by omega), p4]; exact b9
  · rw [hB3, wr_hit]
  · rw [hA2, wr_off _ _ _ _ _ _ (by omega), (p5 j hj).1, hB3, wr_off _ _ _ _ _ _ (by omega), wr_off _ _ _ _ _ _ (by omega), r1 _ _ (by omega), q2 j hj]
    exact b12 j hj
  · rw [hB3, wr_off _ _ _ _ _ _ (by omega), wr_off _ _ _ _ _ _ (by omega), r1 _ _ (by omega), q2 3 (by omega)]
    exact b14
  · obtain ⟨-, x2, x3, x4, x5⟩ := p5 i (by omega)
    obtain ⟨y1, y2, y3⟩ := r2 i (by omega)
    have f : ∀ j, B3 18 j = B2 18 j := fun j => by rw [hB3, wr_off _ _ _ _ _ _ (by omega), wr_off _ _ _ _ _ _ (by omega)]
    have g : ∀ c j, ¬ c = 0 → A2 c j = A1 c j := fun c j hc => by rw [hA2, wr_off _ _ _ _ _ _ (by omega)]
    obtain ⟨d1, d2, d3, d4⟩ := b13 i hi
    obtain ⟨o1, o2, o3, o4⟩ := b15 i hi
    rw [f, f, f, y1, y2, y3, q1 6 _ (by omega), q1 7 _ (by omega), q1 8 _ (by omega), g 9 _ (by omega), g 10 _ (by omega), g 11 _ (by omega), g 12 _ (by omega), x2, x3, x4, x5, hA 3 _ (by omega)]
    exact ⟨rfl, d2, d3, d4, o2, o3, o4⟩
