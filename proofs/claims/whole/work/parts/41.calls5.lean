/-! SHEETS that become; film, order, wetting -/
def pZ (s c j : Nat) : Prop := c = 60 + 2 * s ∨ c = 61 + 2 * s
def pW (s c j : Nat) : Prop := ((c = 19 ∨ c = 20 ∨ c = 21) ∧ j = s) ∨ (c = 22 ∧ 40 * s ≤ j ∧ j < 40 * s + 40)
theorem rel_sheet {A B A' B' : Mem} {s : Nat} (h : Rel A B) (hs : s < 4) (hA : same (pZ s) A A') (hB : same (pW s) B B') (hS : SheetR A' B' s) : Rel A' B' := by
  obtain ⟨n, tc, ⟨a1, a2, a3, a4, a5, a6, a7, ⟨r, a8, a9, a10⟩, a11, a12, a13, a14, a15⟩, ⟨sz, t1, t2, t3, t4⟩, h3, h4, h5⟩ := h
  refine ⟨n, tc, ⟨a1, ?_, ?_, a4, a5, ?_, ?_, ⟨r, a8, ?_, ?_⟩, fun t ht => ?_, fun j hj => ?_, fun i hi => ?_, ?_, fun i hi => ?_⟩, ⟨sz, t1, ?_, ?_, fun j hj => ?_⟩, ?_, fun q hq => ?_, ?_⟩
  · rw [hA _ _ (by unfold pZ; omega)]; exact a2
  · rw [hB _ _ (by unfold pW; omega)]; exact a3
  · rw [hA _ _ (by unfold pZ; omega)]; exact a6
  · rw [hB _ _ (by unfold pW; omega)]; exact a7
  · rw [hA _ _ (by unfold pZ; omega)]; exact a9
  · rw [hB _ _ (by unfold pW; omega)]; exact a10
  · exact (a11 t ht).keep (fun j => hA _ _ (by unfold pZ; omega)) (fun j => hA _ _ (by unfold pZ; omega)) (fun j => hB _ _ (by unfold pW; omega)) (hB _ _ (by unfold pW; omega))
  · rw [hA _ _ (by unfold pZ; omega), hB _ _ (by unfold pW; omega)]; exact a12 j hj
  · rw [hA 3 _ (by unfold pZ; omega), hA 4 _ (by unfold pZ; omega), hA 5 _ (by unfold pZ; omega), hA 6 _ (by unfold pZ; omega), hB 5 _ (by unfold pW; omega), hB 6 _ (by unfold pW; omega), hB 7 _ (by unfold pW; omega), hB 8 _ (by unfold pW; omega)]
    exact a13 i hi
  · rw [hB _ _ (by unfold pW; omega)]; exact a14
  · rw [hB 5 _ (by unfold pW; omega), hB 6 _ (by unfold pW; omega), hB 7 _ (by unfold pW; omega), hB 8 _ (by unfold pW; omega)]
    exact a15 i hi
  · rw [hA _ _ (by unfold pZ; omega)]; exact t2
  · rw [hB _ _ (by unfold pW; omega)]; exact t3
  · rw [hA _ _ (by unfold pZ; omega), hB _ _ (by unfold pW; omega)]; exact t4 j hj
  · rw [hA _ _ (by unfold pZ; omega)]; exact h3
  · by_cases hqs : q = s
    · subst hqs; exact hS
    · rcases h4 q hq with ⟨g1, g2⟩ | ⟨so, z, g1, g2, g3, g4, g5, g6, g7, g8⟩
      · exact Or.inl ⟨by rw [hA _ _ (by unfold pZ; omega)]; exact g1, by rw [hB _ _ (by unfold pW; omega)]; exact g2⟩
      · exact Or.inr ⟨so, z, g1, g2, by rw [hA _ _ (by unfold pZ; omega)]; exact g3, by rw [hB _ _ (by unfold pW; omega)]; exact g4, by rw [hB _ _ (by unfold pW; omega)]; exact g5, by rw [hA _ _ (by unfold pZ; omega)]; exact g6, by rw [hB _ _ (by unfold pW; omega)]; exact g7, fun i hi => by rw [hA _ _ (by unfold pZ; omega), hB _ _ (by unfold pW; omega)]; exact g8 i hi⟩
  · rcases h5 with ⟨g1, g2⟩ | ⟨g1, k, r, g2, g3, g4, g5, g6, g7, g8, g9, g10⟩
    · exact Or.inl ⟨by rw [hA _ _ (by unfold pZ; omega)]; exact g1, by rw [hB _ _ (by unfold pW; omega)]; exact g2⟩
    · refine Or.inr ⟨by rw [hA _ _ (by unfold pZ; omega)]; exact g1, k, r, g2, g3, by rw [hA _ _ (by unfold pZ; omega)]; exact g4, by rw [hB _ _ (by unfold pW; omega)]; exact g5, by rw [hA _ _ (by unfold pZ; omega)]; exact g6, by rw [hB _ _ (by unfold pW; omega)]; exact g7, fun j hj => by rw [hA _ _ (by unfold pZ; omega), hB _ _ (by unfold pW; omega)]; exact g8 j hj, by rw [hB _ _ (by unfold pW; omega)]; exact g9, fun i hi => ?_⟩
      rw [hA 9 _ (by unfold pZ; omega), hA 3 _ (by unfold pZ; omega), hA 10 _ (by unfold pZ; omega), hA 11 _ (by unfold pZ; omega), hA 12 _ (by unfold pZ; omega), hB 18 _ (by unfold pW; omega), hB 18 _ (by unfold pW; omega), hB 18 _ (by unfold pW; omega)]
      exact g10 i hi
theorem become_ok (M : Mem) (t : Nat) (a1 a2 : Int32) : ∃ M', f_Sheet_become M t a1 a2 = some M' ∧ same (fun c j => c = t ∨ c = t + 1) M M' ∧ M' t 1 = a1 ∧ M' t 2 = a2 ∧ ∀ i, i < 40 → M' (t + 1) i = 0 := by
  obtain ⟨M1, hM1⟩ : ∃ M1 : Mem, M1 = wr (wr M t 1 a1) t 2 a2 := ⟨_, rfl⟩
  have key : ∃ M', (same (fun c _ => c = t + 1) M1 M' ∧ ∀ i, i < 40 → M' (t + 1) i = 0) ∧ f_Sheet_become_L12 t (fun M3 => some M3) FU 0 M1 = some M' := by
    refine lp_FU (fun fu k M => f_Sheet_become_L12 t (fun M3 => some M3) fu k M) (fun M => some M) 40 (fun k M => same (fun c _ => c = t + 1) M1 M ∧ ∀ i, i < k → M (t + 1) i = 0) (by omega) ?_ ?_ (s := M1) ⟨same.rf, fun i hi => by omega⟩
    · intro fu M hI
      show f_Sheet_become_L12 t _ (fu + 1) (nI 40) M = _
      simp only [f_Sheet_become_L12, if_pos (show (40 : Int32) ≤ nI 40 by decide)]
    · intro fu k M hk hI
      obtain ⟨hs, hv⟩ := hI
      refine ⟨wr M (t + 1) k 0, ⟨hs.wr rfl, fun i hi => ?_⟩, ?_⟩
      · rw [wr_at]
        by_cases hik : i = k
        · rw [if_pos ⟨rfl, hik⟩]
        · rw [if_neg (fun h => hik h.2)]; exact hv i (by omega)
      · show f_Sheet_become_L12 t _ (fu + 1) (nI k) M = f_Sheet_become_L12 t _ fu (nI (k + 1)) _
        simp only [f_Sheet_become_L12, if_neg (show ¬ (40 : Int32) ≤ nI k from nI_ge (b := 40) hk (by omega)), ck_n _ hk (show 40 < 2 ^ 31 by omega), nI_cl (show k < 2 ^ 31 by omega), bnd_s, nI_1]
  obtain ⟨M', ⟨k1, k2⟩, e⟩ := key
  refine ⟨M', ?_, ?_, ?_, ?_, k2⟩
  · unfold f_Sheet_become
    rw [bnd_s, bnd_s, jp_s, ← hM1]
    exact e
  · refine same.trans ?_ (k1.mono (fun c j h => Or.inr h))
    rw [hM1]
    exact (same.rf.wr (Or.inl rfl)).wr (Or.inl rfl)
  · rw [k1 _ _ (by omega), hM1, wr_off _ _ _ _ _ _ (by omega), wr_hit]
  · rw [k1 _ _ (by omega), hM1, wr_hit]
theorem sheet_rf (B : Mem) {s so sz : Nat} (hs : s < 4) (hso : so < 3) (hsz : sz ≤ 40) : ∃ B', m_sheet B (nI s) (nI so) (nI sz) = some (B', 1) ∧ same (pW s) B B' ∧ B' 19 s = 1 ∧ B' 20 s = nI so ∧ B' 21 s = nI sz ∧ ∀ i, i < sz → B' 22 (40 * s + i) = 0 := by
  obtain ⟨B1, hB1⟩ : ∃ B1 : Mem, B1 = wr (wr (wr B 19 s 1) 20 s (nI so)) 21 s (nI sz) := ⟨_, rfl⟩
  have key : ∃ M', (same (fun c j => c = 22 ∧ 40 * s ≤ j ∧ j < 40 * s + 40) B1 M' ∧ ∀ i, i < sz → M' 22 (40 * s + i) = 0) ∧ m_sheet_L77 (nI s) (nI so) (nI sz) (fun M14 => some (M14, 1)) FU 0 B1 = some (M', 1) := by
    refine lp_FU (fun fu k M => m_sheet_L77 (nI s) (nI so) (nI sz) (fun M14 => some (M14, 1)) fu k M) (fun M => some (M, (1 : Int32))) sz (fun k M => same (fun c j => c = 22 ∧ 40 * s ≤ j ∧ j < 40 * s + 40) B1 M ∧ ∀ i, i < k → M 22 (40 * s + i) = 0) (by omega) ?_ ?_ (s := B1) ⟨same.rf, fun i hi => by omega⟩
    · intro fu M hI
      show m_sheet_L77 (nI s) (nI so) (nI sz) _ (fu + 1) (nI sz) M = _
      simp only [m_sheet_L77, if_pos (Int32.le_refl (nI sz))]
    · intro fu k M hk hI
      obtain ⟨hs', hv⟩ := hI
      have e : (40 : Int32) * nI s + nI k = nI (40 * s + k) := by rw [show (40 : Int32) = nI 40 from rfl, nI_mul, nI_add]
      refine ⟨wr M 22 (40 * s + k) 0, ⟨hs'.wr ⟨rfl, by omega, by omega⟩, fun i hi => ?_⟩, ?_⟩
      · rw [wr_at]
        by_cases hik : i = k
        · rw [if_pos ⟨rfl, by omega⟩]
        · rw [if_neg (fun h => hik (by omega))]; exact hv i (by omega)
      · show m_sheet_L77 (nI s) (nI so) (nI sz) _ (fu + 1) (nI k) M = m_sheet_L77 (nI s) (nI so) (nI sz) _ fu (nI (k + 1)) _
        simp only [m_sheet_L77, if_neg (nI_ge hk (show sz < 2 ^ 31 by omega)), if_neg (nI_pos (show so < 2 ^ 31 by omega)), e, ck_n _ (show 40 * s + k < 160 by omega) (show 160 < 2 ^ 31 by omega), nI_cl (show 40 * s + k < 2 ^ 31 by omega), bnd_s, nI_1]
  obtain ⟨M', ⟨k1, k2⟩, e⟩ := key
  have s1 : same (pW s) B B1 := by
    rw [hB1]
    exact ((same.rf.wr (by unfold pW; omega)).wr (by unfold pW; omega)).wr (by unfold pW; omega)
  refine ⟨M', ?_, s1.trans (k1.mono (fun c j h => Or.inr h)), ?_, ?_, ?_, k2⟩
  · obtain ⟨y, y1, y2⟩ := in_b (a := nI so) (lo := -1) (hi := 2) (lo' := -1) (hi' := 2) (by decide) (by decide)
    have hy : y = true := y2.mpr (by
      have c1 : (-1 : Int32).toInt = -1 := by decide
      have c2 : (2 : Int32).toInt = 2 := by decide
      rw [c1, c2, i_nI (by omega)]; omega)
    have hiS : m_isSheet (nI s) = some true := by
      rcases sheet2 (nI s) with ⟨s', h1, h2, h3, h4⟩ | ⟨h1, h2⟩
      · exact h4
      · unfold x_sheetAt at h1
        rw [jp_s, if_neg (nI_pos (by omega)), if_neg (show ¬ (4 : Int32) ≤ nI s from nI_ge (b := 4) hs (by omega)), ck_n _ hs (by omega)] at h1
        cases h1
    have hck : ∀ (x : Option (Mem × Int32)), ck (nI s) 4 x = x := fun x => ck_n x hs (by omega)
    have hcl : (nI s).toNatClampNeg = s := nI_cl (by omega)
    have h0 : ¬ nI so < 0 := nI_pos (by omega)
    have hb : vp_nar .boolean 1 = 1 := by decide
    unfold m_sheet
    rw [hiS, obp_s, if_pos rfl, y1, obp_s, hy, if_pos rfl]
    simp only [jp_s, if_neg h0, if_pos (show nI sz ≤ (40 : Int32) from nI_le (b := 40) hsz (by omega)), if_pos (show (0 : Int32) ≤ nI sz from nI_pos' (by omega)), hck, hcl, hb, bnd_s, ← hB1]
    exact e
  · rw [k1 _ _ (by omega), hB1, wr_off _ _ _ _ _ _ (by omega), wr_off _ _ _ _ _ _ (by omega), wr_hit]
  · rw [k1 _ _ (by omega), hB1, wr_off _ _ _ _ _ _ (by omega), wr_hit]
  · rw [k1 _ _ (by omega), hB1, wr_hit]
theorem c_film {A B : Mem} (h : Rel A B) (a1 : Int32) : Two (x_film A a1) (m_film B a1) := by
  unfold x_film m_film
  rcases sheet2 a1 with ⟨s, hs, rfl, s1, s2⟩ | ⟨s1, s2⟩
  · obtain ⟨n, tc, hS, hrest⟩ := id h
    have hn6 := hS.1
    obtain ⟨M2, r, a1, a2, a3, a4, a5⟩ := trialY hS
    obtain ⟨Ar, A1, B1, p1, p2, p3, p4, p5⟩ := plain_ok a2 a3
    have sA : same pY A A1 := a4.trans (p4.1.mono (fun c j g => pS_Y g))
    have hR : Rel A1 B1 := h.keep (sA.mono (fun c j g => pY_X g)) p4.2.1
    have e15 : A1 1 5 = nI n := by rw [sA _ _ (by unfold pY; omega)]; exact hS.2.1
    have e12 : B1 0 12 = nI n := by rw [p4.2.1 _ _ (by unfold pT; omega)]; exact hS.2.2.1
    obtain ⟨A2, b1, b2, b3, b4, b5⟩ := become_ok A1 (60 + 2 * s) 2 (nI n)
    obtain ⟨B2, c1, c2, c3, c4, c5, c6⟩ := sheet_rf B1 hs (so := 2) (by omega) (sz := n) (by omega)
    have t61 : 60 + 2 * s + 1 = 61 + 2 * s := by omega
    -- the minutes
    have keyA : ∃ M', (same (fun c _ => c = 60 + 2 * s + 1) A2 M' ∧ ∀ i, i < n → M' (60 + 2 * s + 1) i = A1 38 i) ∧ x_film_L45 (60 + 2 * s) (fun M12 => some (M12, M12 1 5)) FU 0 A2 = (fun M12 => some (M12, M12 1 5)) M' := by
      refine lp_FU (fun fu k M => x_film_L45 (60 + 2 * s) (fun M12 => some (M12, M12 1 5)) fu k M) (fun M12 => some (M12, M12 1 5)) n (fun k M => same (fun c _ => c = 60 + 2 * s + 1) A2 M ∧ ∀ i, i < k → M (60 + 2 * s + 1) i = A1 38 i) (by omega) ?_ ?_ (s := A2) ⟨same.rf, fun i hi => by omega⟩
      · intro fu M hI
        have h15 : M 1 5 = nI n := by rw [hI.1 _ _ (by omega), b2 _ _ (by omega)]; exact e15
        show x_film_L45 (60 + 2 * s) _ (fu + 1) (nI n) M = _
        simp only [x_film_L45, h15, if_pos (Int32.le_refl (nI n))]
      · intro fu k M hk hI
        obtain ⟨hs', hv⟩ := hI
        have h15 : M 1 5 = nI n := by rw [hs' _ _ (by omega), b2 _ _ (by omega)]; exact e15
        have h38 : M 38 k = A1 38 k := by rw [hs' _ _ (by omega), b2 _ _ (by omega)]
        have hsz : M (60 + 2 * s) 2 = nI n := by rw [hs' _ _ (by omega)]; exact b4
        have hso : M (60 + 2 * s) 1 = 2 := by rw [hs' _ _ (by omega)]; exact b3
        have hput : f_Sheet_put M (60 + 2 * s) (nI k) (A1 38 k) = some (wr M (60 + 2 * s + 1) k (A1 38 k)) := by
          unfold f_Sheet_put f_Sheet_has
          rw [hsz, hso, if_neg (nI_pos (by omega)), if_neg (nI_ge hk (by omega)), if_neg (show ¬ (40 : Int32) ≤ nI k from nI_ge (b := 40) (by omega) (by omega)), obp_s, if_pos rfl, jp_s, if_neg (by decide), if_neg (by decide)]
          dsimp only
          rw [ck_n _ (show k < 40 by omega) (by omega), nI_cl (by omega), bnd_s]
        refine ⟨wr M (60 + 2 * s + 1) k (A1 38 k), ⟨hs'.wr rfl, fun i hi => ?_⟩, ?_⟩
        · rw [wr_at]
          by_cases hik : i = k
          · rw [if_pos ⟨rfl, hik⟩, hik]
          · rw [if_neg (fun h => hik h.2)]; exact hv i (by omega)
        · show x_film_L45 (60 + 2 * s) _ (fu + 1) (nI k) M = x_film_L45 (60 + 2 * s) _ fu (nI (k + 1)) _
          simp only [x_film_L45, h15, if_neg (nI_ge hk (show n < 2 ^ 31 by omega)), ck_n _ (show k < 6 by omega) (show 6 < 2 ^ 31 by omega), nI_cl (show k < 2 ^ 31 by omega), h38, hput, obp_s, bnd_s, nI_1]
    have keyB : ∃ M', (same (fun c j => c = 22 ∧ 40 * s ≤ j ∧ j < 40 * s + 40) B2 M' ∧ ∀ i, i < n → M' 22 (40 * s + i) = B1 15 i) ∧ m_film_L31 (nI s) (fun M8 => some (M8, M8 0 12)) FU 0 B2 = (fun M8 => some (M8, M8 0 12)) M' := by
      refine lp_FU (fun fu k M => m_film_L31 (nI s) (fun M8 => some (M8, M8 0 12)) fu k M) (fun M8 => some (M8, M8 0 12)) n (fun k M => same (fun c j => c = 22 ∧ 40 * s ≤ j ∧ j < 40 * s + 40) B2 M ∧ ∀ i, i < k → M 22 (40 * s + i) = B1 15 i) (by omega) ?_ ?_ (s := B2) ⟨same.rf, fun i hi => by omega⟩
      · intro fu M hI
        have h12 : M 0 12 = nI n := by rw [hI.1 _ _ (by omega), c2 _ _ (by unfold pW; omega)]; exact e12
        show m_film_L31 (nI s) _ (fu + 1) (nI n) M = _
        simp only [m_film_L31, h12, if_pos (Int32.le_refl (nI n))]
      · intro fu k M hk hI
        obtain ⟨hs', hv⟩ := hI
        have h12 : M 0 12 = nI n := by rw [hs' _ _ (by omega), c2 _ _ (by unfold pW; omega)]; exact e12
        have h15 : M 15 k = B1 15 k := by rw [hs' _ _ (by omega), c2 _ _ (by unfold pW; omega)]
        have e : (40 : Int32) * nI s + nI k = nI (40 * s + k) := by rw [show (40 : Int32) = nI 40 from rfl, nI_mul, nI_add]
        refine ⟨wr M 22 (40 * s + k) (B1 15 k), ⟨hs'.wr ⟨rfl, by omega, by omega⟩, fun i hi => ?_⟩, ?_⟩
        · rw [wr_at]
          by_cases hik : i = k
          · rw [if_pos ⟨rfl, by omega⟩, hik]
          · rw [if_neg (fun h => hik (by omega))]; exact hv i (by omega)
        · show m_film_L31 (nI s) _ (fu + 1) (nI k) M = m_film_L31 (nI s) _ fu (nI (k + 1)) _
          simp only [m_film_L31, h12, if_neg (nI_ge hk (show n < 2 ^ 31 by omega)), ck_n _ (show k < 6 by omega) (show 6 < 2 ^ 31 by omega), nI_cl (show k < 2 ^ 31 by omega), e, ck_n _ (show 40 * s + k < 160 by omega) (show 160 < 2 ^ 31 by omega), nI_cl (show 40 * s + k < 2 ^ 31 by omega), h15, bnd_s, nI_1]
    obtain ⟨A3, ⟨x1, x2⟩, x3⟩ := keyA
    obtain ⟨B3, ⟨y1, y2⟩, y3⟩ := keyB
    have q15 : A3 1 5 = nI n := by rw [x1 _ _ (by omega), b2 _ _ (by omega)]; exact e15
    have q12 : B3 0 12 = nI n := by rw [y1 _ _ (by omega), c2 _ _ (by unfold pW; omega)]; exact e12
    refine ⟨A3, B3, nI n, ?_, ?_, ?_⟩
    · rw [s1, obp_s, oc_1, a1, obp_s, p1, obp_s, p2, obp_s, e15, b1, obp_s, jp_s]
      refine Eq.trans x3 ?_
      show some (A3, A3 1 5) = _
      rw [q15]
    · have c1 : m_sheet B1 (nI s) 2 (nI n) = some (B2, 1) := c1
      rw [s2, obp_s, if_pos rfl, hS.2.2.1, p3, obp_s, e12, c1, obp2_s, jp_s]
      refine Eq.trans y3 ?_
      show some (B3, B3 0 12) = _
      rw [q12]
    · refine rel_sheet hR hs ((b2.mono (fun c j g => by unfold pZ; omega)).trans (x1.mono (fun c j g => by unfold pZ; omega))) (c2.trans (y1.mono (fun c j g => Or.inr g))) (Or.inr ⟨2, n, by omega, by omega, ?_, ?_, ?_, ?_, ?_, fun i hi => ?_⟩)
      · rw [x1 _ _ (by omega)]; exact b3
      · rw [y1 _ _ (by omega)]; exact c4
      · rw [y1 _ _ (by omega)]; exact c3
      · rw [x1 _ _ (by omega)]; exact b4
      · rw [y1 _ _ (by omega)]; exact c5
      · rw [← t61, x2 i hi, y2 i hi]
        exact (p4.2.2.2.2.2.1 i (by omega)).2.2.1
  · rw [s1, s2, obp_s, obp_s, oc_0]
    exact ⟨A, B, -2, rfl, rfl, h⟩
/-! ### order -/
theorem order_loop {A0 B0 : Mem} {s n : Nat} (hs : s < 4) (hn : n ≤ 6) (hA : A0 1 5 = nI n) (hB : B0 0 12 = nI n) (hF : Full A0 B0 s n) (j6 j2 : Mem → Option (Mem × Bool)) :
    ∀ fu1 fu2 k seen A B, same (fun c _ => c = 32) A0 A → same (fun c _ => c = 9) B0 B → k ≤ n → n < fu1 + k → n < fu2 + k → (∀ i, i < k → ∃ w, w < n ∧ A 32 i = nI w ∧ B 9 i = nI w) →
      ∃ A' B', same (fun c _ => c = 32) A0 A' ∧ same (fun c _ => c = 9) B0 B' ∧
        ((x_startOrder_L31 (60 + 2 * s) j6 fu1 seen (nI k) A = some (A', false) ∧ m_laysOrder_L19 (nI s) j2 fu2 seen (nI k) B = some (B', false)) ∨
         (x_startOrder_L31 (60 + 2 * s) j6 fu1 seen (nI k) A = j6 A' ∧ m_laysOrder_L19 (nI s) j2 fu2 seen (nI k) B = j2 B' ∧ ∀ i, i < n → ∃ w, w < n ∧ A' 32 i = nI w ∧ B' 9 i = nI w)) := by
  intro fu1
  induction fu1 with
  | zero => intro fu2 k seen A B sA sB h1 h2; omega
  | succ fu1 ih =>
    intro fu2 k seen A B sA sB h1 h2 h3 hrow
    obtain ⟨fu2, rfl⟩ : ∃ f, fu2 = f + 1 := ⟨fu2 - 1, by omega⟩
    have e15 : A 1 5 = nI n := by rw [sA _ _ (by omega)]; exact hA
    have e12 : B 0 12 = nI n := by rw [sB _ _ (by omega)]; exact hB
    by_cases hk : k = n
    · subst hk
      exact ⟨A, B, sA, sB, Or.inr ⟨by simp only [x_startOrder_L31, e15, if_pos (Int32.le_refl (nI k))], by simp only [m_laysOrder_L19, e12, if_pos (Int32.le_refl (nI k))], hrow⟩⟩
    · have g : ¬ nI n ≤ nI k := nI_ge (by omega) (by omega)
      have e : (40 : Int32) * nI s + nI k = nI (40 * s + k) := by rw [show (40 : Int32) = nI 40 from rfl, nI_mul, nI_add]
      obtain ⟨v, hv⟩ : ∃ v, v = B0 22 (40 * s + k) := ⟨_, rfl⟩
      have hvA : A (60 + 2 * s + 1) k = v := by
        rw [sA _ _ (by omega), hv, ← hF k (by omega)]
        congr 1
        omega
      have hvB : B 22 (40 * s + k) = v := by rw [sB _ _ (by omega), hv]
      obtain ⟨z, z1, z2, z3⟩ := has2 hn e15 e12 v
      cases z with
      | false =>
        refine ⟨A, B, sA, sB, Or.inl ⟨?_, ?_⟩⟩
        · simp only [x_startOrder_L31, e15, if_neg g, ck_n _ (show k < 40 by omega) (show 40 < 2 ^ 31 by omega), nI_cl (show k < 2 ^ 31 by omega), bnd_s, hvA, z1, obp_s]
          rfl
        · simp only [m_laysOrder_L19, e12, if_neg g, e, ck_n _ (show 40 * s + k < 160 by omega) (show 160 < 2 ^ 31 by omega), nI_cl (show 40 * s + k < 2 ^ 31 by omega), bnd_s, hvB, z2, obp_s]
          rfl
      | true =>
        obtain ⟨w, w1, rfl⟩ := z3.mp rfl
        by_cases hb : ((seen >>> (nI w &&& 31)) &&& 1) = 1
        · refine ⟨A, B, sA, sB, Or.inl ⟨?_, ?_⟩⟩
          · simp only [x_startOrder_L31, e15, if_neg g, ck_n _ (show k < 40 by omega) (show 40 < 2 ^ 31 by omega), nI_cl (show k < 2 ^ 31 by omega), bnd_s, hvA, z1, obp_s, if_true, if_pos hb]
          · simp only [m_laysOrder_L19, e12, if_neg g, e, ck_n _ (show 40 * s + k < 160 by omega) (show 160 < 2 ^ 31 by omega), nI_cl (show 40 * s + k < 2 ^ 31 by omega), bnd_s, hvB, z2, obp_s, if_true, if_pos hb]
        · obtain ⟨A', B', q1, q2, q3⟩ := ih fu2 (k + 1) (seen ||| (1 <<< (nI w &&& 31))) (wr A 32 k (nI w)) (wr B 9 k (nI w)) (sA.wr rfl) (sB.wr rfl) (by omega) (by omega) (by omega) (fun i hi => by
            by_cases hik : i = k
            · subst hik
              exact ⟨w, w1, wr_hit _ _ _ _, wr_hit _ _ _ _⟩
            · rw [wr_off _ _ _ _ _ _ (by omega), wr_off _ _ _ _ _ _ (by omega)]
              exact hrow i (by omega))
          have hx : x_startOrder_L31 (60 + 2 * s) j6 (fu1 + 1) seen (nI k) A = x_startOrder_L31 (60 + 2 * s) j6 fu1 (seen ||| (1 <<< (nI w &&& 31))) (nI (k + 1)) (wr A 32 k (nI w)) := by
            simp only [x_startOrder_L31, e15, if_neg g, ck_n _ (show k < 40 by omega) (show 40 < 2 ^ 31 by omega), nI_cl (show k < 2 ^ 31 by omega), bnd_s, hvA, z1, obp_s, if_true, if_neg hb, place_ok A (show k < 6 by omega) (show w < 6 by omega), nI_1]
          have hm : m_laysOrder_L19 (nI s) j2 (fu2 + 1) seen (nI k) B = m_laysOrder_L19 (nI s) j2 fu2 (seen ||| (1 <<< (nI w &&& 31))) (nI (k + 1)) (wr B 9 k (nI w)) := by
            simp only [m_laysOrder_L19, e12, if_neg g, e, ck_n _ (show 40 * s + k < 160 by omega) (show 160 < 2 ^ 31 by omega), nI_cl (show 40 * s + k < 2 ^ 31 by omega), bnd_s, hvB, z2, obp_s, if_true, if_neg hb, ck_n _ (show k < 6 by omega) (show 6 < 2 ^ 31 by omega), nI_cl (show k < 2 ^ 31 by omega), nI_1]
          rw [hx, hm]
          exact ⟨A', B', q1, q2, q3⟩
theorem c_order {A B : Mem} (h : Rel A B) (a1 a2 : Int32) : Two (x_order A a1 a2) (m_order B a1 a2) := by
  unfold x_order m_order
  rcases sheet2 a1 with ⟨s, hs, rfl, s1, s2⟩ | ⟨s1, s2⟩
  · obtain ⟨n, tc, hS, hT, h21, hSh, hI⟩ := id h
    have hn6 := hS.1
    have hck : ∀ (x : Option (Mem × Int32)), ck (nI s) 4 x = x := fun x => ck_n x hs (by omega)
    have hckB : ∀ (x : Option (Mem × Bool)), ck (nI s) 4 x = x := fun x => ck_n x hs (by omega)
    have hcl : (nI s).toNatClampNeg = s := nI_cl (by omega)
    obtain ⟨z, z1, z2, z3⟩ := isday2 hn6 hS.2.1 hS.2.2.1 a2
    rw [s1, s2, obp_s, obp_s, oc_1, jp_s, if_pos rfl, z1, z2, obp_s, obp_s]
    cases z with
    | false => exact ⟨A, B, -100000, rfl, rfl, h⟩
    | true =>
      rw [if_pos rfl, if_pos rfl, hck, hcl]
      rcases miss2 (hSh s hs) with ⟨m1, m2⟩ | ⟨m1, m2, so, sz, g1, g2, g3, g4, g5, g6, g7⟩
      · refine ⟨A, B, -100000, ?_, by rw [if_pos m2], h⟩
        unfold x_startOrder
        rw [m1, obp_s, if_pos rfl, obp2_s]
        rfl
      · rw [if_neg m2]
        unfold x_startOrder m_laysOrder
        rw [m1, obp_s, if_neg (by simp : ¬ false = true), hckB, hcl, g5, g6, hS.2.1, hS.2.2.1]
        by_cases hsz : sz = n
        · subst hsz
          rw [if_pos rfl, if_pos rfl]
          obtain ⟨M2, r, b1, b2, b3, b4, b5⟩ := trialY hS
          have hFM : Full M2 B s sz := fun i hi => by rw [b4 _ _ (by unfold pY; omega)]; exact g7 i hi
          obtain ⟨A1, B1, q1, q2, q3⟩ := order_loop hs hn6 (by rw [b4 _ _ (by unfold pY; omega)]; exact hS.2.1) hS.2.2.1 hFM (fun M5 => some (M5, true)) (fun M1 => bnd (wr M1 0 29 (M1 0 12)) fun M3 => some (M3, true)) FU FU 0 0 M2 B same.rf same.rf (Nat.zero_le _) (by unfold FU; omega) (by unfold FU; omega) (fun i hi => by omega)
          have sA1 : same pY A A1 := b4.trans (q1.mono (fun c j g => by unfold pY; omega))
          rw [b1, obp_s, jp_s, jp_s]
          rcases q3 with ⟨x1, x2⟩ | ⟨x1, x2, x3⟩
          · have x1 : x_startOrder_L31 (60 + 2 * s) (fun M5 => some (M5, true)) FU 0 0 M2 = some (A1, false) := x1
            have x2 : m_laysOrder_L19 (nI s) (fun M1 => bnd (wr M1 0 29 (M1 0 12)) fun M3 => some (M3, true)) FU 0 0 B = some (B1, false) := x2
            rw [x1, x2, obp2_s, obp2_s]
            exact ⟨A1, B1, -100000, rfl, rfl, h.keep (sA1.mono (fun c j g => pY_X g)) (q2.mono (fun c j g => by unfold pT; omega))⟩
          · have x1 : x_startOrder_L31 (60 + 2 * s) (fun M5 => some (M5, true)) FU 0 0 M2 = some (A1, true) := x1
            have e12 : B1 0 12 = nI sz := by rw [q2 _ _ (by omega)]; exact hS.2.2.1
            have x2 : m_laysOrder_L19 (nI s) (fun M1 => bnd (wr M1 0 29 (M1 0 12)) fun M3 => some (M3, true)) FU 0 0 B = some (wr B1 0 29 (nI sz), true) := by
              refine Eq.trans x2 ?_
              rw [bnd_s, e12]
            rw [x1, x2, obp2_s, obp2_s, if_pos rfl, if_pos rfl]
            have sB1 : same (fun c j => c = 9 ∨ (c = 0 ∧ j = 29)) B (wr B1 0 29 (nI sz)) := (q2.mono (fun c j g => Or.inl g)).wr (Or.inr ⟨rfl, rfl⟩)
            have hb2 : Base A1 (wr B1 0 29 (nI sz)) sz sz r := b2.keep (q1.mono (fun c j g => by unfold pS; omega)) (sB1.mono (fun c j g => by unfold pT; omega))
            obtain ⟨Ar, y1, y2, y3⟩ := reckon_cl hb2
            obtain ⟨Bg, u1, u2, u3⟩ := gathers_rf hb2
            have hR := ready_of (ro := fun i => (A1 32 i).toNatClampNeg) (B2 := Bg) hb2 y2 y3 u2 u3 same.rf (fun i hi => by
              obtain ⟨w, w1, w2, w3⟩ := x3 i hi
              have e9 : Bg 9 i = B1 9 i := by rw [u2 _ _ (by omega), wr_off _ _ _ _ _ _ (by omega)]
              rw [e9, w2, w3, nI_cl (by omega)]
              exact ⟨w1, rfl, rfl⟩) (by rw [u2 _ _ (by omega), wr_hit])
            obtain ⟨A', B', l1, l2, l3, l4, l5, l6, l7, l8, l9⟩ := live_ok hR
            have sA' : same pY A A' := sA1.trans ((y2.mono (fun c j g => by unfold pY; omega)).trans (l3.mono (fun c j g => pS_Y (pD_S g))))
            have sB' : same pT B B' := (sB1.mono (fun c j g => by unfold pT; omega)).trans ((u2.mono (fun c j g => by unfold pT; omega)).trans (l4.mono (fun c j g => pE_T g)))
            have hL : Lived A1 (wr B1 0 29 (nI sz)) A' B' sz := ⟨(y2.mono (fun c j g => by unfold pS; omega)).trans (l3.mono (fun c j g => pD_S g)), (u2.mono (fun c j g => by unfold pT; omega)).trans (l4.mono (fun c j g => pE_T g)), l5, l6, l7, l8, l9⟩
            obtain ⟨v, v1, v2⟩ := ofday2 hL (Nat.le_refl _) hn6 (by rw [sB' _ _ (by unfold pT; omega)]; exact hS.2.2.1) (by rw [sA' _ _ (by unfold pY; omega)]; exact hS.2.1) (z3 rfl)
            rw [y1, obp_s, l1, obp_s, v1, obp_s, u1, obp_s, l2, obp_s, v2, obp_s]
            exact ⟨A', B', v, rfl, rfl, h.keep (sA'.mono (fun c j g => pY_X g)) sB'⟩
        · have hne : ¬ nI sz = nI n := fun e => hsz (nI_inj e (by omega) (by omega))
          rw [if_neg hne, if_neg hne, obp2_s, obp2_s]
          exact ⟨A, B, -100000, rfl, rfl, h⟩
  · rw [s1, s2, obp_s, obp_s, oc_0, jp_s]
    exact ⟨A, B, -100000, rfl, rfl, h⟩
