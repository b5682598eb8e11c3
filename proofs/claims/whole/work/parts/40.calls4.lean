/-! books, warms, film, whole -/
def bkX (M : Mem) (t3 : Nat) (a2 : Int32) : Option (Mem × Int32) :=
  ob (f_Sheet_isMissing M t3) fun (v9 : Bool) =>
  if v9 = true then
  (some (M, (-11)))
  else
  (if (M t3 2) = (M 1 5) then
  (if a2 = 0 then
  (ob2 (x_notSo M t3) fun (M11 : Mem) (v12 : Int32) =>
  some (M11, v12))
  else
  (if a2 = 1 then
  (ob2 (x_dialsOf M t3 2) fun (M14 : Mem) (v15 : Int64) =>
  some (M14, v15.toInt32))
  else
  (if a2 = 2 then
  (ob2 (x_dialsOf M t3 1) fun (M17 : Mem) (v18 : Int64) =>
  some (M17, v18.toInt32))
  else
  (if a2 = 3 then
  (ob2 (x_textsOf M t3) fun (M20 : Mem) (v21 : Int32) =>
  some (M20, v21))
  else
  (ob2 (x_kindsOf M t3 (a2 - 10)) fun (M23 : Mem) (v24 : Int32) =>
  some (M23, v24))))))
  else
  (some (M, (-2))))
def bkM (M : Mem) (a1 a2 : Int32) : Option (Mem × Int32) :=
  ck a1 4 <|
  if (M 19 a1.toNatClampNeg) = 0 then
  (some (M, (-11)))
  else
  (ck a1 4 <|
  if (M 21 a1.toNatClampNeg) = (M 0 12) then
  (if a2 = 0 then
  (ob (m_livesPlain M (M 0 12)) fun (M30 : Mem) =>
  jp (fun (v31 : Int32) =>
  some (M30, v31)) fun j32 =>
  m_books_L92 a1 M30 j32 FU 0 0)
  else
  (jp (fun (v7 : Int32) =>
  ob (m_tellsSort M a2) fun (v10 : Int32) =>
  jp (fun (v11 : Int32) (M12 : Mem) =>
  ob (m_laysSort M12 a2 v10) fun (M15 : Mem) =>
  some (M15, v11)) fun j13 =>
  m_books_L178 a1 a2 v7 j13 FU 0 0 M) fun j8 =>
  if 3 ≤ a2 then
  (if a2 = 3 then
  (j8 (M 0 3))
  else
  (j8 6))
  else
  (j8 10)))
  else
  (some (M, (-2))))
theorem x_books_eq (M : Mem) (a1 a2 : Int32) : x_books M a1 a2 = (ob (x_sheetAt a1) fun (v2 : Option Nat) => oc v2 (some (M, (-2))) fun (t3 : Nat) => if a2 < 0 then (some (M, (-2))) else (if a2 ≤ 3 then bkX M t3 a2 else if a2 < 10 then (some (M, (-2))) else (ob (f_Site_has M 1 (a2 - 10)) fun (v26 : Bool) => if v26 = true then bkX M t3 a2 else (some (M, (-2)))))) := by
  unfold x_books bkX
  simp only [jp_s]
  congr 1
  funext v2
  congr 1
  funext t3
  by_cases g0 : a2 < 0
  · rw [if_pos g0, if_pos g0]
  · rw [if_neg g0, if_neg g0]
    by_cases g3 : a2 ≤ 3
    · simp only [if_pos g3]
    · simp only [if_neg g3]
theorem m_books_eq (M : Mem) (a1 a2 : Int32) : m_books M a1 a2 = (ob (m_isSheet a1) fun (v2 : Bool) => if v2 = true then (ob (m_in (a2.toInt64) 0 3) fun (v4 : Bool) => if v4 = true then bkM M a1 a2 else (ob (m_in (a2.toInt64) 10 15) fun (v41 : Bool) => if v41 = true then (ob (m_isWall M (a2 - 10)) fun (v43 : Bool) => if v43 = true then bkM M a1 a2 else (some (M, (-2)))) else (some (M, (-2))))) else (some (M, (-2)))) := by
  unfold m_books bkM
  simp only [jp_s]
theorem miss2 {A B : Mem} {s : Nat} (h : SheetR A B s) : (f_Sheet_isMissing A (60 + 2 * s) = some true ∧ B 19 s = 0) ∨ (f_Sheet_isMissing A (60 + 2 * s) = some false ∧ ¬ B 19 s = 0 ∧ ∃ so sz, so < 3 ∧ sz ≤ 40 ∧ A (60 + 2 * s) 1 = nI so ∧ B 20 s = nI so ∧ A (60 + 2 * s) 2 = nI sz ∧ B 21 s = nI sz ∧ Full A B s sz) := by
  unfold f_Sheet_isMissing
  rcases h with ⟨h1, h2⟩ | ⟨so, sz, h1, h2, h3, h4, h5, h6, h7, h8⟩
  · exact Or.inl ⟨by rw [h1, if_pos rfl], h2⟩
  · refine Or.inr ⟨?_, by rw [h5]; decide, so, sz, h1, h2, h3, h4, h6, h7, h8⟩
    rw [h3, if_neg]
    rw [nI_neg1 (by omega)]
    exact id
theorem notSo_rf {A' B' : Mem} {s n : Nat} (hs : s < 4) (hn : n ≤ 6) (hB : B' 0 12 = nI n) (hF : ∀ i, i < n → A' (60 + 2 * s + 1) i = B' 22 (40 * s + i)) (h38 : ∀ i, i < 6 → A' 38 i = B' 15 i) (j : Int32 → Option (Mem × Int32)) : m_books_L92 (nI s) B' j FU 0 0 = j (bitsF (fun i => decide (¬ A' 38 i = A' (60 + 2 * s + 1) i)) n) := by
  refine fold_FU (fun fu v k => m_books_L92 (nI s) B' j fu v k) j (bitsF (fun i => decide (¬ A' 38 i = A' (60 + 2 * s + 1) i))) n (by omega) (fun fu => ?_) (fun fu k hk => ?_)
  · show m_books_L92 (nI s) B' j (fu + 1) _ (nI n) = _
    simp only [m_books_L92, hB, if_pos (Int32.le_refl (nI n))]
  · have e : (40 : Int32) * nI s + nI k = nI (40 * s + k) := by rw [show (40 : Int32) = nI 40 from rfl, nI_mul, nI_add]
    show m_books_L92 (nI s) B' j (fu + 1) _ (nI k) = m_books_L92 (nI s) B' j fu _ (nI (k + 1))
    simp only [m_books_L92, hB, if_neg (nI_ge hk (show n < 2 ^ 31 by omega)), ck_n _ (show k < 6 by omega) (show 6 < 2 ^ 31 by omega), e, ck_n _ (show 40 * s + k < 160 by omega) (show 160 < 2 ^ 31 by omega), nI_cl (show k < 2 ^ 31 by omega), nI_cl (show 40 * s + k < 2 ^ 31 by omega), jp_s, bnd_s, nI_1, bitsF, h38 k (by omega), hF k hk]
    by_cases g : B' 15 k = B' 22 (40 * s + k)
    · rw [if_pos g, if_neg (by simp [g]), Int32.zero_shiftLeft]
    · rw [if_neg g, if_pos (by simp [g])]
theorem books_core {A B : Mem} {s n tc : Nat} (h : Rel A B) (hS : Sites A B n tc) (hs : s < 4) (hSh : SheetR A B s) {a2 : Int32} (ha : (∃ k, k ≤ 3 ∧ a2 = nI k) ∨ (∃ i, i < n ∧ a2 = nI (10 + i))) : Two (bkX A (60 + 2 * s) a2) (bkM B (nI s) a2) := by
  have hn6 := hS.1
  have hck : ∀ (x : Option (Mem × Int32)), ck (nI s) 4 x = x := fun x => ck_n x hs (by omega)
  have hcl : (nI s).toNatClampNeg = s := nI_cl (by omega)
  rcases miss2 hSh with ⟨m1, m2⟩ | ⟨m1, m2, so, sz, g1, g2, g3, g4, g5, g6, g7⟩
  · refine ⟨A, B, -11, ?_, ?_, h⟩
    · unfold bkX
      rw [m1, obp_s]
      rfl
    · unfold bkM
      rw [hck, hcl, if_pos m2]
  · by_cases hsz : sz = n
    · subst hsz
      have hx : bkX A (60 + 2 * s) a2 = (if a2 = 0 then (ob2 (x_notSo A (60 + 2 * s)) fun (M11 : Mem) (v12 : Int32) => some (M11, v12)) else (if a2 = 1 then (ob2 (x_dialsOf A (60 + 2 * s) 2) fun (M14 : Mem) (v15 : Int64) => some (M14, v15.toInt32)) else (if a2 = 2 then (ob2 (x_dialsOf A (60 + 2 * s) 1) fun (M17 : Mem) (v18 : Int64) => some (M17, v18.toInt32)) else (if a2 = 3 then (ob2 (x_textsOf A (60 + 2 * s)) fun (M20 : Mem) (v21 : Int32) => some (M20, v21)) else (ob2 (x_kindsOf A (60 + 2 * s) (a2 - 10)) fun (M23 : Mem) (v24 : Int32) => some (M23, v24)))))) := by
        unfold bkX
        rw [m1, obp_s, g5, hS.2.1, if_pos rfl]
        rfl
      have hm : bkM B (nI s) a2 = (if a2 = 0 then (ob (m_livesPlain B (nI sz)) fun (M30 : Mem) => m_books_L92 (nI s) M30 (fun (v31 : Int32) => some (M30, v31)) FU 0 0) else (jp (fun (v7 : Int32) => ob (m_tellsSort B a2) fun (v10 : Int32) => m_books_L178 (nI s) a2 v7 (fun (v11 : Int32) (M12 : Mem) => ob (m_laysSort M12 a2 v10) fun (M15 : Mem) => some (M15, v11)) FU 0 0 B) fun j8 => if 3 ≤ a2 then (if a2 = 3 then (j8 (B 0 3)) else (j8 6)) else (j8 10))) := by
        unfold bkM
        rw [hck, hcl, if_neg m2, hck, g6, hS.2.2.1, if_pos rfl]
        simp only [jp_s]
      rcases ha with ⟨k, hk, rfl⟩ | ⟨i, hi, rfl⟩
      · match k, hk with
        | 0, _ =>
          obtain ⟨M2, r, a1, a2, a3, a4, a5⟩ := trialY hS
          obtain ⟨Ar, A', B', p1, p2, p3, p4, p5⟩ := plain_ok a2 a3
          have sA : same pY A A' := a4.trans (p4.1.mono (fun c j g => pS_Y g))
          have e12 : B' 0 12 = nI sz := by rw [p4.2.1 _ _ (by unfold pT; omega)]; exact hS.2.2.1
          have e24 : A' 24 5 = nI sz := by rw [p4.1 _ _ (by unfold pS; omega)]; exact a2.2.2.1
          refine ⟨A', B', bitsF (fun i => decide (¬ A' 38 i = A' (60 + 2 * s + 1) i)) sz, ?_, ?_, h.keep (sA.mono (fun c j g => pY_X g)) p4.2.1⟩
          · rw [hx, if_pos (by decide)]
            unfold x_notSo
            rw [a1, obp_s, p1, obp_s, p2, obp_s, unlike_cl hn6 e24, obp_s, obp2_s]
          · rw [hm, if_pos (by decide), p3, obp_s]
            exact notSo_rf hs hn6 e12 (fun i hi => by
              rw [sA _ _ (by unfold pY; omega), p4.2.1 22 _ (by unfold pT; omega), ← g7 i hi]
              congr 1
              omega) (fun i hi => (p4.2.2.2.2.2.1 i hi).2.2.1) _
        | 1, _ =>
          have h' : Rel A (wr B 4 2 (B 4 2)) := by rw [wr_self]; exact h
          obtain ⟨A', B', b', p1, p2, p3⟩ := dials_loop (d := 2) (Or.inr rfl) hs 1 (by rw [if_pos rfl]) (n0 := sz) (s := s) (was' := 0) (fun (v1 : Int64) (M2 : Mem) => some (M2, v1)) (fun (v11 : Int32) (M12 : Mem) => ob (m_laysSort M12 1 (B 4 2)) fun (M15 : Mem) => some (M15, v11)) FU FU 0 A B 0 h' hS.2.1 hn6 g7 (by omega) (by unfold FU; omega) (by unfold FU; omega)
          have hlay : m_laysSort B' 1 (B 4 2) = some (wr B' 4 2 (B 4 2)) := by
            have k2 : ∀ (x : Option Mem), ck 2 6 x = x := fun x => ck_n (k := 2) x (by omega) (by omega)
            unfold m_laysSort
            rw [if_neg (by decide), if_pos (by decide), jp_s, if_pos (by decide)]
            dsimp only
            rw [k2, bnd_s]
            rfl
          refine ⟨A', wr B' 4 2 (B 4 2), b'.toInt32, ?_, ?_, p3⟩
          · rw [hx, if_neg (by decide), if_pos (by decide)]
            have p1' : x_dialsOf A (60 + 2 * s) 2 = some (A', b') := by
              unfold x_dialsOf
              rw [jp_s]
              exact p1
            rw [p1', obp2_s]
          · rw [hm, if_neg (by decide), jp_s, if_neg (by decide)]
            have ht : m_tellsSort B 1 = some (B 4 2) := by
              have k2 : ∀ (x : Option Int32), ck 2 6 x = x := fun x => ck_n (k := 2) x (by omega) (by omega)
              unfold m_tellsSort
              rw [if_pos rfl, k2]
              rfl
            have ht : m_tellsSort B (nI 1) = some (B 4 2) := ht
            dsimp only
            rw [ht, obp_s]
            refine Eq.trans p2 ?_
            rw [hlay, obp_s]
        | 2, _ =>
          have h' : Rel A (wr B 4 1 (B 4 1)) := by rw [wr_self]; exact h
          obtain ⟨A', B', b', p1, p2, p3⟩ := dials_loop (d := 1) (Or.inl rfl) hs 2 (by rw [if_neg (by omega)]) (n0 := sz) (s := s) (was' := 0) (fun (v1 : Int64) (M2 : Mem) => some (M2, v1)) (fun (v11 : Int32) (M12 : Mem) => ob (m_laysSort M12 2 (B 4 1)) fun (M15 : Mem) => some (M15, v11)) FU FU 0 A B 0 h' hS.2.1 hn6 g7 (by omega) (by unfold FU; omega) (by unfold FU; omega)
          have hlay : m_laysSort B' 2 (B 4 1) = some (wr B' 4 1 (B 4 1)) := by
            have k1 : ∀ (x : Option Mem), ck 1 6 x = x := fun x => ck_n (k := 1) x (by omega) (by omega)
            unfold m_laysSort
            rw [if_neg (by decide), if_pos (by decide), jp_s, if_neg (by decide)]
            dsimp only
            rw [k1, bnd_s]
            rfl
          refine ⟨A', wr B' 4 1 (B 4 1), b'.toInt32, ?_, ?_, p3⟩
          · rw [hx, if_neg (by decide), if_neg (by decide), if_pos (by decide)]
            have p1' : x_dialsOf A (60 + 2 * s) 1 = some (A', b') := by
              unfold x_dialsOf
              rw [jp_s]
              exact p1
            rw [p1', obp2_s]
          · rw [hm, if_neg (by decide), jp_s, if_neg (by decide)]
            have ht : m_tellsSort B 2 = some (B 4 1) := by
              have k1 : ∀ (x : Option Int32), ck 1 6 x = x := fun x => ck_n (k := 1) x (by omega) (by omega)
              unfold m_tellsSort
              rw [if_neg (by decide), if_pos rfl, k1]
              rfl
            have ht : m_tellsSort B (nI 2) = some (B 4 1) := ht
            dsimp only
            rw [ht, obp_s]
            refine Eq.trans p2 ?_
            rw [hlay, obp_s]
        | 3, _ =>
          have h' : Rel A (wr B 0 4 (B 0 4)) := by rw [wr_self]; exact h
          have htc := hS.2.2.2.2.1
          obtain ⟨A', B', b', p1, p2, p3⟩ := texts_loop hs (n0 := sz) (tc0 := tc) (fun (v1 : Int32) (M2 : Mem) => some (M2, v1)) (fun (v11 : Int32) (M12 : Mem) => ob (m_laysSort M12 3 (B 0 4)) fun (M15 : Mem) => some (M15, v11)) FU FU 0 A B 0 h' hS.2.1 hn6 hS.2.2.2.2.2.1 htc g7 (by omega) (by unfold FU; omega) (by unfold FU; omega)
          have hlay : m_laysSort B' 3 (B 0 4) = some (wr B' 0 4 (B 0 4)) := by
            unfold m_laysSort
            rw [if_pos rfl, bnd_s]
          refine ⟨A', wr B' 0 4 (B 0 4), b', ?_, ?_, p3⟩
          · rw [hx, if_neg (by decide), if_neg (by decide), if_neg (by decide), if_pos (by decide)]
            have p1' : x_textsOf A (60 + 2 * s) = some (A', b') := by
              unfold x_textsOf
              rw [jp_s]
              exact p1
            rw [p1', obp2_s]
          · rw [hm, if_neg (by decide), jp_s, if_pos (by decide), if_pos (by decide), hS.2.2.2.2.2.2.1]
            have ht : m_tellsSort B (nI 3) = some (B 0 4) := by
              unfold m_tellsSort
              rw [if_neg (by decide), if_neg (by decide), if_pos (by decide)]
            dsimp only
            rw [ht, obp_s]
            refine Eq.trans p2 ?_
            rw [hlay, obp_s]
      · have h' : Rel A (wr B 5 i (B 5 i)) := by rw [wr_self]; exact h
        have e10 : nI (10 + i) - 10 = nI i := by rw [show (10 : Int32) = nI 10 from rfl, nI_sub (by omega)]; congr 1; omega
        have hne : ∀ j, j < 10 → ¬ nI (10 + i) = nI j := fun j hj e => by have := nI_inj e (by omega) (by omega); omega
        have f0 : ¬ nI (10 + i) = 0 := hne 0 (by omega)
        have f1 : ¬ nI (10 + i) = 1 := hne 1 (by omega)
        have f2 : ¬ nI (10 + i) = 2 := hne 2 (by omega)
        have f3 : ¬ nI (10 + i) = 3 := hne 3 (by omega)
        have f9 : ¬ nI (10 + i) ≤ 9 := nI_ge (a := 9) (by omega) (by omega)
        obtain ⟨A', B', b', p1, p2, p3⟩ := kinds_loop hs (n0 := sz) hi (fun (v1 : Int32) (M2 : Mem) => some (M2, v1)) (fun (v11 : Int32) (M12 : Mem) => ob (m_laysSort M12 (nI (10 + i)) (B 5 i)) fun (M15 : Mem) => some (M15, v11)) FU FU 0 A B 0 h' hS.2.1 hn6 g7 (by omega) (by unfold FU; omega) (by unfold FU; omega)
        have hlay : m_laysSort B' (nI (10 + i)) (B 5 i) = some (wr B' 5 i (B 5 i)) := by
          unfold m_laysSort
          rw [if_neg f3, if_neg f9, e10, ck_n _ (show i < 6 by omega) (by omega), nI_cl (by omega), bnd_s]
        refine ⟨A', wr B' 5 i (B 5 i), b', ?_, ?_, p3⟩
        · rw [hx, if_neg f0, if_neg f1, if_neg f2, if_neg f3, e10]
          have p1' : x_kindsOf A (60 + 2 * s) (nI i) = some (A', b') := by
            unfold x_kindsOf
            rw [jp_s]
            exact p1
          rw [p1', obp2_s]
        · rw [hm, if_neg f0, jp_s, if_pos (show (3 : Int32) ≤ nI (10 + i) from nI_le (a := 3) (by omega) (by omega)), if_neg f3]
          have ht : m_tellsSort B (nI (10 + i)) = some (B 5 i) := by
            unfold m_tellsSort
            rw [if_neg f1, if_neg f2, if_neg f3, e10, ck_n _ (show i < 6 by omega) (by omega), nI_cl (by omega)]
          dsimp only
          rw [ht, obp_s]
          refine Eq.trans p2 ?_
          rw [hlay, obp_s]
    · refine ⟨A, B, -2, ?_, ?_, h⟩
      · have hne : ¬ nI sz = nI n := fun e => hsz (nI_inj e (by omega) (by omega))
        unfold bkX
        rw [m1, obp_s, g5, hS.2.1, if_neg hne]
        rfl
      · have hne : ¬ nI sz = nI n := fun e => hsz (nI_inj e (by omega) (by omega))
        unfold bkM
        rw [hck, hcl, if_neg m2, hck, g6, hS.2.2.1, if_neg hne]
theorem c_books {A B : Mem} (h : Rel A B) (a1 a2 : Int32) : Two (x_books A a1 a2) (m_books B a1 a2) := by
  have c0 : (0 : Int32).toInt = 0 := by decide
  have c3 : (3 : Int32).toInt = 3 := by decide
  have c10 : (10 : Int32).toInt = 10 := by decide
  have c15 : (15 : Int32).toInt = 15 := by decide
  rw [x_books_eq, m_books_eq]
  rcases sheet2 a1 with ⟨s, hs, rfl, s1, s2⟩ | ⟨s1, s2⟩
  · rw [s1, s2, obp_s, obp_s, oc_1, if_pos rfl]
    obtain ⟨n, tc, hS, hT, h21, hSh, hI⟩ := id h
    obtain ⟨z, z1, z2⟩ := in_b (a := a2) (lo := 0) (hi := 3) (lo' := 0) (hi' := 3) (by decide) (by decide)
    obtain ⟨y, y1, y2⟩ := in_b (a := a2) (lo := 10) (hi := 15) (lo' := 10) (hi' := 15) (by decide) (by decide)
    obtain ⟨x, x1, x2, x3⟩ := has2 hS.1 hS.2.1 hS.2.2.1 (a2 - 10)
    rw [c0, c3] at z2
    rw [c10, c15] at y2
    rw [z1, y1, x1, x2, obp_s, obp_s, obp_s, obp_s]
    by_cases hz : 0 ≤ a2.toInt ∧ a2.toInt ≤ 3
    · rw [z2.mpr hz, if_pos rfl, if_neg (by rw [i_lt, c0]; omega), if_pos (by rw [i_le, c3]; omega)]
      obtain ⟨k, k1, k2, k3⟩ := i_ofnat (x := a2) (n := 3) hz.1 hz.2
      exact books_core h hS hs (hSh s hs) (Or.inl ⟨k, k1, k2⟩)
    · have hzf : z = false := by cases z with
        | false => rfl
        | true => exact absurd (z2.mp rfl) hz
      subst hzf
      rw [if_neg (by simp : ¬ false = true)]
      by_cases g0 : a2 < 0
      · have h0 := i_lt.mp g0
        have hy : y = false := by cases y with
          | false => rfl
          | true => have := y2.mp rfl; omega
        subst hy
        rw [if_pos g0]
        exact ⟨A, B, -2, rfl, rfl, h⟩
      · rw [if_neg g0]
        rw [i_lt, c0] at g0
        rw [if_neg (by rw [i_le, c3]; omega)]
        by_cases g10 : a2 < 10
        · have h0 := i_lt.mp g10
          have hy : y = false := by cases y with
            | false => rfl
            | true => have := y2.mp rfl; omega
          subst hy
          rw [if_pos g10]
          exact ⟨A, B, -2, rfl, rfl, h⟩
        · rw [if_neg g10]
          rw [i_lt, c10] at g10
          have hsub : (a2 - 10).toInt = a2.toInt - 10 := by
            have := Int32.toInt_lt a2
            rw [i_sub (by rw [c10]; omega) (by rw [c10]; omega), c10]
          cases x with
          | true =>
            obtain ⟨i, i1, i2⟩ := x3.mp rfl
            have hi2 : (a2 - 10).toInt = (i : Int) := by rw [i2, i_nI (by have := hS.1; omega)]
            have hn6 := hS.1
            have hy : y = true := y2.mpr (by omega)
            subst hy
            rw [if_pos rfl, if_pos rfl]
            refine books_core h hS hs (hSh s hs) (Or.inr ⟨i, i1, ?_⟩)
            rw [i_eq, i_nI (by omega)]
            omega
          | false =>
            rw [if_neg (by simp : ¬ false = true)]
            cases y with
            | true => exact ⟨A, B, -2, rfl, rfl, h⟩
            | false => exact ⟨A, B, -2, rfl, rfl, h⟩
  · rw [s1, s2, obp_s, obp_s, oc_0]
    exact ⟨A, B, -2, rfl, rfl, h⟩
theorem c_warms {A B : Mem} (h : Rel A B) (a1 : Int32) : TwoL (x_warms A a1) (m_warms B a1) := by
  have hck0 : ∀ (x : Option (Mem × Int64)), ck 0 6 x = x := fun x => ck_n (k := 0) x (by omega) (by omega)
  have t0 : (0 : Int32).toNatClampNeg = 0 := rfl
  unfold x_warms m_warms
  rcases sheet2 a1 with ⟨s, hs, rfl, s1, s2⟩ | ⟨s1, s2⟩
  · obtain ⟨n, tc, hS, hT, h21, hSh, hI⟩ := id h
    have hn6 := hS.1
    have hck : ∀ (x : Option (Mem × Int64)), ck (nI s) 4 x = x := fun x => ck_n x hs (by omega)
    have hcl : (nI s).toNatClampNeg = s := nI_cl (by omega)
    rw [s1, s2, obp_s, obp_s, oc_1, jp_s, if_pos rfl, hck, hcl]
    rcases miss2 (hSh s hs) with ⟨m1, m2⟩ | ⟨m1, m2, so, sz, g1, g2, g3, g4, g5, g6, g7⟩
    · rw [m1, obp_s, if_pos rfl, if_pos m2]
      exact ⟨A, B, _, rfl, rfl, h⟩
    · rw [m1, obp_s, if_neg (by simp : ¬ false = true), if_neg m2, hck, g5, g6, hS.2.1, hS.2.2.1]
      by_cases hsz : sz = n
      · subst hsz
        rw [if_pos rfl, if_pos rfl, hck0, t0, bnd_s, jp_s]
        have h' : Rel A (wr B 4 0 (B 4 0)) := by rw [wr_self]; exact h
        obtain ⟨A', B', b', p1, p2, p3⟩ := warms_loop hs (n0 := sz) (fun (v1 : Int64) (M2 : Mem) => some (M2, v1)) (fun (v6 : Int64) (M7 : Mem) => ck 0 6 <| bnd (wr M7 4 0 (B 4 0)) fun (M9 : Mem) => some (M9, v6)) FU FU 0 A B 0 h' hS.2.1 hn6 g7 (by omega) (by unfold FU; omega) (by unfold FU; omega)
        refine ⟨A', wr B' 4 0 (B 4 0), b', ?_, ?_, p3⟩
        · have p1' : x_dialsOf A (60 + 2 * s) 0 = some (A', b') := by
            unfold x_dialsOf
            rw [jp_s]
            exact p1
          rw [p1', obp2_s]
        · refine Eq.trans p2 ?_
          rw [hck0, bnd_s]
      · have hne : ¬ nI sz = nI n := fun e => hsz (nI_inj e (by omega) (by omega))
        rw [if_neg hne, if_neg hne]
        exact ⟨A, B, _, rfl, rfl, h⟩
  · rw [s1, s2, obp_s, obp_s, oc_0, jp_s]
    exact ⟨A, B, _, rfl, rfl, h⟩
