/-! copy's loop, copy, walls -/
theorem copy_loop {B : Mem} {s1 s3 o1 o3 n : Nat} {v : Int32} (h1 : s1 < 4) (h3 : s3 < 4) (k1 : o1 + n ≤ 40) (k3 : o3 + n ≤ 40) (hv : v = if s1 = s3 ∧ ¬ o3 ≤ o1 then 1 else 0) (j8 : Mem → Option (Mem × Int32)) :
    m_copy_L121 (nI s1) (nI o1) (nI s3) (nI o3) (nI n) v j8 FU 0 B = j8 (cpB B (40 * s3 + o3) (40 * s3 + o3 + n) (40 * s3 + o3) (40 * s1 + o1)) := by
  obtain ⟨a, ha⟩ : ∃ a, a = 40 * s1 + o1 := ⟨_, rfl⟩
  obtain ⟨b, hb⟩ : ∃ b, b = 40 * s3 + o3 := ⟨_, rfl⟩
  have e40 : (40 : Int32) = nI 40 := rfl
  have ea : (40 : Int32) * nI s1 + nI o1 = nI a := by rw [e40, nI_mul, nI_add, ha]
  have eb : (40 : Int32) * nI s3 + nI o3 = nI b := by rw [e40, nI_mul, nI_add, hb]
  rw [← ha, ← hb]
  by_cases c : s1 = s3 ∧ ¬ o3 ≤ o1
  · rw [if_pos c] at hv
    subst hv
    have key : ∃ M', M' = cpB B b (b + n) b a ∧ m_copy_L121 (nI s1) (nI o1) (nI s3) (nI o3) (nI n) 1 j8 FU 0 B = j8 M' := by
      refine lp_FU (fun fu k M => m_copy_L121 (nI s1) (nI o1) (nI s3) (nI o3) (nI n) 1 j8 fu k M) j8 n (fun k M => M = cpB B (b + (n - k)) (b + n) b a) (by omega) ?_ ?_ (s := B) ?_ |> fun ⟨M', q1, q2⟩ => ⟨M', by rw [q1]; congr 1; omega, q2⟩
      · intro fu M hI
        show m_copy_L121 _ _ _ _ _ _ _ (fu + 1) (nI n) M = _
        simp only [m_copy_L121, if_pos (Int32.le_refl (nI n))]
      · intro fu k M hk hI
        have e1 : nI n - 1 - nI k = nI (n - 1 - k) := by rw [show (1 : Int32) = nI 1 from rfl, nI_sub (by omega), nI_sub (by omega)]
        have e2 : nI a + nI (n - 1 - k) = nI (a + (n - 1 - k)) := nI_add _ _
        have e3 : nI b + nI (n - 1 - k) = nI (b + (n - 1 - k)) := nI_add _ _
        refine ⟨cpB B (b + (n - (k + 1))) (b + n) b a, rfl, ?_⟩
        have e4 : wr M 22 (b + (n - 1 - k)) (M 22 (a + (n - 1 - k))) = cpB B (b + (n - (k + 1))) (b + n) b a := by
          have := cpB_dn (B := B) (lo := b + (n - 1 - k)) (hi := b + n) (d0 := b) (s0 := a) (by omega) (by omega) (by omega)
          rw [show b + (n - 1 - k) - b = n - 1 - k by omega, show b + (n - 1 - k) + 1 = b + (n - k) by omega, ← hI] at this
          rw [this]
          congr 1
          omega
        show m_copy_L121 _ _ _ _ _ _ _ (fu + 1) (nI k) M = m_copy_L121 _ _ _ _ _ _ _ fu (nI (k + 1)) _
        simp only [m_copy_L121, if_neg (nI_ge hk (show n < 2 ^ 31 by omega)), jp_s, if_neg (show ¬ (1 : Int32) = 0 by decide), e1, ea, eb, e2, e3, ck_n _ (show a + (n - 1 - k) < 160 by omega) (show 160 < 2 ^ 31 by omega), ck_n _ (show b + (n - 1 - k) < 160 by omega) (show 160 < 2 ^ 31 by omega), nI_cl (show a + (n - 1 - k) < 2 ^ 31 by omega), nI_cl (show b + (n - 1 - k) < 2 ^ 31 by omega), bnd_s, e4, nI_1]
      · funext c j
        rw [cpB_off (by omega)]
    obtain ⟨M', q1, q2⟩ := key
    rw [q2, q1]
  · rw [if_neg c] at hv
    subst hv
    have key : ∃ M', M' = cpB B b (b + n) b a ∧ m_copy_L121 (nI s1) (nI o1) (nI s3) (nI o3) (nI n) 0 j8 FU 0 B = j8 M' := by
      refine lp_FU (fun fu k M => m_copy_L121 (nI s1) (nI o1) (nI s3) (nI o3) (nI n) 0 j8 fu k M) j8 n (fun k M => M = cpB B b (b + k) b a) (by omega) ?_ ?_ (s := B) ?_
      · intro fu M hI
        show m_copy_L121 _ _ _ _ _ _ _ (fu + 1) (nI n) M = _
        simp only [m_copy_L121, if_pos (Int32.le_refl (nI n))]
      · intro fu k M hk hI
        have e2 : nI a + nI k = nI (a + k) := nI_add _ _
        have e3 : nI b + nI k = nI (b + k) := nI_add _ _
        refine ⟨cpB B b (b + (k + 1)) b a, rfl, ?_⟩
        have e4 : wr M 22 (b + k) (M 22 (a + k)) = cpB B b (b + (k + 1)) b a := by
          have := cpB_up (B := B) (lo := b) (hi := b + k) (d0 := b) (s0 := a) (Nat.le_refl _) (by omega) (by omega)
          rw [show b + k - b = k by omega, ← hI] at this
          exact this
        show m_copy_L121 _ _ _ _ _ _ _ (fu + 1) (nI k) M = m_copy_L121 _ _ _ _ _ _ _ fu (nI (k + 1)) _
        simp only [m_copy_L121, if_neg (nI_ge hk (show n < 2 ^ 31 by omega)), jp_s, if_true, ea, eb, e2, e3, ck_n _ (show a + k < 160 by omega) (show 160 < 2 ^ 31 by omega), ck_n _ (show b + k < 160 by omega) (show 160 < 2 ^ 31 by omega), nI_cl (show a + k < 2 ^ 31 by omega), nI_cl (show b + k < 2 ^ 31 by omega), bnd_s, e4, nI_1]
      · funext c j
        rw [cpB_off (by omega)]
    obtain ⟨M', q1, q2⟩ := key
    rw [q2, q1]
theorem sz_sub {sz : Nat} {a : Int32} (h : sz ≤ 40) (ha : 0 ≤ a.toInt) : (nI sz - a).toInt = (sz : Int) - a.toInt := by
  have h1 : (nI sz).toInt = (sz : Int) := i_nI (by omega)
  have h2 := Int32.toInt_lt a
  rw [Int32.toInt_sub, h1, Int.bmod_eq_of_le (by omega) (by omega)]
theorem hasRun_iff {A : Mem} {t sz : Nat} (a n : Int32) (hsz : sz ≤ 40) (h : A t 2 = nI sz) : ∃ z, f_Sheet_hasRun A t a n = some z ∧ (z = true ↔ 0 ≤ n.toInt ∧ 0 ≤ a.toInt ∧ a.toInt + n.toInt ≤ sz) := by
  have c0 : (0 : Int32).toInt = 0 := by decide
  unfold f_Sheet_hasRun
  rw [h]
  by_cases h1 : n < 0
  · refine ⟨false, by rw [if_pos h1], ?_⟩
    rw [i_lt, c0] at h1
    simp only [Bool.false_eq_true, false_iff]
    omega
  · rw [if_neg h1]
    rw [i_lt, c0] at h1
    by_cases h2 : nI sz < n
    · refine ⟨false, by rw [if_pos h2], ?_⟩
      rw [i_lt, i_nI (by omega)] at h2
      simp only [Bool.false_eq_true, false_iff]
      omega
    · rw [if_neg h2]
      rw [i_lt, i_nI (by omega)] at h2
      by_cases h3 : a < 0
      · refine ⟨false, by rw [if_pos h3], ?_⟩
        rw [i_lt, c0] at h3
        simp only [Bool.false_eq_true, false_iff]
        omega
      · rw [if_neg h3]
        rw [i_lt, c0] at h3
        by_cases h4 : nI sz - n < a
        · refine ⟨false, by rw [if_pos h4], ?_⟩
          rw [i_lt, sz_sub hsz (by omega)] at h4
          simp only [Bool.false_eq_true, false_iff]
          omega
        · refine ⟨true, by rw [if_neg h4], ?_⟩
          rw [i_lt, sz_sub hsz (by omega)] at h4
          simp only [true_iff]
          omega
theorem c_copy {A B : Mem} (h : Rel A B) (a1 a2 a3 a4 a5 : Int32) : Two (x_copy A a1 a2 a3 a4 a5) (m_copy B a1 a2 a3 a4 a5) := by
  have c0 : (0 : Int32).toInt = 0 := by decide
  unfold x_copy m_copy
  rcases sheet2 a1 with ⟨s, hs, rfl, s1, s2⟩ | ⟨s1, s2⟩
  · rcases sheet2 a3 with ⟨t, ht, rfl, t1, t2⟩ | ⟨t1, t2⟩
    · have hck : ∀ (x : Option (Mem × Int32)), ck (nI s) 4 x = x := fun x => ck_n x hs (by omega)
      have hct : ∀ (x : Option (Mem × Int32)), ck (nI t) 4 x = x := fun x => ck_n x ht (by omega)
      have hse : (nI s = nI t) = (s = t) := nI_eqI (by omega) (by omega)
      rw [s1, s2, obp_s, obp_s, oc_1, if_pos rfl, t1, t2, obp_s, obp_s, oc_1, if_pos rfl]
      simp only [hck, hct, nI_cl (show s < 2 ^ 31 by omega), nI_cl (show t < 2 ^ 31 by omega), hse]
      rcases miss2 (sheetR_of h hs) with ⟨m1, m2⟩ | ⟨m1, m2, so, sz, m3, m4, m5, m6, m7, m8, m9⟩
      · rw [m1, obp_s, if_pos rfl, if_pos m2]
        exact ⟨A, B, -11, rfl, rfl, h⟩
      · rw [m1, obp_s, if_neg (by decide), if_neg m2]
        rcases miss2 (sheetR_of h ht) with ⟨w1, w2⟩ | ⟨w1, w2, so', sz', w3, w4, w5, w6, w7, w8, w9⟩
        · rw [w1, obp_s, if_pos rfl, if_pos w2]
          exact ⟨A, B, -11, rfl, rfl, h⟩
        · rw [w1, obp_s, if_neg (by decide), if_neg w2, m5, m6, w5, w6]
          by_cases gs : nI so = nI so'
          · rw [if_pos gs, if_pos gs, m8, w8]
            obtain ⟨y, y1, y2⟩ := hasRun_iff a2 a5 m4 m7
            obtain ⟨x, x1, x2⟩ := hasRun_iff a4 a5 w4 w7
            rw [y1, obp_s, x1]
            by_cases g : (0 ≤ a5.toInt ∧ 0 ≤ a2.toInt ∧ a2.toInt + a5.toInt ≤ sz) ∧ (0 ≤ a5.toInt ∧ 0 ≤ a4.toInt ∧ a4.toInt + a5.toInt ≤ sz')
            · rw [if_pos (y2.mpr g.1), obp_s, if_pos (x2.mpr g.2)]
              obtain ⟨⟨g1, g2, g3⟩, -, g4, g5⟩ := g
              obtain ⟨n, n1, rfl, n3⟩ := i_ofnat (x := a5) (n := 40) g1 (by omega)
              obtain ⟨o1, p1, rfl, p3⟩ := i_ofnat (x := a2) (n := 40) g2 (by omega)
              obtain ⟨o3, q1, rfl, q3⟩ := i_ofnat (x := a4) (n := 40) g4 (by omega)
              obtain ⟨A1, hA1⟩ : ∃ A1 : Mem, A1 = wrA A (60 + 2 * t + 1) (va_cpy (A (60 + 2 * s + 1)) (A (60 + 2 * t + 1)) o1 o3 n) := ⟨_, rfl⟩
              have nA : ∀ c j, ¬ c = 60 + 2 * t + 1 → A1 c j = A c j := fun c j g => by rw [hA1]; exact congrFun (if_neg g) j
              have nA1 : ∀ j, A1 (60 + 2 * t + 1) j = va_cpy (A (60 + 2 * s + 1)) (A (60 + 2 * t + 1)) o1 o3 n j := fun j => by rw [hA1]; exact congrFun (if_pos rfl) j
              obtain ⟨v, hv⟩ : ∃ v : Int32, v = if s = t ∧ ¬ o3 ≤ o1 then 1 else 0 := ⟨_, rfl⟩
              have hL := copy_loop (B := B) (v := v) hs ht (o1 := o1) (o3 := o3) (n := n) (by omega) (by omega) hv (fun M7 => some (M7, nI n))
              obtain ⟨B1, hB1⟩ : ∃ B1, B1 = cpB B (40 * t + o3) (40 * t + o3 + n) (40 * t + o3) (40 * s + o1) := ⟨_, rfl⟩
              rw [← hB1] at hL
              refine ⟨A1, B1, nI n, ?_, ?_, ?_⟩
              · rw [nI_cl (by omega), nI_cl (by omega), nI_cl (by omega)]
                unfold rq
                rw [if_pos ⟨nI_pos (by omega), nI_pos (by omega), nI_pos (by omega), by omega, by omega⟩, bnd_s, ← hA1]
              · rw [if_neg (nI_pos (by omega)), if_neg (nI_pos (by omega)), if_neg (nI_pos (by omega)), nI_sub (by omega), nI_sub (by omega), if_neg (nI_nlt (by omega) (by omega)), if_pos (nI_le (by omega) (by omega))]
                simp only [jp_s]
                rw [← hL, hv]
                by_cases gst : s = t
                · rw [if_pos gst]
                  by_cases go : nI o3 ≤ nI o1
                  · have go' : o3 ≤ o1 := (nI_leI (by omega) (by omega)).mp go
                    rw [if_pos go, if_neg (fun q => q.2 go')]
                  · have go' : ¬ o3 ≤ o1 := fun q => go ((nI_leI (by omega) (by omega)).mpr q)
                    rw [if_neg go, if_pos ⟨gst, go'⟩]
                · rw [if_neg gst, if_neg (fun q => gst q.1)]
              · refine rel_sheet h ht (fun c j g => nA c j (fun q => g (by unfold pZ; omega))) (fun c j g => by rw [hB1]; exact cpB_off (fun q => g (by unfold pW; omega))) ?_
                rcases sheetR_of h ht with ⟨g1, g2⟩ | ⟨so2, z2, e1, e2, e3, e4, e5, e6, e7, e8⟩
                · exact absurd g2 w2
                · have ez : z2 = sz' := nI_inj (e6.symm.trans w7) (by omega) (by omega)
                  subst ez
                  have nB : ∀ c j, ¬ c = 22 → B1 c j = B c j := fun c j g => by rw [hB1]; exact cpB_off (fun q => g q.1)
                  refine Or.inr ⟨so2, z2, e1, e2, ?_, ?_, ?_, ?_, ?_, fun q hq => ?_⟩
                  · rw [nA _ _ (by omega)]; exact e3
                  · rw [nB _ _ (by omega)]; exact e4
                  · rw [nB _ _ (by omega)]; exact e5
                  · rw [nA _ _ (by omega)]; exact e6
                  · rw [nB _ _ (by omega)]; exact e7
                  · have e61 : ∀ u, 61 + 2 * u = 60 + 2 * u + 1 := fun u => by omega
                    rw [e61, nA1, hB1]
                    unfold va_cpy
                    by_cases r : o3 ≤ q ∧ q < o3 + n
                    · rw [if_pos r, cpB_at (by omega) (by omega)]
                      have := m9 (o1 + (q - o3)) (by omega)
                      rw [e61] at this
                      rw [this]
                      congr 1
                      omega
                    · rw [if_neg r, cpB_off (by omega)]
                      have := e8 q hq
                      rw [e61] at this
                      exact this
            · have gx : (if y = true then (ob (some x) fun (v17 : Bool) => if v17 = true then (rq (¬ a2 < 0 ∧ ¬ a4 < 0 ∧ ¬ a5 < 0 ∧ a2.toNatClampNeg + a5.toNatClampNeg ≤ 40 ∧ a4.toNatClampNeg + a5.toNatClampNeg ≤ 40) <| bnd (wrA A (60 + 2 * t + 1) (va_cpy (A (60 + 2 * s + 1)) (A (60 + 2 * t + 1)) a2.toNatClampNeg a4.toNatClampNeg a5.toNatClampNeg)) fun (M18 : Mem) => some (M18, a5)) else (some (A, (-12)))) else (some (A, (-12)))) = some (A, -12) := by
                by_cases gy : y = true
                · rw [if_pos gy, obp_s]
                  by_cases gx : x = true
                  · exact absurd ⟨y2.mp gy, x2.mp gx⟩ g
                  · rw [if_neg gx]
                · rw [if_neg gy]
              refine ⟨A, B, -12, gx, ?_, h⟩
              by_cases q1 : a5 < 0
              · rw [if_pos q1]
              · rw [if_neg q1]
                by_cases q2 : a2 < 0
                · rw [if_pos q2]
                · rw [if_neg q2]
                  by_cases q3 : a4 < 0
                  · rw [if_pos q3]
                  · rw [if_neg q3]
                    rw [i_lt, c0] at q1 q2 q3
                    by_cases q4 : nI sz - a5 < a2
                    · rw [if_pos q4]
                    · rw [if_neg q4]
                      rw [i_lt, sz_sub m4 (by omega)] at q4
                      rw [if_neg]
                      rw [i_le, sz_sub w4 (by omega)]
                      omega
          · rw [if_neg gs, if_neg gs]
            exact ⟨A, B, -13, rfl, rfl, h⟩
    · rw [s1, s2, obp_s, obp_s, oc_1, if_pos rfl, t1, t2, obp_s, obp_s, oc_0]
      exact ⟨A, B, -2, rfl, rfl, h⟩
  · rw [s1, s2, obp_s, obp_s, oc_0, if_neg (by decide)]
    rcases sheet2 a3 with ⟨t, ht, rfl, t1, t2⟩ | ⟨t1, t2⟩
    · rw [t1, obp_s, oc_1]
      exact ⟨A, B, -2, rfl, rfl, h⟩
    · rw [t1, obp_s, oc_0]
      exact ⟨A, B, -2, rfl, rfl, h⟩
