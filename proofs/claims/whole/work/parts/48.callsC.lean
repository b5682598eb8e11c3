theorem walls_loop {s so sz : Nat} {a3 : Int32} {n : Nat} (hs : s < 4) (hso : so < 3) (hsz : sz ≤ 40) (hn : n ≤ 6) (j8 : Int32 → Mem → Option (Mem × Int32)) (j11 : Int32 → Mem → Option (Mem × Int32)) (hj : ∀ A B v, Rel A B → Two (j8 v A) (j11 v B)) :
    ∀ fu1 fu2 k A B v, Rel A B → A (60 + 2 * s) 1 = nI so → A (60 + 2 * s) 2 = nI sz → B 21 s = nI sz → B 19 s = 1 → (0 < k → 0 ≤ a3.toInt) → k ≤ n → n < fu1 + k → n < fu2 + k →
      Two (x_walls_L65 a3 (nI n) (60 + 2 * s) j8 fu1 v (nI k) A) (m_walls_L75 (nI s) a3 (nI n) j11 fu2 v (nI k) B) := by
  have c0 : (0 : Int32).toInt = 0 := by decide
  have c3 : (3 : Int32).toInt = 3 := by decide
  intro fu1
  induction fu1 with
  | zero => intro fu2 k A B v hR h1 h2 h3 h4 h5 h6 h7; omega
  | succ fu1 ih =>
    intro fu2 k A B v hR h1 h2 h3 h4 h5 h6 h7 h8
    obtain ⟨fu2, rfl⟩ : ∃ f, fu2 = f + 1 := ⟨fu2 - 1, by omega⟩
    rw [x_walls_L65, m_walls_L75]
    by_cases hk : k = n
    · subst hk
      rw [if_pos (Int32.le_refl (nI k)), if_pos (Int32.le_refl (nI k))]
      exact hj A B v hR
    · have hck : ∀ (x : Option (Mem × Int32)), ck (nI s) 4 x = x := fun x => ck_n x hs (by omega)
      have hcl : (nI s).toNatClampNeg = s := nI_cl (by omega)
      rw [if_neg (nI_ge (show k < n by omega) (by omega)), if_neg (nI_ge (show k < n by omega) (by omega)), bnd_s, hck, hcl, h3]
      have e3k : (3 : Int32) * nI k = nI (3 * k) := by rw [show (3 : Int32) = nI 3 from rfl, nI_mul]
      rw [e3k]
      obtain ⟨z, z1, z2⟩ := hasRun_iff (A := A) (t := 60 + 2 * s) (a3 + nI (3 * k)) 3 hsz h2
      rw [c3] at z2
      rw [z1, obp_s]
      have er : (nI sz - nI (3 * k) - 3).toInt = (sz : Int) - 3 * k - 3 := by
        have d1 : (nI sz - nI (3 * k)).toInt = (sz : Int) - 3 * k := by
          rw [sz_sub hsz (by rw [i_nI (by omega)]; omega), i_nI (by omega)]; omega
        rw [Int32.toInt_sub, d1, c3, Int.bmod_eq_of_le (by omega) (by omega)]
      by_cases g0 : a3 < 0
      · rw [if_pos g0]
        rw [i_lt, c0] at g0
        have k0 : k = 0 := by omega
        subst k0
        have e0 : a3 + nI (3 * 0) = a3 := Int32.add_zero a3
        have hz : ¬ z = true := fun q => by
          have := (z2.mp q).2.1
          rw [e0] at this
          omega
        rw [if_neg hz]
        exact ⟨A, B, -12, rfl, rfl, hR⟩
      · rw [if_neg g0]
        rw [i_lt, c0] at g0
        by_cases g1 : a3 ≤ nI sz - nI (3 * k) - 3
        · rw [if_pos g1]
          rw [i_le, er] at g1
          obtain ⟨o, o1, rfl, o3⟩ := i_ofnat (x := a3) (n := 40) (by omega) (by omega)
          have ev : nI o + nI (3 * k) = nI (o + 3 * k) := nI_add _ _
          have hz : z = true := z2.mpr (by rw [ev, i_nI (by omega)]; omega)
          have e40 : (40 : Int32) * nI s + nI o + nI (3 * k) = nI (40 * s + o + 3 * k) := by rw [show (40 : Int32) = nI 40 from rfl, nI_mul, nI_add, nI_add]
          have ea1 : nI (o + 3 * k) + 1 = nI (o + 3 * k + 1) := nI_1 _
          have ea2 : nI (o + 3 * k) + 2 = nI (o + 3 * k + 2) := nI_add _ 2
          have eb1 : nI (40 * s + o + 3 * k) + 1 = nI (40 * s + o + 3 * k + 1) := nI_1 _
          have eb2 : nI (40 * s + o + 3 * k) + 2 = nI (40 * s + o + 3 * k + 2) := nI_add _ 2
          have hF : ∀ i, i < sz → A (60 + 2 * s + 1) i = B 22 (40 * s + i) := fun i hi => by
            rcases sheetR_of hR hs with ⟨q1, q2⟩ | ⟨so2, z2, q1, q2, q3, q4, q5, q6, q7, q8⟩
            · rw [h4] at q2; exact absurd q2 (by decide)
            · have ez : z2 = sz := nI_inj (q6.symm.trans h2) (by omega) (by omega)
              subst ez
              rw [← q8 i hi]
              congr 1
              omega
          have u0 : A (60 + 2 * s + 1) (o + 3 * k) = B 22 (40 * s + o + 3 * k) := by rw [hF _ (by omega)]; congr 1; omega
          have u1 : A (60 + 2 * s + 1) (o + 3 * k + 1) = B 22 (40 * s + o + 3 * k + 1) := by rw [hF _ (by omega)]; congr 1; omega
          have u2 : A (60 + 2 * s + 1) (o + 3 * k + 2) = B 22 (40 * s + o + 3 * k + 2) := by rw [hF _ (by omega)]; congr 1; omega
          rw [if_pos hz, ev, e40, ea1, ea2, bnd_s, eb1, eb2, ck_n _ (show o + 3 * k < 40 by omega) (by omega), ck_n _ (show o + 3 * k + 1 < 40 by omega) (by omega), ck_n _ (show o + 3 * k + 2 < 40 by omega) (by omega), ck_n _ (show 40 * s + o + 3 * k < 160 by omega) (by omega), ck_n _ (show 40 * s + o + 3 * k + 1 < 160 by omega) (by omega), ck_n _ (show 40 * s + o + 3 * k + 2 < 160 by omega) (by omega), nI_cl (by omega), nI_cl (by omega), nI_cl (by omega), nI_cl (by omega), nI_cl (by omega), nI_cl (by omega), u0, u1, u2]
          obtain ⟨A', B', w, p1, p2, p3, p4, p5⟩ := c_wallW hR (B 22 (40 * s + o + 3 * k)) (B 22 (40 * s + o + 3 * k + 1)) (B 22 (40 * s + o + 3 * k + 2))
          rw [p1, p2, obp2_s, obp2_s, jp_s]
          have ih' : ∀ v', Two (x_walls_L65 (nI o) (nI n) (60 + 2 * s) j8 fu1 v' (nI (k + 1)) A') (m_walls_L75 (nI s) (nI o) (nI n) j11 fu2 v' (nI (k + 1)) B') := fun v' =>
            ih fu2 (k + 1) A' B' v' p3 (by rw [p4 _ _ (by unfold qA; omega)]; exact h1) (by rw [p4 _ _ (by unfold qA; omega)]; exact h2) (by rw [p5 _ _ (by unfold qB; omega)]; exact h3) (by rw [p5 _ _ (by unfold qB; omega)]; exact h4) (fun _ => by omega) (by omega) (by omega) (by omega)
          by_cases gw : w < 0
          · rw [if_pos gw, if_pos gw, bnd_s, nI_1]
            simp only [bnd_s, Int32.add_zero, nI_1]
            exact ih' v
          · rw [if_neg gw, if_neg gw, bnd_s, bnd_s, nI_1]
            simp only [bnd_s, nI_1]
            exact ih' (v + 1)
        · rw [if_neg g1]
          rw [i_le, er] at g1
          have hz : ¬ z = true := fun q => by
            obtain ⟨-, r1, r2⟩ := z2.mp q
            by_cases hbig : a3.toInt ≤ 1000
            · have : (a3 + nI (3 * k)).toInt = a3.toInt + 3 * k := by
                rw [Int32.toInt_add, i_nI (by omega), Int.bmod_eq_of_le (by omega) (by omega)]; omega
              omega
            · have hlt := Int32.toInt_lt a3
              have e : (a3 + nI (3 * k)).toInt = a3.toInt + 3 * k ∨ (a3 + nI (3 * k)).toInt < 0 := by
                rw [Int32.toInt_add, i_nI (by omega)]
                by_cases q : a3.toInt + (3 * k : Nat) < 2147483648
                · left; rw [Int.bmod_eq_of_le (by omega) (by omega)]; omega
                · right
                  have := Int.bmod_def (a3.toInt + (3 * k : Nat)) (2 ^ 32)
                  omega
              omega
          rw [if_neg hz]
          exact ⟨A, B, -12, rfl, rfl, hR⟩
theorem c_walls {A B : Mem} (h : Rel A B) (a1 a2 a3 a4 : Int32) : Two (x_walls A a1 a2 a3 a4) (m_walls B a1 a2 a3 a4) := by
  have c0 : (0 : Int32).toInt = 0 := by decide
  have c2 : (2 : Int32).toInt = 2 := by decide
  have c3 : (3 : Int32).toInt = 3 := by decide
  have c6 : (6 : Int32).toInt = 6 := by decide
  unfold x_walls m_walls
  rcases sheet2 a1 with ⟨s, hs, rfl, s1, s2⟩ | ⟨s1, s2⟩
  · have hck : ∀ (x : Option (Mem × Int32)), ck (nI s) 4 x = x := fun x => ck_n x hs (by omega)
    obtain ⟨z, z1, z2⟩ := in_b (a := a2) (lo := 0) (hi := 2) (lo' := 0) (hi' := 2) (by decide) (by decide)
    obtain ⟨y, y1, y2⟩ := in_b (a := a4) (lo := 0) (hi := 6) (lo' := 0) (hi' := 6) (by decide) (by decide)
    rw [c0, c2] at z2
    rw [c0, c6] at y2
    rw [s1, s2, obp_s, obp_s, oc_1, if_pos rfl, z1, obp_s]
    by_cases g : 0 ≤ a2.toInt ∧ a2.toInt ≤ 2
    · rw [if_neg (by rw [i_lt, c0]; omega), if_neg (by rw [i_le, c3]; omega), if_pos (z2.mpr g), y1, obp_s]
      by_cases g4 : 0 ≤ a4.toInt ∧ a4.toInt ≤ 6
      · rw [if_neg (by rw [i_lt, c0]; omega), if_pos (by rw [i_le, c6]; omega), if_pos (y2.mpr g4)]
        simp only [hck, nI_cl (show s < 2 ^ 31 by omega)]
        rcases miss2 (sheetR_of h hs) with ⟨m1, m2⟩ | ⟨m1, m2, so, sz, m3, m4, m5, m6, m7, m8, m9⟩
        · rw [m1, obp_s, if_pos rfl]
          simp only [jp_s, if_pos m2]
          exact ⟨A, B, -11, rfl, rfl, h⟩
        · rw [m1, obp_s, if_neg (by decide), m5, m6]
          simp only [jp_s, if_neg m2]
          by_cases gs : nI so = a2
          · rw [if_pos gs, if_pos gs]
            obtain ⟨n, n1, rfl, n3⟩ := i_ofnat (x := a4) (n := 6) g4.1 g4.2
            have h19 : B 19 s = 1 := by
              rcases sheetR_of h hs with ⟨q1, q2⟩ | ⟨so2, z2, q1, q2, q3, q4, q5, q6, q7, q8⟩
              · exact absurd q2 m2
              · exact q5
            exact walls_loop hs m3 m4 n1 _ _ (fun A' B' v hR => ⟨A', B', v, rfl, rfl, hR⟩) FU FU 0 A B 0 h m5 m7 m8 h19 (fun q => by omega) (by omega) (by unfold FU; omega) (by unfold FU; omega)
          · rw [if_neg gs, if_neg gs]
            exact ⟨A, B, -13, rfl, rfl, h⟩
      · rw [if_neg (fun q => g4 (y2.mp q))]
        refine ⟨A, B, -2, ?_, rfl, h⟩
        by_cases q : a4 < 0
        · rw [if_pos q]
        · rw [if_neg q]
          rw [i_lt, c0] at q
          rw [if_neg (by rw [i_le, c6]; omega)]
    · rw [if_neg (fun q => g (z2.mp q))]
      refine ⟨A, B, -2, ?_, rfl, h⟩
      by_cases q : a2 < 0
      · rw [if_pos q]
      · rw [if_neg q]
        rw [i_lt, c0] at q
        rw [if_pos (by rw [i_le, c3]; omega)]
  · rw [s1, s2, obp_s, obp_s, oc_0, if_neg (by decide)]
    exact ⟨A, B, -2, rfl, rfl, h⟩
