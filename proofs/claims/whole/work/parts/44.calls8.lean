/-! count, taken, wall, sheet, cell -/
theorem c_count {A B : Mem} (h : Rel A B) (a : Int32) : ∃ v, x_count A a = some v ∧ m_count B a = some v := by
  obtain ⟨n, tc, ⟨b1, b2, b3, b4, b5, b6, b7, ⟨r, b8, b9, b10⟩, b11, b12, b13, b14⟩, ⟨sz, t1, t2, t3, t4⟩, h3, h4, h5⟩ := id h
  have c0 : (0 : Int32).toInt = 0 := by decide
  have c9 : (9 : Int32).toInt = 9 := by decide
  obtain ⟨z, z1, z2⟩ := in_b (a := a) (lo := 0) (hi := 9) (lo' := 0) (hi' := 9) (by decide) (by decide)
  rw [c0, c9] at z2
  by_cases g : 0 ≤ a.toInt ∧ a.toInt ≤ 9
  · obtain ⟨k, k1, rfl, k3⟩ := i_ofnat (x := a) (n := 9) g.1 g.2
    match k, k1 with
    | 0, _ => exact ⟨nI n, congrArg some b2, congrArg some b3⟩
    | 1, _ => exact ⟨B 4 0, congrArg some (b12 0 (by omega)), rfl⟩
    | 2, _ => exact ⟨B 4 1, congrArg some (b12 1 (by omega)), rfl⟩
    | 3, _ => exact ⟨B 4 2, congrArg some (b12 2 (by omega)), rfl⟩
    | 4, _ => exact ⟨B 4 3, congrArg some (b12 3 (by omega)), rfl⟩
    | 5, _ => exact ⟨B 4 4, congrArg some (b12 4 (by omega)), rfl⟩
    | 6, _ => exact ⟨B 4 5, congrArg some (b12 5 (by omega)), rfl⟩
    | 7, _ => exact ⟨nI tc, congrArg some b6, congrArg some b7⟩
    | 8, _ => exact ⟨nI sz, congrArg some t2, congrArg some t3⟩
    | 9, _ => exact ⟨nI r, congrArg some b9, congrArg some b10⟩
  · have hn : ∀ v : Int32, 0 ≤ v.toInt → v.toInt ≤ 9 → ¬ a = v := fun v h1 h2 e => g (by rw [e]; exact ⟨h1, h2⟩)
    refine ⟨-2, ?_, ?_⟩
    · unfold x_count
      rw [if_neg (hn 0 (by decide) (by decide)), if_neg (hn 1 (by decide) (by decide)), if_neg (hn 2 (by decide) (by decide)), if_neg (hn 3 (by decide) (by decide)), if_neg (hn 4 (by decide) (by decide)), if_neg (hn 5 (by decide) (by decide)), if_neg (hn 6 (by decide) (by decide)), if_neg (hn 7 (by decide) (by decide)), if_neg (hn 8 (by decide) (by decide)), if_neg (hn 9 (by decide) (by decide))]
    · unfold m_count
      rw [z1, obp_s, if_neg (fun q => g (z2.mp q))]
theorem over_cl (v : Int32) : m_over v = some (if v = 0 then -1 else if v = 3 then 1 else if v = 4 then 2 else 0) := by
  unfold m_over
  by_cases h0 : v = 0
  · rw [if_pos h0, if_pos h0]
  · rw [if_neg h0, if_neg h0]
    by_cases h3 : v = 3
    · rw [if_pos h3, if_pos h3]
    · rw [if_neg h3, if_neg h3]
      by_cases h4 : v = 4
      · rw [if_pos h4, if_pos h4]
      · rw [if_neg h4, if_neg h4]
theorem taken_j (a : Int32) (j : Int32 → Option Int32) : ∀ fu v, m_taken_L33 a j fu v = ob (m_taken_L33 a (fun x => some x) fu v) j := by
  intro fu
  induction fu with
  | zero => intro v; rfl
  | succ fu ih =>
    intro v
    rw [m_taken_L33, m_taken_L33]
    by_cases h1 : v = -1
    · rw [if_pos h1, if_pos h1, obp_s]
    · rw [if_neg h1, if_neg h1]
      by_cases h2 : v = a
      · rw [if_pos h2, if_pos h2, obp_s]
      · rw [if_neg h2, if_neg h2, over_cl, obp_s, obp_s]
        exact ih _
theorem taken_fu (a b : Nat) : ∀ fu v r, m_taken_L33 (nI b) (fun x => some x) fu v = some r → ∀ d, m_taken_L33 (nI b) (fun x => some x) (fu + d) v = some r := by
  intro fu
  induction fu with
  | zero => intro v r h d; cases h
  | succ fu ih =>
    intro v r h d
    rw [Nat.add_right_comm, m_taken_L33]
    rw [m_taken_L33] at h
    by_cases h1 : v = -1
    · rw [if_pos h1] at h ⊢; exact h
    · rw [if_neg h1] at h ⊢
      by_cases h2 : v = nI b
      · rw [if_pos h2] at h ⊢; exact h
      · rw [if_neg h2, over_cl, obp_s] at h
        rw [if_neg h2, over_cl, obp_s]
        exact ih _ _ h d
theorem taken_tab : ∀ a, a < 6 → ∀ b, b < 6 → (f_Kind_isUnder (nI a) (nI b) = some true ∧ m_taken_L33 (nI b) (fun x => some x) 9 (nI a) = some (nI b)) ∨ (f_Kind_isUnder (nI a) (nI b) = some false ∧ m_taken_L33 (nI b) (fun x => some x) 9 (nI a) = some (-1)) := by decide
theorem c_taken {A B : Mem} (h : Rel A B) (a1 a2 : Int32) : ∃ v, x_taken A a1 a2 = some v ∧ m_taken B a1 a2 = some v := by
  obtain ⟨n, tc, ⟨b1, b2, b3, b4, b5, b6, b7, ⟨r, b8, b9, b10⟩, b11, b12, b13, b14⟩, -⟩ := id h
  have c0 : (0 : Int32).toInt = 0 := by decide
  have c5 : (5 : Int32).toInt = 5 := by decide
  have c6 : (6 : Int32).toInt = 6 := by decide
  obtain ⟨z, z1, z2⟩ := in_b (a := a2) (lo := 0) (hi := 5) (lo' := 0) (hi' := 5) (by decide) (by decide)
  rw [c0, c5] at z2
  obtain ⟨w, w1, w2, w3⟩ := has2 b1 b2 b3 a1
  by_cases g : 0 ≤ a2.toInt ∧ a2.toInt ≤ 5
  · obtain ⟨k, k1, rfl, k3⟩ := i_ofnat (x := a2) (n := 5) g.1 g.2
    have hk : x_isKind (nI k) = some true := by
      unfold x_isKind
      rw [if_neg (nI_pos (by omega)), if_neg (show ¬ (6 : Int32) ≤ nI k from nI_ge (b := 6) (by omega) (by omega))]
    unfold x_taken m_taken
    rw [hk, obp_s, if_pos rfl, z1, obp_s, if_pos (z2.mpr g), w1, w2, obp_s, obp_s]
    by_cases gw : w = true
    · obtain ⟨i, i1, rfl⟩ := w3.mp gw
      obtain ⟨d1, d2, d3, d4⟩ := b13 i i1
      obtain ⟨q, q1, q2, q3⟩ := i_ofnat (x := B 5 i) (n := 5) (b14.2 i i1).1.1 (b14.2 i i1).1.2
      have hck : ∀ x : Option Int32, ck (nI i) 6 x = x := fun x => ck_n x (by omega) (by omega)
      rw [if_pos gw, if_pos gw, hck, hck, nI_cl (by omega), bnd_s, jp_s, taken_j, d1, q2]
      rcases taken_tab q (by omega) k (by omega) with ⟨e1, e2⟩ | ⟨e1, e2⟩
      · have e3 := taken_fu 0 k 9 _ _ e2 (FU - 9)
        rw [show 9 + (FU - 9) = FU by unfold FU; omega] at e3
        rw [e1, e3, obp_s, obp_s, if_pos rfl, if_pos rfl, hck, hck, d2]
        exact ⟨_, rfl, rfl⟩
      · have e3 := taken_fu 0 k 9 _ _ e2 (FU - 9)
        rw [show 9 + (FU - 9) = FU by unfold FU; omega] at e3
        have : ¬ (-1 : Int32) = nI k := fun e => by
          have := (nI_neg1 (a := k) (by omega)); rw [e] at this; simp at this
        rw [e1, e3, obp_s, obp_s, if_neg (by decide), if_neg this]
        exact ⟨_, rfl, hck _⟩
    · rw [if_neg gw, if_neg gw]
      exact ⟨_, rfl, rfl⟩
  · refine ⟨-2, ?_, ?_⟩
    · unfold x_taken x_isKind
      by_cases q : a2 < 0
      · rw [if_pos q, obp_s, if_neg (by decide)]
      · rw [if_neg q]
        rw [i_lt, c0] at q
        rw [if_pos (by rw [i_le, c6]; omega), obp_s, if_neg (by decide)]
    · unfold m_taken
      rw [z1, obp_s, if_neg (fun q => g (z2.mp q))]
/-! wall -/
theorem wall_add {A B : Mem} {n tc : Nat} {a1 a2 a3 : Int32} (h : RelN A B n tc) (hn : n < 6) (h1 : 0 ≤ a1.toInt ∧ a1.toInt ≤ 5) (h2 : 0 ≤ a2.toInt ∧ a2.toInt ≤ 9) (h3 : 1 ≤ a3.toInt ∧ a3.toInt ≤ 20) :
    RelN (wr (wr (wr (wr (wr A 3 n a1) 4 n a2) 5 n a3) 6 n 0) 1 5 (nI (n + 1))) (wr (wr (wr (wr (wr B 5 n a1) 6 n a2) 7 n a3) 8 n 0) 0 12 (nI (n + 1))) (n + 1) tc := by
  obtain ⟨⟨b1, b2, b3, b4, b5, b6, b7, ⟨r, b8, b9, b10⟩, b11, b12, b13, b14, b15⟩, -⟩ := id h
  refine rel_site (r := r) h (((((same.rf.wr ?_).wr ?_).wr ?_).wr ?_).wr ?_) (((((same.rf.wr ?_).wr ?_).wr ?_).wr ?_).wr ?_) (by omega) (by omega) (wr_hit _ _ _ _) (wr_hit _ _ _ _) b8 ?_ ?_ (fun j hj => ?_) (fun i hi => ?_) ⟨?_, fun i hi => ?_⟩ (fun i hi => ?_)
  all_goals first | (unfold qA; omega) | (unfold qB; omega) | skip
  · simp [wr_at, b9]
  · simp [wr_at, b10]
  · simp [wr_at, b12 j hj]
  · by_cases g : i = n
    · subst g; simp [wr_at]
    · simp [wr_at, g, b13 i (by omega)]
  · simp [wr_at, b14]
  · by_cases g : i = n
    · subst g; simp [wr_at, h1, h2, h3]
    · simp [wr_at, g, b15 i (by omega)]
  · simp [wr_at, show ¬ i = n by omega]
def TwoW (A B : Mem) (f g : Option (Mem × Int32)) : Prop := ∃ A' B' v, f = some (A', v) ∧ g = some (B', v) ∧ Rel A' B' ∧ same qA A A' ∧ same qB B B'
theorem c_wallW {A B : Mem} (h : Rel A B) (a1 a2 a3 : Int32) : TwoW A B (x_wall A a1 a2 a3) (m_wall B a1 a2 a3) := by
  obtain ⟨n, tc, hR⟩ := h.n
  have hn6 := hR.1.1
  have c0 : (0 : Int32).toInt = 0 := by decide
  have c1 : (1 : Int32).toInt = 1 := by decide
  have c5 : (5 : Int32).toInt = 5 := by decide
  have c6 : (6 : Int32).toInt = 6 := by decide
  have c9 : (9 : Int32).toInt = 9 := by decide
  have c20 : (20 : Int32).toInt = 20 := by decide
  obtain ⟨z, z1, z2⟩ := in_b (a := a1) (lo := 0) (hi := 5) (lo' := 0) (hi' := 5) (by decide) (by decide)
  obtain ⟨y, y1, y2⟩ := in_b (a := a2) (lo := 0) (hi := 9) (lo' := 0) (hi' := 9) (by decide) (by decide)
  obtain ⟨x, x1, x2⟩ := in_b (a := a3) (lo := 1) (hi := 20) (lo' := 1) (hi' := 20) (by decide) (by decide)
  rw [c0, c5] at z2
  rw [c0, c9] at y2
  rw [c1, c20] at x2
  have k6 : ∀ (x : Option (Mem × Int32)), ck 6 9 x = x := fun x => ck_n (k := 6) x (by omega) (by omega)
  have k7 : ∀ (x : Option (Mem × Int32)), ck 7 9 x = x := fun x => ck_n (k := 7) x (by omega) (by omega)
  have e1 : tb 0 (6 : Int32).toNatClampNeg = 0 := by decide
  have e2 : tb 1 (6 : Int32).toNatClampNeg = 9 := by decide
  have e3 : tb 0 (7 : Int32).toNatClampNeg = 1 := by decide
  have e4 : tb 1 (7 : Int32).toNatClampNeg = 20 := by decide
  unfold x_wall x_isKind m_wall
  rw [z1, obp_s, k6, k6, k7, k7, e1, e2, e3, e4]
  by_cases g1 : 0 ≤ a1.toInt ∧ a1.toInt ≤ 5
  · rw [if_neg (by rw [i_lt, c0]; omega), if_neg (by rw [i_le, c6]; omega), obp_s, if_pos rfl, if_pos (z2.mpr g1), y1, obp_s]
    by_cases g2 : 0 ≤ a2.toInt ∧ a2.toInt ≤ 9
    · rw [if_neg (by rw [i_lt, c0]; omega), if_neg (by rw [i_lt, c9]; omega), if_pos (y2.mpr g2), x1, obp_s]
      by_cases g3 : 1 ≤ a3.toInt ∧ a3.toInt ≤ 20
      · rw [if_neg (by rw [i_lt, c1]; omega), if_pos (by rw [i_le, c20]; omega), if_pos (x2.mpr g3)]
        have eA := hR.1.2.1
        have eB := hR.1.2.2.1
        unfold f_Site_add
        by_cases gn : n = 6
        · rw [eA, eB, gn, if_neg (by decide), if_neg (by decide), if_pos (by decide), obp2_s]
          exact ⟨A, B, -4, rfl, rfl, h, same.rf, same.rf⟩
        · have n6 : ¬ nI n = (6 : Int32) := fun q => gn ((nI_eq (a := n) (b := 6) (by omega) (by omega)).mp q)
          have hck : ∀ x : Option (Mem × Int32), ck (nI n) 6 x = x := fun x => ck_n x (by omega) (by omega)
          have hs : nI (n + 1) - 1 = nI n := nI_pred n
          refine ⟨_, _, nI n, ?_, ?_, (wall_add hR (by omega) g1 g2 g3).rel, ((((same.rf.wr (by unfold qA; omega)).wr (by unfold qA; omega)).wr (by unfold qA; omega)).wr (by unfold qA; omega)).wr (by unfold qA; omega), ((((same.rf.wr (by unfold qB; omega)).wr (by unfold qB; omega)).wr (by unfold qB; omega)).wr (by unfold qB; omega)).wr (by unfold qB; omega)⟩
          · have f1 : wr A 3 n a1 1 5 = nI n := by simp [wr_at, eA]
            have f2 : wr (wr A 3 n a1) 4 n a2 1 5 = nI n := by simp [wr_at, eA]
            have f3 : wr (wr (wr A 3 n a1) 4 n a2) 5 n a3 1 5 = nI n := by simp [wr_at, eA]
            have f4 : wr (wr (wr (wr A 3 n a1) 4 n a2) 5 n a3) 6 n 0 1 5 = nI n := by simp [wr_at, eA]
            rw [eA, if_neg (nI_pos (by omega)), if_pos (show nI n < (6 : Int32) from nI_lt (b := 6) (by omega) (by omega))]
            simp only [hck, nI_cl (show n < 2 ^ 31 by omega), bnd_s, f1, f2, f3, f4, nI_1, wr_hit, hs, obp2_s]
          · have f1 : wr B 5 n a1 0 12 = nI n := by simp [wr_at, eB]
            have f2 : wr (wr B 5 n a1) 6 n a2 0 12 = nI n := by simp [wr_at, eB]
            have f3 : wr (wr (wr B 5 n a1) 6 n a2) 7 n a3 0 12 = nI n := by simp [wr_at, eB]
            have f4 : wr (wr (wr (wr B 5 n a1) 6 n a2) 7 n a3) 8 n 0 0 12 = nI n := by simp [wr_at, eB]
            rw [eB, if_neg n6]
            simp only [hck, nI_cl (show n < 2 ^ 31 by omega), bnd_s, f1, f2, f3, f4, nI_1, wr_hit, hs]
      · rw [if_neg (fun q => g3 (x2.mp q))]
        refine ⟨A, B, -2, ?_, rfl, h, same.rf, same.rf⟩
        by_cases q : a3 < 1
        · rw [if_pos q]
        · rw [if_neg q]
          rw [i_lt, c1] at q
          rw [if_neg (by rw [i_le, c20]; omega)]
    · rw [if_neg (fun q => g2 (y2.mp q))]
      refine ⟨A, B, -2, ?_, rfl, h, same.rf, same.rf⟩
      by_cases q : a2 < 0
      · rw [if_pos q]
      · rw [if_neg q]
        rw [i_lt, c0] at q
        rw [if_pos (by rw [i_lt, c9]; omega)]
  · rw [if_neg (fun q => g1 (z2.mp q))]
    refine ⟨A, B, -2, ?_, rfl, h, same.rf, same.rf⟩
    by_cases q : a1 < 0
    · rw [if_pos q, obp_s, if_neg (by decide)]
    · rw [if_neg q]
      rw [i_lt, c0] at q
      rw [if_pos (by rw [i_le, c6]; omega), obp_s, if_neg (by decide)]
theorem c_wall {A B : Mem} (h : Rel A B) (a1 a2 a3 : Int32) : Two (x_wall A a1 a2 a3) (m_wall B a1 a2 a3) := by
  obtain ⟨A', B', v, p1, p2, p3, -⟩ := c_wallW h a1 a2 a3
  exact ⟨A', B', v, p1, p2, p3⟩
