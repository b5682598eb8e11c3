/-! back, copy, walls -/
theorem c_back {A B : Mem} (h : Rel A B) : Two (x_back A) (m_back B) := by
  obtain ⟨n, tc, ⟨b1, b2, b3, b4, b5, b6, b7, ⟨r, b8, b9, b10⟩, b11, b12, b13, b14, b15⟩, hT, h3, h4, h5⟩ := id h
  unfold x_back m_back
  rcases id h5 with ⟨g1, g2⟩ | ⟨g1, k, w, g2, g3, g4, g5, g6, g7, g8, g9, g10⟩
  · rw [if_pos g1, if_pos g2]
    exact ⟨A, B, -3, rfl, rfl, h⟩
  · have nm : ¬ B 0 47 = -1 := by rw [g5, nI_neg1 (by omega)]; exact id
    rw [if_neg (by rw [g1]; decide), if_neg nm]
    obtain ⟨A1, p1, p2, p3, p4, p5⟩ := site_become (t := 1) (t1 := 7) (by omega) A
    have k1 : ∀ j : Mem → Option (Mem × Int32), ∃ M', (same (fun c _ => c = 4) B M' ∧ ∀ i, i < 6 → M' 4 i = B 17 i) ∧ m_back_L13 j FU 0 B = j M' := fun j => by
      refine lp_FU (fun fu k M => m_back_L13 j fu k M) j 6 (fun k M => same (fun c _ => c = 4) B M ∧ ∀ i, i < k → M 4 i = B 17 i) (by omega) ?_ ?_ (s := B) ⟨same.rf, fun i hi => by omega⟩
      · intro fu M hI
        show m_back_L13 _ (fu + 1) (nI 6) M = _
        simp only [m_back_L13, if_pos (show (6 : Int32) ≤ nI 6 by decide)]
      · intro fu k M hk hI
        obtain ⟨hs, hv⟩ := hI
        refine ⟨wr M 4 k (M 17 k), ⟨hs.wr rfl, fun i hi => ?_⟩, ?_⟩
        · rw [wr_at]
          by_cases hik : i = k
          · rw [if_pos ⟨rfl, hik⟩, hik]; exact hs _ _ (by omega)
          · rw [if_neg (fun h => hik h.2)]; exact hv i (by omega)
        · show m_back_L13 _ (fu + 1) (nI k) M = m_back_L13 _ fu (nI (k + 1)) _
          simp only [m_back_L13, if_neg (show ¬ (6 : Int32) ≤ nI k from nI_ge (b := 6) hk (by omega)), ck_n _ hk (show 6 < 2 ^ 31 by omega), nI_cl (show k < 2 ^ 31 by omega), bnd_s, nI_1]
    have k2 : ∀ (M0 : Mem) (j : Mem → Option (Mem × Int32)), ∃ M', (same (fun c _ => 6 ≤ c ∧ c ≤ 8) M0 M' ∧ ∀ i, i < 6 → M' 6 i = M0 18 i ∧ M' 7 i = M0 18 (6 + i) ∧ M' 8 i = M0 18 (12 + i)) ∧ m_back_L39 j FU 0 M0 = j M' := fun M0 j => by
      refine lp_FU (fun fu k M => m_back_L39 j fu k M) j 6 (fun k M => same (fun c _ => 6 ≤ c ∧ c ≤ 8) M0 M ∧ ∀ i, i < k → M 6 i = M0 18 i ∧ M 7 i = M0 18 (6 + i) ∧ M 8 i = M0 18 (12 + i)) (by omega) ?_ ?_ (s := M0) ⟨same.rf, fun i hi => by omega⟩
      · intro fu M hI
        show m_back_L39 _ (fu + 1) (nI 6) M = _
        simp only [m_back_L39, if_pos (show (6 : Int32) ≤ nI 6 by decide)]
      · intro fu k M hk hI
        obtain ⟨hs, hv⟩ := hI
        have e6 : (6 : Int32) + nI k = nI (6 + k) := nI_add 6 k
        have e12 : (12 : Int32) + nI k = nI (12 + k) := nI_add 12 k
        refine ⟨wr (wr (wr M 6 k (M0 18 k)) 7 k (M0 18 (6 + k))) 8 k (M0 18 (12 + k)), ⟨((hs.wr (by omega)).wr (by omega)).wr (by omega), fun i hi => ?_⟩, ?_⟩
        · by_cases hik : i = k
          · subst hik
            simp [wr_at]
          · obtain ⟨v1, v2, v3⟩ := hv i (by omega)
            simp [wr_at, hik, v1, v2, v3]
        · have u1 : M 18 k = M0 18 k := hs _ _ (by omega)
          have u2 : wr M 6 k (M0 18 k) 18 (6 + k) = M0 18 (6 + k) := by rw [wr_off _ _ _ _ _ _ (by omega)]; exact hs _ _ (by omega)
          have u3 : wr (wr M 6 k (M0 18 k)) 7 k (M0 18 (6 + k)) 18 (12 + k) = M0 18 (12 + k) := by rw [wr_off _ _ _ _ _ _ (by omega), wr_off _ _ _ _ _ _ (by omega)]; exact hs _ _ (by omega)
          show m_back_L39 _ (fu + 1) (nI k) M = m_back_L39 _ fu (nI (k + 1)) _
          simp only [m_back_L39, if_neg (show ¬ (6 : Int32) ≤ nI k from nI_ge (b := 6) hk (by omega)), ck_n _ hk (show 6 < 2 ^ 31 by omega), e6, e12, ck_n _ (show k < 18 by omega) (show 18 < 2 ^ 31 by omega), ck_n _ (show 6 + k < 18 by omega) (show 18 < 2 ^ 31 by omega), ck_n _ (show 12 + k < 18 by omega) (show 18 < 2 ^ 31 by omega), nI_cl (show k < 2 ^ 31 by omega), nI_cl (show 6 + k < 2 ^ 31 by omega), nI_cl (show 12 + k < 2 ^ 31 by omega), bnd_s, u1, u2, u3, nI_1]
    obtain ⟨B1, ⟨q1, q2⟩, q3⟩ := k1 (fun (M1 : Mem) => jp (fun (M3 : Mem) => bnd (wr M3 0 12 (M3 0 47)) fun (M5 : Mem) => bnd (wr M5 0 4 (M5 0 48)) fun (M6 : Mem) => some (M6, (M6 0 12))) fun j4 => m_back_L39 j4 FU 0 M1)
    obtain ⟨B2, ⟨r1, r2⟩, r3⟩ := k2 B1 (fun (M3 : Mem) => bnd (wr M3 0 12 (M3 0 47)) fun (M5 : Mem) => bnd (wr M5 0 4 (M5 0 48)) fun (M6 : Mem) => some (M6, (M6 0 12)))
    have e47 : B2 0 47 = nI k := by rw [r1 _ _ (by omega), q1 _ _ (by omega)]; exact g5
    have e48 : B2 0 48 = nI w := by rw [r1 _ _ (by omega), q1 _ _ (by omega)]; exact g7
    obtain ⟨B3, hB3⟩ : ∃ B3 : Mem, B3 = wr (wr B2 0 12 (nI k)) 0 4 (nI w) := ⟨_, rfl⟩
    have hA : same qA A A1 := p2.mono (fun c j g => by unfold pK at g; unfold qA; omega)
    have hB : same qB B B3 := by
      rw [hB3]
      exact (q1.mono (fun c j g => by unfold qB; omega)).trans ((r1.mono (fun c j g => by unfold qB; omega)).trans ((same.rf.wr (by unfold qB; omega)).wr (by unfold qB; omega)))
    have f : ∀ c j, ¬ c = 0 → B3 c j = B2 c j := fun c j hc => by rw [hB3, wr_off _ _ _ _ _ _ (by omega), wr_off _ _ _ _ _ _ (by omega)]
    have d4 : ∀ j, j < 6 → B3 4 j = B 17 j := fun j hj => by rw [f _ _ (by omega), r1 _ _ (by omega), q2 j hj]
    have d5 : ∀ j, B3 5 j = B 5 j := fun j => by rw [f _ _ (by omega), r1 _ _ (by omega), q1 _ _ (by omega)]
    have d678 : ∀ j, j < 6 → B3 6 j = B 18 j ∧ B3 7 j = B 18 (6 + j) ∧ B3 8 j = B 18 (12 + j) := fun j hj => by
      obtain ⟨y1, y2, y3⟩ := r2 j hj
      rw [f 6 _ (by omega), f 7 _ (by omega), f 8 _ (by omega), y1, y2, y3, q1 _ _ (by omega), q1 _ _ (by omega), q1 _ _ (by omega)]
      exact ⟨rfl, rfl, rfl⟩
    obtain ⟨r1', r2', r3'⟩ := rest_site hA hB hT h3 h4
    refine ⟨A1, B3, nI k, ?_, ?_, k, tc, ⟨by omega, ?_, ?_, b4, b5, ?_, ?_, ⟨w, g3, ?_, ?_⟩, fun t ht => ?_, fun j hj => ?_, fun i hi => ?_, ?_, fun i hi => ?_⟩, r1', r2', r3', Or.inr ⟨?_, k, w, Nat.le_refl _, g3, ?_, ?_, ?_, ?_, fun j hj => ?_, ?_, fun i hi => ?_⟩⟩
    · rw [p1, obp_s, p3, g4]
    · rw [jp_s]
      refine Eq.trans q3 ?_
      show jp _ _ = _
      rw [jp_s]
      refine Eq.trans r3 ?_
      have e48' : wr B2 0 12 (nI k) 0 48 = nI w := by rw [wr_off _ _ _ _ _ _ (by omega)]; exact e48
      have e12' : B3 0 12 = nI k := by rw [hB3, wr_off _ _ _ _ _ _ (by omega), wr_hit]
      rw [e47, bnd_s, e48', bnd_s, ← hB3, e12']
    · rw [p3]; exact g4
    · rw [hB3, wr_off _ _ _ _ _ _ (by omega), wr_hit]
    · rw [hA _ _ (by unfold qA; omega)]; exact b6
    · rw [hB _ _ (by unfold qB; omega)]; exact b7
    · rw [p4]; exact g6
    · rw [hB3, wr_hit]
    · exact (b11 t ht).keep (fun j => hA _ _ (by unfold qA; omega)) (fun j => hA _ _ (by unfold qA; omega)) (fun j => hB _ _ (by unfold qB; omega)) (hB _ _ (by unfold qB; omega))
    · rw [(p5 j hj).1, d4 j hj]; exact g8 j hj
    · obtain ⟨-, x2, x3, x4, x5⟩ := p5 i (by omega)
      obtain ⟨o1, o2, o3, o4, -⟩ := g10 i hi
      obtain ⟨y1, y2, y3⟩ := d678 i (by omega)
      rw [x2, x3, x4, x5, o1, o2, o3, o4, d5, y1, y2, y3]
      exact ⟨(b13 i (by omega)).1, rfl, rfl, rfl⟩
    · rw [d4 3 (by omega)]; exact g9
    · obtain ⟨y1, y2, y3⟩ := d678 i (by omega)
      rw [d5, y1, y2, y3]
      exact ⟨(b15 i (by omega)).1, (g10 i hi).2.2.2.2⟩
    · rw [hA _ _ (by unfold qA; omega)]; exact g1
    · rw [hA _ _ (by unfold qA; omega)]; exact g4
    · rw [hB _ _ (by unfold qB; omega)]; exact g5
    · rw [hA _ _ (by unfold qA; omega)]; exact g6
    · rw [hB _ _ (by unfold qB; omega)]; exact g7
    · rw [hA _ _ (by unfold qA; omega), hB _ _ (by unfold qB; omega)]; exact g8 j hj
    · rw [hB _ _ (by unfold qB; omega)]; exact g9
    · obtain ⟨-, x2, x3, x4, x5⟩ := p5 i (by omega)
      rw [hA 9 _ (by unfold qA; omega), hA 10 _ (by unfold qA; omega), hA 11 _ (by unfold qA; omega), hA 12 _ (by unfold qA; omega), hB 18 _ (by unfold qB; omega), hB 18 _ (by unfold qB; omega), hB 18 _ (by unfold qB; omega), x2]
      exact ⟨rfl, (g10 i hi).2⟩
/-! ### copy -/
def cpB (B : Mem) (lo hi d0 s0 : Nat) : Mem := fun c j => if c = 22 ∧ lo ≤ j ∧ j < hi then B 22 (s0 + (j - d0)) else B c j
theorem cpB_at {B : Mem} {lo hi d0 s0 j : Nat} (h1 : lo ≤ j) (h2 : j < hi) : cpB B lo hi d0 s0 22 j = B 22 (s0 + (j - d0)) := if_pos ⟨rfl, h1, h2⟩
theorem cpB_off {B : Mem} {lo hi d0 s0 c j : Nat} (h : ¬ (c = 22 ∧ lo ≤ j ∧ j < hi)) : cpB B lo hi d0 s0 c j = B c j := if_neg h
theorem cpB_up {B : Mem} {lo hi d0 s0 : Nat} (h1 : d0 ≤ lo) (h2 : lo ≤ hi) (h : ¬ (lo ≤ s0 + (hi - d0) ∧ s0 + (hi - d0) < hi)) : wr (cpB B lo hi d0 s0) 22 hi (cpB B lo hi d0 s0 22 (s0 + (hi - d0))) = cpB B lo (hi + 1) d0 s0 := by
  funext c j
  rw [cpB_off (fun q => h ⟨q.2.1, q.2.2⟩), wr_at]
  by_cases g : c = 22 ∧ j = hi
  · obtain ⟨rfl, rfl⟩ := g
    rw [if_pos ⟨rfl, rfl⟩, cpB_at h2 (by omega)]
  · rw [if_neg g]
    unfold cpB
    by_cases q : c = 22 ∧ lo ≤ j ∧ j < hi
    · rw [if_pos q, if_pos (by omega)]
    · rw [if_neg q, if_neg (by omega)]
theorem cpB_dn {B : Mem} {lo hi d0 s0 : Nat} (h1 : d0 ≤ lo) (h2 : lo + 1 ≤ hi) (h : ¬ (lo + 1 ≤ s0 + (lo - d0) ∧ s0 + (lo - d0) < hi)) : wr (cpB B (lo + 1) hi d0 s0) 22 lo (cpB B (lo + 1) hi d0 s0 22 (s0 + (lo - d0))) = cpB B lo hi d0 s0 := by
  funext c j
  rw [cpB_off (fun q => h ⟨q.2.1, q.2.2⟩), wr_at]
  by_cases g : c = 22 ∧ j = lo
  · obtain ⟨rfl, rfl⟩ := g
    rw [if_pos ⟨rfl, rfl⟩, cpB_at (Nat.le_refl _) (by omega)]
  · rw [if_neg g]
    unfold cpB
    by_cases q : c = 22 ∧ lo + 1 ≤ j ∧ j < hi
    · rw [if_pos q, if_pos (by omega)]
    · rw [if_neg q, if_neg (by omega)]
