/-! text -/
theorem text_become {t t1 : Nat} (hne : t + 2 < t1 ∨ t1 + 2 < t) (M0 : Mem) : ∃ M', f_Text_become M0 t t1 = some M' ∧ same (fun c _ => c = t ∨ c = t + 1 ∨ c = t + 2) M0 M' ∧ (∀ i, i < 160 → M' (t + 1) i = M0 (t1 + 1) i) ∧ ∀ i, i < 4 → M' (t + 2) i = M0 (t1 + 2) i := by
  have k1 : ∀ j : Mem → Option Mem, ∃ M', (same (fun c _ => c = t + 1) M0 M' ∧ ∀ i, i < 160 → M' (t + 1) i = M0 (t1 + 1) i) ∧ f_Text_become_L2 t t1 j FU 0 M0 = j M' := fun j => by
    refine lp_FU (fun fu k M => f_Text_become_L2 t t1 j fu k M) j 160 (fun k M => same (fun c _ => c = t + 1) M0 M ∧ ∀ i, i < k → M (t + 1) i = M0 (t1 + 1) i) (by omega) ?_ ?_ (s := M0) ⟨same.rf, fun i hi => by omega⟩
    · intro fu M hI
      show f_Text_become_L2 t t1 _ (fu + 1) (nI 160) M = _
      simp only [f_Text_become_L2, if_pos (show (160 : Int32) ≤ nI 160 by decide)]
    · intro fu k M hk hI
      obtain ⟨hs, hv⟩ := hI
      refine ⟨wr M (t + 1) k (M (t1 + 1) k), ⟨hs.wr rfl, fun i hi => ?_⟩, ?_⟩
      · rw [wr_at]
        by_cases hik : i = k
        · rw [if_pos ⟨rfl, hik⟩, hik]; exact hs _ _ (by omega)
        · rw [if_neg (fun h => hik h.2)]; exact hv i (by omega)
      · show f_Text_become_L2 t t1 _ (fu + 1) (nI k) M = f_Text_become_L2 t t1 _ fu (nI (k + 1)) _
        simp only [f_Text_become_L2, if_neg (show ¬ (160 : Int32) ≤ nI k from nI_ge (b := 160) hk (by omega)), ck_n _ hk (show 160 < 2 ^ 31 by omega), nI_cl (show k < 2 ^ 31 by omega), bnd_s, nI_1]
  have k2 : ∀ (M0 : Mem) (j : Mem → Option Mem), ∃ M', (same (fun c _ => c = t + 2) M0 M' ∧ ∀ i, i < 4 → M' (t + 2) i = M0 (t1 + 2) i) ∧ f_Text_become_L29 t t1 j FU 0 M0 = j M' := fun M0 j => by
    refine lp_FU (fun fu k M => f_Text_become_L29 t t1 j fu k M) j 4 (fun k M => same (fun c _ => c = t + 2) M0 M ∧ ∀ i, i < k → M (t + 2) i = M0 (t1 + 2) i) (by omega) ?_ ?_ (s := M0) ⟨same.rf, fun i hi => by omega⟩
    · intro fu M hI
      show f_Text_become_L29 t t1 _ (fu + 1) (nI 4) M = _
      simp only [f_Text_become_L29, if_pos (show (3 : Int32) < nI 4 by decide)]
    · intro fu k M hk hI
      obtain ⟨hs, hv⟩ := hI
      refine ⟨wr M (t + 2) k (M (t1 + 2) k), ⟨hs.wr rfl, fun i hi => ?_⟩, ?_⟩
      · rw [wr_at]
        by_cases hik : i = k
        · rw [if_pos ⟨rfl, hik⟩, hik]; exact hs _ _ (by omega)
        · rw [if_neg (fun h => hik h.2)]; exact hv i (by omega)
      · show f_Text_become_L29 t t1 _ (fu + 1) (nI k) M = f_Text_become_L29 t t1 _ fu (nI (k + 1)) _
        simp only [f_Text_become_L29, if_neg (show ¬ (3 : Int32) < nI k from nI_nlt (a := 3) (by omega) (by omega)), ck_n _ hk (show 4 < 2 ^ 31 by omega), nI_cl (show k < 2 ^ 31 by omega), bnd_s, nI_1]
  obtain ⟨M1, ⟨a1, a2⟩, a3⟩ := k1 (fun M1 => f_Text_become_L29 t t1 (fun (M3 : Mem) => bnd (wr M3 t 2 (M3 t1 2)) fun (M5 : Mem) => some M5) FU 0 M1)
  obtain ⟨M2, ⟨b1, b2⟩, b3⟩ := k2 M1 (fun (M3 : Mem) => bnd (wr M3 t 2 (M3 t1 2)) fun (M5 : Mem) => some M5)
  refine ⟨wr M2 t 2 (M2 t1 2), ?_, ?_, fun i hi => ?_, fun i hi => ?_⟩
  · unfold f_Text_become
    rw [jp_s]
    simp only [jp_s]
    rw [a3, b3, bnd_s]
  · exact (a1.mono (fun c j g => Or.inr (Or.inl g))).trans ((b1.mono (fun c j g => Or.inr (Or.inr g))).trans (same.rf.wr (Or.inl rfl)))
  · rw [wr_off _ _ _ _ _ _ (by omega), b1 _ _ (by omega), a2 i hi]
  · rw [wr_off _ _ _ _ _ _ (by omega), b2 i hi, a1 _ _ (by omega)]
def aT (tc c j : Nat) : Prop := (c = 0 ∧ j = 6) ∨ c = 13 ∨ (15 ≤ c ∧ c ≤ 21) ∨ (42 + 3 * tc ≤ c ∧ c ≤ 44 + 3 * tc)
def bT (tc c j : Nat) : Prop := (c = 0 ∧ (j = 3 ∨ j = 6 ∨ (19 ≤ j ∧ j ≤ 27))) ∨ (c = 1 ∧ 160 * tc ≤ j ∧ j < 160 * tc + 160) ∨ (c = 2 ∧ j = tc)
theorem TextRel.keep2 {A B A' B' : Mem} {t : Nat} (h : TextRel A B t) (h1 : ∀ j, A' (43 + 3 * t) j = A (43 + 3 * t) j) (h2 : ∀ j, A' (44 + 3 * t) j = A (44 + 3 * t) j) (h3 : ∀ j, j < 160 → B' 1 (160 * t + j) = B 1 (160 * t + j)) (h4 : B' 2 t = B 2 t) : TextRel A' B' t := by
  obtain ⟨X, X', n, a1, a2, a3, a4, a5, a6, a7, a8, a9⟩ := h
  exact ⟨X, X', n, a1, a2, a3, a4, a5, by rw [h4]; exact a6, fun j hj => by rw [h3 j (by omega)]; exact a7 j hj, fun j hj => by rw [h1]; exact a8 j hj, fun j hj => by rw [h2]; exact a9 j hj⟩
theorem rel_text {A B A' B' : Mem} {n tc tc' : Nat} (h : RelN A B n tc) (htc : tc < 6) (hA : same (aT tc) A A') (hB : same (bT tc) B B') (h1 : tc ≤ tc') (h2 : tc' ≤ 6) (e1 : A' 0 6 = nI tc') (e2 : B' 0 3 = nI tc') (e3 : A' 13 1 = 0) (e4 : B' 0 6 = 0) (e5 : A' 21 0 = 0) (e6 : ∀ t, tc ≤ t → t < tc' → TextRel A' B' t) : RelN A' B' n tc' := by
  obtain ⟨⟨b1, b2, b3, b4, b5, b6, b7, ⟨r, b8, b9, b10⟩, b11, b12, b13, b14, b15⟩, -, h3, h4, h5⟩ := h
  refine ⟨⟨b1, ?_, ?_, by omega, h2, e1, e2, ⟨r, by omega, ?_, ?_⟩, fun t ht => ?_, fun j hj => ?_, fun i hi => ?_, ?_, fun i hi => ?_⟩, ⟨0, by omega, e3, e4, fun j hj => by omega⟩, e5, fun q hq => ?_, ?_⟩
  · rw [hA _ _ (by unfold aT; omega)]; exact b2
  · rw [hB _ _ (by unfold bT; omega)]; exact b3
  · rw [hA _ _ (by unfold aT; omega)]; exact b9
  · rw [hB _ _ (by unfold bT; omega)]; exact b10
  · by_cases g : t < tc
    · exact (b11 t g).keep2 (fun j => hA _ _ (by unfold aT; omega)) (fun j => hA _ _ (by unfold aT; omega)) (fun j hj => hB _ _ (by unfold bT; omega)) (hB _ _ (by unfold bT; omega))
    · exact e6 t (by omega) ht
  · rw [hA _ _ (by unfold aT; omega), hB _ _ (by unfold bT; omega)]; exact b12 j hj
  · rw [hA 3 _ (by unfold aT; omega), hA 4 _ (by unfold aT; omega), hA 5 _ (by unfold aT; omega), hA 6 _ (by unfold aT; omega), hB 5 _ (by unfold bT; omega), hB 6 _ (by unfold bT; omega), hB 7 _ (by unfold bT; omega), hB 8 _ (by unfold bT; omega)]
    exact b13 i hi
  · rw [hB _ _ (by unfold bT; omega)]; exact b14
  · rw [hB 5 _ (by unfold bT; omega), hB 6 _ (by unfold bT; omega), hB 7 _ (by unfold bT; omega), hB 8 _ (by unfold bT; omega)]
    exact b15 i hi
  · rcases h4 q hq with ⟨g1, g2⟩ | ⟨so, z, g1, g2, g3, g4, g5, g6, g7, g8⟩
    · exact Or.inl ⟨by rw [hA _ _ (by unfold aT; omega)]; exact g1, by rw [hB _ _ (by unfold bT; omega)]; exact g2⟩
    · exact Or.inr ⟨so, z, g1, g2, by rw [hA _ _ (by unfold aT; omega)]; exact g3, by rw [hB _ _ (by unfold bT; omega)]; exact g4, by rw [hB _ _ (by unfold bT; omega)]; exact g5, by rw [hA _ _ (by unfold aT; omega)]; exact g6, by rw [hB _ _ (by unfold bT; omega)]; exact g7, fun i hi => by rw [hA _ _ (by unfold aT; omega), hB _ _ (by unfold bT; omega)]; exact g8 i hi⟩
  · rcases h5 with ⟨g1, g2⟩ | ⟨g1, k, r, g2, g3, g4, g5, g6, g7, g8, g9, g10⟩
    · exact Or.inl ⟨by rw [hA _ _ (by unfold aT; omega)]; exact g1, by rw [hB _ _ (by unfold bT; omega)]; exact g2⟩
    · refine Or.inr ⟨by rw [hA _ _ (by unfold aT; omega)]; exact g1, k, r, g2, by omega, by rw [hA _ _ (by unfold aT; omega)]; exact g4, by rw [hB _ _ (by unfold bT; omega)]; exact g5, by rw [hA _ _ (by unfold aT; omega)]; exact g6, by rw [hB _ _ (by unfold bT; omega)]; exact g7, fun j hj => by rw [hA _ _ (by unfold aT; omega), hB _ _ (by unfold bT; omega)]; exact g8 j hj, by rw [hB _ _ (by unfold bT; omega)]; exact g9, fun i hi => ?_⟩
      rw [hA 9 _ (by unfold aT; omega), hA 3 _ (by unfold aT; omega), hA 10 _ (by unfold aT; omega), hA 11 _ (by unfold aT; omega), hA 12 _ (by unfold aT; omega), hB 18 _ (by unfold bT; omega), hB 18 _ (by unfold bT; omega), hB 18 _ (by unfold bT; omega)]
      exact g10 i hi
theorem c_text {A B : Mem} (h : Rel A B) : Two (x_text A) (m_text B) := by
  obtain ⟨n, tc, hR⟩ := h.n
  obtain ⟨⟨b1, b2, b3, b4, b5, b6, b7, ⟨r, b8, b9, b10⟩, b11, b12, b13, b14, b15⟩, ⟨sz, t1, t2, t3, t4⟩, h3, h4, h5⟩ := id hR
  unfold x_text m_text
  rw [b6, b7]
  by_cases g6 : tc = 6
  · subst g6
    rw [if_neg (by decide), if_pos (by decide)]
    exact ⟨A, B, -4, rfl, rfl, h⟩
  · have htc : tc < 6 := by omega
    have n6 : ¬ nI tc = (6 : Int32) := fun q => g6 ((nI_eq (a := tc) (b := 6) (by omega) (by omega)).mp q)
    rw [if_pos (show nI tc < (6 : Int32) from nI_lt (b := 6) htc (by omega)), if_neg n6, jp_s]
    -- the reference copies the tape
    have k1 : ∀ j : Mem → Option (Mem × Int32), ∃ M', (same (fun c j => c = 1 ∧ 160 * tc ≤ j ∧ j < 160 * tc + 160) B M' ∧ ∀ i, i < sz → M' 1 (160 * tc + i) = B 3 i) ∧ m_text_L14 j FU 0 B = j M' := fun j => by
      refine lp_FU (fun fu k M => m_text_L14 j fu k M) j sz (fun k M => same (fun c j => c = 1 ∧ 160 * tc ≤ j ∧ j < 160 * tc + 160) B M ∧ ∀ i, i < k → M 1 (160 * tc + i) = B 3 i) (by omega) ?_ ?_ (s := B) ⟨same.rf, fun i hi => by omega⟩
      · intro fu M hI
        have e : M 0 6 = nI sz := by rw [hI.1 _ _ (by omega)]; exact t3
        show m_text_L14 _ (fu + 1) (nI sz) M = _
        simp only [m_text_L14, e, if_pos (Int32.le_refl (nI sz))]
      · intro fu k M hk hI
        obtain ⟨hs, hv⟩ := hI
        have e : M 0 6 = nI sz := by rw [hs _ _ (by omega)]; exact t3
        have e3 : M 0 3 = nI tc := by rw [hs _ _ (by omega)]; exact b7
        have ek : M 3 k = B 3 k := hs _ _ (by omega)
        have ea : (160 : Int32) * nI tc + nI k = nI (160 * tc + k) := by rw [show (160 : Int32) = nI 160 from rfl, nI_mul, nI_add]
        refine ⟨wr M 1 (160 * tc + k) (B 3 k), ⟨hs.wr ⟨rfl, by omega, by omega⟩, fun i hi => ?_⟩, ?_⟩
        · rw [wr_at]
          by_cases hik : i = k
          · rw [if_pos ⟨rfl, by omega⟩, hik]
          · rw [if_neg (fun h => hik (by omega))]; exact hv i (by omega)
        · show m_text_L14 _ (fu + 1) (nI k) M = m_text_L14 _ fu (nI (k + 1)) _
          simp only [m_text_L14, e, e3, ek, ea, if_neg (nI_ge hk (show sz < 2 ^ 31 by omega)), ck_n _ (show k < 160 by omega) (show 160 < 2 ^ 31 by omega), ck_n _ (show 160 * tc + k < 960 by omega) (show 960 < 2 ^ 31 by omega), nI_cl (show k < 2 ^ 31 by omega), nI_cl (show 160 * tc + k < 2 ^ 31 by omega), bnd_s, nI_1]
    obtain ⟨B1, ⟨p1, p2⟩, p3⟩ := k1 (fun (M1 : Mem) => ck (M1 0 3) 6 <| bnd (wr M1 2 (M1 0 3).toNatClampNeg (M1 0 6)) fun (M3 : Mem) => bnd (wr M3 0 6 0) fun (M4 : Mem) => ob2 (m_read M4 (M4 0 3) 0) fun (M6 : Mem) (v7 : Int32) => if (M6 0 26) = 0 then (bnd (wr M6 0 3 ((M6 0 3) + 1)) fun (M8 : Mem) => some (M8, ((M8 0 3) - 1))) else (some (M6, ((-100) - (M6 0 27)))))
    obtain ⟨B4, hB4⟩ : ∃ B4 : Mem, B4 = wr (wr B1 2 tc (nI sz)) 0 6 0 := ⟨_, rfl⟩
    have q3 : B1 0 3 = nI tc := by rw [p1 _ _ (by omega)]; exact b7
    have q6 : B1 0 6 = nI sz := by rw [p1 _ _ (by omega)]; exact t3
    have r3 : B4 0 3 = nI tc := by rw [hB4, wr_off _ _ _ _ _ _ (by omega), wr_off _ _ _ _ _ _ (by omega)]; exact q3
    have rB1 : ∀ j, j < sz → B4 1 (160 * tc + j) = A 14 j := fun j hj => by
      rw [hB4, wr_off _ _ _ _ _ _ (by omega), wr_off _ _ _ _ _ _ (by omega), p2 j hj, (t4 j hj).1]
    have rB2 : B4 2 tc = nI sz := by rw [hB4, wr_off _ _ _ _ _ _ (by omega), wr_hit]
    have s4 : same (bT tc) B B4 := by
      rw [hB4]
      exact (p1.mono (fun c j g => by unfold bT; omega)).trans ((same.rf.wr (by unfold bT; omega)).wr (by unfold bT; omega))
    obtain ⟨A1, B5, v, w, e, x1, x2, x3, x4, x5, x6, x7, x8, x9, x10, x11, x12⟩ := read_ok (A := A) (B := B4) (n := sz) (t := tc) t1 htc t2 (fun j hj => by rw [(t4 j hj).1]; exact (t4 j hj).2) h3 rB2 rB1 (w := 0) (by omega)
    have x2 : m_read B4 (nI tc) 0 = some (B5, w) := x2
    obtain ⟨A2, hA2⟩ : ∃ A2 : Mem, A2 = wr A1 13 1 0 := ⟨_, rfl⟩
    have sA2 : same (aT tc) A A2 := by
      rw [hA2]
      exact (x3.mono (fun c j g => by unfold pR at g; unfold aT; omega)).trans (same.rf.wr (by unfold aT; omega))
    have sB5 : same (bT tc) B B5 := s4.trans (x4.mono (fun c j g => by unfold pM at g; unfold bT; omega))
    have o6 : A2 0 6 = nI tc := by rw [hA2, wr_off _ _ _ _ _ _ (by omega), x3 _ _ (by unfold pR; omega)]; exact b6
    have o3 : B5 0 3 = nI tc := by rw [x4 _ _ (by unfold pM; omega)]; exact r3
    have ot : B5 0 6 = 0 := by rw [x4 _ _ (by unfold pM; omega), hB4, wr_hit]
    have o13 : A2 13 1 = 0 := by rw [hA2, wr_hit]
    have o21 : A2 21 0 = 0 := by rw [hA2, wr_off _ _ _ _ _ _ (by omega), x6 0 (by omega), x7]; rfl
    have hm : m_text_L14 (fun (M1 : Mem) => ck (M1 0 3) 6 <| bnd (wr M1 2 (M1 0 3).toNatClampNeg (M1 0 6)) fun (M3 : Mem) => bnd (wr M3 0 6 0) fun (M4 : Mem) => ob2 (m_read M4 (M4 0 3) 0) fun (M6 : Mem) (v7 : Int32) => if (M6 0 26) = 0 then (bnd (wr M6 0 3 ((M6 0 3) + 1)) fun (M8 : Mem) => some (M8, ((M8 0 3) - 1))) else (some (M6, ((-100) - (M6 0 27))))) FU 0 B = if (B5 0 26) = 0 then (some (wr B5 0 3 (nI (tc + 1)), nI tc)) else (some (B5, ((-100) - (B5 0 27)))) := by
      refine p3.trans ?_
      show ck (B1 0 3) 6 _ = _
      rw [q3, ck_n _ htc (by omega), nI_cl (by omega), bnd_s, q6, bnd_s, ← hB4, r3, x2, obp2_s, o3, nI_1, bnd_s, wr_hit, nI_pred]
    unfold x_learn f_Tape_clear
    rw [x1, obp2_s, bnd_s, obp_s, ← hA2, o6]
    rcases x5 with ⟨y1, y2⟩ | ⟨p, y1, y2, y3, y4⟩
    · subst y1
      rw [if_pos rfl, if_neg (nI_pos (by omega)), if_neg (show ¬ (6 : Int32) ≤ nI tc from nI_ge (b := 6) htc (by omega)), ck_n _ htc (by omega), ck_n _ htc (by omega), nI_cl (by omega)]
      obtain ⟨A3, z1, z2, z3, z4⟩ := text_become (t := 42 + 3 * tc) (t1 := 19) (by omega) A2
      have o6' : A3 0 6 = nI tc := by rw [z2 _ _ (by omega)]; exact o6
      refine ⟨wr A3 0 6 (nI (tc + 1)), wr B5 0 3 (nI (tc + 1)), nI tc, ?_, ?_, RelN.rel (n := n) (tc := tc + 1) ?_⟩
      · rw [z1, obp_s, o6', nI_1, bnd_s, wr_hit, nI_pred, obp2_s]
      · rw [hm, if_pos y2]
      · refine rel_text hR htc (sA2.trans ((z2.mono (fun c j g => by unfold aT; omega)).trans (same.rf.wr (by unfold aT; omega)))) (sB5.trans (same.rf.wr (by unfold bT; omega))) (by omega) (by omega) (wr_hit _ _ _ _) (wr_hit _ _ _ _) ?_ ?_ ?_ (fun t g1 g2 => ?_)
        · rw [wr_off _ _ _ _ _ _ (by omega), z2 _ _ (by omega)]; exact o13
        · rw [wr_off _ _ _ _ _ _ (by omega)]; exact ot
        · rw [wr_off _ _ _ _ _ _ (by omega), z2 _ _ (by omega)]; exact o21
        · have ht : t = tc := by omega
          subst ht
          refine ⟨A, A1, sz, t1, t2, fun j hj => by rw [(t4 j hj).1]; exact (t4 j hj).2, h3, x1, ?_, fun j hj => ?_, fun j hj => ?_, fun j hj => ?_⟩
          · rw [wr_off _ _ _ _ _ _ (by omega), x4 _ _ (by unfold pM; omega)]; exact rB2
          · rw [wr_off _ _ _ _ _ _ (by omega), x4 _ _ (by unfold pM; omega)]; exact rB1 j hj
          · have := z3 j hj
            rw [show 42 + 3 * t + 1 = 43 + 3 * t by omega] at this
            rw [wr_off _ _ _ _ _ _ (by omega), this, hA2, wr_off _ _ _ _ _ _ (by omega)]
          · have := z4 j hj
            rw [show 42 + 3 * t + 2 = 44 + 3 * t by omega] at this
            rw [wr_off _ _ _ _ _ _ (by omega), this, hA2, wr_off _ _ _ _ _ _ (by omega)]
    · have hv1 : ¬ v = -1 := by rw [y2, nI_neg1 (by omega)]; exact id
      rw [if_neg hv1, obp2_s]
      refine ⟨A2, B5, -100 - v, rfl, ?_, RelN.rel (n := n) (tc := tc) (rel_text hR htc sA2 sB5 (Nat.le_refl _) b5 o6 o3 o13 ot o21 (fun t g1 g2 => by omega))⟩
      rw [hm, if_neg (by rw [y3]; decide), y4]
