/-! the trial's site -/
theorem sb_dials {t t1 : Nat} (hne : t + 5 < t1 ∨ t1 + 5 < t) (M0 : Mem) (j2 : Mem → Option Mem) : ∃ M', (same (fun c _ => c = t + 1) M0 M' ∧ ∀ i, i < 6 → M' (t + 1) i = M0 (t1 + 1) i) ∧ f_Site_become_L2 t t1 j2 FU 0 M0 = j2 M' := by
  refine lp_FU (fun fu k M => f_Site_become_L2 t t1 j2 fu k M) j2 6 (fun k M => same (fun c _ => c = t + 1) M0 M ∧ ∀ i, i < k → M (t + 1) i = M0 (t1 + 1) i) (by omega) ?_ ?_ (s := M0) ⟨same.rf, fun i hi => by omega⟩
  · intro fu M hI
    show f_Site_become_L2 t t1 j2 (fu + 1) (nI 6) M = _
    simp only [f_Site_become_L2, if_pos (show (5 : Int32) < nI 6 by decide)]
  · intro fu k M hk hI
    obtain ⟨hs, hv⟩ := hI
    refine ⟨wr M (t + 1) k (M (t1 + 1) k), ⟨hs.wr rfl, fun i hi => ?_⟩, ?_⟩
    · rw [wr_at]
      by_cases hik : i = k
      · rw [if_pos ⟨rfl, hik⟩, hik]; exact hs _ _ (by omega)
      · rw [if_neg (fun h => hik h.2)]; exact hv i (by omega)
    · show f_Site_become_L2 t t1 j2 (fu + 1) (nI k) M = f_Site_become_L2 t t1 j2 fu (nI (k + 1)) _
      simp only [f_Site_become_L2, if_neg (show ¬ (5 : Int32) < nI k from nI_nlt (a := 5) (by omega) (by omega)), ck_n _ hk (show 6 < 2 ^ 31 by omega), nI_cl (show k < 2 ^ 31 by omega), bnd_s, nI_1]
theorem sb_walls {t t1 : Nat} (hne : t + 5 < t1 ∨ t1 + 5 < t) (M0 : Mem) (j4 : Mem → Option Mem) : ∃ M', (same (fun c _ => t + 2 ≤ c ∧ c ≤ t + 5) M0 M' ∧ ∀ i, i < 6 → M' (t + 2) i = M0 (t1 + 2) i ∧ M' (t + 3) i = M0 (t1 + 3) i ∧ M' (t + 4) i = M0 (t1 + 4) i ∧ M' (t + 5) i = M0 (t1 + 5) i) ∧ f_Site_become_L27 t t1 j4 FU 0 M0 = j4 M' := by
  refine lp_FU (fun fu k M => f_Site_become_L27 t t1 j4 fu k M) j4 6 (fun k M => same (fun c _ => t + 2 ≤ c ∧ c ≤ t + 5) M0 M ∧ ∀ i, i < k → M (t + 2) i = M0 (t1 + 2) i ∧ M (t + 3) i = M0 (t1 + 3) i ∧ M (t + 4) i = M0 (t1 + 4) i ∧ M (t + 5) i = M0 (t1 + 5) i) (by omega) ?_ ?_ (s := M0) ⟨same.rf, fun i hi => by omega⟩
  · intro fu M hI
    show f_Site_become_L27 t t1 j4 (fu + 1) (nI 6) M = _
    simp only [f_Site_become_L27, if_pos (show (6 : Int32) ≤ nI 6 by decide)]
  · intro fu k M hk hI
    obtain ⟨hs, hv⟩ := hI
    obtain ⟨Ma, hMa⟩ : ∃ Ma, Ma = wr M (t + 2) k (M (t1 + 2) k) := ⟨_, rfl⟩
    obtain ⟨Mb, hMb⟩ : ∃ Mb, Mb = wr Ma (t + 3) k (Ma (t1 + 3) k) := ⟨_, rfl⟩
    obtain ⟨Mc, hMc⟩ : ∃ Mc, Mc = wr Mb (t + 4) k (Mb (t1 + 4) k) := ⟨_, rfl⟩
    obtain ⟨Md, hMd⟩ : ∃ Md, Md = wr Mc (t + 5) k (Mc (t1 + 5) k) := ⟨_, rfl⟩
    have sa : same (fun c _ => t + 2 ≤ c ∧ c ≤ t + 5) M0 Ma := by rw [hMa]; exact hs.wr (by omega)
    have sb : same (fun c _ => t + 2 ≤ c ∧ c ≤ t + 5) M0 Mb := by rw [hMb]; exact sa.wr (by omega)
    have sc : same (fun c _ => t + 2 ≤ c ∧ c ≤ t + 5) M0 Mc := by rw [hMc]; exact sb.wr (by omega)
    have sd : same (fun c _ => t + 2 ≤ c ∧ c ≤ t + 5) M0 Md := by rw [hMd]; exact sc.wr (by omega)
    refine ⟨Md, ⟨sd, fun i hi => ?_⟩, ?_⟩
    · have q2 : Md (t + 2) i = if i = k then M0 (t1 + 2) k else M (t + 2) i := by
        rw [hMd, wr_off _ _ _ _ _ _ (by omega), hMc, wr_off _ _ _ _ _ _ (by omega), hMb, wr_off _ _ _ _ _ _ (by omega), hMa, wr_at]
        by_cases hik : i = k
        · rw [if_pos ⟨rfl, hik⟩, if_pos hik]; exact hs _ _ (by omega)
        · rw [if_neg (fun h => hik h.2), if_neg hik]
      have q3 : Md (t + 3) i = if i = k then M0 (t1 + 3) k else M (t + 3) i := by
        rw [hMd, wr_off _ _ _ _ _ _ (by omega), hMc, wr_off _ _ _ _ _ _ (by omega), hMb, wr_at]
        by_cases hik : i = k
        · rw [if_pos ⟨rfl, hik⟩, if_pos hik]; exact sa _ _ (by omega)
        · rw [if_neg (fun h => hik h.2), if_neg hik, hMa, wr_off _ _ _ _ _ _ (by omega)]
      have q4 : Md (t + 4) i = if i = k then M0 (t1 + 4) k else M (t + 4) i := by
        rw [hMd, wr_off _ _ _ _ _ _ (by omega), hMc, wr_at]
        by_cases hik : i = k
        · rw [if_pos ⟨rfl, hik⟩, if_pos hik]; exact sb _ _ (by omega)
        · rw [if_neg (fun h => hik h.2), if_neg hik, hMb, wr_off _ _ _ _ _ _ (by omega), hMa, wr_off _ _ _ _ _ _ (by omega)]
      have q5 : Md (t + 5) i = if i = k then M0 (t1 + 5) k else M (t + 5) i := by
        rw [hMd, wr_at]
        by_cases hik : i = k
        · rw [if_pos ⟨rfl, hik⟩, if_pos hik]; exact sc _ _ (by omega)
        · rw [if_neg (fun h => hik h.2), if_neg hik, hMc, wr_off _ _ _ _ _ _ (by omega), hMb, wr_off _ _ _ _ _ _ (by omega), hMa, wr_off _ _ _ _ _ _ (by omega)]
      rw [q2, q3, q4, q5]
      by_cases hik : i = k
      · subst hik
        rw [if_pos rfl, if_pos rfl, if_pos rfl, if_pos rfl]
        exact ⟨rfl, rfl, rfl, rfl⟩
      · rw [if_neg hik, if_neg hik, if_neg hik, if_neg hik]
        exact hv i (by omega)
    · show f_Site_become_L27 t t1 j4 (fu + 1) (nI k) M = f_Site_become_L27 t t1 j4 fu (nI (k + 1)) _
      simp only [f_Site_become_L27, if_neg (show ¬ (6 : Int32) ≤ nI k from nI_ge (b := 6) hk (by omega)), ck_n _ hk (show 6 < 2 ^ 31 by omega), nI_cl (show k < 2 ^ 31 by omega), bnd_s, nI_1, ← hMa, ← hMb, ← hMc, ← hMd]
def pK (t c j : Nat) : Prop := (t + 1 ≤ c ∧ c ≤ t + 5) ∨ (c = t ∧ 5 ≤ j)
theorem site_become {t t1 : Nat} (hne : t + 5 < t1 ∨ t1 + 5 < t) (M : Mem) : ∃ M', f_Site_become M t t1 = some M' ∧ same (pK t) M M' ∧ M' t 5 = M t1 5 ∧ M' t 6 = M t1 6 ∧ ∀ i, i < 6 → M' (t + 1) i = M (t1 + 1) i ∧ M' (t + 2) i = M (t1 + 2) i ∧ M' (t + 3) i = M (t1 + 3) i ∧ M' (t + 4) i = M (t1 + 4) i ∧ M' (t + 5) i = M (t1 + 5) i := by
  obtain ⟨M1, ⟨a1, a2⟩, a3⟩ := sb_dials hne M (fun M1 => f_Site_become_L27 t t1 (fun (M3 : Mem) => bnd (wr M3 t 5 (M3 t1 5)) fun (M5 : Mem) => bnd (wr M5 t 6 (M5 t1 6)) fun (M6 : Mem) => some M6) FU 0 M1)
  obtain ⟨M2, ⟨b1, b2⟩, b3⟩ := sb_walls hne M1 (fun (M3 : Mem) => bnd (wr M3 t 5 (M3 t1 5)) fun (M5 : Mem) => bnd (wr M5 t 6 (M5 t1 6)) fun (M6 : Mem) => some M6)
  refine ⟨wr (wr M2 t 5 (M t1 5)) t 6 (M t1 6), ?_, ?_, ?_, wr_hit _ _ _ _, fun i hi => ?_⟩
  · unfold f_Site_become
    rw [jp_s]
    simp only [jp_s]
    rw [a3, b3, bnd_s, bnd_s, wr_off _ _ _ _ _ _ (show ¬ (t1 = t ∧ 6 = 5) by omega)]
    rw [b1 t1 5 (by omega), b1 t1 6 (by omega), a1 t1 5 (by omega), a1 t1 6 (by omega)]
  · refine same.trans (a1.mono (fun c j h => by unfold pK; omega)) (same.trans (b1.mono (fun c j h => by unfold pK; omega)) ?_)
    exact (same.rf.wr (by unfold pK; omega)).wr (by unfold pK; omega)
  · rw [wr_off _ _ _ _ _ _ (by omega), wr_hit]
  · obtain ⟨x2, x3, x4, x5⟩ := b2 i hi
    have e : ∀ c, t + 1 ≤ c → c ≤ t + 5 → wr (wr M2 t 5 (M t1 5)) t 6 (M t1 6) c i = M2 c i := fun c g1 g2 => by
      rw [wr_off _ _ _ _ _ _ (by omega), wr_off _ _ _ _ _ _ (by omega)]
    rw [e _ (by omega) (by omega), e _ (by omega) (by omega), e _ (by omega) (by omega), e _ (by omega) (by omega), e _ (by omega) (by omega), b1 _ _ (by omega), a2 i hi, x2, x3, x4, x5, a1 _ _ (by omega), a1 _ _ (by omega), a1 _ _ (by omega), a1 _ _ (by omega)]
    exact ⟨rfl, rfl, rfl, rfl, rfl⟩
theorem place_ok (M : Mem) {i w : Nat} (hi : i < 6) (hw : w < 6) : f_Day_place M (nI i) (nI w) = some (wr M 32 i (nI w)) := by
  unfold f_Day_place
  rw [if_neg (nI_pos (by omega)), if_neg (show ¬ (6 : Int32) ≤ nI i from nI_ge (b := 6) hi (by omega)), if_neg (nI_pos (by omega)), if_neg (show ¬ (6 : Int32) ≤ nI w from nI_ge (b := 6) hw (by omega)), ck_n _ hi (by omega), nI_cl (by omega), bnd_s]
theorem start_ok (M : Mem) : ∃ M', x_startTrial M = some M' ∧ same (fun c j => (24 ≤ c ∧ c ≤ 29) ∨ c = 32) M M' ∧ M' 24 5 = M 1 5 ∧ M' 24 6 = M 1 6 ∧ (∀ i, i < 6 → M' 25 i = M 2 i ∧ M' 26 i = M 3 i ∧ M' 27 i = M 4 i ∧ M' 28 i = M 5 i ∧ M' 29 i = M 6 i) ∧ ∀ i, i < 6 → M' 32 i = nI i := by
  obtain ⟨M1, a1, a2, a3, a4, a5⟩ := site_become (t := 24) (t1 := 1) (by omega) M
  have key : ∃ M', (same (fun c _ => c = 32) M1 M' ∧ ∀ i, i < 6 → M' 32 i = nI i) ∧ x_startTrial_L16 (fun M3 => some M3) FU 0 M1 = some M' := by
    refine lp_FU (fun fu k M => x_startTrial_L16 (fun M3 => some M3) fu k M) (fun M => some M) 6 (fun k M => same (fun c _ => c = 32) M1 M ∧ ∀ i, i < k → M 32 i = nI i) (by omega) ?_ ?_ (s := M1) ⟨same.rf, fun i hi => by omega⟩
    · intro fu M hI
      show x_startTrial_L16 _ (fu + 1) (nI 6) M = _
      simp only [x_startTrial_L16, if_pos (show (6 : Int32) ≤ nI 6 by decide)]
    · intro fu k M hk hI
      obtain ⟨hs, hv⟩ := hI
      refine ⟨wr M 32 k (nI k), ⟨hs.wr rfl, fun i hi => ?_⟩, ?_⟩
      · rw [wr_at]
        by_cases hik : i = k
        · rw [if_pos ⟨rfl, hik⟩, hik]
        · rw [if_neg (fun h => hik h.2)]; exact hv i (by omega)
      · show x_startTrial_L16 _ (fu + 1) (nI k) M = x_startTrial_L16 _ fu (nI (k + 1)) _
        simp only [x_startTrial_L16, if_neg (show ¬ (6 : Int32) ≤ nI k from nI_ge (b := 6) hk (by omega)), place_ok M hk hk, obp_s, bnd_s, nI_1]
  obtain ⟨M', ⟨k1, k2⟩, e⟩ := key
  refine ⟨M', ?_, (a2.mono (fun c j h => by unfold pK at h; omega)).trans (k1.mono (fun c j h => Or.inr h)), by rw [k1 _ _ (by omega)]; exact a3, by rw [k1 _ _ (by omega)]; exact a4, fun i hi => ?_, k2⟩
  · unfold x_startTrial
    rw [a1, obp_s, jp_s]
    exact e
  · rw [k1 _ _ (by omega), k1 _ _ (by omega), k1 _ _ (by omega), k1 _ _ (by omega), k1 _ _ (by omega)]
    exact a5 i hi
theorem turn_ok (M : Mem) {d : Nat} (hd : d < 6) (v : Int32) : f_Site_turn M 24 (nI d) v = some (wr M 25 d v) := by
  unfold f_Site_turn
  rw [if_neg (nI_pos (by omega)), if_neg (show ¬ (5 : Int32) < nI d from nI_nlt (a := 5) (by omega) (by omega)), ck_n _ hd (by omega), nI_cl (by omega), bnd_s]
/-! ### the relation between the two objects -/
def Sites (A B : Mem) (n tc : Nat) : Prop := n ≤ 6 ∧ A 1 5 = nI n ∧ B 0 12 = nI n ∧ 1 ≤ tc ∧ tc ≤ 6 ∧ A 0 6 = nI tc ∧ B 0 3 = nI tc ∧ (∃ r, r < tc ∧ A 1 6 = nI r ∧ B 0 4 = nI r) ∧ (∀ t, t < tc → TextRel A B t) ∧ (∀ j, j < 6 → A 2 j = B 4 j) ∧ (∀ i, i < n → A 3 i = B 5 i ∧ A 4 i = B 6 i ∧ A 5 i = B 7 i ∧ A 6 i = B 8 i) ∧ Valid B n
def Tapes (A B : Mem) : Prop := ∃ sz, sz ≤ 160 ∧ A 13 1 = nI sz ∧ B 0 6 = nI sz ∧ ∀ j, j < sz → A 14 j = B 3 j ∧ by8 (B 3 j)
def SheetR (A B : Mem) (s : Nat) : Prop := (A (60 + 2 * s) 1 = -1 ∧ B 19 s = 0) ∨ (∃ so sz, so < 3 ∧ sz ≤ 40 ∧ A (60 + 2 * s) 1 = nI so ∧ B 20 s = nI so ∧ B 19 s = 1 ∧ A (60 + 2 * s) 2 = nI sz ∧ B 21 s = nI sz ∧ ∀ i, i < sz → A (61 + 2 * s) i = B 22 (40 * s + i))
def ImageR (A B : Mem) (n tc : Nat) : Prop := (A 0 2 = 0 ∧ B 0 47 = -1) ∨ (A 0 2 = 1 ∧ ∃ k r, k ≤ n ∧ r < tc ∧ A 7 5 = nI k ∧ B 0 47 = nI k ∧ A 7 6 = nI r ∧ B 0 48 = nI r ∧ (∀ j, j < 6 → A 8 j = B 17 j) ∧ 1 ≤ (B 17 3).toInt ∧ ∀ i, i < k → A 9 i = A 3 i ∧ A 10 i = B 18 i ∧ A 11 i = B 18 (6 + i) ∧ A 12 i = B 18 (12 + i) ∧ (0 ≤ (B 18 i).toInt ∧ (B 18 i).toInt ≤ 9) ∧ (1 ≤ (B 18 (6 + i)).toInt ∧ (B 18 (6 + i)).toInt ≤ 20) ∧ (B 18 (12 + i) = 0 ∨ B 18 (12 + i) = 1))
def Rel (A B : Mem) : Prop := ∃ n tc, Sites A B n tc ∧ Tapes A B ∧ A 21 0 = 0 ∧ (∀ s, s < 4 → SheetR A B s) ∧ ImageR A B n tc
/-- what a question may change of the class's object -/
def pX (c j : Nat) : Prop := 23 ≤ c ∧ c ≤ 40
theorem pS_X {c j : Nat} (h : pS c j) : pX c j := by unfold pS at h; unfold pX; omega
theorem Sites.keep {A B A' B' : Mem} {n tc : Nat} (h : Sites A B n tc) (hA : same pX A A') (hB : same pT B B') : Sites A' B' n tc := by
  obtain ⟨a1, a2, a3, a4, a5, a6, a7, ⟨r, a8, a9, a10⟩, a11, a12, a13, a14, a15⟩ := h
  refine ⟨a1, ?_, ?_, a4, a5, ?_, ?_, ⟨r, a8, ?_, ?_⟩, fun t ht => ?_, fun j hj => ?_, fun i hi => ?_, ?_, fun i hi => ?_⟩
  · rw [hA _ _ (by unfold pX; omega)]; exact a2
  · rw [hB _ _ (by unfold pT; omega)]; exact a3
  · rw [hA _ _ (by unfold pX; omega)]; exact a6
  · rw [hB _ _ (by unfold pT; omega)]; exact a7
  · rw [hA _ _ (by unfold pX; omega)]; exact a9
  · rw [hB _ _ (by unfold pT; omega)]; exact a10
  · exact (a11 t ht).keep (fun j => hA _ _ (by unfold pX; omega)) (fun j => hA _ _ (by unfold pX; omega)) (fun j => hB _ _ (by unfold pT; omega)) (hB _ _ (by unfold pT; omega))
  · rw [hA _ _ (by unfold pX; omega), hB _ _ (by unfold pT; omega)]; exact a12 j hj
  · rw [hA 3 _ (by unfold pX; omega), hA 4 _ (by unfold pX; omega), hA 5 _ (by unfold pX; omega), hA 6 _ (by unfold pX; omega), hB 5 _ (by unfold pT; omega), hB 6 _ (by unfold pT; omega), hB 7 _ (by unfold pT; omega), hB 8 _ (by unfold pT; omega)]
    exact a13 i hi
  · rw [hB _ _ (by unfold pT; omega)]; exact a14
  · rw [hB 5 _ (by unfold pT; omega), hB 6 _ (by unfold pT; omega), hB 7 _ (by unfold pT; omega), hB 8 _ (by unfold pT; omega)]
    exact a15 i hi
theorem Rel.keep {A B A' B' : Mem} (h : Rel A B) (hA : same pX A A') (hB : same pT B B') : Rel A' B' := by
  obtain ⟨n, tc, h1, ⟨sz, t1, t2, t3, t4⟩, h3, h4, h5⟩ := h
  refine ⟨n, tc, h1.keep hA hB, ⟨sz, t1, ?_, ?_, fun j hj => ?_⟩, ?_, fun s hs => ?_, ?_⟩
  · rw [hA _ _ (by unfold pX; omega)]; exact t2
  · rw [hB _ _ (by unfold pT; omega)]; exact t3
  · rw [hA _ _ (by unfold pX; omega), hB _ _ (by unfold pT; omega)]; exact t4 j hj
  · rw [hA _ _ (by unfold pX; omega)]; exact h3
  · rcases h4 s hs with ⟨g1, g2⟩ | ⟨so, z, g1, g2, g3, g4, g5, g6, g7, g8⟩
    · exact Or.inl ⟨by rw [hA _ _ (by unfold pX; omega)]; exact g1, by rw [hB _ _ (by unfold pT; omega)]; exact g2⟩
    · exact Or.inr ⟨so, z, g1, g2, by rw [hA _ _ (by unfold pX; omega)]; exact g3, by rw [hB _ _ (by unfold pT; omega)]; exact g4, by rw [hB _ _ (by unfold pT; omega)]; exact g5, by rw [hA _ _ (by unfold pX; omega)]; exact g6, by rw [hB _ _ (by unfold pT; omega)]; exact g7, fun i hi => by rw [hA _ _ (by unfold pX; omega), hB _ _ (by unfold pT; omega)]; exact g8 i hi⟩
  · rcases h5 with ⟨g1, g2⟩ | ⟨g1, k, r, g2, g3, g4, g5, g6, g7, g8, g9, g10⟩
    · exact Or.inl ⟨by rw [hA _ _ (by unfold pX; omega)]; exact g1, by rw [hB _ _ (by unfold pT; omega)]; exact g2⟩
    · refine Or.inr ⟨by rw [hA _ _ (by unfold pX; omega)]; exact g1, k, r, g2, g3, by rw [hA _ _ (by unfold pX; omega)]; exact g4, by rw [hB _ _ (by unfold pT; omega)]; exact g5, by rw [hA _ _ (by unfold pX; omega)]; exact g6, by rw [hB _ _ (by unfold pT; omega)]; exact g7, fun j hj => by rw [hA _ _ (by unfold pX; omega), hB _ _ (by unfold pT; omega)]; exact g8 j hj, by rw [hB _ _ (by unfold pT; omega)]; exact g9, fun i hi => ?_⟩
      rw [hA 9 _ (by unfold pX; omega), hA 3 _ (by unfold pX; omega), hA 10 _ (by unfold pX; omega), hA 11 _ (by unfold pX; omega), hA 12 _ (by unfold pX; omega), hB 18 _ (by unfold pT; omega), hB 18 _ (by unfold pT; omega), hB 18 _ (by unfold pT; omega)]
      exact g10 i hi
