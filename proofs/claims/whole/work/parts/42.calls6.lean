/-! wetting -/
def wb (a : Int32) (i : Nat) : Int32 := (a >>> (nI i &&& 31)) &&& 1
theorem wb01 : ∀ k, k < 64 → ∀ i, i < 6 → wb (nI k) i = 0 ∨ wb (nI k) i = 1 := by decide +kernel
def p6 (b0 b1 b2 b3 b4 b5 : Bool) : Nat → Bool
  | 0 => b0
  | 1 => b1
  | 2 => b2
  | 3 => b3
  | 4 => b4
  | 5 => b5
  | _ => false
theorem wb_p6 : ∀ b0 b1 b2 b3 b4 b5 : Bool, ∀ i, i < 6 → wb (bitsF (p6 b0 b1 b2 b3 b4 b5) 6) i = if p6 b0 b1 b2 b3 b4 b5 i = true then 1 else 0 := by decide +kernel
theorem wb_bitsF (p : Nat → Bool) {n i : Nat} (hn : n ≤ 6) (hi : i < n) : wb (bitsF p n) i = if p i = true then 1 else 0 := by
  have e1 : bitsF p n = bitsF (fun i => decide (i < n) && p i) n := bitsF_ext n (fun j hj => by simp [hj])
  have e2 : bitsF (fun i => decide (i < n) && p i) (n + (6 - n)) = bitsF (fun i => decide (i < n) && p i) n := bitsF_tail (6 - n) (fun j h1 h2 => by simp [show ¬ j < n by omega])
  have e0 : n + (6 - n) = 6 := by omega
  rw [e0] at e2
  have e3 : ∀ q : Nat → Bool, ∀ j, j < 6 → p6 (q 0) (q 1) (q 2) (q 3) (q 4) (q 5) j = q j := fun q j hj => by
    match j, hj with
    | 0, _ => rfl
    | 1, _ => rfl
    | 2, _ => rfl
    | 3, _ => rfl
    | 4, _ => rfl
    | 5, _ => rfl
  have e4 := e3 (fun i => decide (i < n) && p i)
  rw [e1, ← e2, ← bitsF_ext 6 e4, wb_p6 _ _ _ _ _ _ i (by omega), e4 i (by omega)]
  simp [hi]
theorem two_n : ∀ n, n < 7 → (1 : Int32) <<< (nI n &&& 31) = nI (2 ^ n) ∧ 2 ^ n ≤ 64 ∧ 0 < 2 ^ n := by decide
def bc (k : Nat) : Int32 := (f_JI_bitCount1 (nI k)).getD 0
theorem bc_ok : ∀ k, k < 64 → f_JI_bitCount1 (nI k) = some (bc k) ∧ m_bitsOf (nI k) = some (bc k) := by decide +kernel
theorem wetJust_ok (M : Mem) (a : Int32) : ∃ M', f_Site_wetJust M 24 a = some M' ∧ same (fun c _ => c = 29) M M' ∧ ∀ i, i < 6 → M' 29 i = wb a i := by
  have key : ∃ M', (same (fun c _ => c = 29) M M' ∧ ∀ i, i < 6 → M' 29 i = wb a i) ∧ f_Site_wetJust_L2 24 a (fun M1 => some M1) FU 0 M = some M' := by
    refine lp_FU (fun fu k M => f_Site_wetJust_L2 24 a (fun M3 => some M3) fu k M) (fun M => some M) 6 (fun k M2 => same (fun c _ => c = 29) M M2 ∧ ∀ i, i < k → M2 29 i = wb a i) (by omega) ?_ ?_ (s := M) ⟨same.rf, fun i hi => by omega⟩
    · intro fu M hI
      show f_Site_wetJust_L2 24 a _ (fu + 1) (nI 6) M = _
      simp only [f_Site_wetJust_L2, if_pos (show (6 : Int32) ≤ nI 6 by decide)]
    · intro fu k M hk hI
      obtain ⟨hs, hv⟩ := hI
      refine ⟨wr M 29 k (wb a k), ⟨hs.wr rfl, fun i hi => ?_⟩, ?_⟩
      · rw [wr_at]
        by_cases hik : i = k
        · rw [if_pos ⟨rfl, hik⟩, hik]
        · rw [if_neg (fun h => hik h.2)]; exact hv i (by omega)
      · show f_Site_wetJust_L2 24 a _ (fu + 1) (nI k) M = f_Site_wetJust_L2 24 a _ fu (nI (k + 1)) _
        simp only [f_Site_wetJust_L2, if_neg (show ¬ (6 : Int32) ≤ nI k from nI_ge (b := 6) hk (by omega)), ck_n _ hk (show 6 < 2 ^ 31 by omega), nI_cl (show k < 2 ^ 31 by omega), bnd_s, nI_1]
        rfl
  obtain ⟨M', ⟨k1, k2⟩, e⟩ := key
  refine ⟨M', ?_, k1, k2⟩
  unfold f_Site_wetJust
  rw [jp_s]
  exact e
theorem wet_ok {M : Mem} {n : Nat} (hn : n ≤ 6) (h12 : M 0 12 = nI n) (a : Int32) : ∃ M', m_wet M a = some M' ∧ same (fun c j => c = 8 ∧ j < n) M M' ∧ ∀ i, i < n → M' 8 i = wb a i := by
  have key : ∃ M', (same (fun c j => c = 8 ∧ j < n) M M' ∧ ∀ i, i < n → M' 8 i = wb a i) ∧ m_wet_L2 a (fun M1 => some M1) FU 0 M = some M' := by
    refine lp_FU (fun fu k M => m_wet_L2 a (fun M3 => some M3) fu k M) (fun M => some M) n (fun k M2 => same (fun c j => c = 8 ∧ j < n) M M2 ∧ ∀ i, i < k → M2 8 i = wb a i) (by omega) ?_ ?_ (s := M) ⟨same.rf, fun i hi => by omega⟩
    · intro fu M2 hI
      show m_wet_L2 a _ (fu + 1) (nI n) M2 = _
      have e : M2 0 12 = nI n := by rw [hI.1 _ _ (by omega)]; exact h12
      simp only [m_wet_L2, e, if_pos (show nI n ≤ nI n from Int32.le_refl _)]
    · intro fu k M2 hk hI
      obtain ⟨hs, hv⟩ := hI
      refine ⟨wr M2 8 k (wb a k), ⟨hs.wr ⟨rfl, hk⟩, fun i hi => ?_⟩, ?_⟩
      · rw [wr_at]
        by_cases hik : i = k
        · rw [if_pos ⟨rfl, hik⟩, hik]
        · rw [if_neg (fun h => hik h.2)]; exact hv i (by omega)
      · show m_wet_L2 a _ (fu + 1) (nI k) M2 = m_wet_L2 a _ fu (nI (k + 1)) _
        have e : M2 0 12 = nI n := by rw [hs _ _ (by omega)]; exact h12
        simp only [m_wet_L2, e, if_neg (show ¬ nI n ≤ nI k from nI_ge hk (by omega)), ck_n _ (show k < 6 by omega) (show 6 < 2 ^ 31 by omega), nI_cl (show k < 2 ^ 31 by omega), bnd_s, nI_1]
        rfl
  obtain ⟨M', ⟨k1, k2⟩, e⟩ := key
  refine ⟨M', ?_, k1, k2⟩
  unfold m_wet
  rw [jp_s]
  exact e
def pV (n c j : Nat) : Prop := pT c j ∨ (c = 8 ∧ j < n)
theorem wet_step {A0 B0 A B : Mem} {n tc k : Nat} (h : Sites A0 B0 n tc) (hA : same pX A0 A) (hB : same (pV n) B0 B) (hk : k < 64) :
    ∃ M9 M11 M13 A' B1 B', x_startTrial A = some M9 ∧ f_Site_wetJust M9 24 (nI k) = some M11 ∧ f_Day_reckon M11 = some M13 ∧ f_Day_live M13 = some A' ∧ m_wet B (nI k) = some B1 ∧ m_livesPlain B1 (nI n) = some B' ∧
      same pX A0 A' ∧ same (pV n) B0 B' ∧ same pY A A' ∧ A' 23 16 = B' 0 41 ∧ B1 0 12 = nI n := by
  have hn6 := h.1
  obtain ⟨M9, r, a1, a2, a3, a4, a5⟩ := trialY (h.keep hA same.rf)
  obtain ⟨M11, b1, b2, b3⟩ := wetJust_ok M9 (nI k)
  have e12 : B 0 12 = nI n := by rw [hB _ _ (by unfold pV pT; omega)]; exact h.2.2.1
  obtain ⟨B1, c1, c2, c3⟩ := wet_ok hn6 e12 (nI k)
  obtain ⟨Bz, hBz⟩ : ∃ Bz : Mem, Bz = fun c j => if c = 8 then B1 8 j else B0 c j := ⟨_, rfl⟩
  have hz8 : ∀ j, Bz 8 j = B1 8 j := fun j => by rw [hBz]; exact if_pos rfl
  have hzn : ∀ c j, ¬ c = 8 → Bz c j = B0 c j := fun c j g => by rw [hBz]; exact if_neg g
  have hb : Base M11 Bz n n r := base_wet (f := wb (nI k)) a2 b2 (fun i hi => b3 i (by omega)) (fun c j g => hzn c j g) (fun i hi => by rw [hz8]; exact c3 i hi) (fun i hi => wb01 k hk i (by omega))
  have hb2 : Base M11 B1 n n r := hb.keep same.rf (fun c j g => by
    by_cases g8 : c = 8
    · subst g8; exact (hz8 j).symm
    · rw [hzn c j g8, c2 c j (by omega), hB c j (by unfold pV; exact fun q => q.elim g (fun q => g8 q.1))])
  obtain ⟨Ar, A', B', p1, p2, p3, p4, p5⟩ := plain_ok hb2 (fun i hi => by rw [b2 _ _ (by omega)]; exact a3 i hi)
  have sY : same pY A A' := a4.trans ((b2.mono (fun c j g => by unfold pY; omega)).trans (p4.1.mono (fun c j g => pS_Y g)))
  refine ⟨M9, M11, Ar, A', B1, B', a1, b1, p1, p2, c1, p3, hA.trans (sY.mono (fun c j g => pY_X g)), ?_, sY, p4.2.2.1, hb2.2.2.2.1⟩
  exact hB.trans ((c2.mono (fun c j g => Or.inr g)).trans (p4.2.1.mono (fun c j g => Or.inl g)))
theorem wetting_loop {A0 B0 : Mem} {n tc : Nat} {a1 : Int32} (hS : Sites A0 B0 n tc) (j4 : Mem → Option (Mem × Int32)) (j10 : Int32 → Int32 → Mem → Option (Mem × Int32)) :
    ∀ fu1 fu2 k A B f l, same pX A0 A → same (pV n) B0 B → PickR A f l 0 → (0 < k → ¬ f = -1) → k ≤ 2 ^ n → 2 ^ n < fu1 + k → 2 ^ n < fu2 + k →
      ∃ A' B' f' l', x_wetting_L31 a1 j4 fu1 (nI k) A = j4 A' ∧ m_wetting_L67 a1 j10 fu2 f l (nI k) B = j10 f' l' B' ∧ same pX A0 A' ∧ same (pV n) B0 B' ∧ PickR A' f' l' 0 ∧ ¬ f' = -1 := by
  have hn6 := hS.1
  obtain ⟨t1, t2, t3⟩ := two_n n (by omega)
  intro fu1
  induction fu1 with
  | zero => intro fu2 k A B f l hA hB hp h1 h2 h3; omega
  | succ fu1 ih =>
    intro fu2 k A B f l hA hB hp h0 h1 h2 h3
    obtain ⟨fu2, rfl⟩ : ∃ f, fu2 = f + 1 := ⟨fu2 - 1, by omega⟩
    have eA : A 1 5 = nI n := by rw [hA _ _ (by unfold pX; omega)]; exact hS.2.1
    have eB : B 0 12 = nI n := by rw [hB _ _ (by unfold pV pT; omega)]; exact hS.2.2.1
    by_cases hk : k = 2 ^ n
    · refine ⟨A, B, f, l, ?_, ?_, hA, hB, hp, h0 (by omega)⟩
      · simp only [x_wetting_L31, eA, t1, hk, if_pos (show nI (2 ^ n) ≤ nI (2 ^ n) from Int32.le_refl _)]
      · simp only [m_wetting_L67, eB, t1, hk, if_pos (show nI (2 ^ n) ≤ nI (2 ^ n) from Int32.le_refl _)]
    · have g : ¬ nI (2 ^ n) ≤ nI k := nI_ge (by omega) (by omega)
      obtain ⟨M9, M11, M13, A1, B1, B2, s1, s2, s3, s4, s5, s6, s7, s8, s9, s10, s11⟩ := wet_step hS hA hB (show k < 64 by omega)
      obtain ⟨q1, q2⟩ := bc_ok k (by omega)
      have hp1 : PickR A1 f l 0 := hp.keep (fun j => s9 _ _ (by unfold pY; omega))
      have hk1 : ¬ nI k = -1 := by rw [nI_neg1 (by omega)]; exact id
      obtain ⟨v, hv⟩ : ∃ v, v = B2 0 41 + a1 * bc k := ⟨_, rfl⟩
      have hcl : ∀ A2, f_Pick_offer A1 (nI k) v 0 = some A2 → x_wetting_L31 a1 j4 (fu1 + 1) (nI k) A = x_wetting_L31 a1 j4 fu1 (nI (k + 1)) A2 := fun A2 hA2 => by
        simp only [x_wetting_L31, eA, t1, if_neg g, s1, obp_s, s2, s3, s4, q1, s10, ← hv, hA2, bnd_s, nI_1]
      have hrf : m_wetting_L67 a1 j10 (fu2 + 1) f l (nI k) B = (if f = -1 then m_wetting_L67 a1 j10 fu2 (nI k) v (nI (k + 1)) B2 else if l ≤ v then m_wetting_L67 a1 j10 fu2 f l (nI (k + 1)) B2 else m_wetting_L67 a1 j10 fu2 (nI k) v (nI (k + 1)) B2) := by
        simp only [m_wetting_L67, eB, t1, if_neg g, s5, obp_s, s11, s6, q2, bnd_s, ← hv, jp_s, nI_1]
      by_cases hb : better f l 0 v 0
      · obtain ⟨A2, b1, b2, b3⟩ := offer_yes hp1 hb hk1
        obtain ⟨A3, B3, f3, l3, c1, c2, c3, c4, c5, c6⟩ := ih fu2 (k + 1) A2 B2 (nI k) v (s7.trans (b2.mono (fun c j g => by unfold pX; omega))) s8 b3 (fun _ => hk1) (by omega) (by omega) (by omega)
        refine ⟨A3, B3, f3, l3, (hcl A2 b1).trans c1, ?_, c3, c4, c5, c6⟩
        rw [hrf]
        by_cases hf : f = -1
        · rw [if_pos hf]; exact c2
        · rw [if_neg hf]
          rcases hb with hb | hb | ⟨hb1, hb2⟩
          · exact absurd hb hf
          · rw [if_neg (by rw [i_le]; rw [i_lt] at hb; omega)]; exact c2
          · exact absurd (Int32.le_refl _) hb2
      · have b1 := offer_no (w := nI k) hp1 hb
        obtain ⟨A3, B3, f3, l3, c1, c2, c3, c4, c5, c6⟩ := ih fu2 (k + 1) A1 B2 f l s7 s8 hp1 (fun _ g => hb (Or.inl g)) (by omega) (by omega) (by omega)
        refine ⟨A3, B3, f3, l3, (hcl A1 b1).trans c1, ?_, c3, c4, c5, c6⟩
        have hnl : ¬ v < l := fun g => hb (Or.inr (Or.inl g))
        rw [hrf, if_neg (fun g => hb (Or.inl g)), if_pos (by rw [i_lt] at hnl; rw [i_le]; omega)]
        exact c2
theorem c_wetting {A B : Mem} (h : Rel A B) (a1 a2 : Int32) : Two (x_wetting A a1 a2) (m_wetting B a1 a2) := by
  have c0 : (0 : Int32).toInt = 0 := by decide
  have c1 : (1 : Int32).toInt = 1 := by decide
  have c99 : (99 : Int32).toInt = 99 := by decide
  obtain ⟨z, z1, z2⟩ := in_b (a := a1) (lo := 0) (hi := 99) (lo' := 0) (hi' := 99) (by decide) (by decide)
  obtain ⟨y, y1, y2⟩ := in_b (a := a2) (lo := 0) (hi := 1) (lo' := 0) (hi' := 1) (by decide) (by decide)
  rw [c0, c99] at z2
  rw [c0, c1] at y2
  by_cases hs : 0 ≤ a1.toInt ∧ a1.toInt ≤ 99
  · have hz : z = true := z2.mpr hs
    subst hz
    by_cases hw : 0 ≤ a2.toInt ∧ a2.toInt ≤ 1
    · have hy : y = true := y2.mpr hw
      subst hy
      obtain ⟨n, tc, hS, hrest⟩ := id h
      have hn6 := hS.1
      obtain ⟨t1, t2, t3⟩ := two_n n (by omega)
      obtain ⟨A0, hA0⟩ : ∃ A0 : Mem, A0 = wr A 40 0 0 := ⟨_, rfl⟩
      have sA0 : same pX A A0 := by rw [hA0]; exact same.rf.wr (by unfold pX; omega)
      have hV : Valid B n := hS.2.2.2.2.2.2.2.2.2.2.2
      have hp0 : PickR A0 (-1) 0 0 := Or.inl ⟨by rw [hA0, wr_hit], rfl⟩
      have hj : ∀ j6 : Int32 → Option (Mem × Int32), m_wetting_L30 B j6 FU 0 0 = j6 (bitsF (fun i => decide (B 8 i = 1)) n) := fun j6 => by
        have e12 : B 0 12 = nI n := hS.2.2.1
        refine fold_FU (fun fu v k => m_wetting_L30 B j6 fu v k) j6 (bitsF (fun i => decide (B 8 i = 1))) n (by omega) (fun fu => ?_) (fun fu k hk => ?_)
        · show m_wetting_L30 B _ (fu + 1) _ (nI n) = _
          simp only [m_wetting_L30, e12, if_pos (show nI n ≤ nI n from Int32.le_refl _)]
        · show m_wetting_L30 B _ (fu + 1) _ (nI k) = m_wetting_L30 B _ fu _ (nI (k + 1))
          have e8 : B 8 k <<< (nI k &&& 31) = if decide (B 8 k = 1) = true then 1 <<< (nI k &&& 31) else 0 := by
            rcases (hV.2 k hk).2.2.2 with e | e
            · rw [e, if_neg (by decide)]; exact Int32.zero_shiftLeft
            · rw [e, if_pos (by decide)]
          simp only [m_wetting_L30, e12, if_neg (show ¬ nI n ≤ nI k from nI_ge hk (by omega)), ck_n _ (show k < 6 by omega) (show 6 < 2 ^ 31 by omega), nI_cl (show k < 2 ^ 31 by omega), bnd_s, nI_1, e8]
          rfl
      obtain ⟨was, hwas⟩ : ∃ was, was = bitsF (fun i => decide (B 8 i = 1)) n := ⟨_, rfl⟩
      obtain ⟨A', B', f, l, p1, p2, p3, p4, p5, p6⟩ := wetting_loop (a1 := a1) hS (fun (M3 : Mem) => if a2 = 0 then (some (M3, (M3 40 1))) else (some (M3, (M3 40 2)))) (fun (v7 : Int32) (v8 : Int32) (M9 : Mem) => ob (m_wet M9 was) fun (M12 : Mem) => if a2 = 0 then (some (M12, v7)) else (some (M12, v8))) FU FU 0 A0 B (-1) 0 sA0 same.rf hp0 (fun g => by omega) (by omega) (by unfold FU; omega) (by unfold FU; omega)
      obtain ⟨g0, g1, g2, g3, g4⟩ := p5.resolve_left (fun g => p6 g.2)
      have e12 : B' 0 12 = nI n := by rw [p4 _ _ (by unfold pV pT; omega)]; exact hS.2.2.1
      obtain ⟨B2, d1, d2, d3⟩ := wet_ok hn6 e12 was
      have sB : same pT B B2 := fun c j g => by
        by_cases g8 : c = 8 ∧ j < n
        · obtain ⟨rfl, hj⟩ := g8
          rw [d3 j hj, hwas, wb_bitsF _ hn6 hj]
          rcases (hV.2 j hj).2.2.2 with e | e
          · rw [e, if_neg (by decide)]
          · rw [e, if_pos (by decide)]
        · rw [d2 c j g8]
          exact p4 c j (fun q => q.elim g g8)
      refine ⟨A', B2, if a2 = 0 then f else l, ?_, ?_, h.keep p3 sB⟩
      · unfold x_wetting f_Pick_clear
        rw [if_neg (by rw [i_lt, c0]; omega), if_neg (by rw [i_lt, c99]; omega), if_neg (by rw [i_lt, c0]; omega), if_pos (by rw [i_le, c1]; omega)]
        simp only [bnd_s, obp_s, ← hA0, jp_s]
        refine Eq.trans p1 ?_
        rw [g1, g2]
        by_cases w0 : a2 = 0
        · rw [if_pos w0, if_pos w0]
        · rw [if_neg w0, if_neg w0]
      · unfold m_wetting
        rw [z1, obp_s, if_pos rfl, y1, obp_s, if_pos rfl, jp_s]
        refine (hj _).trans ?_
        rw [← hwas]
        rw [jp_s]
        refine Eq.trans p2 ?_
        rw [d1, obp_s]
        by_cases w0 : a2 = 0
        · rw [if_pos w0, if_pos w0]
        · rw [if_neg w0, if_neg w0]
    · have hy : y = false := by
        cases y with
        | false => rfl
        | true => exact absurd (y2.mp rfl) hw
      subst hy
      refine ⟨A, B, -2, ?_, ?_, h⟩
      · unfold x_wetting
        rw [if_neg (by rw [i_lt, c0]; omega), if_neg (by rw [i_lt, c99]; omega)]
        by_cases g : a2 < 0
        · rw [if_pos g]
        · rw [if_neg g]
          rw [i_lt, c0] at g
          rw [if_neg (by rw [i_le, c1]; omega)]
      · unfold m_wetting
        rw [z1, obp_s, if_pos rfl, y1, obp_s]
        rfl
  · have hz : z = false := by
      cases z with
      | false => rfl
      | true => exact absurd (z2.mp rfl) hs
    subst hz
    refine ⟨A, B, -2, ?_, ?_, h⟩
    · unfold x_wetting
      by_cases g : a1 < 0
      · rw [if_pos g]
      · rw [if_neg g]
        rw [i_lt, c0] at g
        rw [if_pos (by rw [i_lt, c99]; omega)]
    · unfold m_wetting
      rw [z1, obp_s]
      rfl
