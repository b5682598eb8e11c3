/-! best itself -/
def digN (r : List Nat) : Nat → Nat
  | 0 => 0
  | k + 1 => digN r k * 10 + r.getD k k + 1
theorem digN_bd {r : List Nat} {n : Nat} (hn : n ≤ 6) (h : ∀ i, i < n → r.getD i i < 6) : ∀ k, k ≤ n → digN r k + 1 ≤ 10 ^ k := by
  intro k
  induction k with
  | zero => intro _; exact Nat.le_refl _
  | succ k ih =>
    intro hk
    have h1 := ih (by omega)
    have h2 := h k (by omega)
    rw [digN, Nat.pow_succ]
    omega
theorem digN_6 {r : List Nat} {n k : Nat} (hn : n ≤ 6) (h : ∀ i, i < n → r.getD i i < 6) (hk : k ≤ n) : digN r k < 1000000 := by
  have h1 := digN_bd hn h k hk
  have h2 : 10 ^ k ≤ 10 ^ 6 := Nat.pow_le_pow_right (by omega) (by omega)
  omega
theorem dig_step {d x : Nat} : nI d * 10 + nI x + 1 = nI (d * 10 + x + 1) := by
  rw [show (10 : Int32) = nI 10 from rfl, nI_mul, nI_add, nI_1]
theorem digits_cl {M : Mem} {n : Nat} {r : List Nat} (hn : n ≤ 6) (h1 : M 24 5 = nI n) (h2 : ∀ i, i < 6 → M 32 i = nI (r.getD i i)) : f_Day_rowAsDigits M = some (nI (digN r n)) := by
  unfold f_Day_rowAsDigits
  rw [jp_s]
  refine fold_FU (fun fu v k => f_Day_rowAsDigits_L4 M (fun v1 => some v1) fu v k) (fun v1 => some v1) (fun k => nI (digN r k)) n (by omega) (fun fu => ?_) (fun fu k hk => ?_)
  · show f_Day_rowAsDigits_L4 M _ (fu + 1) _ (nI n) = _
    simp only [f_Day_rowAsDigits_L4, h1, if_pos (Int32.le_refl (nI n))]
  · show f_Day_rowAsDigits_L4 M _ (fu + 1) _ (nI k) = f_Day_rowAsDigits_L4 M _ fu _ (nI (k + 1))
    simp only [f_Day_rowAsDigits_L4, h1, if_neg (nI_ge hk (show n < 2 ^ 31 by omega)), if_neg (show ¬ (6 : Int32) ≤ nI k from nI_ge (b := 6) (by omega) (by omega)), ck_n _ (show k < 6 by omega) (show 6 < 2 ^ 31 by omega), nI_cl (show k < 2 ^ 31 by omega), h2 k (by omega), dig_step, bnd_s, nI_1, digN]
theorem digits_rf {B : Mem} {n : Nat} {r : List Nat} (hn : n ≤ 6) (h12 : B 0 12 = nI n) (h0 : B 0 44 = 0) (h9 : ∀ i, i < n → B 9 i = nI (r.getD i i)) : ∃ B', m_triesFrom_L76 (fun M18 => some M18) FU 0 B = some B' ∧ same (fun c j => c = 0 ∧ j = 44) B B' ∧ B' 0 44 = nI (digN r n) := by
  have key : ∃ M', (same (fun c j => c = 0 ∧ j = 44) B M' ∧ M' 0 44 = nI (digN r n)) ∧ m_triesFrom_L76 (fun M18 => some M18) FU 0 B = some M' := by
    refine lp_FU (fun fu k M => m_triesFrom_L76 (fun M18 => some M18) fu k M) (fun M => some M) n (fun k M => same (fun c j => c = 0 ∧ j = 44) B M ∧ M 0 44 = nI (digN r k)) (by omega) ?_ ?_ (s := B) ⟨same.rf, h0⟩
    · intro fu M hI
      have e : M 0 12 = nI n := by rw [hI.1 _ _ (by omega)]; exact h12
      show m_triesFrom_L76 _ (fu + 1) (nI n) M = _
      simp only [m_triesFrom_L76, e, if_pos (Int32.le_refl (nI n))]
    · intro fu k M hk hI
      obtain ⟨hs, hv⟩ := hI
      have e : M 0 12 = nI n := by rw [hs _ _ (by omega)]; exact h12
      have e9 : M 9 k = nI (r.getD k k) := by rw [hs _ _ (by omega)]; exact h9 k hk
      refine ⟨wr M 0 44 (nI (digN r (k + 1))), ⟨hs.wr ⟨rfl, rfl⟩, wr_hit _ _ _ _⟩, ?_⟩
      have ed : 10 * nI (digN r k) + nI (r.getD k k) + 1 = nI (digN r (k + 1)) := by rw [Int32.mul_comm, dig_step, digN]
      show m_triesFrom_L76 _ (fu + 1) (nI k) M = m_triesFrom_L76 _ fu (nI (k + 1)) _
      simp only [m_triesFrom_L76, e, if_neg (nI_ge hk (show n < 2 ^ 31 by omega)), ck_n _ (show k < 6 by omega) (show 6 < 2 ^ 31 by omega), nI_cl (show k < 2 ^ 31 by omega), hv, e9, ed, bnd_s, nI_1]
  obtain ⟨M', ⟨k1, k2⟩, e⟩ := key
  exact ⟨M', e, k1, k2⟩
def bA (c j : Nat) : Prop := c = 30 ∨ c = 31 ∨ c = 32 ∨ (36 ≤ c ∧ c ≤ 40) ∨ (c = 23 ∧ 12 ≤ j)
def bB (c j : Nat) : Prop := c = 9 ∨ (13 ≤ c ∧ c ≤ 16) ∨ (c = 0 ∧ 13 ≤ j ∧ j ≤ 27) ∨ (c = 0 ∧ 37 ≤ j ∧ j ≤ 44)
theorem ready_keep {A B A' B' : Mem} {n N r : Nat} {ro ro' : Nat → Nat} (h : Ready A B n N r ro) (hA : same bA A A') (hB : same bB B B') (hro : ∀ i, i < n → ro' i < n ∧ A' 32 i = nI (ro' i) ∧ B' 9 i = nI (ro' i)) : Ready A' B' n N r ro' := by
  obtain ⟨⟨a1, a2, a3, a4, a5, a6, a7, a8, a9, a10, a11, a12⟩, b2, b3, b4⟩ := h
  refine ⟨⟨a1, a2, ?_, ?_, ?_, ?_, a7, ?_, ?_, ?_, ?_, ?_⟩, ?_, hro, ?_⟩
  · rw [hA _ _ (by unfold bA; omega)]; exact a3
  · rw [hB _ _ (by unfold bB; omega)]; exact a4
  · rw [hA _ _ (by unfold bA; omega)]; exact a5
  · rw [hB _ _ (by unfold bB; omega)]; exact a6
  · exact a8.keep (fun j => hA _ _ (by unfold bA; omega)) (fun j => hA _ _ (by unfold bA; omega)) (fun j => hB _ _ (by unfold bB; omega)) (hB _ _ (by unfold bB; omega))
  · intro j hj
    rw [hA _ _ (by unfold bA; omega), hB _ _ (by unfold bB; omega)]; exact a9 j hj
  · intro i hi
    rw [hA 26 _ (by unfold bA; omega), hA 27 _ (by unfold bA; omega), hA 28 _ (by unfold bA; omega), hA 29 _ (by unfold bA; omega), hB 5 _ (by unfold bB; omega), hB 6 _ (by unfold bB; omega), hB 7 _ (by unfold bB; omega), hB 8 _ (by unfold bB; omega)]
    exact a10 i hi
  · rw [hB _ _ (by unfold bB; omega)]; exact a11
  · intro i hi
    rw [hB 5 _ (by unfold bB; omega), hB 6 _ (by unfold bB; omega), hB 7 _ (by unfold bB; omega), hB 8 _ (by unfold bB; omega)]
    exact a12 i hi
  · intro i hi
    rw [hA 33 _ (by unfold bA; omega), hA 34 _ (by unfold bA; omega), hA 35 _ (by unfold bA; omega), hA 25 _ (by unfold bA; omega), hB 10 _ (by unfold bB; omega), hB 11 _ (by unfold bB; omega), hB 12 _ (by unfold bB; omega)]
    exact b2 i hi
  · rw [hB _ _ (by unfold bB; omega)]; exact b4
def takeM (M12 : Mem) : Option Mem := m_triesFrom_L76 (fun M18 => some M18) FU 0 (wr (wr (wr M12 0 42 (M12 0 41)) 0 43 (wr M12 0 42 (M12 0 41) 0 37)) 0 44 0)
theorem leaf_eq (M : Mem) : leafM M = ob (m_lives M) fun M12 => if (M12 0 44) = (-1) then takeM M12 else (if (M12 0 41) < (M12 0 42) then takeM M12 else (if (M12 0 41) = (M12 0 42) then (if (M12 0 43) ≤ (M12 0 37) then (some M12) else takeM M12) else (some M12))) := by
  unfold leafM takeM
  simp only [jp_s, bnd_s]
/-- where the two walks stand -/
def BP (n r : Nat) (j8 : Mem → Option (Mem × Int32)) (z : Option (Mem × Int32)) (Ar B2 : Mem) (L : List (List Nat)) (B : Mem) : Prop :=
  ∃ A v10 fu, z = x_best_L34 j8 fu (if L.isEmpty = true then 0 else 1) (nI v10) A ∧ same bA Ar A ∧ same bB B2 B ∧ PickR A (B 0 44) (B 0 42) (B 0 43) ∧ v10 + L.length ≤ 720 ∧ L.length < fu ∧ chkR n L = true ∧ (∀ r' t, L = r' :: t → ∀ i, i < 6 → A 32 i = nI (r'.getD i i)) ∧ (L = [] → ¬ B 0 44 = -1)
theorem best_leaf {n r : Nat} {j8 : Mem → Option (Mem × Int32)} {z : Option (Mem × Int32)} {Ar B2 : Mem} {ro : Nat → Nat} (hn : n ≤ 6) (hR : Ready Ar B2 n n r ro) (r' : List Nat) (rs : List (List Nat)) (M : Mem) (hP : BP n r j8 z Ar B2 (r' :: rs) M) (h9 : ∀ i, i < n → M 9 i = nI (r'.getD i i)) :
    ∃ M', leafM M = some M' ∧ BP n r j8 z Ar B2 rs M' ∧ ∀ j, M' 9 j = M 9 j := by
  obtain ⟨A, v10, fu, e, sA, sB, hp, hlen, hfu, hc, hrow, hne⟩ := hP
  obtain ⟨fu, rfl⟩ : ∃ f, fu = f + 1 := ⟨fu - 1, by omega⟩
  have hlt : ∀ i, i < n → r'.getD i i < n := by
    have hc' := hc
    unfold chkR at hc'
    simp only [Bool.and_eq_true, List.all_eq_true, decide_eq_true_eq, beq_iff_eq] at hc'
    obtain ⟨⟨⟨-, hl⟩, ha⟩, -⟩ := hc'
    intro i hi
    refine ha _ ?_
    rw [List.getD_eq_getElem?_getD, List.getElem?_eq_getElem (by omega)]
    exact List.getElem_mem _
  have hc2 : chkR n rs = true := by
    unfold chkR at hc
    simp only [Bool.and_eq_true] at hc
    exact hc.2
  have h32 := hrow r' rs rfl
  have hR1 : Ready A M n n r (fun i => r'.getD i i) := ready_keep hR sA sB (fun i hi => ⟨hlt i hi, h32 i (by omega), h9 i hi⟩)
  obtain ⟨A1, B1, l1, l2, l3, l4, l5, l6, -⟩ := live_ok hR1
  have sA1 : same bA Ar A1 := sA.trans (l3.mono (fun c j g => by unfold pD at g; unfold bA; omega))
  have sB1 : same bB B2 B1 := sB.trans (l4.mono (fun c j g => by unfold pE at g; unfold bB; omega))
  have e24 : A1 24 5 = nI n := by rw [sA1 _ _ (by unfold bA; omega)]; exact hR.1.2.2.1
  have e12 : B1 0 12 = nI n := by rw [sB1 _ _ (by unfold bB; omega)]; exact hR.1.2.2.2.1
  have h32' : ∀ i, i < 6 → A1 32 i = nI (r'.getD i i) := fun i hi => by rw [l3 _ _ (by unfold pD; omega)]; exact h32 i hi
  have h9' : ∀ j, B1 9 j = M 9 j := fun j => l4 _ _ (by unfold pE; omega)
  have hp1 : PickR A1 (B1 0 44) (B1 0 42) (B1 0 43) := by
    rw [l4 0 44 (by unfold pE; omega), l4 0 42 (by unfold pE; omega), l4 0 43 (by unfold pE; omega)]
    exact hp.keep (fun j => l3 _ _ (by unfold pD; omega))
  have hd6 := digN_6 (r := r') hn (fun i hi => by have := hlt i hi; omega) (Nat.le_refl n)
  have hw : ¬ nI (digN r' n) = -1 := by rw [nI_neg1 (by omega)]; exact id
  have hdig := digits_cl hn e24 h32'
  -- the class's step, once the offer is known
  have step : ∀ A2 B3, f_Pick_offer A1 (nI (digN r' n)) (A1 23 16) (A1 23 14) = some A2 → same (fun c _ => c = 40) A1 A2 → PickR A2 (B3 0 44) (B3 0 42) (B3 0 43) → same bB B2 B3 → ¬ B3 0 44 = -1 → BP n r j8 z Ar B2 rs B3 := by
    intro A2 B3 h1 h2 h3 h4 h5
    obtain ⟨A3, n1, n2, n3⟩ := nextR_cl hc (M := A2) (by rw [h2 _ _ (by omega)]; exact e24) (fun i hi => by rw [h2 _ _ (by omega)]; exact h32' i hi)
    refine ⟨A3, v10 + 1, fu, ?_, sA1.trans ((h2.mono (fun c j g => by unfold bA; omega)).trans (n2.mono (fun c j g => by unfold bA; omega))), h4, h3.keep (fun j => n2 _ _ (by omega)), ?_, ?_, hc2, n3, fun _ => h5⟩
    · rw [e, x_best_L34]
      simp only [List.length_cons] at hlen
      have eb : (if (r' :: rs).isEmpty = true then (0 : Int32) else 1) = 1 := rfl
      have e2 : b2i (!rs.isEmpty) = (if rs.isEmpty = true then (0 : Int32) else 1) := by
        unfold b2i
        cases rs.isEmpty <;> rfl
      rw [eb, if_neg (show ¬ (720 : Int32) ≤ nI v10 from nI_ge (b := 720) (by omega) (by omega)), if_neg (by decide), l1, obp_s, hdig, obp_s, h1, obp_s, n1, obp2_s, bnd_s, nI_1, e2]
    · simp only [List.length_cons] at hlen
      omega
    · simp only [List.length_cons] at hfu
      omega
  have htake : ∃ B3, takeM B1 = some B3 ∧ same (fun c j => c = 0 ∧ 42 ≤ j ∧ j ≤ 44) B1 B3 ∧ B3 0 44 = nI (digN r' n) ∧ B3 0 42 = B1 0 41 ∧ B3 0 43 = B1 0 37 := by
    obtain ⟨Bw, hBw⟩ : ∃ Bw : Mem, Bw = wr (wr (wr B1 0 42 (B1 0 41)) 0 43 (wr B1 0 42 (B1 0 41) 0 37)) 0 44 0 := ⟨_, rfl⟩
    have sw : same (fun c j => c = 0 ∧ 42 ≤ j ∧ j ≤ 44) B1 Bw := by
      rw [hBw]; exact ((same.rf.wr (by omega)).wr (by omega)).wr (by omega)
    obtain ⟨B3, t1, t2, t3⟩ := digits_rf (B := Bw) (r := r') hn (by rw [sw _ _ (by omega)]; exact e12) (by rw [hBw]; exact wr_hit _ _ _ _) (fun i hi => by rw [sw _ _ (by omega), h9']; exact h9 i hi)
    refine ⟨B3, ?_, sw.trans (t2.mono (fun c j g => by omega)), t3, ?_, ?_⟩
    · unfold takeM
      rw [← hBw]
      exact t1
    · rw [t2 _ _ (by omega), hBw]; simp [wr_at]
    · rw [t2 _ _ (by omega), hBw]; simp [wr_at]
  by_cases hb : better (B1 0 44) (B1 0 42) (B1 0 43) (A1 23 16) (A1 23 14)
  · obtain ⟨A2, o1, o2, o3⟩ := offer_yes hp1 hb hw
    obtain ⟨B3, t1, t2, t3, t4, t5⟩ := htake
    refine ⟨B3, ?_, step A2 B3 o1 o2 (by rw [t3, t4, t5, ← l5, ← l6]; exact o3) (sB1.trans (t2.mono (fun c j g => by unfold bB; omega))) (by rw [t3]; exact hw), fun j => by rw [t2 _ _ (by omega)]; exact h9' j⟩
    rw [leaf_eq, l2, obp_s, ← l5, ← l6]
    rcases hb with hb | hb | ⟨hb1, hb2⟩
    · rw [if_pos hb]; exact t1
    · by_cases hf : B1 0 44 = -1
      · rw [if_pos hf]; exact t1
      · rw [if_neg hf, if_pos hb]; exact t1
    · by_cases hf : B1 0 44 = -1
      · rw [if_pos hf]; exact t1
      · have hnl : ¬ A1 23 16 < B1 0 42 := by rw [i_lt, hb1]; omega
        rw [if_neg hf, if_neg hnl, if_pos hb1, if_neg hb2]; exact t1
  · have o1 := offer_no (w := nI (digN r' n)) hp1 hb
    refine ⟨B1, ?_, step A1 B1 o1 same.rf hp1 sB1 (fun q => hb (Or.inl q)), h9'⟩
    rw [leaf_eq, l2, obp_s, ← l5, ← l6, if_neg (fun q => hb (Or.inl q)), if_neg (fun q => hb (Or.inr (Or.inl q)))]
    by_cases hbl : A1 23 16 = B1 0 42
    · rw [if_pos hbl]
      by_cases hd : B1 0 43 ≤ A1 23 14
      · rw [if_pos hd]
      · exact absurd (Or.inr (Or.inr ⟨hbl, hd⟩)) hb
    · rw [if_neg hbl]
