/-! both readers, from NOT to a whole text: printed by sim3.py -/
theorem nI_inj {a b : Nat} (h : nI a = nI b) (ha : a < 2 ^ 31) (hb : b < 2 ^ 31) : a = b := (nI_eq ha hb).mp h
section SIM
variable {A0 B0 A B : Mem} {n L t k o c p : Nat} {E : Nat → Nat} {fl : Option Nat}
def cmpM (ao : Mem → Option (Mem × Int32)) (M : Mem) : Option (Mem × Int32) :=
  (ob2 (m_added ao M) fun (M4 : Mem) (v5 : Int32) =>
  ob (m_isSign M4 60) fun (v7 : Bool) =>
  jp (fun (u8 : Unit) =>
  jp (fun (v10 : Int32) =>
  ob (m_next M4) fun (M13 : Mem) =>
  ob2 (m_added ao M13) fun (M15 : Mem) (v16 : Int32) =>
  if v10 = 0 then
  (if v5 = v16 then
  (some (M15, 1))
  else
  (some (M15, 0)))
  else
  (if v16 ≤ v5 then
  (some (M15, 0))
  else
  (some (M15, 1)))) fun j11 =>
  if (lg_cmp ((M4 0 24).toInt64) 60) = 0 then
  (j11 1)
  else
  (j11 0)) fun j9 =>
  if v7 = true then
  (j9 ())
  else
  (ob (m_isSign M4 61) fun (v18 : Bool) =>
  if v18 = true then
  (j9 ())
  else
  (some (M4, v5))))
theorem cmp_sim (C : Cx A0 B0 n L t E) {one : Mem → Option Mem} {ao : Mem → Option (Mem × Int32)} {m : Nat} (hs : Sim A0 B0 L E (f_Reader_readSum one) (m_added ao) m) : Sim A0 B0 L E (f_Reader_readCompared one) (cmpM ao) m := by
  intro A B k o c R hm
  have hL := C.L160
  obtain ⟨A2, B2, v, k2, c2, fl2, a2, b2, R2, q1, q2, q3, q4, q5⟩ := hs A B k o c R hm
  have hk := R2.kL
  obtain ⟨z, zc, zm, zz⟩ := sg_ok C R2 60 (by decide)
  obtain ⟨y, yc, ym, yy⟩ := sg_ok C R2 61 (by decide)
  by_cases hzy : z = true ∨ y = true
  · obtain ⟨hfl, hT⟩ : fl2 = none ∧ (A0 15 k2 = 60 ∨ A0 15 k2 = 61) := by
      rcases hzy with h | h
      · exact ⟨(zz.mp h).1, Or.inl (zz.mp h).2⟩
      · exact ⟨(yy.mp h).1, Or.inr (yy.mp h).2⟩
    subst hfl
    have hkL : k2 < L := kltL C hk (by rcases hT with hT | hT <;> (rw [hT]; decide))
    have hT15 : ¬ A0 15 k2 = nI 15 := by rcases hT with hT | hT <;> (rw [hT]; decide)
    have h24 := sign24 C R2 (by rcases hT with hT | hT <;> (rw [hT]; decide))
    have htk := token_ok C R2
    obtain ⟨A3, B3, a3, b3, R3, e3⟩ := next2 C R2 hkL hT15
    obtain ⟨A4, B4, w, k4, c4, fl4, a4, b4, R4, p1, p2, p3, p4, p5⟩ := hs A3 B3 (k2 + 1) o c2 R3 hm
    have hck := R2.ck'
    obtain ⟨A5, a5, R5, e5⟩ := add2 C R4 (by omega) (-(A0 15 k2))
    refine ⟨A5, B4, if A0 15 k2 = 60 then (if w ≤ v then 0 else 1) else (if v = w then 1 else 0), k4, c4 + 1, fl4, ?_, ?_, R5, by omega, by omega, by omega, fun j hj => ?_, fun hf => evr_op q2 p2 (q5 rfl) (p5 hf) (fun j hj => by rw [p4 j hj, e3]) (fun j hj => by rw [e5 j, if_neg (by omega)]) (by rw [e5 c4, if_pos rfl]) (fun s => ?_)⟩
    · unfold f_Reader_readCompared
      rcases hzy with h | h
      · subst h
        simp only [a2, zc, yc, ob_s, jp_s, if_true, htk, a3, a4, a5]
      · subst h
        cases z <;> simp only [a2, zc, yc, ob_s, jp_s, if_true, htk, a3, a4, a5, Bool.false_eq_true, if_false]
    · unfold cmpM
      rcases hT with hT | hT
      · have hz : z = true := zz.mpr ⟨rfl, hT⟩
        subst hz
        rw [hT, if_pos rfl]
        rw [hT] at h24
        have g1 : lg_cmp ((B2 0 24).toInt64) 60 = 0 := by rw [h24]; decide
        simp only [b2, zm, ob_s, jp_s, if_true, if_pos g1, b3, b4, ob2_s, if_neg (show ¬ (1 : Int32) = 0 by decide)]
        by_cases hw : w ≤ v
        · rw [if_pos hw, if_pos hw]
        · rw [if_neg hw, if_neg hw]
      · have hz : y = true := yy.mpr ⟨rfl, hT⟩
        subst hz
        have hzf : z = false := by
          cases z with
          | false => rfl
          | true => have := (zz.mp rfl).2; rw [hT] at this; exact absurd this (by decide)
        subst hzf
        rw [hT, if_neg (by decide)]
        rw [hT] at h24
        have g1 : ¬ lg_cmp ((B2 0 24).toInt64) 60 = 0 := by rw [h24]; decide
        simp only [b2, zm, ym, ob_s, jp_s, if_true, if_neg g1, b3, b4, ob2_s, Bool.false_eq_true, if_false]
        by_cases hw : v = w
        · rw [if_pos hw, if_pos hw]
        · rw [if_neg hw, if_neg hw]
    · rw [e5 j, if_neg (by omega), p4 j (by omega), e3, q4 j hj]
    · rcases hT with hT | hT
      · rw [hT, if_pos rfl, ev_bin (g := 60) (by decide) (by decide) (by decide), jn_60]
      · rw [hT, if_neg (by decide), ev_bin (g := 61) (by decide) (by decide) (by decide), jn_61]
  · have hz : z = false := by cases z with
      | false => rfl
      | true => exact absurd (Or.inl rfl) hzy
    have hy : y = false := by cases y with
      | false => rfl
      | true => exact absurd (Or.inr rfl) hzy
    subst hz
    subst hy
    refine ⟨A2, B2, v, k2, c2, fl2, ?_, ?_, R2, q1, q2, q3, q4, q5⟩
    · unfold f_Reader_readCompared
      simp only [a2, zc, yc, ob_s, jp_s]
      rfl
    · unfold cmpM
      simp only [b2, zm, ym, ob2_s, ob_s, jp_s]
      rfl
theorem ev_not {nm : Nat → Int32} (v : Int32) (s : List Int32) : ev nm (-12) (v :: s) = (if v = 0 then 1 else 0) :: s := by
  unfold ev
  rw [if_pos (by decide), if_pos (by decide)]
  show (if (-12 : Int32) = -16 then -v else if v = 0 then 1 else 0) :: s = _
  rw [if_neg (by decide)]
theorem ev_neg {nm : Nat → Int32} (v : Int32) (s : List Int32) : ev nm (-16) (v :: s) = (-v) :: s := by
  unfold ev
  rw [if_pos (by decide), if_pos (by decide)]
  show (if (-16 : Int32) = -16 then -v else if v = 0 then 1 else 0) :: s = _
  rw [if_pos rfl]
theorem not_one (C : Cx A0 B0 n L t E) {one slf : Mem → Option Mem} {ao sl2 : Mem → Option (Mem × Int32)} {m q : Nat} (hs : Sim A0 B0 L E (f_Reader_readSum one) (m_added ao) m) (hq : q ≤ 5) (hself : ∀ A B k o c, RS A0 B0 L E A B k o c none → max m (6 - q) ≤ o → Post A0 B0 L E (slf A) (sl2 B) A k o c) : Sim A0 B0 L E (f_Reader_readNotB one slf) (m_notB ao sl2) (max m (5 - q)) := by
  intro A B k o c R hm
  have hL := C.L160
  have hk := R.kL
  obtain ⟨z, zc, zm, zz⟩ := kw_ok C R 12 (by omega) (by omega) (a1 := 110) (a2 := 111) (a3 := 116) (a4 := 0) (a5 := 0) (a6 := 0) (a7 := 0) (a8 := 0) (by decide)
  have zc : f_Reader_is A 12 = some z := zc
  cases z with
  | false =>
    obtain ⟨A2, B2, v, k2, c2, fl2, a2, b2, R2, q1, q2, q3, q4, q5⟩ := cmp_sim C hs A B k o c R (by omega)
    refine ⟨A2, B2, v, k2, c2, fl2, ?_, ?_, R2, q1, q2, q3, q4, q5⟩
    · unfold f_Reader_readNotB
      simp only [zc, ob_s, a2]
      rfl
    · unfold m_notB
      rw [zm, ob_s]
      exact b2
  | true =>
    obtain ⟨-, hT⟩ := zz.mp rfl
    have hkL : k < L := kltL C hk (by rw [hT]; decide)
    have hT15 : ¬ A0 15 k = nI 15 := by rw [hT]; decide
    rcases opens2 C R hkL hT15 with ⟨ho, A1, B1, a1, b1, R1, e1⟩ | ⟨A1, B1, p1, a1, b1, R1, e1⟩
    · obtain ⟨A2, B2, v, k2, c2, fl2, a2, b2, R2, q1, q2, q3, q4, q5⟩ := hself A1 B1 (k + 1) (o + 1) c R1 (by omega)
      have hck := R.ck'
      obtain ⟨A3, a3, R3, e3⟩ := add2 C (open_dn R2) (by omega) (-12)
      have e20 : ∀ j, A3 20 j = if j = c2 then -12 else A2 20 j := fun j => by rw [e3 j, wr_off _ _ _ _ _ _ (by omega)]
      refine ⟨A3, wr B2 0 25 (B2 0 25 - 1), if v = 0 then 1 else 0, k2, c2 + 1, fl2, ?_, ?_, R3, by omega, by omega, by omega, fun j hj => ?_, fun hf => evr_un q2 (q5 hf) (fun j hj => by rw [e20 j, if_neg (by omega)]) (by rw [e20 c2, if_pos rfl]) (fun s => ev_not v s)⟩
      · unfold f_Reader_readNotB
        simp only [zc, ob_s, if_true, a1, ob2_s, a2, bnd_s, a3]
      · unfold m_notB
        simp only [zm, ob_s, if_true, b1, ob2_s, b2, bnd_s]
        by_cases hv : v = 0
        · rw [if_pos hv, if_pos hv]
        · rw [if_neg hv, if_neg hv]
      · rw [e20 j, if_neg (by omega), q4 j hj, e1]
    · refine ⟨A1, B1, 0, k, c, some p1, ?_, ?_, R1, Nat.le_refl _, Nat.le_refl _, by omega, fun j _ => by rw [e1], fun hf => by cases hf⟩
      · unfold f_Reader_readNotB
        simp only [zc, ob_s, if_true, a1, ob2_s]
        rfl
      · unfold m_notB
        simp only [zm, ob_s, if_true, b1, ob2_s]
        rfl
theorem not_sim (C : Cx A0 B0 n L t E) {one : Mem → Option Mem} {ao : Mem → Option (Mem × Int32)} {m : Nat} (hs : Sim A0 B0 L E (f_Reader_readSum one) (m_added ao) m) : ∀ q, q ≤ 5 → Sim A0 B0 L E (f_Reader_readNot one (q + 1)) (m_not ao (q + 1)) (max m (5 - q)) := by
  intro q
  induction q with
  | zero => exact fun _ => not_one (slf := f_Reader_readNot one 0) (sl2 := m_not ao 0) C hs (q := 0) (by omega) (fun A B k o c R h1 => by have := R.o5; omega)
  | succ q ih => exact fun hq => not_one (slf := f_Reader_readNot one (q + 1)) (sl2 := m_not ao (q + 1)) C hs (q := q + 1) hq (fun A B k o c R h1 => ih (by omega) A B k o c R (by omega))

theorem name_ok (C : Cx A0 B0 n L t E) (R : RS A0 B0 L E A B k o c none) : (∃ u, 1 ≤ u ∧ u ≤ 6 ∧ A0 15 k = nI u ∧ m_name B = some (B, nmB B0 u)) ∨ ((∀ u, 1 ≤ u → u ≤ 6 → ¬ A0 15 k = nI u) ∧ ∀ B', m_fail B = some B' → m_name B = some (B', 0)) := by
  obtain ⟨z1, zc1, zm1, zz1⟩ := kw_ok C R 1 (by omega) (by omega) (a1 := 119) (a2 := 97) (a3 := 114) (a4 := 109) (a5 := 0) (a6 := 0) (a7 := 0) (a8 := 0) (by decide)
  obtain ⟨z2, zc2, zm2, zz2⟩ := kw_ok C R 2 (by omega) (by omega) (a1 := 97) (a2 := 103) (a3 := 101) (a4 := 0) (a5 := 0) (a6 := 0) (a7 := 0) (a8 := 0) (by decide)
  obtain ⟨z3, zc3, zm3, zz3⟩ := kw_ok C R 3 (by omega) (by omega) (a1 := 100) (a2 := 105) (a3 := 114) (a4 := 116) (a5 := 0) (a6 := 0) (a7 := 0) (a8 := 0) (by decide)
  obtain ⟨z4, zc4, zm4, zz4⟩ := kw_ok C R 4 (by omega) (by omega) (a1 := 121) (a2 := 97) (a3 := 114) (a4 := 100) (a5 := 115) (a6 := 0) (a7 := 0) (a8 := 0) (by decide)
  obtain ⟨z5, zc5, zm5, zz5⟩ := kw_ok C R 5 (by omega) (by omega) (a1 := 111) (a2 := 102) (a3 := 102) (a4 := 0) (a5 := 0) (a6 := 0) (a7 := 0) (a8 := 0) (by decide)
  obtain ⟨z6, zc6, zm6, zz6⟩ := kw_ok C R 6 (by omega) (by omega) (a1 := 110) (a2 := 117) (a3 := 109) (a4 := 98) (a5 := 101) (a6 := 114) (a7 := 0) (a8 := 0) (by decide)
  have hb : ∀ x, x ≤ 20 → B 0 x = B0 0 x := fun x hx => R.2.1 0 x (by unfold pB; omega)
  cases z1 with
  | true =>
    refine Or.inl ⟨1, by omega, by omega, (zz1.mp rfl).2, ?_⟩
    unfold m_name
    simp only [zm1, ob_s, if_true, Bool.false_eq_true, if_false]
    rw [hb 13 (by omega)]
    rfl
  | false =>
  cases z2 with
  | true =>
    refine Or.inl ⟨2, by omega, by omega, (zz2.mp rfl).2, ?_⟩
    unfold m_name
    simp only [zm1, zm2, ob_s, if_true, Bool.false_eq_true, if_false]
    rw [hb 14 (by omega)]
    rfl
  | false =>
  cases z3 with
  | true =>
    refine Or.inl ⟨3, by omega, by omega, (zz3.mp rfl).2, ?_⟩
    unfold m_name
    simp only [zm1, zm2, zm3, ob_s, if_true, Bool.false_eq_true, if_false]
    rw [hb 15 (by omega)]
    rfl
  | false =>
  cases z4 with
  | true =>
    refine Or.inl ⟨4, by omega, by omega, (zz4.mp rfl).2, ?_⟩
    unfold m_name
    simp only [zm1, zm2, zm3, zm4, ob_s, if_true, Bool.false_eq_true, if_false]
    rw [hb 16 (by omega)]
    rfl
  | false =>
  cases z5 with
  | true =>
    refine Or.inl ⟨5, by omega, by omega, (zz5.mp rfl).2, ?_⟩
    unfold m_name
    simp only [zm1, zm2, zm3, zm4, zm5, ob_s, if_true, Bool.false_eq_true, if_false]
    rw [hb 17 (by omega)]
    rfl
  | false =>
  cases z6 with
  | true =>
    refine Or.inl ⟨6, by omega, by omega, (zz6.mp rfl).2, ?_⟩
    unfold m_name
    simp only [zm1, zm2, zm3, zm4, zm5, zm6, ob_s, if_true, Bool.false_eq_true, if_false]
    rw [hb 18 (by omega)]
    rfl
  | false =>
  refine Or.inr ⟨fun u u1 u2 hT => ?_, fun B' hB' => ?_⟩
  · match u, u1, u2 with
    | 1, _, _ => exact absurd (zz1.mpr ⟨rfl, hT⟩) (by simp)
    | 2, _, _ => exact absurd (zz2.mpr ⟨rfl, hT⟩) (by simp)
    | 3, _, _ => exact absurd (zz3.mpr ⟨rfl, hT⟩) (by simp)
    | 4, _, _ => exact absurd (zz4.mpr ⟨rfl, hT⟩) (by simp)
    | 5, _, _ => exact absurd (zz5.mpr ⟨rfl, hT⟩) (by simp)
    | 6, _, _ => exact absurd (zz6.mpr ⟨rfl, hT⟩) (by simp)
  · unfold m_name
    simp only [zm1, zm2, zm3, zm4, zm5, zm6, ob_s, Bool.false_eq_true, if_false, hB']
theorem ev_num {nm : Nat → Int32} {v : Int32} (h : 0 ≤ v.toInt) (s : List Int32) : ev nm v s = v :: s := by
  unfold ev
  have e6 : (-6 : Int32).toInt = -6 := by decide
  have e0 : (0 : Int32).toInt = 0 := by decide
  rw [if_neg (by rw [i_lt]; omega), if_neg (by rw [i_lt]; omega)]
theorem ev_nam : ∀ u, u < 7 → 1 ≤ u → ∀ (nm : Nat → Int32) (s : List Int32), ev nm (-(nI u)) s = nm u :: s := by
  intro u h1 h2 nm s
  have h := (by decide : ∀ u, u < 7 → 1 ≤ u → (¬ -(nI u) < -6) ∧ (-(nI u) < 0) ∧ (-(-(nI u))).toNatClampNeg = u) u h1 h2
  unfold ev
  rw [if_neg h.1, if_pos h.2.1, h.2.2]
theorem atom_sim (C : Cx A0 B0 n L t E) {one : Mem → Option Mem} {ao : Mem → Option (Mem × Int32)} {m : Nat} (hs : Sim A0 B0 L E one ao (m + 1)) (hE : Sim A0 B0 L E (f_Reader_readE one) (m_either ao) (m + 1)) : Sim A0 B0 L E (f_Reader_readOneB one) (m_atomB ao) m := by
  intro A B k o c R hm
  have hL := C.L160
  have hk := R.kL
  have htk := token_ok C R
  obtain ⟨z, zc, zm, zz⟩ := sg_ok C R 45 (by decide)
  obtain ⟨y, yc, ym, yy⟩ := sg_ok C R 40 (by decide)
  have hzf : ¬ A0 15 k = 45 → z = false := fun h => by
    cases z with
    | false => rfl
    | true => exact absurd (zz.mp rfl).2 h
  have hyf : ¬ A0 15 k = 40 → y = false := fun h => by
    cases y with
    | false => rfl
    | true => exact absurd (yy.mp rfl).2 h
  -- what falls at the TOKEN
  have fall : ∀ (x : Int32) (Af Bf : Mem) (pf : Nat), RS A0 B0 L E Af Bf k o c (some pf) → Af 20 = A 20 → f_Reader_readOneB one A = some Af → m_atomB ao B = some (Bf, x) → Post A0 B0 L E (f_Reader_readOneB one A) (m_atomB ao B) A k o c := fun x Af Bf pf Rf ef h1 h2 =>
    ⟨Af, Bf, x, k, c, some pf, h1, h2, Rf, Nat.le_refl _, Nat.le_refl _, by omega, fun j _ => by rw [ef], fun hf => by cases hf⟩
  obtain ⟨Af, Bf, pf, af, bf, Rf, ef⟩ := fail2 C R
  have clfall : ¬ A0 15 k = 13 → ¬ A0 15 k = 45 → ¬ A0 15 k = 40 → (A0 15 k < 1 ∨ 6 < A0 15 k) → f_Reader_readOneB one A = some Af := fun h13 h45 h40 hr => by
    unfold f_Reader_readOneB
    rw [htk, ob_s, if_neg h13, jp_s]
    by_cases h1 : A0 15 k < 1
    · rw [if_pos h1]
      dsimp only
      rw [if_neg h45, if_neg h40, af, ob_s]
    · rw [if_neg h1, if_pos (hr.resolve_left h1)]
      dsimp only
      rw [if_neg h45, if_neg h40, af, ob_s]
  rcases tok_cases C hk R.at with ⟨-, hT, h22⟩ | ⟨hkL, u, u1, u2, hT, h22, -⟩ | ⟨hkL, hT, h22⟩ | ⟨hkL, hT, h22, h24, -, h0⟩ | ⟨hkL, hS, h22, h24, -⟩
  · -- the end
    have hz := hzf (by rw [hT]; decide)
    have hy := hyf (by rw [hT]; decide)
    subst hz
    subst hy
    refine fall 0 Af Bf pf Rf ef (clfall (by rw [hT]; decide) (by rw [hT]; decide) (by rw [hT]; decide) (by rw [hT]; decide)) ?_
    unfold m_atomB
    simp only [zm, ym, ob_s, jp_s, Bool.false_eq_true, if_false, if_pos R.b26, h22, bf]
    rfl
  · -- a word
    have hz := hzf (by rw [hT]; exact fun e => by have := nI_inj (b := 45) e (by omega) (by omega); omega)
    have hy := hyf (by rw [hT]; exact fun e => by have := nI_inj (b := 40) e (by omega) (by omega); omega)
    subst hz
    subst hy
    rcases name_ok C R with ⟨w, w1, w2, hw, hnm⟩ | ⟨hno, hnm⟩
    · have hT15 : ¬ A0 15 k = nI 15 := by rw [hw]; exact nI_n15 (by omega)
      obtain ⟨A1, A2, B2, a1, a2, b2, R2, e2⟩ := addnext2 C R hkL hT15 (-(nI w))
      refine ⟨A2, B2, nmB B0 w, k + 1, c + 1, none, ?_, ?_, R2, by omega, by omega, by omega, fun j hj => by rw [e2 j, if_neg (by omega)], fun _ s => ?_⟩
      · have g13 : ¬ nI w = 13 := fun e => by have := nI_inj (b := 13) e (by omega) (by omega); omega
        have g1 : ¬ nI w < 1 := nI_nlt (b := 1) w1 (by omega)
        have g6 : ¬ 6 < nI w := nI_nlt (a := 6) w2 (by omega)
        unfold f_Reader_readOneB
        rw [htk, ob_s, hw, if_neg g13, jp_s, if_neg g1, if_neg g6, a1, ob_s, a2, ob_s]
      · unfold m_atomB
        simp only [zm, ym, ob_s, jp_s, Bool.false_eq_true, if_false, if_pos R.b26, h22, if_neg (show ¬ (1 : Int32) = 2 by decide), if_true, hnm, ob2_s, b2]
      · have e1 : c + 1 - c = 0 + 1 := by omega
        rw [e1, evr, Nat.add_zero, e2 c, if_pos rfl, evr, ev_nam w (by omega) w1]
    · refine fall 0 Af Bf pf Rf ef (clfall ?_ ?_ ?_ (Or.inr ?_)) ?_
      · rw [hT]; exact fun e => by have := nI_inj (b := 13) e (by omega) (by omega); omega
      · rw [hT]; exact fun e => by have := nI_inj (b := 45) e (by omega) (by omega); omega
      · rw [hT]; exact fun e => by have := nI_inj (b := 40) e (by omega) (by omega); omega
      · rw [hT]
        refine nI_lt (a := 6) ?_ (by omega)
        exact Nat.lt_of_not_le (fun h => hno u u1 h hT)
      · have h26 : Bf 0 26 = 1 := Rf.2.2.2.2.2.2.2.2.2.2.1
        unfold m_atomB
        simp only [zm, ym, ob_s, jp_s, Bool.false_eq_true, if_false, if_pos R.b26, h22, if_neg (show ¬ (1 : Int32) = 2 by decide), if_true, hnm Bf bf, ob2_s, h26, if_neg (show ¬ (1 : Int32) = 0 by decide)]
  · -- none
    have hz := hzf (by rw [hT]; decide)
    have hy := hyf (by rw [hT]; decide)
    subst hz
    subst hy
    have h26 : Bf 0 26 = 1 := Rf.2.2.2.2.2.2.2.2.2.2.1
    refine fall 0 Af Bf pf Rf ef (clfall (by rw [hT]; decide) (by rw [hT]; decide) (by rw [hT]; decide) (by rw [hT]; decide)) ?_
    rcases h22 with h22 | h22
    · rcases name_ok C R with ⟨w, w1, w2, hw, -⟩ | ⟨-, hnm⟩
      · rw [hw] at hT; exact absurd hT (nI_n15 (by omega))
      · unfold m_atomB
        simp only [zm, ym, ob_s, jp_s, Bool.false_eq_true, if_false, if_pos R.b26, h22, if_neg (show ¬ (1 : Int32) = 2 by decide), if_true, hnm Bf bf, ob2_s, h26, if_neg (show ¬ (1 : Int32) = 0 by decide)]
    · unfold m_atomB
      simp only [zm, ym, ob_s, jp_s, Bool.false_eq_true, if_false, if_pos R.b26, h22, if_neg (show ¬ (4 : Int32) = 2 by decide), if_neg (show ¬ (4 : Int32) = 1 by decide), bf]
  · -- a number
    have hz := hzf (by rw [hT]; decide)
    have hy := hyf (by rw [hT]; decide)
    subst hz
    subst hy
    have hT15 : ¬ A0 15 k = nI 15 := by rw [hT]; decide
    obtain ⟨A1, A2, B2, a1, a2, b2, R2, e2⟩ := addnext2 C R hkL hT15 (A0 17 k)
    have e17 : A 17 = A0 17 := funext fun j => R.1 17 j (by unfold pA; omega)
    have hnum : f_Reader_number A = some (A0 17 k) := by
      unfold f_Reader_number
      rw [R.2.2.1, if_neg (nI_pos (by omega)), if_neg (nlt_160 (by omega)), ck_n _ (show k < 161 by omega) (by omega), nI_cl (by omega), e17]
    refine ⟨A2, B2, A0 17 k, k + 1, c + 1, none, ?_, ?_, R2, by omega, by omega, by omega, fun j hj => by rw [e2 j, if_neg (by omega)], fun _ s => ?_⟩
    · unfold f_Reader_readOneB
      rw [htk, ob_s, if_pos (show A0 15 k = (13 : Int32) from hT), hnum, ob_s, a1, ob_s, a2, ob_s]
    · unfold m_atomB
      simp only [zm, ym, ob_s, jp_s, Bool.false_eq_true, if_false, if_pos R.b26, h22, if_true, h24, Int32.toInt32_toInt64, bnd_s, b2]
    · have e1 : c + 1 - c = 0 + 1 := by omega
      rw [e1, evr, Nat.add_zero, e2 c, if_pos rfl, evr, ev_num h0]
  · -- a sign
    have hT15 : ¬ A0 15 k = nI 15 := fun e => by rw [e, sgnNo 15 (by omega)] at hS; cases hS
    by_cases h45 : A0 15 k = 45
    · have hz : z = true := zz.mpr ⟨rfl, h45⟩
      subst hz
      have clm : f_Reader_readOneB one A = ob (f_Reader_readMinus one A) fun M10 => some M10 := by
        unfold f_Reader_readOneB
        rw [htk, ob_s, h45, if_neg (by decide), jp_s, if_neg (by decide), if_pos (by decide)]
        dsimp only
        rw [if_pos rfl]
      rcases opens2 C R hkL hT15 with ⟨ho, A1, B1, a1, b1, R1, e1⟩ | ⟨A1, B1, p1, a1, b1, R1, e1⟩
      · obtain ⟨A2, B2, v, k2, c2, fl2, a2, b2, R2, q1, q2, q3, q4, q5⟩ := hs A1 B1 (k + 1) (o + 1) c R1 (by omega)
        have hck := R.ck'
        obtain ⟨A3, a3, R3, e3⟩ := add2 C (open_dn R2) (by omega) (-16)
        have e20 : ∀ j, A3 20 j = if j = c2 then -16 else A2 20 j := fun j => by rw [e3 j, wr_off _ _ _ _ _ _ (by omega)]
        refine ⟨A3, wr B2 0 25 (B2 0 25 - 1), -v, k2, c2 + 1, fl2, ?_, ?_, R3, by omega, by omega, by omega, fun j hj => ?_, fun hf => evr_un q2 (q5 hf) (fun j hj => by rw [e20 j, if_neg (by omega)]) (by rw [e20 c2, if_pos rfl]) (fun s => ev_neg v s)⟩
        · rw [clm]
          unfold f_Reader_readMinus
          simp only [a1, ob2_s, if_true, a2, ob_s, bnd_s, a3]
        · unfold m_atomB
          simp only [zm, ob_s, if_true, b1, ob2_s, b2, bnd_s]
        · rw [e20 j, if_neg (by omega), q4 j hj, e1]
      · refine fall 0 A1 B1 p1 R1 e1 ?_ ?_
        · rw [clm]
          unfold f_Reader_readMinus
          simp only [a1, ob2_s]
          rfl
        · unfold m_atomB
          simp only [zm, ob_s, if_true, b1, ob2_s]
          rfl
    · have hz := hzf h45
      subst hz
      by_cases h40 : A0 15 k = 40
      · have hy : y = true := yy.mpr ⟨rfl, h40⟩
        subst hy
        have clm : f_Reader_readOneB one A = ob (f_Reader_readBracket one A) fun M8 => some M8 := by
          unfold f_Reader_readOneB
          rw [htk, ob_s, h40, if_neg (by decide), jp_s, if_neg (by decide), if_pos (by decide)]
          dsimp only
          rw [if_neg (by decide), if_pos rfl]
        rcases opens2 C R hkL hT15 with ⟨ho, A1, B1, a1, b1, R1, e1⟩ | ⟨A1, B1, p1, a1, b1, R1, e1⟩
        · obtain ⟨A2, B2, v, k2, c2, fl2, a2, b2, R2, q1, q2, q3, q4, q5⟩ := hE A1 B1 (k + 1) (o + 1) c R1 (by omega)
          obtain ⟨w, wc, wm', ww⟩ := sg_ok C R2 41 (by decide)
          cases w with
          | true =>
            obtain ⟨hf2, hT2⟩ := ww.mp rfl
            subst hf2
            have hkL2 : k2 < L := kltL C R2.kL (by rw [hT2]; decide)
            have hT25 : ¬ A0 15 k2 = nI 15 := by rw [hT2]; decide
            -- the class takes the TOKEN first, the reference closes first
            obtain ⟨A3, B3, a3, b3, R3, e3⟩ := next2 C R2 hkL2 hT25
            obtain ⟨A3', B3', a3', b3', R3', e3'⟩ := next2 C (open_dn R2) hkL2 hT25
            have hA3 : A3 = wr A2 18 2 (nI (k2 + 1)) := by
              have := next_cl C R2 hkL2
              rw [a3] at this
              exact oi this
            have hA3' : A3' = wr (wr A2 18 3 (A2 18 3 - 1)) 18 2 (nI (k2 + 1)) := by
              have := next_cl C (open_dn R2) hkL2
              rw [a3'] at this
              exact oi this
            have hAA : wr A3 18 3 (A3 18 3 - 1) = A3' := by
              have q : A3 18 3 = A2 18 3 := by rw [hA3, wr_off _ _ _ _ _ _ (by omega)]
              rw [q, hA3, hA3']
              funext a j
              rw [wr_at, wr_at, wr_at, wr_at]
              by_cases h1 : a = 18 ∧ j = 3
              · have h2 : ¬ (a = 18 ∧ j = 2) := by omega
                rw [if_pos h1, if_neg h2, if_pos h1]
              · rw [if_neg h1, if_neg h1]
            refine ⟨A3', B3', v, k2 + 1, c2, none, ?_, ?_, R3', by omega, by omega, by omega, fun j hj => ?_, fun _ s => ?_⟩
            · rw [clm]
              unfold f_Reader_readBracket f_Reader_expect
              simp only [a1, ob2_s, if_true, a2, ob_s, wc, a3, bnd_s, hAA]
            · have h26 : wr B2 0 25 (B2 0 25 - 1) 0 26 = 0 := (open_dn R2).b26
              unfold m_atomB
              simp only [zm, ym, ob_s, Bool.false_eq_true, if_false, if_true, b1, ob2_s, b2, wm', jp_s, bnd_s, if_pos h26, b3']
            · rw [e3', wr_off _ _ _ _ _ _ (by omega), q4 j hj, e1]
            · have e20 : A3' 20 = A2 20 := by rw [e3']; funext j; rw [wr_off _ _ _ _ _ _ (by omega)]
              rw [e20]
              exact q5 rfl s
          | false =>
            obtain ⟨A3, B3, p3, a3, b3, R3, e3⟩ := fail2 C R2
            have R4 := open_dn R3
            have h26 : ¬ wr B3 0 25 (B3 0 25 - 1) 0 26 = 0 := by
              have h : wr B3 0 25 (B3 0 25 - 1) 0 26 = 1 := R4.2.2.2.2.2.2.2.2.2.2.1
              rw [h]
              decide
            refine ⟨wr A3 18 3 (A3 18 3 - 1), wr B3 0 25 (B3 0 25 - 1), v, k2, c2, some p3, ?_, ?_, R4, by omega, by omega, by omega, fun j hj => ?_, fun hf => by cases hf⟩
            · rw [clm]
              unfold f_Reader_readBracket f_Reader_expect
              simp only [a1, ob2_s, if_true, a2, ob_s, wc, Bool.false_eq_true, if_false, a3, bnd_s]
            · unfold m_atomB
              simp only [zm, ym, ob_s, Bool.false_eq_true, if_false, if_true, b1, ob2_s, b2, wm', jp_s, b3, bnd_s, if_neg h26]
            · rw [wr_off _ _ _ _ _ _ (by omega), e3, q4 j hj, e1]
        · refine fall 0 A1 B1 p1 R1 e1 ?_ ?_
          · rw [clm]
            unfold f_Reader_readBracket
            simp only [a1, ob2_s]
            rfl
          · unfold m_atomB
            simp only [zm, ym, ob_s, Bool.false_eq_true, if_false, if_true, b1, ob2_s]
      · have hy := hyf h40
        subst hy
        refine fall 0 Af Bf pf Rf ef (clfall ?_ h45 h40 (Or.inr ?_)) ?_
        · exact fun e => by rw [e] at hS; revert hS; decide
        · rcases sgn_lit _ hS with h | h | h | h | h | h | h | h <;> (rw [h]; decide)
        · unfold m_atomB
          simp only [zm, ym, ob_s, jp_s, Bool.false_eq_true, if_false, if_pos R.b26, h22, if_neg (show ¬ (3 : Int32) = 2 by decide), if_neg (show ¬ (3 : Int32) = 1 by decide), bf]
theorem not_deep (C : Cx A0 B0 n L t E) {one : Mem → Option Mem} {ao : Mem → Option (Mem × Int32)} {m : Nat} (hs : Sim A0 B0 L E (f_Reader_readSum one) (m_added ao) m) : ∀ q, Sim A0 B0 L E (f_Reader_readNot one (q + 6)) (m_not ao (q + 6)) m := by
  intro q
  induction q with
  | zero =>
    have h := not_sim C hs 5 (Nat.le_refl _)
    have e : max m (5 - 5) = m := by omega
    rw [e] at h
    exact h
  | succ q ih =>
    have h := not_one (slf := f_Reader_readNot one (q + 6)) (sl2 := m_not ao (q + 6)) C hs (q := 5) (Nat.le_refl _) (fun A B k o c R h1 => ih A B k o c R (by omega))
    have e : max m (5 - 5) = m := by omega
    rw [e] at h
    exact h
theorem not_many (C : Cx A0 B0 n L t E) {one : Mem → Option Mem} {ao : Mem → Option (Mem × Int32)} {m : Nat} (hs : Sim A0 B0 L E (f_Reader_readSum one) (m_added ao) m) : Sim A0 B0 L E (f_Reader_readNot one 10) (m_not ao 10) m := not_deep C hs 4
theorem E_sim (C : Cx A0 B0 n L t E) {one : Mem → Option Mem} {ao : Mem → Option (Mem × Int32)} {m : Nat} (hs : Sim A0 B0 L E one ao m) : Sim A0 B0 L E (f_Reader_readE one) (m_either ao) m := by
  have h1 := term_sim C hs
  have h2 := sum_sim C h1
  have h3 := not_many C h2
  have h4 := and_sim C h3
  exact or_sim C h4
theorem one_sim (C : Cx A0 B0 n L t E) : ∀ q, q ≤ 6 → Sim A0 B0 L E (f_Reader_readOne q) (m_atom q) (6 - q) := by
  intro q
  induction q with
  | zero => exact fun _ A B k o c R h => by have := R.o5; omega
  | succ q ih =>
    intro hq
    have h1 := ih (by omega)
    have e : 6 - q = (6 - (q + 1)) + 1 := by omega
    rw [e] at h1
    exact atom_sim C h1 (E_sim C h1)

theorem one_deep (C : Cx A0 B0 n L t E) : ∀ q, Sim A0 B0 L E (f_Reader_readOne (q + 6)) (m_atom (q + 6)) 0 := by
  intro q
  induction q with
  | zero => exact one_sim C 6 (Nat.le_refl _)
  | succ q ih =>
    have h1 : Sim A0 B0 L E (f_Reader_readOne (q + 6)) (m_atom (q + 6)) 1 := fun A B k o c R h => ih A B k o c R (by omega)
    exact atom_sim C h1 (E_sim C h1)
theorem E_ok (C : Cx A0 B0 n L t E) : Sim A0 B0 L E (f_Reader_readE (f_Reader_readOne 8)) (m_either (m_atom 8)) 0 := E_sim C (one_deep C 2)
end SIM
