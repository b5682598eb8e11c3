/-! both readers over a whole text -/
section SIM
variable {A0 B0 A B : Mem} {n L t k o c p : Nat} {E : Nat → Nat} {fl : Option Nat}
theorem is_bad (R : RS A0 B0 L E A B k o c (some p)) (w : Int32) (hw : ¬ w = 15) : f_Reader_is A w = some false := by
  unfold f_Reader_is
  rw [token_bad R, ob_s, if_neg (fun h => hw h.symm)]
theorem fail_id (R : RS A0 B0 L E A B k o c (some p)) : f_Reader_fail A = some A ∧ m_fail B = some B := by
  have h4 : A 18 4 = nI p := R.2.2.2.2.2.2.2.2.2.1
  have h5 : p ≤ 160 := R.2.2.2.2.2.2.2.2.2.2.2.2
  have h26 : B 0 26 = 1 := R.2.2.2.2.2.2.2.2.2.2.1
  constructor
  · unfold f_Reader_fail
    rw [h4, if_neg]
    rw [nI_neg1 (by omega)]
    exact id
  · unfold m_fail
    rw [h26, if_neg (by decide)]
theorem one_bad (R : RS A0 B0 L E A B k o c (some p)) (one : Mem → Option Mem) : f_Reader_readOneB one A = some A := by
  unfold f_Reader_readOneB
  rw [token_bad R, ob_s, if_neg (by decide), jp_s, if_neg (by decide), if_pos (by decide)]
  dsimp only
  rw [if_neg (by decide), if_neg (by decide), (fail_id R).1, ob_s]
theorem term_bad (R : RS A0 B0 L E A B k o c (some p)) {one : Mem → Option Mem} (h : one A = some A) : f_Reader_readTerm one A = some A := by
  have hl : ∀ fu j4, f_Reader_readTerm_L6 one j4 (fu + 1) 0 A = j4 A := fun fu j4 => by
    simp only [f_Reader_readTerm_L6, if_neg (show ¬ (160 : Int32) ≤ 0 by decide), is_bad R 42 (by decide), ob_s]
    rfl
  unfold f_Reader_readTerm
  rw [h, ob_s, jp_s]
  exact hl 99999 _
theorem sum_bad (R : RS A0 B0 L E A B k o c (some p)) {one : Mem → Option Mem} (h : one A = some A) : f_Reader_readSum one A = some A := by
  have hl : ∀ fu j4, f_Reader_readSum_L6 one j4 (fu + 1) 0 A = j4 A := fun fu j4 => by
    simp only [f_Reader_readSum_L6, if_neg (show ¬ (160 : Int32) ≤ 0 by decide), is_bad R 43 (by decide), is_bad R 45 (by decide), ob_s, jp_s]
    rfl
  unfold f_Reader_readSum
  rw [term_bad R h, ob_s, jp_s]
  exact hl 99999 _
theorem not_bad (R : RS A0 B0 L E A B k o c (some p)) {one slf : Mem → Option Mem} (h : one A = some A) : f_Reader_readNotB one slf A = some A := by
  unfold f_Reader_readNotB f_Reader_readCompared
  simp only [is_bad R 12 (by decide), is_bad R 60 (by decide), is_bad R 61 (by decide), sum_bad R h, ob_s, jp_s]
  rfl
theorem and_bad (R : RS A0 B0 L E A B k o c (some p)) {one : Mem → Option Mem} (h : one A = some A) : f_Reader_readAnd one A = some A := by
  have hl : ∀ fu j4, f_Reader_readAnd_L6 one j4 (fu + 1) 0 A = j4 A := fun fu j4 => by
    simp only [f_Reader_readAnd_L6, if_neg (show ¬ (160 : Int32) ≤ 0 by decide), is_bad R 11 (by decide), ob_s]
    rfl
  have hn : f_Reader_readNot one 10 A = some A := not_bad R h
  unfold f_Reader_readAnd
  rw [hn, ob_s, jp_s]
  exact hl 99999 _
theorem E_bad (R : RS A0 B0 L E A B k o c (some p)) : f_Reader_readE (f_Reader_readOne 8) A = some A := by
  have h : f_Reader_readOne 8 A = some A := one_bad R _
  have hl : ∀ fu j4, f_Reader_readE_L6 (f_Reader_readOne 8) j4 (fu + 1) 0 A = j4 A := fun fu j4 => by
    simp only [f_Reader_readE_L6, if_neg (show ¬ (160 : Int32) ≤ 0 by decide), is_bad R 10 (by decide), ob_s]
    rfl
  unfold f_Reader_readE
  rw [and_bad R h, ob_s, jp_s]
  exact hl 99999 _
/-- the class's way through one part -/
def clPart (A : Mem) (q : Nat) : Option Mem := ob (f_Reader_expect A (nI (7 + q))) fun M16 => ob (f_Reader_readE (f_Reader_readOne 8) M16) fun M18 => ob (f_Reader_expect M18 59) fun M20 => some M20
theorem Cx.ends (C : Cx A0 B0 n L t E) (q : Nat) (x : Int32) : Cx (wr A0 21 q x) B0 n L t E := by
  have e : ∀ a, ¬ a = 21 → wr A0 21 q x a = A0 a := fun a ha => funext fun j => wr_off _ _ _ _ _ _ (fun h => ha h.1)
  unfold Cx
  rw [e 13 (by omega), e 14 (by omega), e 15 (by omega), e 16 (by omega), e 17 (by omega)]
  exact C
theorem endPart_ok (R : RS A0 B0 L E A B k o c fl) {q : Nat} (hq : q < 3) : f_Text_endPart A 19 (nI q) = some (wr A 21 (q + 1) (nI c)) ∧ RS (wr A0 21 (q + 1) (nI c)) B0 L E (wr A 21 (q + 1) (nI c)) B k o c fl := by
  constructor
  · unfold f_Text_endPart
    rw [if_neg (nI_pos (by omega)), if_neg (show ¬ (3 : Int32) ≤ nI q from nI_ge (b := 3) hq (by omega)), nI_1, ck_n _ (show q + 1 < 4 by omega) (by omega), nI_cl (by omega), bnd_s, R.2.2.2.2.1]
  · have e : ∀ (M : Mem) a, ¬ a = 21 → wr M 21 (q + 1) (nI c) a = M a := fun M a ha => funext fun j => wr_off _ _ _ _ _ _ (fun h => ha h.1)
    refine ⟨?_, R.2.1, ?_, ?_, ?_, R.2.2.2.2.2.1, R.kL, R.o5, R.ck', ?_⟩
    · intro a j h
      rw [wr_at, wr_at]
      by_cases g : a = 21 ∧ j = q + 1
      · rw [if_pos g, if_pos g]
      · rw [if_neg g, if_neg g]
        exact R.1 a j h
    · rw [e A 18 (by omega)]; exact R.2.2.1
    · rw [e A 18 (by omega)]; exact R.2.2.2.1
    · rw [e A 19 (by omega)]; exact R.2.2.2.2.1
    · have h := R.2.2.2.2.2.2.2.2.2
      unfold FLg at h ⊢
      rw [e A 18 (by omega), e A0 14 (by omega), e A0 15 (by omega), e A0 16 (by omega), e A0 17 (by omega)]
      exact h
theorem part_bad (C : Cx A0 B0 n L t E) (R : RS A0 B0 L E A B k o c (some p)) {q : Nat} (hq : q < 3) : clPart A q = some A := by
  have h1 : f_Reader_expect A (nI (7 + q)) = some A := by
    unfold f_Reader_expect
    rw [is_bad R _ (nI_n15 (by omega)), ob_s]
    simp only [Bool.false_eq_true, if_false, (fail_id R).1, ob_s]
  have h2 : f_Reader_expect A 59 = some A := by
    unfold f_Reader_expect
    rw [is_bad R _ (by decide), ob_s]
    simp only [Bool.false_eq_true, if_false, (fail_id R).1, ob_s]
  unfold clPart
  rw [h1, ob_s, E_bad R, ob_s, h2, ob_s]
theorem part_ok (C : Cx A0 B0 n L t E) (R : RS A0 B0 L E A B k 0 c none) {q : Nat} (hq : q < 3) {z : Bool} (hz : f_Reader_is A (nI (7 + q)) = some z) (hzz : z = true → A0 15 k = nI (7 + q)) :
    ∃ (A' B' : Mem) (v : Int32) (k' c' : Nat) (fl' : Option Nat), clPart A q = some A' ∧ m_part B (b2i z) = some (B', v) ∧ RS A0 B0 L E A' B' k' 0 c' fl' ∧ c ≤ c' ∧ (∀ j, j < c → A' 20 j = A 20 j) ∧ (fl' = none → ∀ s, evr (nmB B0) (A' 20) c (c' - c) s = v :: s) := by
  cases z with
  | false =>
    obtain ⟨A1, B1, p, a1, b1, R1, e1⟩ := fail2 C R
    have h26 : B1 0 26 = 1 := R1.2.2.2.2.2.2.2.2.2.2.1
    obtain ⟨w, wc, wm', ww⟩ := sg_ok C R1 59 (by decide)
    have hw : w = false := by
      cases w with
      | false => rfl
      | true => exact absurd (ww.mp rfl).1 (by simp)
    subst hw
    refine ⟨A1, B1, 0, k, c, some p, ?_, ?_, R1, Nat.le_refl _, fun j _ => by rw [e1], fun h => by cases h⟩
    · have h1 : f_Reader_expect A (nI (7 + q)) = some A1 := by
        unfold f_Reader_expect
        rw [hz, ob_s]
        simp only [Bool.false_eq_true, if_false, a1, ob_s]
      have h2 : f_Reader_expect A1 59 = some A1 := by
        unfold f_Reader_expect
        rw [is_bad R1 _ (by decide), ob_s]
        simp only [Bool.false_eq_true, if_false, (fail_id R1).1, ob_s]
      unfold clPart
      rw [h1, ob_s, E_bad R1, ob_s, h2, ob_s]
    · unfold m_part
      simp only [jp_s, b2i, Bool.false_eq_true, if_false, if_true, b1, ob_s, h26, if_neg (show ¬ (1 : Int32) = 0 by decide), wm', (fail_id R1).2]
  | true =>
    have hT := hzz rfl
    have hkL : k < L := kltL C R.kL (by rw [hT]; exact fun e => by have := nI_inj e (by omega) (by omega); omega)
    have hT15 : ¬ A0 15 k = nI 15 := by rw [hT]; exact nI_n15 (by omega)
    obtain ⟨A1, B1, a1, b1, R1, e1⟩ := next2 C R hkL hT15
    obtain ⟨A2, B2, v, k2, c2, fl2, a2, b2, R2, q1, q2, q3, q4, q5⟩ := E_ok C A1 B1 (k + 1) 0 c R1 (Nat.le_refl _)
    obtain ⟨w, wc, wm', ww⟩ := sg_ok C R2 59 (by decide)
    have h0 : f_Reader_expect A (nI (7 + q)) = some A1 := by
      unfold f_Reader_expect
      rw [hz, ob_s]
      simp only [if_true, a1, ob_s]
    have hb1 : b2i true = 1 := rfl
    cases w with
    | true =>
      obtain ⟨hf2, hT2⟩ := ww.mp rfl
      subst hf2
      have hkL2 : k2 < L := kltL C R2.kL (by rw [hT2]; decide)
      obtain ⟨A3, B3, a3, b3, R3, e3⟩ := next2 C R2 hkL2 (by rw [hT2]; decide)
      refine ⟨A3, B3, v, k2 + 1, c2, none, ?_, ?_, R3, q2, fun j hj => by rw [e3, q4 j hj, e1], fun _ s => by rw [e3]; exact q5 rfl s⟩
      · unfold clPart
        rw [h0, ob_s, a2, ob_s]
        unfold f_Reader_expect
        rw [wc, ob_s]
        simp only [if_true, a3, ob_s]
      · unfold m_part
        simp only [jp_s, hb1, if_neg (show ¬ (1 : Int32) = 0 by decide), if_pos R.b26, b1, ob_s, if_pos R1.b26, b2, ob2_s, wm', if_true, if_pos R2.b26, b3]
    | false =>
      obtain ⟨A3, B3, p3, a3, b3, R3, e3⟩ := fail2 C R2
      have h26 : B3 0 26 = 1 := R3.2.2.2.2.2.2.2.2.2.2.1
      refine ⟨A3, B3, v, k2, c2, some p3, ?_, ?_, R3, q2, fun j hj => by rw [e3, q4 j hj, e1], fun h => by cases h⟩
      · unfold clPart
        rw [h0, ob_s, a2, ob_s]
        unfold f_Reader_expect
        rw [wc, ob_s]
        simp only [Bool.false_eq_true, if_false, a3, ob_s]
      · unfold m_part
        simp only [jp_s, hb1, if_neg (show ¬ (1 : Int32) = 0 by decide), if_pos R.b26, b1, ob_s, if_pos R1.b26, b2, ob2_s, wm', Bool.false_eq_true, if_false, b3, h26]
end SIM
/-- one part of both, a FAULT ahead of it or not -/
theorem part_any {A0 B0 A B : Mem} {n L t k c : Nat} {E : Nat → Nat} {fl : Option Nat} (C : Cx A0 B0 n L t E) (R : RS A0 B0 L E A B k 0 c fl) {q : Nat} (hq : q < 3) {a1 a2 a3 a4 a5 a6 a7 a8 : Int32} (h8 : a1 = lt8 (7 + q + 1) 0 ∧ a2 = lt8 (7 + q + 1) 1 ∧ a3 = lt8 (7 + q + 1) 2 ∧ a4 = lt8 (7 + q + 1) 3 ∧ a5 = lt8 (7 + q + 1) 4 ∧ a6 = lt8 (7 + q + 1) 5 ∧ a7 = lt8 (7 + q + 1) 6 ∧ a8 = lt8 (7 + q + 1) 7) :
    ∃ (A' B' : Mem) (v : Int32) (k' c' : Nat) (fl' : Option Nat), (clPart A q = some A') ∧
      (∀ j : Int32 → Mem → Option (Mem × Int32), (if B 0 26 = 0 then (ob (m_isWord B a1 a2 a3 a4 a5 a6 a7 a8) fun v29 => ob2 (m_part B (b2i v29)) fun M31 v32 => j v32 M31) else j 0 B) = j v B') ∧
      RS A0 B0 L E A' B' k' 0 c' fl' ∧ c ≤ c' ∧ (∀ j, j < c → A' 20 j = A 20 j) ∧ (fl' = none → fl = none ∧ ∀ s, evr (nmB B0) (A' 20) c (c' - c) s = v :: s) := by
  cases fl with
  | some p =>
    have h26 : B 0 26 = 1 := R.2.2.2.2.2.2.2.2.2.2.1
    refine ⟨A, B, 0, k, c, some p, part_bad C R hq, fun j => ?_, R, Nat.le_refl _, fun _ _ => rfl, fun h => by cases h⟩
    rw [h26, if_neg (by decide)]
  | none =>
    obtain ⟨z, zc, zm, zz⟩ := kw_ok C R (7 + q) (by omega) (by omega) h8
    obtain ⟨A', B', v, k', c', fl', x1, x2, x3, x4, x5, x6⟩ := part_ok C R hq zc (fun h => (zz.mp h).2)
    refine ⟨A', B', v, k', c', fl', x1, fun j => ?_, x3, x4, x5, fun h => ⟨rfl, x6 h⟩⟩
    rw [if_pos R.b26, zm, ob_s, x2, ob2_s]
def pR (c j : Nat) : Prop := (c = 13 ∧ j = 5) ∨ (15 ≤ c ∧ c ≤ 21)
def pM (c j : Nat) : Prop := c = 0 ∧ 19 ≤ j ∧ j ≤ 27
theorem read_step (j9 : Mem → Option (Mem × Int32)) (fu q : Nat) (hq : q < 3) (A A1 A2 : Mem) (h1 : clPart A q = some A1) (h2 : f_Text_endPart A1 19 (nI q) = some A2) : f_Reader_read_L31 j9 (fu + 1) (nI q) A = f_Reader_read_L31 j9 fu (nI (q + 1)) A2 := by
  have g : ¬ (3 : Int32) ≤ nI q := nI_ge (b := 3) hq (by omega)
  have e7 : (7 : Int32) + nI q = nI (7 + q) := nI_add 7 q
  have h1' : (ob (f_Reader_expect A (nI (7 + q))) fun M16 => ob (f_Reader_readE (f_Reader_readOne 8) M16) fun M18 => ob (f_Reader_expect M18 59) fun M20 => some M20) = some A1 := h1
  obtain ⟨M16, m16, h1'⟩ := ob_e h1'
  obtain ⟨M18, m18, h1'⟩ := ob_e h1'
  obtain ⟨M20, m20, h1'⟩ := ob_e h1'
  have e := oi h1'
  subst e
  simp only [f_Reader_read_L31, if_neg g, e7, m16, m18, m20, h2, ob_s, bnd_s, nI_1]
theorem read_end (j9 : Mem → Option (Mem × Int32)) (fu : Nat) (A : Mem) : f_Reader_read_L31 j9 (fu + 1) (nI 3) A = j9 A := by
  simp only [f_Reader_read_L31, if_pos (show (3 : Int32) ≤ nI 3 by decide)]
def ee (d1 d2 d3 : Nat) : Nat → Nat
  | 0 => 0
  | 1 => d1
  | 2 => d2
  | _ => d3
def sel3 (w : Nat) (v0 v1 v2 : Int32) : Int32 := if w = 0 then v0 else if w = 1 then v1 else v2
theorem sel_some (M : Mem) (v0 v1 v2 : Int32) {w : Nat} (hw : w < 3) : (if nI w = 0 then some (M, v0) else if nI w = 1 then some (M, v1) else some (M, v2)) = some (M, sel3 w v0 v1 v2) := by
  match w, hw with
  | 0, _ => rfl
  | 1, _ => rfl
  | 2, _ => rfl
theorem ev_sel {nm f3 f4 f5 : Nat → Int32} {d1 d2 d3 : Nat} {v0 v1 v2 : Int32} (h0 : ∀ s, evr nm f3 0 (d1 - 0) s = v0 :: s) (h1 : ∀ s, evr nm f4 d1 (d2 - d1) s = v1 :: s) (h2 : ∀ s, evr nm f5 d2 (d3 - d2) s = v2 :: s) (e3 : ∀ j, j < d1 → f5 j = f3 j) (e4 : ∀ j, j < d2 → f5 j = f4 j) {w : Nat} (hw : w < 3) (s : List Int32) : evr nm f5 (ee d1 d2 d3 w) (ee d1 d2 d3 (w + 1) - ee d1 d2 d3 w) s = sel3 w v0 v1 v2 :: s := by
  match w, hw with
  | 0, _ =>
    show evr nm f5 0 (d1 - 0) s = v0 :: s
    rw [evr_ext (g := f3) s _ (fun j j1 j2 => e3 j (by omega))]
    exact h0 s
  | 1, _ =>
    show evr nm f5 d1 (d2 - d1) s = v1 :: s
    rw [evr_ext (g := f4) s _ (fun j j1 j2 => e4 j (by omega))]
    exact h1 s
  | 2, _ => exact h2 s
set_option maxHeartbeats 4000000 in
/-- a text of the class's TAPE, and row t of the reference: they read alike -/
theorem read_ok {A B : Mem} {n t : Nat} (hn : n ≤ 160) (ht : t < 6) (hs : A 13 1 = nI n) (h8 : ∀ j, j < n → by8 (A 14 j)) (h21 : A 21 0 = 0) (hB2 : B 2 t = nI n) (hB1 : ∀ j, j < n → B 1 (160 * t + j) = A 14 j) {w : Nat} (hw : w < 3) :
    ∃ (A' B' : Mem) (r v : Int32) (e : Nat → Nat), f_Reader_read A = some (A', r) ∧ m_read B (nI t) (nI w) = some (B', v) ∧ same pR A A' ∧ same pM B B' ∧
      (r = -1 ∧ B' 0 26 = 0 ∨ (∃ p, p ≤ 160 ∧ r = nI p ∧ B' 0 26 = 1 ∧ B' 0 27 = r)) ∧
      (∀ j, j < 4 → A' 21 j = nI (e j)) ∧ e 0 = 0 ∧ e 0 ≤ e 1 ∧ e 1 ≤ e 2 ∧ e 2 ≤ e 3 ∧ e 3 ≤ 160 ∧
      (r = -1 → ∀ s, evr (nmB B) (A' 20) (e w) (e (w + 1) - e w) s = v :: s) := by
  -- the class cuts
  obtain ⟨A1, hA1⟩ : ∃ A1 : Mem, A1 = wr (wr (wr (wr A 18 3 0) 18 4 (-1)) 19 2 0) 18 2 0 := ⟨_, rfl⟩
  have hA1e : ∀ a, ¬ a = 18 → ¬ a = 19 → A1 a = A a := fun a g1 g2 => by
    rw [hA1]; funext j
    rw [wr_off _ _ _ _ _ _ (by omega), wr_off _ _ _ _ _ _ (by omega), wr_off _ _ _ _ _ _ (by omega), wr_off _ _ _ _ _ _ (by omega)]
  obtain ⟨A2, L, E, c1, c2, c3, c4⟩ := cut_ok (M0 := A1) hn (by rw [hA1e 13 (by omega) (by omega)]; exact hs) (fun j hj => by rw [hA1e 14 (by omega) (by omega)]; exact h8 j hj)
  have hA2e : ∀ a, ¬ a = 13 → ¬ a = 15 → ¬ a = 16 → ¬ a = 17 → A2 a = A1 a := fun a g1 g2 g3 g4 => funext fun j => c4 a j (by omega)
  -- the reference begins
  obtain ⟨B0, hB0⟩ : ∃ B0 : Mem, B0 = wr (wr (wr (wr (wr B 0 19 (nI (160 * t))) 0 20 (nI n)) 0 21 0) 0 25 0) 0 26 0 := ⟨_, rfl⟩
  have hB0e : ∀ a j, ¬ (a = 0 ∧ 19 ≤ j) → B0 a j = B a j := fun a j g => by
    rw [hB0, wr_off _ _ _ _ _ _ (by omega), wr_off _ _ _ _ _ _ (by omega), wr_off _ _ _ _ _ _ (by omega), wr_off _ _ _ _ _ _ (by omega), wr_off _ _ _ _ _ _ (by omega)]
  have hRow : Row B0 t n (A2 14) := by
    refine ⟨by rw [hB0]; simp [wr_at], by rw [hB0]; simp [wr_at], fun j hj => ?_⟩
    rw [hB0e 1 _ (by omega), hB1 j hj, hA2e 14 (by omega) (by omega) (by omega) (by omega), hA1e 14 (by omega) (by omega)]
  have C : Cx A2 B0 n L t E := by
    refine ⟨hn, ht, ?_, c2, ?_, ?_, hRow⟩
    · rw [c4 13 1 (by omega), hA1e 13 (by omega) (by omega)]; exact hs
    · rw [hA2e 14 (by omega) (by omega) (by omega) (by omega), hA1e 14 (by omega) (by omega)]; exact h8
    · rw [hA2e 14 (by omega) (by omega) (by omega) (by omega)]; exact c3
  have hE0 : E 0 = 0 := C.2.2.2.2.2.1.1.1
  obtain ⟨B1, b1, b2, b3⟩ := next_ok ht hn C.2.2.2.2.1 C.2.2.2.2.2.1 hRow (Nat.zero_le L) (by rw [hE0, hB0]; simp [wr_at]; rfl)
  have R0 : RS A2 B0 L E A2 B1 0 0 0 none := by
    have e18 : A2 18 = A1 18 := hA2e 18 (by omega) (by omega) (by omega) (by omega)
    have e19 : A2 19 = A1 19 := hA2e 19 (by omega) (by omega) (by omega) (by omega)
    refine ⟨same.rf, b3.mono (fun c j h => ⟨h.1, by have := h.2; omega, by have := h.2; omega⟩), ?_, ?_, ?_, ?_, Nat.zero_le _, Nat.zero_le _, Nat.le_refl _, ?_, ?_, b2⟩
    · rw [e18, hA1]; simp [wr_at]; rfl
    · rw [e18, hA1]; simp [wr_at]; rfl
    · rw [e19, hA1]; simp [wr_at]; rfl
    · rw [b3 0 25 (by unfold pN; omega), hB0]; simp [wr_at]; rfl
    · rw [e18, hA1]; simp [wr_at]
    · rw [b3 0 26 (by unfold pN; omega), hB0]; simp [wr_at]
  -- three parts
  obtain ⟨A3, B3, v0, k3, d1, f3, x1, y1, R3, l1, m1, g1⟩ := part_any C R0 (q := 0) (by omega) (a1 := 114) (a2 := 105) (a3 := 112) (a4 := 101) (a5 := 110) (a6 := 115) (a7 := 0) (a8 := 0) (by decide)
  obtain ⟨E1, R3⟩ := endPart_ok R3 (q := 0) (by omega)
  have C1 := C.ends (0 + 1) (nI d1)
  obtain ⟨A4, B4, v1, k4, d2, f4, x2, y2, R4, l2, m2, g2⟩ := part_any C1 R3 (q := 1) (by omega) (a1 := 116) (a2 := 97) (a3 := 107) (a4 := 101) (a5 := 115) (a6 := 0) (a7 := 0) (a8 := 0) (by decide)
  obtain ⟨E2, R4⟩ := endPart_ok R4 (q := 1) (by omega)
  have C2 := C1.ends (1 + 1) (nI d2)
  obtain ⟨A5, B5, v2, k5, d3, f5, x3, y3, R5, l3, m3, g3⟩ := part_any C2 R4 (q := 2) (by omega) (a1 := 115) (a2 := 112) (a3 := 111) (a4 := 105) (a5 := 108) (a6 := 115) (a7 := 0) (a8 := 0) (by decide)
  obtain ⟨E3, R5⟩ := endPart_ok R5 (q := 2) (by omega)
  have C3 := C2.ends (2 + 1) (nI d3)
  obtain ⟨A6, hA6⟩ : ∃ A6, A6 = wr A5 21 (2 + 1) (nI d3) := ⟨_, rfl⟩
  rw [← hA6] at E3 R5
  -- the end
  have hd3 : d3 ≤ 160 := by have := R5.ck'; have := R5.kL; have := C.L160; omega
  have hAr : ∀ A7 r, ob (f_Reader_expect A6 14) (fun M11 => some (M11, M11 18 4)) = some (A7, r) → f_Reader_read A = some (A7, r) := fun A7 r h => by
    have hcl : f_Text_clear (wr (wr A 18 3 0) 18 4 (-1)) 19 = some (wr (wr (wr A 18 3 0) 18 4 (-1)) 19 2 0) := rfl
    have hL : f_Reader_read_L31 (fun M8 => ob (f_Reader_expect M8 14) fun M11 => some (M11, M11 18 4)) FU 0 A2 = some (A7, r) := by
      show f_Reader_read_L31 _ (99996 + 1 + 1 + 1 + 1) (nI 0) A2 = _
      rw [read_step _ _ 0 (by omega) _ _ _ x1 E1, read_step _ _ (0 + 1) (by omega) _ _ _ x2 E2, read_step _ _ (0 + 1 + 1) (by omega) _ _ _ x3 E3]
      rw [read_end]
      exact h
    unfold f_Reader_read
    simp only [bnd_s, hcl, ob_s, ← hA1, c1, jp_s]
    exact hL
  have hBr : ∀ (B6 : Mem), (if B5 0 26 = 0 then (if B5 0 22 = 0 then some B5 else m_fail B5) else some B5) = some B6 → m_read B (nI t) (nI w) = some (B6, sel3 w v0 v1 v2) := fun B6 h => by
    have z1 : (160 : Int32) * nI t = nI (160 * t) := nI_mul 160 t
    have z2 : wr B 0 19 (nI (160 * t)) 2 t = nI n := by rw [wr_off _ _ _ _ _ _ (by omega)]; exact hB2
    have y1 : ∀ j : Int32 → Mem → Option (Mem × Int32), (ob (m_isWord B1 114 105 112 101 110 115 0 0) fun v29 => ob2 (m_part B1 (b2i v29)) fun M31 v32 => j v32 M31) = j v0 B3 := fun j => by
      have := y1 j
      rw [if_pos R0.b26] at this
      exact this
    have fin : ∀ M17 : Mem, M17 = B5 → (if M17 0 26 = 0 then (if M17 0 22 = 0 then (if nI w = 0 then some (M17, v0) else if nI w = 1 then some (M17, v1) else some (M17, v2)) else ob (m_fail M17) fun M22 => (if nI w = 0 then some (M22, v0) else if nI w = 1 then some (M22, v1) else some (M22, v2))) else (if nI w = 0 then some (M17, v0) else if nI w = 1 then some (M17, v1) else some (M17, v2))) = some (B6, sel3 w v0 v1 v2) := by
      intro M17 hM
      subst hM
      have hsel : ∀ M : Mem, (if nI w = 0 then some (M, v0) else if nI w = 1 then some (M, v1) else some (M, v2)) = some (M, sel3 w v0 v1 v2) := fun M => sel_some M v0 v1 v2 hw
      simp only [hsel]
      by_cases q1 : M17 0 26 = 0
      · rw [if_pos q1] at h ⊢
        by_cases q2 : M17 0 22 = 0
        · rw [if_pos q2] at h ⊢
          rw [oi h]
        · rw [if_neg q2] at h ⊢
          rw [h, ob_s]
      · rw [if_neg q1] at h ⊢
        rw [oi h]
    unfold m_read
    simp only [bnd_s, z1, ck_n _ ht (show 6 < 2 ^ 31 by omega), nI_cl (show t < 2 ^ 31 by omega), z2, ← hB0, b1, ob_s]
    rw [y1 (fun v12 M11 => _)]
    simp only [jp_s]
    rw [y2 (fun v13 M14 => _), y3 (fun v16 M17 => _)]
    exact fin B5 rfl
  have hsame : ∀ A7 : Mem, (∀ a j, ¬ (a = 18 ∨ a = 19 ∨ a = 20) → A7 a j = A6 a j) → same pR A A7 := fun A7 h a j hp => by
    have hp' : ¬ (a = 13 ∧ j = 5) ∧ ¬ (15 ≤ a ∧ a ≤ 21) := ⟨fun h => hp (Or.inl h), fun h => hp (Or.inr h)⟩
    rw [h a j (by omega), hA6, wr_off _ _ _ _ _ _ (by omega)]
    have e5 := R5.1 a j (by unfold pA; omega)
    rw [hA6, wr_off _ _ _ _ _ _ (by omega), wr_off _ _ _ _ _ _ (by omega), wr_off _ _ _ _ _ _ (by omega), wr_off _ _ _ _ _ _ (by omega)] at e5
    rw [e5, c4 a j (by omega), hA1e a (by omega) (by omega)]
  have hBsame : ∀ B6 : Mem, same pB B5 B6 → same pM B B6 := fun B6 h a j hp => by
    have hp' : ¬ (a = 0 ∧ 19 ≤ j ∧ j ≤ 27) := hp
    rw [h a j (by unfold pB; omega), R5.2.1 a j (by unfold pB; omega)]
    rw [hB0, wr_off _ _ _ _ _ _ (by omega), wr_off _ _ _ _ _ _ (by omega), wr_off _ _ _ _ _ _ (by omega), wr_off _ _ _ _ _ _ (by omega), wr_off _ _ _ _ _ _ (by omega)]
  have hends : ∀ A7 : Mem, A7 21 = A6 21 → (∀ j, j < 4 → A7 21 j = nI (ee d1 d2 d3 j)) := fun A7 h j hj => by
    rw [h]
    match j, hj with
    | 0, _ =>
      have e5 := R5.1 21 0 (by unfold pA; omega)
      rw [wr_off _ _ _ _ _ _ (by omega), wr_off _ _ _ _ _ _ (by omega), wr_off _ _ _ _ _ _ (by omega), hA2e 21 (by omega) (by omega) (by omega) (by omega), hA1e 21 (by omega) (by omega), h21] at e5
      rw [e5]; rfl
    | 1, _ =>
      have e5 := R5.1 21 1 (by unfold pA; omega)
      rw [wr_off _ _ _ _ _ _ (by omega), wr_off _ _ _ _ _ _ (by omega), wr_hit] at e5
      exact e5
    | 2, _ =>
      have e5 := R5.1 21 2 (by unfold pA; omega)
      rw [wr_off _ _ _ _ _ _ (by omega), wr_hit] at e5
      exact e5
    | 3, _ =>
      have e5 := R5.1 21 3 (by unfold pA; omega)
      rw [wr_hit] at e5
      exact e5
  have hnm : nmB B0 = nmB B := by
    funext u
    unfold nmB
    by_cases hu : u ≤ 6
    · rw [if_pos hu, if_pos hu, hB0e 0 (12 + u) (by omega)]
    · rw [if_neg hu, if_neg hu]
  have hev : ∀ A7 : Mem, A7 20 = A6 20 → f5 = none → ∀ s, evr (nmB B) (A7 20) (ee d1 d2 d3 w) (ee d1 d2 d3 (w + 1) - ee d1 d2 d3 w) s = sel3 w v0 v1 v2 :: s := by
    intro A7 h7 hf s
    obtain ⟨hf4, q2⟩ := g3 hf
    obtain ⟨hf3, q1⟩ := g2 hf4
    obtain ⟨-, q0⟩ := g1 hf3
    have w20 : ∀ (M : Mem) i x, wr M 21 i x 20 = M 20 := fun M i x => funext fun j => wr_off _ _ _ _ _ _ (by omega)
    rw [h7, hA6, w20, ← hnm]
    exact ev_sel q0 q1 q2 (fun j hj => by rw [m3 j (by omega), w20, m2 j (by omega), w20]) (fun j hj => by rw [m3 j (by omega), w20]) hw s
  cases f5 with
  | some p =>
    have h26 : B5 0 26 = 1 := R5.2.2.2.2.2.2.2.2.2.2.1
    have h27 : B5 0 27 = nI p := R5.2.2.2.2.2.2.2.2.2.2.2.1
    have h4 : A6 18 4 = nI p := R5.2.2.2.2.2.2.2.2.2.1
    have hp : p ≤ 160 := R5.2.2.2.2.2.2.2.2.2.2.2.2
    have hx : f_Reader_expect A6 14 = some A6 := by
      unfold f_Reader_expect
      rw [is_bad R5 _ (by decide), ob_s]
      simp only [Bool.false_eq_true, if_false, (fail_id R5).1, ob_s]
    refine ⟨A6, B5, nI p, _, _, hAr A6 (nI p) (by rw [hx, ob_s, h4]), hBr B5 (by rw [h26, if_neg (by decide)]), hsame A6 (fun _ _ _ => rfl), hBsame B5 same.rf, Or.inr ⟨p, hp, rfl, h26, h27⟩, hends A6 rfl, rfl, Nat.zero_le _, l2, l3, hd3, fun h => ?_⟩
    rw [nI_neg1 (by omega)] at h
    exact h.elim
  | none =>
    obtain ⟨z, zc, zz⟩ := is_ok C3 R5 14 (by decide)
    have h26 : B5 0 26 = 0 := R5.b26
    cases z with
    | true =>
      have hT := (zz.mp rfl).2
      have hk5 : k5 = L := by
        rcases tok_cases C3 R5.kL R5.at with ⟨h, -⟩ | ⟨-, u, -, hu, hT', -⟩ | ⟨-, hT', -⟩ | ⟨-, hT', -⟩ | ⟨-, hS, -⟩
        · exact h
        · rw [hT'] at hT; have := nI_inj (b := 14) hT (by omega) (by omega); omega
        · rw [hT'] at hT; exact absurd hT (by decide)
        · rw [hT'] at hT; exact absurd hT (by decide)
        · rw [hT] at hS; exact absurd hS (by decide)
      have h22 : B5 0 22 = 0 := by
        rcases tok_cases C3 R5.kL R5.at with ⟨-, -, h⟩ | ⟨h, -⟩ | ⟨h, -⟩ | ⟨h, -⟩ | ⟨h, -⟩
        · exact h
        all_goals omega
      have hx : f_Reader_expect A6 14 = some A6 := by
        have h13 : A6 13 5 = nI L := by rw [R5.1 13 5 (by unfold pA; omega)]; exact C3.2.2.2.1
        unfold f_Reader_expect f_Reader_next
        rw [zc, ob_s, h13, R5.2.2.1, hk5]
        simp only [if_true, Int32.le_refl, ob_s]
      refine ⟨A6, B5, -1, _, _, hAr A6 (-1) (by rw [hx, ob_s, R5.f4]), hBr B5 (by rw [if_pos h26, if_pos h22]), hsame A6 (fun _ _ _ => rfl), hBsame B5 same.rf, Or.inl ⟨rfl, h26⟩, hends A6 rfl, rfl, Nat.zero_le _, l2, l3, hd3, fun _ => hev A6 rfl rfl⟩
    | false =>
      obtain ⟨A7, B7, p, a7, b7, R7, e7⟩ := fail2 C3 R5
      have h22 : ¬ B5 0 22 = 0 := by
        intro h22
        rcases tok_cases C3 R5.kL R5.at with ⟨-, h, -⟩ | ⟨-, u, -, -, -, h, -⟩ | ⟨-, -, h⟩ | ⟨-, -, h, -⟩ | ⟨-, -, h, -⟩
        · exact absurd (zz.mpr ⟨rfl, h⟩) (by simp)
        · rw [h22] at h; exact absurd h (by decide)
        · rw [h22] at h; exact absurd h (by decide)
        · rw [h22] at h; exact absurd h (by decide)
        · rw [h22] at h; exact absurd h (by decide)
      have hp : p ≤ 160 := R7.2.2.2.2.2.2.2.2.2.2.2.2
      have h4 : A7 18 4 = nI p := R7.2.2.2.2.2.2.2.2.2.1
      have hx : f_Reader_expect A6 14 = some A7 := by
        unfold f_Reader_expect
        rw [zc, ob_s]
        simp only [Bool.false_eq_true, if_false, a7, ob_s]
      refine ⟨A7, B7, nI p, _, _, hAr A7 (nI p) (by rw [hx, ob_s, h4]), hBr B7 (by rw [if_pos h26, if_neg h22, b7]), hsame A7 (fun a j h => by rw [R7.1 a j h, R5.1 a j h]), hBsame B7 ?_, Or.inr ⟨p, hp, rfl, R7.2.2.2.2.2.2.2.2.2.2.1, R7.2.2.2.2.2.2.2.2.2.2.2.1⟩, hends A7 (funext fun j => by rw [R7.1 21 j (by unfold pA; omega), R5.1 21 j (by unfold pA; omega)]), rfl, Nat.zero_le _, l2, l3, hd3, fun h => ?_⟩
      · intro a j h
        rw [R7.2.1 a j h, R5.2.1 a j h]
      · rw [nI_neg1 (by omega)] at h
        exact h.elim
