/-! both readers, from TERM to E: printed by sim2.py -/
def jn (g x y : Int32) : Int32 := match f_Text_joined g x y with
  | some r => r
  | none => 0
theorem joined_ok (g x y : Int32) : f_Text_joined g x y = some (jn g x y) := by
  have : ∃ r, f_Text_joined g x y = some r := by
    unfold f_Text_joined
    repeat' split
    all_goals exact ⟨_, rfl⟩
  obtain ⟨r, h⟩ := this
  unfold jn
  rw [h]
theorem jn_42 (x y : Int32) : jn 42 x y = x * y := by simp [jn, f_Text_joined]
theorem jn_43 (x y : Int32) : jn 43 x y = x + y := by simp [jn, f_Text_joined]
theorem jn_45 (x y : Int32) : jn 45 x y = x - y := by simp [jn, f_Text_joined]
theorem jn_60 (x y : Int32) : jn 60 x y = if y ≤ x then 0 else 1 := by
  unfold jn f_Text_joined
  by_cases h : y ≤ x <;> simp [h]
theorem jn_61 (x y : Int32) : jn 61 x y = if x = y then 1 else 0 := by
  unfold jn f_Text_joined
  by_cases h : x = y <;> simp [h]
theorem jn_11 (x y : Int32) : jn 11 x y = if x = 0 then 0 else if y = 0 then 0 else 1 := by
  unfold jn f_Text_joined
  by_cases h : x = 0 <;> by_cases g : y = 0 <;> simp [h, g]
theorem jn_10 (x y : Int32) : jn 10 x y = if x = 0 then (if y = 0 then 0 else 1) else 1 := by
  unfold jn f_Text_joined
  by_cases h : x = 0 <;> by_cases g : y = 0 <;> simp [h, g]
/-- what a code does to the stack -/
def ev (nm : Nat → Int32) (c : Int32) (s : List Int32) : List Int32 :=
  if c < -6 then
    if c = -12 ∨ c = -16 then
      match s with
      | [] => []
      | x :: s => (if c = -16 then -x else if x = 0 then 1 else 0) :: s
    else
      match s with
      | y :: x :: s => jn (-c) x y :: s
      | s => s
  else (if c < 0 then nm (-c).toNatClampNeg else c) :: s
def evr (nm : Nat → Int32) (f : Nat → Int32) (i : Nat) : Nat → List Int32 → List Int32
  | 0, s => s
  | l + 1, s => ev nm (f (i + l)) (evr nm f i l s)
theorem evr_ext {nm f g : Nat → Int32} {i : Nat} (s : List Int32) : ∀ l, (∀ j, i ≤ j → j < i + l → f j = g j) → evr nm f i l s = evr nm g i l s := by
  intro l
  induction l with
  | zero => intro _; rfl
  | succ l ih =>
    intro h
    rw [evr, evr, ih (fun j j1 j2 => h j j1 (by omega)), h (i + l) (by omega) (by omega)]
theorem evr_add {nm f : Nat → Int32} {i : Nat} (s : List Int32) (l1 : Nat) : ∀ l2, evr nm f i (l1 + l2) s = evr nm f (i + l1) l2 (evr nm f i l1 s) := by
  intro l2
  induction l2 with
  | zero => rfl
  | succ l2 ih =>
    show ev nm (f (i + (l1 + l2))) (evr nm f i (l1 + l2) s) = ev nm (f (i + l1 + l2)) (evr nm f (i + l1) l2 (evr nm f i l1 s))
    rw [ih, Nat.add_assoc]
theorem ev_bin {nm : Nat → Int32} {c g : Int32} (h1 : c < -6) (h2 : ¬ (c = -12 ∨ c = -16)) (h3 : -c = g) (v w : Int32) (s : List Int32) : ev nm c (w :: v :: s) = jn g v w :: s := by
  unfold ev
  rw [if_pos h1, if_neg h2, h3]
theorem evr_op {nm f1 f2 f3 : Nat → Int32} {c0 c1 c2 : Nat} {v w r code : Int32} (h01 : c0 ≤ c1) (h12 : c1 ≤ c2) (h1 : ∀ s, evr nm f1 c0 (c1 - c0) s = v :: s) (h2 : ∀ s, evr nm f2 c1 (c2 - c1) s = w :: s) (e12 : ∀ j, j < c1 → f2 j = f1 j) (e23 : ∀ j, j < c2 → f3 j = f2 j) (ec : f3 c2 = code) (hev : ∀ s, ev nm code (w :: v :: s) = r :: s) : ∀ s, evr nm f3 c0 (c2 + 1 - c0) s = r :: s := by
  intro s
  have e1 : c2 + 1 - c0 = (c1 - c0 + (c2 - c1)) + 1 := by omega
  rw [e1, evr]
  have e2 : c0 + (c1 - c0 + (c2 - c1)) = c2 := by omega
  rw [e2, ec, evr_add]
  have e3 : c0 + (c1 - c0) = c1 := by omega
  rw [e3, evr_ext (f := f3) (g := f1) (i := c0) _ _ (fun j j1 j2 => by rw [e23 j (by omega), e12 j (by omega)]), h1, evr_ext (f := f3) (g := f2) (i := c1) _ _ (fun j j1 j2 => e23 j (by omega)), h2, hev]
theorem evr_un {nm f1 f2 : Nat → Int32} {c0 c1 : Nat} {v r code : Int32} (h01 : c0 ≤ c1) (h1 : ∀ s, evr nm f1 c0 (c1 - c0) s = v :: s) (e12 : ∀ j, j < c1 → f2 j = f1 j) (ec : f2 c1 = code) (hev : ∀ s, ev nm code (v :: s) = r :: s) : ∀ s, evr nm f2 c0 (c1 + 1 - c0) s = r :: s := by
  intro s
  have e1 : c1 + 1 - c0 = (c1 - c0) + 1 := by omega
  rw [e1, evr]
  have e2 : c0 + (c1 - c0) = c1 := by omega
  rw [e2, ec, evr_ext (f := f2) (g := f1) (i := c0) _ _ (fun j j1 j2 => e12 j (by omega)), h1, hev]
section SIM
variable {A0 B0 A B : Mem} {n L t k o c p : Nat} {E : Nat → Nat} {fl : Option Nat}
def nmB (B0 : Mem) (u : Nat) : Int32 := if u ≤ 6 then B0 0 (12 + u) else 0
def Post (A0 B0 : Mem) (L : Nat) (E : Nat → Nat) (f : Option Mem) (g : Option (Mem × Int32)) (A : Mem) (k o c : Nat) : Prop :=
  ∃ (A' B' : Mem) (v : Int32) (k' c' : Nat) (fl' : Option Nat), f = some A' ∧ g = some (B', v) ∧ RS A0 B0 L E A' B' k' o c' fl' ∧ k ≤ k' ∧ c ≤ c' ∧ c' + k ≤ k' + c ∧ (∀ j, j < c → A' 20 j = A 20 j) ∧ (fl' = none → ∀ s, evr (nmB B0) (A' 20) c (c' - c) s = v :: s)
def Sim (A0 B0 : Mem) (L : Nat) (E : Nat → Nat) (f : Mem → Option Mem) (g : Mem → Option (Mem × Int32)) (m : Nat) : Prop :=
  ∀ (A B : Mem) (k o c : Nat), RS A0 B0 L E A B k o c none → m ≤ o → Post A0 B0 L E (f A) (g B) A k o c
theorem TL (C : Cx A0 B0 n L t E) : A0 15 L = nI 14 := C.2.2.2.2.2.1.2.2.2.1
theorem kltL (C : Cx A0 B0 n L t E) (hk : k ≤ L) (h : ¬ A0 15 k = nI 14) : k < L := by
  by_cases e : k = L
  · subst e; exact absurd (TL C) h
  · omega
theorem term_loop (C : Cx A0 B0 n L t E) {one : Mem → Option Mem} {ao : Mem → Option (Mem × Int32)} {m : Nat} (hs : Sim A0 B0 L E one ao m) (j4 : Mem → Option Mem) (j6 : Int32 → Mem → Option (Mem × Int32)) (k0 c0 : Nat) (hm : m ≤ o) :
    ∀ fu1 fu2 i A B v k c fl, RS A0 B0 L E A B k o c fl → k0 ≤ k → c0 ≤ c → c + k0 ≤ k + c0 → i ≤ k → (fl = none → ∀ s, evr (nmB B0) (A 20) c0 (c - c0) s = v :: s) → L < fu1 + k → L < fu2 + k →
      ∃ (A' B' : Mem) (v' : Int32) (k' c' : Nat) (fl' : Option Nat), f_Reader_readTerm_L6 one j4 fu1 (nI i) A = j4 A' ∧ m_term_L5 ao j6 fu2 v B = j6 v' B' ∧ RS A0 B0 L E A' B' k' o c' fl' ∧ k0 ≤ k' ∧ c0 ≤ c' ∧ c' + k0 ≤ k' + c0 ∧ (∀ j, j < c0 → A' 20 j = A 20 j) ∧ (fl' = none → ∀ s, evr (nmB B0) (A' 20) c0 (c' - c0) s = v' :: s) := by
  intro fu1
  induction fu1 with
  | zero => intro fu2 i A B v k c fl R h1 h2 h3 h4 h5 h6; have := R.kL; omega
  | succ fu1 ih =>
    intro fu2 i A B v k c fl R h1 h2 h3 h4 h5 h6 h7
    have hL := C.L160
    have hk := R.kL
    obtain ⟨fu2, rfl⟩ : ∃ f, fu2 = f + 1 := ⟨fu2 - 1, by omega⟩
    obtain ⟨z, zc, zm, zz⟩ := sg_ok C R 42 (by decide)
    cases z with
    | false =>
      refine ⟨A, B, v, k, c, fl, ?_, ?_, R, h1, h2, h3, fun _ _ => rfl, h5⟩
      · by_cases hi : i = 160
        · subst hi
          simp only [f_Reader_readTerm_L6, if_pos (nI_le (a := 160) (Nat.le_refl _) (show 160 < 2 ^ 31 by omega))]
          rfl
        · have g : ¬ (160 : Int32) ≤ nI i := nI_ge (b := 160) (by omega) (by omega)
          have zc : f_Reader_is A 42 = some false := zc
          simp only [f_Reader_readTerm_L6, if_neg g, zc, ob_s]
          rfl
      · simp only [m_term_L5, zm, ob_s]
        rfl
    | true =>
      obtain ⟨hfl, hT⟩ := zz.mp rfl
      subst hfl
      have hkL : k < L := kltL C hk (by rw [hT]; decide)
      have hT15 : ¬ A0 15 k = nI 15 := by rw [hT]; decide
      obtain ⟨A1, B1, a1, b1, R1, e1⟩ := next2 C R hkL hT15
      obtain ⟨A2, B2, w, k2, c2, fl2, a2, b2, R2, q1, q2, q3, q4, q5⟩ := hs A1 B1 (k + 1) o c R1 hm
      have hck := R.ck'
      obtain ⟨A3, a3, R3, e3⟩ := add2 C R2 (by omega) (-42)
      obtain ⟨A', B', v', k', c', fl', d1, d2, d3, d4, d5, d6, d7, d8⟩ := ih fu2 (i + 1) A3 B2 (v * w) k2 (c2 + 1) fl2 R3 (by omega) (by omega) (by omega) (by omega) (fun hf => evr_op h2 q2 (h5 rfl) (q5 hf) (fun j hj => by rw [q4 j hj, e1]) (fun j hj => by rw [e3 j, if_neg (by omega)]) (by rw [e3 c2, if_pos rfl]) (fun s => by rw [ev_bin (g := 42) (by decide) (by decide) (by decide), jn_42])) (by omega) (by omega)
      refine ⟨A', B', v', k', c', fl', ?_, ?_, d3, d4, d5, d6, fun j hj => ?_, d8⟩
      rotate_left 2
      · rw [d7 j hj, e3 j, if_neg (by omega), q4 j (by omega), e1]
      · have g : ¬ (160 : Int32) ≤ nI i := nI_ge (b := 160) (by omega) (by omega)
        have zc : f_Reader_is A 42 = some true := zc
        simp only [f_Reader_readTerm_L6, if_neg g, zc, ob_s, if_true, a1, a2, a3, bnd_s, nI_1]
        exact d1
      · skip
        simp only [m_term_L5, zm, ob_s, if_true, b1, ob2_s, b2, bnd_s]
        exact d2
theorem term_sim (C : Cx A0 B0 n L t E) {one : Mem → Option Mem} {ao : Mem → Option (Mem × Int32)} {m : Nat} (hs : Sim A0 B0 L E one ao m) : Sim A0 B0 L E (f_Reader_readTerm one) (m_term ao) m := by
  intro A B k o c R hm
  have hL := C.L160
  obtain ⟨A2, B2, w, k2, c2, fl2, a2, b2, R2, q1, q2, q3, q4, q5⟩ := hs A B k o c R hm
  obtain ⟨A', B', v', k', c', fl', d1, d2, d3, d4, d5, d6, d7, d8⟩ := term_loop C hs (fun M3 => some M3) (fun v4 M5 => some (M5, v4)) k c hm FU FU 0 A2 B2 w k2 c2 fl2 R2 q1 q2 q3 (by omega) q5 (by unfold FU; omega) (by unfold FU; omega)
  refine ⟨A', B', v', k', c', fl', ?_, ?_, d3, d4, d5, d6, fun j hj => by rw [d7 j hj, q4 j hj], d8⟩
  · unfold f_Reader_readTerm
    rw [a2, ob_s, jp_s]
    exact d1
  · unfold m_term
    rw [b2, ob2_s, jp_s]
    exact d2
theorem and_loop (C : Cx A0 B0 n L t E) {one : Mem → Option Mem} {ao : Mem → Option (Mem × Int32)} {m : Nat} (hs : Sim A0 B0 L E (f_Reader_readNot one 10) (m_not ao 10) m) (j4 : Mem → Option Mem) (j6 : Int32 → Mem → Option (Mem × Int32)) (k0 c0 : Nat) (hm : m ≤ o) :
    ∀ fu1 fu2 i A B v k c fl, RS A0 B0 L E A B k o c fl → k0 ≤ k → c0 ≤ c → c + k0 ≤ k + c0 → i ≤ k → (fl = none → ∀ s, evr (nmB B0) (A 20) c0 (c - c0) s = v :: s) → L < fu1 + k → L < fu2 + k →
      ∃ (A' B' : Mem) (v' : Int32) (k' c' : Nat) (fl' : Option Nat), f_Reader_readAnd_L6 one j4 fu1 (nI i) A = j4 A' ∧ m_both_L5 ao j6 fu2 v B = j6 v' B' ∧ RS A0 B0 L E A' B' k' o c' fl' ∧ k0 ≤ k' ∧ c0 ≤ c' ∧ c' + k0 ≤ k' + c0 ∧ (∀ j, j < c0 → A' 20 j = A 20 j) ∧ (fl' = none → ∀ s, evr (nmB B0) (A' 20) c0 (c' - c0) s = v' :: s) := by
  intro fu1
  induction fu1 with
  | zero => intro fu2 i A B v k c fl R h1 h2 h3 h4 h5 h6; have := R.kL; omega
  | succ fu1 ih =>
    intro fu2 i A B v k c fl R h1 h2 h3 h4 h5 h6 h7
    have hL := C.L160
    have hk := R.kL
    obtain ⟨fu2, rfl⟩ : ∃ f, fu2 = f + 1 := ⟨fu2 - 1, by omega⟩
    obtain ⟨z, zc, zm, zz⟩ := kw_ok C R 11 (by omega) (by omega) (a1 := 97) (a2 := 110) (a3 := 100) (a4 := 0) (a5 := 0) (a6 := 0) (a7 := 0) (a8 := 0) (by decide)
    cases z with
    | false =>
      refine ⟨A, B, v, k, c, fl, ?_, ?_, R, h1, h2, h3, fun _ _ => rfl, h5⟩
      · by_cases hi : i = 160
        · subst hi
          simp only [f_Reader_readAnd_L6, if_pos (nI_le (a := 160) (Nat.le_refl _) (show 160 < 2 ^ 31 by omega))]
          rfl
        · have g : ¬ (160 : Int32) ≤ nI i := nI_ge (b := 160) (by omega) (by omega)
          have zc : f_Reader_is A 11 = some false := zc
          simp only [f_Reader_readAnd_L6, if_neg g, zc, ob_s]
          rfl
      · simp only [m_both_L5, zm, ob_s]
        rfl
    | true =>
      obtain ⟨hfl, hT⟩ := zz.mp rfl
      subst hfl
      have hkL : k < L := kltL C hk (by rw [hT]; decide)
      have hT15 : ¬ A0 15 k = nI 15 := by rw [hT]; decide
      obtain ⟨A1, B1, a1, b1, R1, e1⟩ := next2 C R hkL hT15
      obtain ⟨A2, B2, w, k2, c2, fl2, a2, b2, R2, q1, q2, q3, q4, q5⟩ := hs A1 B1 (k + 1) o c R1 hm
      have hck := R.ck'
      obtain ⟨A3, a3, R3, e3⟩ := add2 C R2 (by omega) (-11)
      obtain ⟨A', B', v', k', c', fl', d1, d2, d3, d4, d5, d6, d7, d8⟩ := ih fu2 (i + 1) A3 B2 ((if v = 0 then 0 else if w = 0 then 0 else 1)) k2 (c2 + 1) fl2 R3 (by omega) (by omega) (by omega) (by omega) (fun hf => evr_op h2 q2 (h5 rfl) (q5 hf) (fun j hj => by rw [q4 j hj, e1]) (fun j hj => by rw [e3 j, if_neg (by omega)]) (by rw [e3 c2, if_pos rfl]) (fun s => by rw [ev_bin (g := 11) (by decide) (by decide) (by decide), jn_11])) (by omega) (by omega)
      refine ⟨A', B', v', k', c', fl', ?_, ?_, d3, d4, d5, d6, fun j hj => ?_, d8⟩
      rotate_left 2
      · rw [d7 j hj, e3 j, if_neg (by omega), q4 j (by omega), e1]
      · have g : ¬ (160 : Int32) ≤ nI i := nI_ge (b := 160) (by omega) (by omega)
        have zc : f_Reader_is A 11 = some true := zc
        simp only [f_Reader_readAnd_L6, if_neg g, zc, ob_s, if_true, a1, a2, a3, bnd_s, nI_1]
        exact d1
      · skip
        by_cases hv : v = 0
        · rw [if_pos hv] at d2
          simp only [m_both_L5, zm, ob_s, if_true, b1, ob2_s, b2, jp_s, if_pos hv]
          exact d2
        · rw [if_neg hv] at d2
          by_cases hw : w = 0
          · rw [if_pos hw] at d2
            simp only [m_both_L5, zm, ob_s, if_true, b1, ob2_s, b2, jp_s, if_neg hv, if_pos hw]
            exact d2
          · rw [if_neg hw] at d2
            simp only [m_both_L5, zm, ob_s, if_true, b1, ob2_s, b2, jp_s, if_neg hv, if_neg hw]
            exact d2
theorem and_sim (C : Cx A0 B0 n L t E) {one : Mem → Option Mem} {ao : Mem → Option (Mem × Int32)} {m : Nat} (hs : Sim A0 B0 L E (f_Reader_readNot one 10) (m_not ao 10) m) : Sim A0 B0 L E (f_Reader_readAnd one) (m_both ao) m := by
  intro A B k o c R hm
  have hL := C.L160
  obtain ⟨A2, B2, w, k2, c2, fl2, a2, b2, R2, q1, q2, q3, q4, q5⟩ := hs A B k o c R hm
  obtain ⟨A', B', v', k', c', fl', d1, d2, d3, d4, d5, d6, d7, d8⟩ := and_loop C hs (fun M3 => some M3) (fun v4 M5 => some (M5, v4)) k c hm FU FU 0 A2 B2 w k2 c2 fl2 R2 q1 q2 q3 (by omega) q5 (by unfold FU; omega) (by unfold FU; omega)
  refine ⟨A', B', v', k', c', fl', ?_, ?_, d3, d4, d5, d6, fun j hj => by rw [d7 j hj, q4 j hj], d8⟩
  · unfold f_Reader_readAnd
    rw [a2, ob_s, jp_s]
    exact d1
  · unfold m_both
    rw [b2, ob2_s, jp_s]
    exact d2
theorem or_loop (C : Cx A0 B0 n L t E) {one : Mem → Option Mem} {ao : Mem → Option (Mem × Int32)} {m : Nat} (hs : Sim A0 B0 L E (f_Reader_readAnd one) (m_both ao) m) (j4 : Mem → Option Mem) (j6 : Int32 → Mem → Option (Mem × Int32)) (k0 c0 : Nat) (hm : m ≤ o) :
    ∀ fu1 fu2 i A B v k c fl, RS A0 B0 L E A B k o c fl → k0 ≤ k → c0 ≤ c → c + k0 ≤ k + c0 → i ≤ k → (fl = none → ∀ s, evr (nmB B0) (A 20) c0 (c - c0) s = v :: s) → L < fu1 + k → L < fu2 + k →
      ∃ (A' B' : Mem) (v' : Int32) (k' c' : Nat) (fl' : Option Nat), f_Reader_readE_L6 one j4 fu1 (nI i) A = j4 A' ∧ m_either_L5 ao j6 fu2 v B = j6 v' B' ∧ RS A0 B0 L E A' B' k' o c' fl' ∧ k0 ≤ k' ∧ c0 ≤ c' ∧ c' + k0 ≤ k' + c0 ∧ (∀ j, j < c0 → A' 20 j = A 20 j) ∧ (fl' = none → ∀ s, evr (nmB B0) (A' 20) c0 (c' - c0) s = v' :: s) := by
  intro fu1
  induction fu1 with
  | zero => intro fu2 i A B v k c fl R h1 h2 h3 h4 h5 h6; have := R.kL; omega
  | succ fu1 ih =>
    intro fu2 i A B v k c fl R h1 h2 h3 h4 h5 h6 h7
    have hL := C.L160
    have hk := R.kL
    obtain ⟨fu2, rfl⟩ : ∃ f, fu2 = f + 1 := ⟨fu2 - 1, by omega⟩
    obtain ⟨z, zc, zm, zz⟩ := kw_ok C R 10 (by omega) (by omega) (a1 := 111) (a2 := 114) (a3 := 0) (a4 := 0) (a5 := 0) (a6 := 0) (a7 := 0) (a8 := 0) (by decide)
    cases z with
    | false =>
      refine ⟨A, B, v, k, c, fl, ?_, ?_, R, h1, h2, h3, fun _ _ => rfl, h5⟩
      · by_cases hi : i = 160
        · subst hi
          simp only [f_Reader_readE_L6, if_pos (nI_le (a := 160) (Nat.le_refl _) (show 160 < 2 ^ 31 by omega))]
          rfl
        · have g : ¬ (160 : Int32) ≤ nI i := nI_ge (b := 160) (by omega) (by omega)
          have zc : f_Reader_is A 10 = some false := zc
          simp only [f_Reader_readE_L6, if_neg g, zc, ob_s]
          rfl
      · simp only [m_either_L5, zm, ob_s]
        rfl
    | true =>
      obtain ⟨hfl, hT⟩ := zz.mp rfl
      subst hfl
      have hkL : k < L := kltL C hk (by rw [hT]; decide)
      have hT15 : ¬ A0 15 k = nI 15 := by rw [hT]; decide
      obtain ⟨A1, B1, a1, b1, R1, e1⟩ := next2 C R hkL hT15
      obtain ⟨A2, B2, w, k2, c2, fl2, a2, b2, R2, q1, q2, q3, q4, q5⟩ := hs A1 B1 (k + 1) o c R1 hm
      have hck := R.ck'
      obtain ⟨A3, a3, R3, e3⟩ := add2 C R2 (by omega) (-10)
      obtain ⟨A', B', v', k', c', fl', d1, d2, d3, d4, d5, d6, d7, d8⟩ := ih fu2 (i + 1) A3 B2 ((if v = 0 then (if w = 0 then 0 else 1) else 1)) k2 (c2 + 1) fl2 R3 (by omega) (by omega) (by omega) (by omega) (fun hf => evr_op h2 q2 (h5 rfl) (q5 hf) (fun j hj => by rw [q4 j hj, e1]) (fun j hj => by rw [e3 j, if_neg (by omega)]) (by rw [e3 c2, if_pos rfl]) (fun s => by rw [ev_bin (g := 10) (by decide) (by decide) (by decide), jn_10])) (by omega) (by omega)
      refine ⟨A', B', v', k', c', fl', ?_, ?_, d3, d4, d5, d6, fun j hj => ?_, d8⟩
      rotate_left 2
      · rw [d7 j hj, e3 j, if_neg (by omega), q4 j (by omega), e1]
      · have g : ¬ (160 : Int32) ≤ nI i := nI_ge (b := 160) (by omega) (by omega)
        have zc : f_Reader_is A 10 = some true := zc
        simp only [f_Reader_readE_L6, if_neg g, zc, ob_s, if_true, a1, a2, a3, bnd_s, nI_1]
        exact d1
      · skip
        by_cases hv : v = 0
        · rw [if_pos hv] at d2
          by_cases hw : w = 0
          · rw [if_pos hw] at d2
            simp only [m_either_L5, zm, ob_s, if_true, b1, ob2_s, b2, jp_s, if_pos hv, if_pos hw]
            exact d2
          · rw [if_neg hw] at d2
            simp only [m_either_L5, zm, ob_s, if_true, b1, ob2_s, b2, jp_s, if_pos hv, if_neg hw]
            exact d2
        · rw [if_neg hv] at d2
          simp only [m_either_L5, zm, ob_s, if_true, b1, ob2_s, b2, jp_s, if_neg hv]
          exact d2
theorem or_sim (C : Cx A0 B0 n L t E) {one : Mem → Option Mem} {ao : Mem → Option (Mem × Int32)} {m : Nat} (hs : Sim A0 B0 L E (f_Reader_readAnd one) (m_both ao) m) : Sim A0 B0 L E (f_Reader_readE one) (m_either ao) m := by
  intro A B k o c R hm
  have hL := C.L160
  obtain ⟨A2, B2, w, k2, c2, fl2, a2, b2, R2, q1, q2, q3, q4, q5⟩ := hs A B k o c R hm
  obtain ⟨A', B', v', k', c', fl', d1, d2, d3, d4, d5, d6, d7, d8⟩ := or_loop C hs (fun M3 => some M3) (fun v4 M5 => some (M5, v4)) k c hm FU FU 0 A2 B2 w k2 c2 fl2 R2 q1 q2 q3 (by omega) q5 (by unfold FU; omega) (by unfold FU; omega)
  refine ⟨A', B', v', k', c', fl', ?_, ?_, d3, d4, d5, d6, fun j hj => by rw [d7 j hj, q4 j hj], d8⟩
  · unfold f_Reader_readE
    rw [a2, ob_s, jp_s]
    exact d1
  · unfold m_either
    rw [b2, ob2_s, jp_s]
    exact d2
theorem sign24 (C : Cx A0 B0 n L t E) (R : RS A0 B0 L E A B k o c none) (hS : isS (A0 15 k) = true) : B 0 24 = A0 15 k := by
  have hno : ∀ u, u < 16 → ¬ A0 15 k = nI u := fun u hu e => by have := sgnNo u hu; rw [← e, hS] at this; cases this
  rcases tok_cases C R.kL R.at with ⟨-, hT, -⟩ | ⟨-, u, -, hu, hT, -⟩ | ⟨-, hT, -⟩ | ⟨-, hT, -⟩ | ⟨-, -, -, h24, -⟩
  · exact absurd hT (hno 14 (by omega))
  · exact absurd hT (hno u (by omega))
  · exact absurd hT (hno 15 (by omega))
  · exact absurd hT (hno 13 (by omega))
  · exact h24
theorem sum_loop (C : Cx A0 B0 n L t E) {one : Mem → Option Mem} {ao : Mem → Option (Mem × Int32)} {m : Nat} (hs : Sim A0 B0 L E (f_Reader_readTerm one) (m_term ao) m) (j4 : Mem → Option Mem) (j6 : Int32 → Mem → Option (Mem × Int32)) (k0 c0 : Nat) (hm : m ≤ o) :
    ∀ fu1 fu2 i A B v k c fl, RS A0 B0 L E A B k o c fl → k0 ≤ k → c0 ≤ c → c + k0 ≤ k + c0 → i ≤ k → (fl = none → ∀ s, evr (nmB B0) (A 20) c0 (c - c0) s = v :: s) → L < fu1 + k → L < fu2 + k →
      ∃ (A' B' : Mem) (v' : Int32) (k' c' : Nat) (fl' : Option Nat), f_Reader_readSum_L6 one j4 fu1 (nI i) A = j4 A' ∧ m_added_L5 ao j6 fu2 v B = j6 v' B' ∧ RS A0 B0 L E A' B' k' o c' fl' ∧ k0 ≤ k' ∧ c0 ≤ c' ∧ c' + k0 ≤ k' + c0 ∧ (∀ j, j < c0 → A' 20 j = A 20 j) ∧ (fl' = none → ∀ s, evr (nmB B0) (A' 20) c0 (c' - c0) s = v' :: s) := by
  intro fu1
  induction fu1 with
  | zero => intro fu2 i A B v k c fl R h1 h2 h3 h4 h5 h6; have := R.kL; omega
  | succ fu1 ih =>
    intro fu2 i A B v k c fl R h1 h2 h3 h4 h5 h6 h7
    have hL := C.L160
    have hk := R.kL
    obtain ⟨fu2, rfl⟩ : ∃ f, fu2 = f + 1 := ⟨fu2 - 1, by omega⟩
    obtain ⟨z, zc, zm, zz⟩ := sg_ok C R 43 (by decide)
    obtain ⟨y, yc, ym, yy⟩ := sg_ok C R 45 (by decide)
    by_cases hzy : z = true ∨ y = true
    · obtain ⟨hfl, hT⟩ : fl = none ∧ (A0 15 k = 43 ∨ A0 15 k = 45) := by
        rcases hzy with h | h
        · exact ⟨(zz.mp h).1, Or.inl (zz.mp h).2⟩
        · exact ⟨(yy.mp h).1, Or.inr (yy.mp h).2⟩
      subst hfl
      have hkL : k < L := kltL C hk (by rcases hT with hT | hT <;> (rw [hT]; decide))
      have hT15 : ¬ A0 15 k = nI 15 := by rcases hT with hT | hT <;> (rw [hT]; decide)
      have h24 := sign24 C R (by rcases hT with hT | hT <;> (rw [hT]; decide))
      have htk := token_ok C R
      obtain ⟨A1, B1, a1, b1, R1, e1⟩ := next2 C R hkL hT15
      obtain ⟨A2, B2, w, k2, c2, fl2, a2, b2, R2, q1, q2, q3, q4, q5⟩ := hs A1 B1 (k + 1) o c R1 hm
      have hck := R.ck'
      obtain ⟨A3, a3, R3, e3⟩ := add2 C R2 (by omega) (-(A0 15 k))
      obtain ⟨A', B', v', k', c', fl', d1, d2, d3, d4, d5, d6, d7, d8⟩ := ih fu2 (i + 1) A3 B2 (if A0 15 k = 43 then v + w else v - w) k2 (c2 + 1) fl2 R3 (by omega) (by omega) (by omega) (by omega) (fun hf => evr_op h2 q2 (h5 rfl) (q5 hf) (fun j hj => by rw [q4 j hj, e1]) (fun j hj => by rw [e3 j, if_neg (by omega)]) (by rw [e3 c2, if_pos rfl]) (fun s => by
        rcases hT with hT | hT
        · rw [hT, if_pos rfl, ev_bin (g := 43) (by decide) (by decide) (by decide), jn_43]
        · rw [hT, if_neg (by decide), ev_bin (g := 45) (by decide) (by decide) (by decide), jn_45])) (by omega) (by omega)
      refine ⟨A', B', v', k', c', fl', ?_, ?_, d3, d4, d5, d6, fun j hj => ?_, d8⟩
      rotate_left 2
      · rw [d7 j hj, e3 j, if_neg (by omega), q4 j (by omega), e1]
      · have g : ¬ (160 : Int32) ≤ nI i := nI_ge (b := 160) (by omega) (by omega)
        rcases hzy with h | h
        · subst h
          simp only [f_Reader_readSum_L6, if_neg g, zc, yc, ob_s, jp_s, if_true, htk, a1, a2, a3, bnd_s, nI_1]
          exact d1
        · subst h
          cases z <;> simp only [f_Reader_readSum_L6, if_neg g, zc, yc, ob_s, jp_s, if_true, htk, a1, a2, a3, bnd_s, nI_1, Bool.false_eq_true, if_false] <;> exact d1
      · rcases hT with hT | hT
        · have hz : z = true := zz.mpr ⟨rfl, hT⟩
          subst hz
          rw [hT, if_pos rfl] at d2
          rw [hT] at h24
          have g1 : lg_cmp ((B 0 24).toInt64) 43 = 0 := by rw [h24]; decide
          simp only [m_added_L5, zm, ob_s, jp_s, if_true, if_pos g1, b1, b2, ob2_s, if_neg (show ¬ (1 : Int32) = 0 by decide)]
          exact d2
        · have hz : y = true := yy.mpr ⟨rfl, hT⟩
          subst hz
          have hzf : z = false := by
            cases z with
            | false => rfl
            | true => have := (zz.mp rfl).2; rw [hT] at this; exact absurd this (by decide)
          subst hzf
          rw [hT, if_neg (by decide)] at d2
          rw [hT] at h24
          have g1 : ¬ lg_cmp ((B 0 24).toInt64) 43 = 0 := by rw [h24]; decide
          simp only [m_added_L5, zm, ym, ob_s, jp_s, if_true, if_neg g1, b1, b2, ob2_s, Bool.false_eq_true, if_false]
          exact d2
    · have hz : z = false := by cases z with
        | false => rfl
        | true => exact absurd (Or.inl rfl) hzy
      have hy : y = false := by cases y with
        | false => rfl
        | true => exact absurd (Or.inr rfl) hzy
      subst hz
      subst hy
      refine ⟨A, B, v, k, c, fl, ?_, ?_, R, h1, h2, h3, fun _ _ => rfl, h5⟩
      · by_cases hi : i = 160
        · subst hi
          simp only [f_Reader_readSum_L6, if_pos (nI_le (a := 160) (Nat.le_refl _) (show 160 < 2 ^ 31 by omega))]
          rfl
        · have g : ¬ (160 : Int32) ≤ nI i := nI_ge (b := 160) (by omega) (by omega)
          simp only [f_Reader_readSum_L6, if_neg g, zc, yc, ob_s, jp_s]
          rfl
      · simp only [m_added_L5, zm, ym, ob_s, jp_s]
        rfl
theorem sum_sim (C : Cx A0 B0 n L t E) {one : Mem → Option Mem} {ao : Mem → Option (Mem × Int32)} {m : Nat} (hs : Sim A0 B0 L E (f_Reader_readTerm one) (m_term ao) m) : Sim A0 B0 L E (f_Reader_readSum one) (m_added ao) m := by
  intro A B k o c R hm
  have hL := C.L160
  obtain ⟨A2, B2, w, k2, c2, fl2, a2, b2, R2, q1, q2, q3, q4, q5⟩ := hs A B k o c R hm
  obtain ⟨A', B', v', k', c', fl', d1, d2, d3, d4, d5, d6, d7, d8⟩ := sum_loop C hs (fun M3 => some M3) (fun v4 M5 => some (M5, v4)) k c hm FU FU 0 A2 B2 w k2 c2 fl2 R2 q1 q2 q3 (by omega) q5 (by unfold FU; omega) (by unfold FU; omega)
  refine ⟨A', B', v', k', c', fl', ?_, ?_, d3, d4, d5, d6, fun j hj => by rw [d7 j hj, q4 j hj], d8⟩
  · unfold f_Reader_readSum
    rw [a2, ob_s, jp_s]
    exact d1
  · unfold m_added
    rw [b2, ob2_s, jp_s]
    exact d2
end SIM
