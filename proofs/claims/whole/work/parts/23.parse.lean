/-! the class's reader beside the reference's: printed by parse.py -/
def lt8 (w i : Nat) : Int32 := if i < lw w then bw w i else 0
theorem L_ne0 {x : Int32} (h : isL x = true) : ¬ (0 : Int32) = x := by
  intro e
  rw [← e] at h
  revert h
  decide
theorem lgc {x g : Int32} {g' : Int64} (h : g.toInt64 = g') : (lg_cmp x.toInt64 g' = 0) = (x = g) := by
  subst h
  refine propext ?_
  rw [lg_cmp_eq, ← Int64.toInt_inj, Int32.toInt_toInt64, Int32.toInt_toInt64]
  exact i_eq.symm
def wl (b : Nat → Int32) (s e i : Nat) : Int32 := if s + i < e then b (s + i) else 0
theorem isLetter_ok {B : Mem} {b : Nat → Int32} {t n s e i : Nat} (hR : Row B t n b) (ht : t < 6) (hn : n ≤ 160) (h23 : B 0 23 = nI s) (h21 : B 0 21 = nI e) (hse : s < e) (hen : e ≤ n) (hi : i < 8) (a : Int32) : m_isLetter B (nI i) a = some (decide (wl b s e i = a)) := by
  unfold m_isLetter wl
  rw [h23, h21, nI_add]
  by_cases g : s + i < e
  · rw [if_neg (nI_ge g (by omega)), byteAt_ok hR ht hn (show s + i ≤ 400 by omega), ob_s, if_pos g]
    have : bt b n (s + i) = b (s + i) := if_pos (by omega)
    rw [this]
    by_cases h : b (s + i) = a
    · rw [if_pos h, decide_eq_true h]
    · rw [if_neg h, decide_eq_false h]
  · rw [if_pos (nI_le (by omega) (by omega)), if_neg g]
    by_cases h : a = 0
    · rw [if_pos h, decide_eq_true h.symm]
    · rw [if_neg h, decide_eq_false (fun e => h e.symm)]
theorem isWord_ok {B : Mem} {b : Nat → Int32} {t n s e : Nat} (hR : Row B t n b) (ht : t < 6) (hn : n ≤ 160) (h26 : B 0 26 = 0) (h22 : B 0 22 = 1) (h23 : B 0 23 = nI s) (h21 : B 0 21 = nI e) (hse : s < e) (hen : e ≤ n) (a1 : Int32) (a2 : Int32) (a3 : Int32) (a4 : Int32) (a5 : Int32) (a6 : Int32) (a7 : Int32) (a8 : Int32) :
    ∃ z : Bool, m_isWord B a1 a2 a3 a4 a5 a6 a7 a8 = some z ∧ (z = true ↔ (e ≤ s + 8 ∧ wl b s e 0 = a1 ∧ wl b s e 1 = a2 ∧ wl b s e 2 = a3 ∧ wl b s e 3 = a4 ∧ wl b s e 4 = a5 ∧ wl b s e 5 = a6 ∧ wl b s e 6 = a7 ∧ wl b s e 7 = a8)) := by
  have l1 : m_isLetter B 0 a1 = some (decide (wl b s e 0 = a1)) := isLetter_ok (i := 0) hR ht hn h23 h21 hse hen (by omega) a1
  have l2 : m_isLetter B 1 a2 = some (decide (wl b s e 1 = a2)) := isLetter_ok (i := 1) hR ht hn h23 h21 hse hen (by omega) a2
  have l3 : m_isLetter B 2 a3 = some (decide (wl b s e 2 = a3)) := isLetter_ok (i := 2) hR ht hn h23 h21 hse hen (by omega) a3
  have l4 : m_isLetter B 3 a4 = some (decide (wl b s e 3 = a4)) := isLetter_ok (i := 3) hR ht hn h23 h21 hse hen (by omega) a4
  have l5 : m_isLetter B 4 a5 = some (decide (wl b s e 4 = a5)) := isLetter_ok (i := 4) hR ht hn h23 h21 hse hen (by omega) a5
  have l6 : m_isLetter B 5 a6 = some (decide (wl b s e 5 = a6)) := isLetter_ok (i := 5) hR ht hn h23 h21 hse hen (by omega) a6
  have l7 : m_isLetter B 6 a7 = some (decide (wl b s e 6 = a7)) := isLetter_ok (i := 6) hR ht hn h23 h21 hse hen (by omega) a7
  have l8 : m_isLetter B 7 a8 = some (decide (wl b s e 7 = a8)) := isLetter_ok (i := 7) hR ht hn h23 h21 hse hen (by omega) a8
  have e8 : nI s + 8 = nI (s + 8) := nI_add s 8
  unfold m_isWord
  rw [if_pos h26, if_pos h22, h23, h21, e8]
  by_cases g : s + 8 < e
  · rw [if_pos (nI_lt g (by omega))]
    exact ⟨false, rfl, fun h => (by cases h), fun h => by omega⟩
  rw [if_neg (nI_nlt (by omega) (by omega))]
  by_cases c1 : wl b s e 0 = a1
  case neg =>
    refine ⟨false, ?_, fun h => (by cases h), fun h => absurd h.2.1 c1⟩
    rw [l1, decide_eq_false c1]
    rfl
  rw [l1, decide_eq_true c1, ob_s, if_pos rfl]
  by_cases c2 : wl b s e 1 = a2
  case neg =>
    refine ⟨false, ?_, fun h => (by cases h), fun h => absurd h.2.2.1 c2⟩
    rw [l2, decide_eq_false c2]
    rfl
  rw [l2, decide_eq_true c2, ob_s, if_pos rfl]
  by_cases c3 : wl b s e 2 = a3
  case neg =>
    refine ⟨false, ?_, fun h => (by cases h), fun h => absurd h.2.2.2.1 c3⟩
    rw [l3, decide_eq_false c3]
    rfl
  rw [l3, decide_eq_true c3, ob_s, if_pos rfl]
  by_cases c4 : wl b s e 3 = a4
  case neg =>
    refine ⟨false, ?_, fun h => (by cases h), fun h => absurd h.2.2.2.2.1 c4⟩
    rw [l4, decide_eq_false c4]
    rfl
  rw [l4, decide_eq_true c4, ob_s, if_pos rfl]
  by_cases c5 : wl b s e 4 = a5
  case neg =>
    refine ⟨false, ?_, fun h => (by cases h), fun h => absurd h.2.2.2.2.2.1 c5⟩
    rw [l5, decide_eq_false c5]
    rfl
  rw [l5, decide_eq_true c5, ob_s, if_pos rfl]
  by_cases c6 : wl b s e 5 = a6
  case neg =>
    refine ⟨false, ?_, fun h => (by cases h), fun h => absurd h.2.2.2.2.2.2.1 c6⟩
    rw [l6, decide_eq_false c6]
    rfl
  rw [l6, decide_eq_true c6, ob_s, if_pos rfl]
  by_cases c7 : wl b s e 6 = a7
  case neg =>
    refine ⟨false, ?_, fun h => (by cases h), fun h => absurd h.2.2.2.2.2.2.2.1 c7⟩
    rw [l7, decide_eq_false c7]
    rfl
  rw [l7, decide_eq_true c7, ob_s, if_pos rfl]
  by_cases c8 : wl b s e 7 = a8
  case neg =>
    refine ⟨false, ?_, fun h => (by cases h), fun h => absurd h.2.2.2.2.2.2.2.2 c8⟩
    rw [l8, decide_eq_false c8]
    rfl
  rw [l8, decide_eq_true c8, ob_s, if_pos rfl]
  exact ⟨true, rfl, fun _ => ⟨by omega, c1, c2, c3, c4, c5, c6, c7, c8⟩, fun _ => rfl⟩
theorem bw_ne0 : ∀ w, w < 14 → 2 ≤ w → lw w ≤ 7 ∧ ∀ i, i < lw w → ¬ (0 : Int32) = bw w i := by decide +kernel
theorem wm_iff {b : Nat → Int32} {s e w : Nat} (hw : w < 14) (hw2 : 2 ≤ w) (hse : s < e) (hL : ∀ j, s ≤ j → j < e → isL (b j) = true) : (e ≤ s + 8 ∧ wl b s e 0 = lt8 w 0 ∧ wl b s e 1 = lt8 w 1 ∧ wl b s e 2 = lt8 w 2 ∧ wl b s e 3 = lt8 w 3 ∧ wl b s e 4 = lt8 w 4 ∧ wl b s e 5 = lt8 w 5 ∧ wl b s e 6 = lt8 w 6 ∧ wl b s e 7 = lt8 w 7) ↔ wm b s e w := by
  obtain ⟨h7, hne⟩ := bw_ne0 w hw hw2
  constructor
  · rintro ⟨h8, c⟩
    have c : ∀ i, i < 8 → wl b s e i = lt8 w i := by
      obtain ⟨c0, c1, c2, c3, c4, c5, c6, c7⟩ := c
      intro i hi
      match i, hi with
      | 0, _ => exact c0
      | 1, _ => exact c1
      | 2, _ => exact c2
      | 3, _ => exact c3
      | 4, _ => exact c4
      | 5, _ => exact c5
      | 6, _ => exact c6
      | 7, _ => exact c7
    have hlen : e - s = lw w := by
      rcases Nat.lt_trichotomy (e - s) (lw w) with g | g | g
      · have := c (e - s) (by omega)
        unfold wl lt8 at this
        rw [if_neg (by omega), if_pos g] at this
        exact absurd this (hne _ g)
      · exact g
      · have := c (lw w) (by omega)
        unfold wl lt8 at this
        rw [if_pos (by omega), if_neg (by omega)] at this
        exact absurd this.symm (L_ne0 (hL (s + lw w) (by omega) (by omega)))
    refine ⟨hlen, fun i hi => ?_⟩
    have := c i (by omega)
    unfold wl lt8 at this
    rw [if_pos (by omega), if_pos hi] at this
    exact this
  · rintro ⟨hlen, hb⟩
    have c : ∀ i, wl b s e i = lt8 w i := by
      intro i
      unfold wl lt8
      by_cases g : i < lw w
      · rw [if_pos (by omega), if_pos g, hb i g]
      · rw [if_neg (by omega), if_neg g]
    exact ⟨by omega, c 0, c 1, c 2, c 3, c 4, c 5, c 6, c 7⟩
/-- what does not change while a text is read: the class has cut its n bytes into L TOKENS, the reference has them as row t -/
def Cx (A0 B0 : Mem) (n L t : Nat) (E : Nat → Nat) : Prop := n ≤ 160 ∧ t < 6 ∧ A0 13 1 = nI n ∧ A0 13 5 = nI L ∧ (∀ j, j < n → by8 (A0 14 j)) ∧ Lex (A0 14) n (A0 15) (A0 16) (A0 17) L E ∧ Row B0 t n (A0 14)
def pA (c j : Nat) : Prop := c = 18 ∨ c = 19 ∨ c = 20
def pB (c j : Nat) : Prop := c = 0 ∧ 21 ≤ j ∧ j ≤ 27
def FLg (A0 : Mem) (L : Nat) (E : Nat → Nat) (A B : Mem) (k : Nat) : Option Nat → Prop
  | none => A 18 4 = -1 ∧ B 0 26 = 0 ∧ AtTok B (A0 14) (A0 15) (A0 16) (A0 17) L E k
  | some p => A 18 4 = nI p ∧ B 0 26 = 1 ∧ B 0 27 = nI p ∧ p ≤ 160
/-- both readers stand at TOKEN k, o are open, the class has c codes; fl: the FAULT -/
def RS (A0 B0 : Mem) (L : Nat) (E : Nat → Nat) (A B : Mem) (k o c : Nat) (fl : Option Nat) : Prop :=
  same pA A0 A ∧ same pB B0 B ∧ A 18 2 = nI k ∧ A 18 3 = nI o ∧ A 19 2 = nI c ∧ B 0 25 = nI o ∧ k ≤ L ∧ o ≤ 5 ∧ c ≤ k ∧ FLg A0 L E A B k fl
theorem tok_cases {A0 B0 B : Mem} {n L t : Nat} {E : Nat → Nat} (C : Cx A0 B0 n L t E) {k : Nat} (hk : k ≤ L) (h : AtTok B (A0 14) (A0 15) (A0 16) (A0 17) L E k) :
    (k = L ∧ A0 15 k = nI 14 ∧ B 0 22 = 0) ∨
    (k < L ∧ ∃ u, 1 ≤ u ∧ u < 13 ∧ A0 15 k = nI u ∧ B 0 22 = 1 ∧ B 0 21 = nI (E (k + 1))) ∨
    (k < L ∧ A0 15 k = nI 15 ∧ (B 0 22 = 1 ∨ B 0 22 = 4)) ∨
    (k < L ∧ A0 15 k = nI 13 ∧ B 0 22 = 2 ∧ B 0 24 = A0 17 k ∧ B 0 21 = nI (E (k + 1)) ∧ 0 ≤ (A0 17 k).toInt) ∨
    (k < L ∧ isS (A0 15 k) = true ∧ B 0 22 = 3 ∧ B 0 24 = A0 15 k ∧ B 0 21 = nI (E (k + 1))) := by
  obtain ⟨hn, ht, hsz, hL, h8, ⟨⟨hE0, hlx⟩, hEn, hbl, hTL, hSL, hLn⟩, hR⟩ := C
  obtain ⟨h23, h | ⟨hkL, s, hs160, hs, h⟩⟩ := h
  · obtain ⟨h1, h2⟩ := h
    subst h1
    exact Or.inl ⟨rfl, hTL, h2⟩
  · obtain ⟨s', s1, s2, s3, s4, e1, e2, htok⟩ := hlx k hkL
    have hss : s' = s := by
      rw [s1] at hs
      exact (nI_eq (by omega) (by omega)).mp hs
    subst hss
    rcases htok with ⟨tL, tall, tend, tt⟩ | ⟨tD, tall, tend, tt⟩ | ⟨tL, tD, te, tt⟩
    · rcases h with ⟨-, h22, h21⟩ | ⟨hD, -⟩ | ⟨hL', -⟩
      · rcases tt with ⟨u, u1, u2, u3, -⟩ | ⟨u1, -⟩
        · exact Or.inr (Or.inl ⟨hkL, u, u1, u2, u3, h22, h21⟩)
        · exact Or.inr (Or.inr (Or.inl ⟨hkL, u1, Or.inl h22⟩))
      · rw [L_notD tL] at hD; cases hD
      · rw [tL] at hL'; cases hL'
    · have tL : isL (A0 14 s') = false := by
        cases hL : isL (A0 14 s') with
        | false => rfl
        | true => rw [L_notD hL] at tD; cases tD
      rcases h with ⟨hL', -⟩ | ⟨-, h⟩ | ⟨-, hD, -⟩
      · rw [tL] at hL'; cases hL'
      · rcases h with ⟨g1, g2, g3, g4⟩ | ⟨g1, g2⟩
        · refine Or.inr (Or.inr (Or.inr (Or.inl ⟨hkL, g1, g2, g3, g4, ?_⟩)))
          rcases tt with ⟨t4, tT, tN⟩ | ⟨t4, tT⟩
          · rw [tN]
            exact (numv_bd _ t4 (fun j j1 j2 => tall j j1 (by omega))).1
          · rw [tT] at g1; exact absurd g1 (by decide)
        · exact Or.inr (Or.inr (Or.inl ⟨hkL, g1, Or.inr g2⟩))
      · rw [tD] at hD; cases hD
    · rcases h with ⟨hL', -⟩ | ⟨hD, -⟩ | ⟨-, -, h⟩
      · rw [tL] at hL'; cases hL'
      · rw [tD] at hD; cases hD
      · rcases h with ⟨g1, g2, g3, g4⟩ | ⟨g1, g2⟩
        · rcases tt with ⟨t1, tT⟩ | ⟨t1, tT⟩
          · exact Or.inr (Or.inr (Or.inr (Or.inr ⟨hkL, by rw [tT]; exact t1, g2, by rw [tT]; exact g3, g4⟩)))
          · rw [t1] at g1; cases g1
        · rcases tt with ⟨t1, tT⟩ | ⟨t1, tT⟩
          · rw [t1] at g1; cases g1
          · exact Or.inr (Or.inr (Or.inl ⟨hkL, tT, Or.inr g2⟩))
