/-! the reference's next token, beside the class's cut ones -/
def same (P : Nat → Nat → Prop) (M M' : Mem) : Prop := ∀ c j, ¬ P c j → M' c j = M c j
theorem same.rf {P : Nat → Nat → Prop} {M : Mem} : same P M M := fun _ _ _ => rfl
theorem same.trans {P : Nat → Nat → Prop} {M M1 M2 : Mem} (h1 : same P M M1) (h2 : same P M1 M2) : same P M M2 := fun c j h => (h2 c j h).trans (h1 c j h)
theorem same.mono {P Q : Nat → Nat → Prop} {M M1 : Mem} (h : same P M M1) (hPQ : ∀ c j, P c j → Q c j) : same Q M M1 := fun c j hn => h c j (fun hp => hn (hPQ c j hp))
theorem same.wr {P : Nat → Nat → Prop} {M M1 : Mem} (h : same P M M1) {c k : Nat} {x : Int32} (hp : P c k) : same P M (wr M1 c k x) := fun a j hn => by
  rw [wr_off _ _ _ _ _ _ (fun e => hn (by rw [e.1, e.2]; exact hp))]
  exact h a j hn
/-- the reference reads row t of its texts: n bytes, as b tells them -/
def Row (B : Mem) (t n : Nat) (b : Nat → Int32) : Prop := B 0 19 = nI (160 * t) ∧ B 0 20 = nI n ∧ ∀ j, j < n → B 1 (160 * t + j) = b j
def pN (c j : Nat) : Prop := c = 0 ∧ 21 ≤ j ∧ j ≤ 24
theorem Row.keep {B B' : Mem} {t n : Nat} {b : Nat → Int32} {P : Nat → Nat → Prop} (h : Row B t n b) (hs : same P B B') (h1 : ¬ P 0 19) (h2 : ¬ P 0 20) (h3 : ∀ j, ¬ P 1 j) : Row B' t n b :=
  ⟨by rw [hs 0 19 h1]; exact h.1, by rw [hs 0 20 h2]; exact h.2.1, fun j hj => by rw [hs 1 _ (h3 _)]; exact h.2.2 j hj⟩
def bt (b : Nat → Int32) (n i : Nat) : Int32 := if i < n then b i else -1
theorem byteAt_ok {B : Mem} {t n : Nat} {b : Nat → Int32} (h : Row B t n b) (ht : t < 6) (hn : n ≤ 160) {i : Nat} (hi : i ≤ 400) : m_byteAt B (nI i) = some (bt b n i) := by
  unfold m_byteAt bt
  rw [h.2.1, h.1, nI_add]
  by_cases g : i < n
  · rw [if_pos g, if_neg (nI_ge g (by omega)), ck_n _ (show 160 * t + i < 960 by omega) (by omega), nI_cl (by omega), h.2.2 i g]
  · rw [if_neg g, if_pos (nI_le (by omega) (by omega))]
theorem in_L (a : Int32) : m_in a.toInt64 97 122 = some (isL a) := i_in (lo := 97) (hi := 122) (by decide) (by decide)
theorem in_D (a : Int32) : m_in a.toInt64 48 57 = some (isD a) := i_in (lo := 48) (hi := 57) (by decide) (by decide)
theorem skip_loop {b : Nat → Int32} {t n s : Nat} (ht : t < 6) (hn : n ≤ 160) (hsn : s ≤ n) (hend : s < n → isB (b s) = false) (j2 : Mem → Option Mem) :
    ∀ fu p B, p ≤ s → s < fu + p → Row B t n b → B 0 21 = nI p → (∀ j, p ≤ j → j < s → isB (b j) = true) →
      ∃ B', m_next_L0 j2 fu B = j2 B' ∧ B' 0 21 = nI s ∧ same (fun c j => c = 0 ∧ j = 21) B B' := by
  intro fu
  induction fu with
  | zero => intro p B h1 h2; omega
  | succ fu ih =>
    intro p B h1 h2 hR hp hbl
    have hb := byteAt_ok hR ht hn (show p ≤ 400 by omega)
    by_cases hps : p = s
    · subst hps
      refine ⟨B, ?_, hp, same.rf⟩
      have c32 : ¬ bt b n p = 32 := by
        unfold bt
        split
        · intro h; have := hend ‹_›; rw [h] at this; revert this; decide
        · decide
      have c10 : ¬ bt b n p = 10 := by
        unfold bt
        split
        · intro h; have := hend ‹_›; rw [h] at this; revert this; decide
        · decide
      simp only [m_next_L0, hp, hb, ob_s, jp_s, if_neg c32, if_neg c10]
    · have hB := hbl p (Nat.le_refl _) (by omega)
      have hbp : bt b n p = b p := if_pos (by omega)
      obtain ⟨B', a1, a2, a3⟩ := ih (p + 1) (wr B 0 21 (nI (p + 1))) (by omega) (by omega) (hR.keep (P := fun c j => c = 0 ∧ j = 21) (same.rf.wr ⟨rfl, rfl⟩) (by decide) (by decide) (fun j => by omega)) (wr_hit _ _ _ _) (fun j j1 j2 => hbl j (by omega) j2)
      refine ⟨B', ?_, a2, same.trans (same.rf.wr ⟨rfl, rfl⟩) a3⟩
      rw [← a1]
      have hB := of_decide_eq_true hB
      simp only [m_next_L0, hp, hb, hbp, ob_s, jp_s, bnd_s, nI_1]
      rcases hB with hB | hB
      · rw [if_pos hB]
      · by_cases h32 : b p = 32
        · rw [if_pos h32]
        · rw [if_neg h32, if_pos hB]
theorem word_loop {b : Nat → Int32} {t n e : Nat} (ht : t < 6) (hn : n ≤ 160) (hen : e ≤ n) (hend : e < n → isL (b e) = false) :
    ∀ fu p B, p ≤ e → e < fu + p → Row B t n b → B 0 21 = nI p → (∀ j, p ≤ j → j < e → isL (b j) = true) →
      ∃ B', m_next_L100 fu B = some B' ∧ B' 0 21 = nI e ∧ same (fun c j => c = 0 ∧ j = 21) B B' := by
  intro fu
  induction fu with
  | zero => intro p B h1 h2; omega
  | succ fu ih =>
    intro p B h1 h2 hR hp hbl
    have hb := byteAt_ok hR ht hn (show p ≤ 400 by omega)
    by_cases hps : p = e
    · subst hps
      refine ⟨B, ?_, hp, same.rf⟩
      have c : isL (bt b n p) = false := by
        unfold bt
        split
        · exact hend ‹_›
        · decide
      simp only [m_next_L100, hp, hb, ob_s, in_L, c]
      simp
    · have hB := hbl p (Nat.le_refl _) (by omega)
      have hbp : bt b n p = b p := if_pos (by omega)
      obtain ⟨B', a1, a2, a3⟩ := ih (p + 1) (wr B 0 21 (nI (p + 1))) (by omega) (by omega) (hR.keep (P := fun c j => c = 0 ∧ j = 21) (same.rf.wr ⟨rfl, rfl⟩) (by decide) (by decide) (fun j => by omega)) (wr_hit _ _ _ _) (fun j j1 j2 => hbl j (by omega) j2)
      refine ⟨B', ?_, a2, same.trans (same.rf.wr ⟨rfl, rfl⟩) a3⟩
      rw [← a1]
      simp only [m_next_L100, hp, hb, hbp, ob_s, in_L, hB, bnd_s, nI_1, if_true]
theorem D_int {x : Int32} (h : isD x = true) : 48 ≤ x.toInt ∧ x.toInt ≤ 57 := by
  have h := of_decide_eq_true h
  rw [i_le, i_le] at h
  have e1 : (48 : Int32).toInt = 48 := by decide
  have e2 : (57 : Int32).toInt = 57 := by decide
  omega
theorem numv_step {v d : Int32} (h0 : 0 ≤ v.toInt) (h1 : v.toInt ≤ 999) (hd : isD d = true) : (v * 10 + (d - 48)).toInt = v.toInt * 10 + (d.toInt - 48) := by
  have := D_int hd
  have e1 : (48 : Int32).toInt = 48 := by decide
  have e2 : (10 : Int32).toInt = 10 := by decide
  have q1 : (d - 48).toInt = d.toInt - 48 := by rw [i_sub (by omega) (by omega), e1]
  have q2 : (v * 10).toInt = v.toInt * 10 := by rw [i_mul (by rw [e2]; omega) (by rw [e2]; omega), e2]
  rw [i_add (by omega) (by omega), q1, q2]
theorem numv_bd {b : Nat → Int32} {s : Nat} : ∀ l, l ≤ 4 → (∀ j, s ≤ j → j < s + l → isD (b j) = true) → 0 ≤ (numv b s l).toInt ∧ (numv b s l).toInt < 10 ^ l := by
  intro l
  induction l with
  | zero => intro _ _; exact ⟨(by decide : (0 : Int) ≤ (0 : Int32).toInt), (by decide : (0 : Int32).toInt < (10 : Int) ^ 0)⟩
  | succ l ih =>
    intro h4 hd
    obtain ⟨i1, i2⟩ := ih (by omega) (fun j j1 j2 => hd j j1 (by omega))
    have hD := hd (s + l) (by omega) (by omega)
    have hDi := D_int hD
    have hp : (10 : Int) ^ l ≤ 1000 := by
      match l, (show l ≤ 3 by omega) with
      | 0, _ => decide
      | 1, _ => decide
      | 2, _ => decide
      | 3, _ => decide
    rw [numv, numv_step i1 (by omega) hD]
    refine ⟨by omega, ?_⟩
    rw [Int.pow_succ]
    omega
theorem l_step {v d : Int32} (h0 : 0 ≤ v.toInt) (h1 : v.toInt ≤ 999) (hd : isD d = true) : ((10 * v.toInt64) + d.toInt64) - 48 = (v * 10 + (d - 48)).toInt64 := by
  have hDi := D_int hd
  have e1 : (10 : Int64).toInt = 10 := by decide
  have e2 : (48 : Int64).toInt = 48 := by decide
  apply Int64.toInt_inj.mp
  have q1 : (10 * v.toInt64).toInt = 10 * v.toInt := by
    rw [Int64.toInt_mul, e1, Int32.toInt_toInt64]
    exact Int.bmod_eq_of_le (by omega) (by omega)
  have q2 : (10 * v.toInt64 + d.toInt64).toInt = 10 * v.toInt + d.toInt := by
    rw [Int64.toInt_add, q1, Int32.toInt_toInt64]
    exact Int.bmod_eq_of_le (by omega) (by omega)
  rw [Int64.toInt_sub, q2, e2, Int32.toInt_toInt64, numv_step h0 h1 hd]
  rw [Int.bmod_eq_of_le (by omega) (by omega)]
  omega
theorem num_loop {b : Nat → Int32} {t n s e : Nat} (ht : t < 6) (hn : n ≤ 160) (hen : e ≤ n) (hend : e < n → isD (b e) = false) (hall : ∀ j, s ≤ j → j < e → isD (b j) = true) (j20 : Int32 → Mem → Option Mem) :
    ∀ fu i B, s + i ≤ e → e < fu + (s + i) → Row B t n b → B 0 21 = nI (s + i) → B 0 24 = numv b s (min i 4) →
      ∃ B', m_next_L160 j20 fu (nI i) B = j20 (nI (e - s)) B' ∧ B' 0 21 = nI e ∧ B' 0 24 = numv b s (min (e - s) 4) ∧ same (fun c j => c = 0 ∧ (j = 21 ∨ j = 24)) B B' := by
  intro fu
  induction fu with
  | zero => intro i B h1 h2; omega
  | succ fu ih =>
    intro i B h1 h2 hR hp hw
    have hb := byteAt_ok hR ht hn (show s + i ≤ 400 by omega)
    by_cases hps : s + i = e
    · refine ⟨B, ?_, by rw [hp, hps], by rw [hw]; congr 1; omega, same.rf⟩
      have c : isD (bt b n (s + i)) = false := by
        rw [hps]
        unfold bt
        split
        · exact hend ‹_›
        · decide
      have ei : i = e - s := by omega
      simp only [m_next_L160, hp, hb, ob_s, in_D, c]
      rw [ei]
      simp
    · have hD := hall (s + i) (by omega) (by omega)
      have hbp : bt b n (s + i) = b (s + i) := if_pos (by omega)
      obtain ⟨B', a1, a2, a3, a4⟩ := ih (i + 1) (wr (wr B 0 24 (numv b s (min (i + 1) 4))) 0 21 (nI (s + (i + 1)))) (by omega) (by omega)
        (hR.keep (P := fun c j => c = 0 ∧ (j = 21 ∨ j = 24)) ((same.rf.wr ⟨rfl, Or.inr rfl⟩).wr ⟨rfl, Or.inl rfl⟩) (by omega) (by omega) (fun j => by omega)) (wr_hit _ _ _ _) (by simp [wr_at])
      refine ⟨B', ?_, a2, a3, same.trans ((same.rf.wr ⟨rfl, Or.inr rfl⟩).wr ⟨rfl, Or.inl rfl⟩) a4⟩
      rw [← a1]
      have q : ∀ x, wr B 0 24 x 0 21 = nI (s + i) := fun x => by rw [wr_at]; simp [hp]
      have e9 : s + i + 1 = s + (i + 1) := by omega
      by_cases h4 : i < 4
      · have g : ¬ (4 : Int32) ≤ nI i := nI_ge (b := 4) h4 (by omega)
        obtain ⟨n1, n2⟩ := numv_bd (b := b) (s := s) i (by omega) (fun j j1 j2 => hall j j1 (by omega))
        have hpw : (10 : Int) ^ i ≤ 1000 := by
          match i, h4 with
          | 0, _ => decide
          | 1, _ => decide
          | 2, _ => decide
          | 3, _ => decide
        have em : min i 4 = i := by omega
        have em1 : min (i + 1) 4 = i + 1 := by omega
        rw [em] at hw
        have ls := l_step n1 (by omega) hD
        have es : numv b s i * 10 + (b (s + i) - 48) = numv b s (i + 1) := rfl
        rw [es] at ls
        simp only [m_next_L160, hp, hb, hbp, ob_s, in_D, hD, if_true, jp_s, if_neg g, hw, ls, Int32.toInt32_toInt64, bnd_s, q, nI_1, em1, e9]
        exact rq_s _ trivial
      · have g : (4 : Int32) ≤ nI i := nI_le (a := 4) (by omega) (by omega)
        have em : min (i + 1) 4 = min i 4 := by omega
        rw [em]
        simp only [m_next_L160, hp, hb, hbp, ob_s, in_D, hD, if_true, jp_s, if_pos g, hw, Int32.toInt32_toInt64, bnd_s, q, nI_1, e9]
        exact rq_s _ trivial
def AtTok (B : Mem) (b : Nat → Int32) (T S N : Nat → Int32) (L : Nat) (E : Nat → Nat) (k : Nat) : Prop := B 0 23 = S k ∧ ((k = L ∧ B 0 22 = 0) ∨ (k < L ∧ ∃ s, s ≤ 160 ∧ S k = nI s ∧
  ((isL (b s) = true ∧ B 0 22 = 1 ∧ B 0 21 = nI (E (k + 1))) ∨ (isD (b s) = true ∧ ((T k = nI 13 ∧ B 0 22 = 2 ∧ B 0 24 = N k ∧ B 0 21 = nI (E (k + 1))) ∨ (T k = nI 15 ∧ B 0 22 = 4))) ∨ (isL (b s) = false ∧ isD (b s) = false ∧ ((isS (b s) = true ∧ B 0 22 = 3 ∧ B 0 24 = b s ∧ B 0 21 = nI (E (k + 1))) ∨ (isS (b s) = false ∧ B 0 22 = 4))))))
theorem nI_15_13 : ¬ nI 15 = nI 13 := by decide
theorem notL_nonneg {b : Nat → Int32} {n s : Nat} (h : s < n) : bt b n s = b s := if_pos h
def numJ : Int32 → Mem → Option Mem := fun (v18 : Int32) (M19 : Mem) =>
jp (fun (v21 : Int32) =>
bnd (wr M19 0 22 v21) fun (M23 : Mem) =>
some M23) fun j22 =>
if v18 ≤ 4 then
(j22 2)
else
(j22 4)
def nextK : Mem → Option Mem := fun (M1 : Mem) =>
bnd (wr M1 0 23 (M1 0 21)) fun (M3 : Mem) =>
ob (m_byteAt M3 (M3 0 21)) fun (v5 : Int32) =>
bnd (wr M3 0 22 4) fun (M6 : Mem) =>
if 0 ≤ v5 then
(ob (m_in (v5.toInt64) 97 122) fun (v8 : Bool) =>
if v8 = true then
(bnd (wr M6 0 22 1) fun (M38 : Mem) =>
m_next_L100 FU M38)
else
(ob (m_in (v5.toInt64) 48 57) fun (v10 : Bool) =>
if v10 = true then
(bnd (wr M6 0 22 2) fun (M16 : Mem) =>
rq ((0 : Int64).toInt32.toInt64 = 0) <|
bnd (wr M16 0 24 (0 : Int64).toInt32) fun (M17 : Mem) =>
m_next_L160 numJ FU 0 M17)
else
(jp (fun (u11 : Unit) =>
bnd (wr M6 0 22 3) fun (M13 : Mem) =>
rq ((v5.toInt64).toInt32.toInt64 = v5.toInt64) <|
bnd (wr M13 0 24 (v5.toInt64).toInt32) fun (M14 : Mem) =>
bnd (wr M14 0 21 ((M14 0 21) + 1)) fun (M15 : Mem) =>
some M15) fun j12 =>
if v5 = 40 then
(j12 ())
else
(if v5 = 41 then
(j12 ())
else
(if v5 = 59 then
(j12 ())
else
(if v5 = 43 then
(j12 ())
else
(if v5 = 45 then
(j12 ())
else
(if v5 = 42 then
(j12 ())
else
(if v5 = 60 then
(j12 ())
else
(if v5 = 61 then
(j12 ())
else
(some M6)))))))))))
else
(bnd (wr M6 0 22 0) fun (M46 : Mem) =>
bnd (wr M46 0 23 (M46 0 20)) fun (M47 : Mem) =>
some M47)
theorem m_next_eq (M : Mem) : m_next M = m_next_L0 nextK FU M := by
  unfold m_next nextK numJ
  simp only [jp_s]
theorem next_ok {B : Mem} {b : Nat → Int32} {T S N : Nat → Int32} {t n L : Nat} {E : Nat → Nat} (ht : t < 6) (hn : n ≤ 160) (h8 : ∀ j, j < n → by8 (b j)) (hLex : Lex b n T S N L E) (hR : Row B t n b) {k : Nat} (hk : k ≤ L) (hp : B 0 21 = nI (E k)) :
    ∃ B', m_next B = some B' ∧ AtTok B' b T S N L E k ∧ same pN B B' := by
  obtain ⟨⟨hE0, hlx⟩, hEn, hbl, hTL, hSL, hLn⟩ := hLex
  obtain ⟨s, hSk, hEs, hsn, hblk, hnb⟩ : ∃ s, S k = nI s ∧ E k ≤ s ∧ s ≤ n ∧ (∀ j, E k ≤ j → j < s → isB (b j) = true) ∧ (s < n → isB (b s) = false) := by
    by_cases hkL : k = L
    · subst hkL
      exact ⟨n, hSL, hEn, Nat.le_refl _, hbl, fun h => by omega⟩
    · obtain ⟨s, s1, s2, s3, s4, s5⟩ := hlx k (by omega)
      exact ⟨s, s1, s2, by have := s5.1; have := s5.2.1; omega, s3, fun _ => s4⟩
  have hstep : ∀ j2 : Mem → Option Mem, ∃ B', m_next_L0 j2 FU B = j2 B' ∧ B' 0 21 = nI s ∧ same (fun c j => c = 0 ∧ j = 21) B B' := fun j2 => skip_loop ht hn hsn hnb j2 FU (E k) B hEs (by unfold FU; omega) hR hp hblk
  obtain ⟨B1, b1, b2, b3⟩ := hstep nextK
  have hN : m_next B = nextK B1 := (m_next_eq B).trans b1
  have hR1 : Row B1 t n b := hR.keep b3 (by decide) (by decide) (fun j => by omega)
  have r3 : Row (wr B1 0 23 (nI s)) t n b := hR1.keep (P := pN) (same.rf.wr ⟨rfl, by omega, by omega⟩) (by unfold pN; omega) (by unfold pN; omega) (fun j => by unfold pN; omega)
  have hb := byteAt_ok r3 ht hn (show s ≤ 400 by omega)
  have q21 : wr B1 0 23 (nI s) 0 21 = nI s := by rw [wr_at]; simp [b2]
  by_cases hkL : k = L
  · subst hkL
    have hs : s = n := by
      rw [hSL] at hSk
      exact ((nI_eq (by omega) (by omega)).mp hSk).symm
    subst hs
    have c0 : ¬ (0 : Int32) ≤ bt b s s := by unfold bt; rw [if_neg (by omega)]; decide
    refine ⟨wr (wr (wr (wr B1 0 23 (nI s)) 0 22 4) 0 22 0) 0 23 (nI s), ?_, ?_, ?_⟩
    · rw [hN]
      unfold nextK
      have q20 : wr (wr (wr B1 0 23 (nI s)) 0 22 4) 0 22 0 0 20 = nI s := by simp [wr_at, hR1.2.1]
      simp only [jp_s, bnd_s, b2, q21, hb, ob_s, if_neg c0, q20]
    · exact ⟨by rw [wr_hit, hSk], Or.inl ⟨rfl, by simp [wr_at]⟩⟩
    · refine same.trans (b3.mono (fun c j h => ⟨h.1, by omega, by omega⟩)) ?_
      exact (((same.rf.wr ⟨rfl, by omega, by omega⟩).wr ⟨rfl, by omega, by omega⟩).wr ⟨rfl, by omega, by omega⟩).wr ⟨rfl, by omega, by omega⟩
  · obtain ⟨s', s1, s2, s3, s4, s5⟩ := hlx k (by omega)
    have hss : s' = s := by
      rw [s1] at hSk
      have := s5.1; have := s5.2.1
      exact (nI_eq (by omega) (by omega)).mp hSk
    subst hss
    obtain ⟨e1, e2, htok⟩ := s5
    have hbs : bt b n s' = b s' := if_pos (by omega)
    obtain ⟨x, hx, hxe⟩ := h8 s' (by omega)
    have c0 : (0 : Int32) ≤ b s' := by rw [hxe]; exact nI_pos' (by omega)
    have fr1 : same pN B B1 := b3.mono (fun c j h => ⟨h.1, by omega, by omega⟩)
    rcases htok with ⟨tL, tall, tend, -⟩ | ⟨tD, tall, tend, tT⟩ | ⟨tL, tD, te, tT⟩
    · obtain ⟨B2, w1, w2, w3⟩ := word_loop ht hn e2 tend FU s' (wr (wr (wr B1 0 23 (nI s')) 0 22 4) 0 22 1) (by omega) (by unfold FU; omega)
        (r3.keep (P := pN) ((same.rf.wr ⟨rfl, by omega, by omega⟩).wr ⟨rfl, by omega, by omega⟩) (by unfold pN; omega) (by unfold pN; omega) (fun j => by unfold pN; omega)) (by simp [wr_at, b2]) tall
      refine ⟨B2, ?_, ⟨?_, Or.inr ⟨by omega, s', by omega, hSk, Or.inl ⟨tL, ?_, w2⟩⟩⟩, ?_⟩
      · rw [hN]
        unfold nextK
        simp only [jp_s, bnd_s, b2, q21, hb, hbs, ob_s, if_pos c0, in_L, tL, if_true]
        exact w1
      · rw [w3 0 23 (by omega)]; simp [wr_at, hSk]
      · rw [w3 0 22 (by omega)]; simp [wr_at]
      · refine fr1.trans (same.trans ?_ (w3.mono (fun c j h => ⟨h.1, by omega, by omega⟩)))
        exact ((same.rf.wr ⟨rfl, by omega, by omega⟩).wr ⟨rfl, by omega, by omega⟩).wr ⟨rfl, by omega, by omega⟩
    · have tL : isL (b s') = false := by
        cases hL : isL (b s') with
        | false => rfl
        | true => rw [L_notD hL] at tD; cases tD
      obtain ⟨B2, w1, w2, w3, w4⟩ := num_loop (s := s') ht hn e2 tend tall numJ FU 0 (wr (wr (wr (wr B1 0 23 (nI s')) 0 22 4) 0 22 2) 0 24 0) (by omega) (by unfold FU; omega)
        (r3.keep (P := pN) (((same.rf.wr ⟨rfl, by omega, by omega⟩).wr ⟨rfl, by omega, by omega⟩).wr ⟨rfl, by omega, by omega⟩) (by unfold pN; omega) (by unfold pN; omega) (fun j => by unfold pN; omega)) (by simp [wr_at, b2]) (by simp [wr_at]; rfl)
      have w1 : m_next_L160 numJ FU 0 (wr (wr (wr (wr B1 0 23 (nI s')) 0 22 4) 0 22 2) 0 24 0) = numJ (nI (E (k + 1) - s')) B2 := w1
      have hgo : m_next B = numJ (nI (E (k + 1) - s')) B2 := by
        rw [hN]
        unfold nextK
        have z0 : (0 : Int64).toInt32 = 0 := by decide
        have z1 : ((0 : Int32).toInt64 = 0) = True := by decide
        simp only [bnd_s, b2, q21, hb, hbs, ob_s, if_pos c0, in_L, tL, in_D, tD, if_true, Bool.false_eq_true, if_false, z0, z1, w1]
        exact rq_s _ trivial
      have fr2 : same pN B B2 := by
        refine fr1.trans (same.trans ?_ (w4.mono (fun c j h => ⟨h.1, by omega, by omega⟩)))
        exact (((same.rf.wr ⟨rfl, by omega, by omega⟩).wr ⟨rfl, by omega, by omega⟩).wr ⟨rfl, by omega, by omega⟩).wr ⟨rfl, by omega, by omega⟩
      have q23 : B2 0 23 = S k := by rw [w4 0 23 (by omega)]; simp [wr_at, hSk]
      rcases tT with ⟨t4, tT, tN⟩ | ⟨t4, tT⟩
      · have g : nI (E (k + 1) - s') ≤ 4 := nI_le (b := 4) t4 (by omega)
        refine ⟨wr B2 0 22 2, by rw [hgo]; unfold numJ; simp only [jp_s, if_pos g, bnd_s], ⟨?_, Or.inr ⟨by omega, s', by omega, hSk, Or.inr (Or.inl ⟨tD, Or.inl ⟨tT, wr_hit _ _ _ _, ?_, ?_⟩⟩)⟩⟩, fr2.wr ⟨rfl, by omega, by omega⟩⟩
        · rw [wr_off _ _ _ _ _ _ (by omega)]; exact q23
        · rw [wr_off _ _ _ _ _ _ (by omega), w3, tN]; congr 1; omega
        · rw [wr_off _ _ _ _ _ _ (by omega)]; exact w2
      · have g : ¬ nI (E (k + 1) - s') ≤ 4 := nI_ge (a := 4) t4 (by omega)
        refine ⟨wr B2 0 22 4, by rw [hgo]; unfold numJ; simp only [jp_s, if_neg g, bnd_s], ⟨?_, Or.inr ⟨by omega, s', by omega, hSk, Or.inr (Or.inl ⟨tD, Or.inr ⟨tT, wr_hit _ _ _ _⟩⟩)⟩⟩, fr2.wr ⟨rfl, by omega, by omega⟩⟩
        · rw [wr_off _ _ _ _ _ _ (by omega)]; exact q23
    · have q21' : wr (wr B1 0 23 (nI s')) 0 22 4 0 21 = nI s' := by simp [wr_at, b2]
      have fr3 : same pN B (wr (wr B1 0 23 (nI s')) 0 22 4) := (fr1.wr ⟨rfl, by omega, by omega⟩).wr ⟨rfl, by omega, by omega⟩
      rcases tT with ⟨tS, tT⟩ | ⟨tS, tT⟩
      · refine ⟨wr (wr (wr (wr (wr B1 0 23 (nI s')) 0 22 4) 0 22 3) 0 24 (b s')) 0 21 (nI (s' + 1)), ?_, ⟨?_, Or.inr ⟨by omega, s', by omega, hSk, Or.inr (Or.inr ⟨tL, tD, Or.inl ⟨tS, ?_, ?_, ?_⟩⟩)⟩⟩, ((fr3.wr ⟨rfl, by omega, by omega⟩).wr ⟨rfl, by omega, by omega⟩).wr ⟨rfl, by omega, by omega⟩⟩
        · rw [hN]
          unfold nextK
          have q21'' : wr (wr (wr (wr B1 0 23 (nI s')) 0 22 4) 0 22 3) 0 24 (b s') 0 21 = nI s' := by simp [wr_at, b2]
          have tS' := of_decide_eq_true tS
          simp only [jp_s, bnd_s, b2, q21, hb, hbs, ob_s, if_pos c0, in_L, tL, in_D, tD, Bool.false_eq_true, if_false, Int32.toInt32_toInt64, rq_s _ (show (b s').toInt64 = (b s').toInt64 from rfl), q21'', nI_1]
          rcases tS' with h | h | h | h | h | h | h | h <;> simp [h] <;> exact rq_s _ trivial
        · simp [wr_at, hSk]
        · simp [wr_at]
        · simp [wr_at]
        · rw [wr_hit, te]
      · refine ⟨wr (wr B1 0 23 (nI s')) 0 22 4, ?_, ⟨?_, Or.inr ⟨by omega, s', by omega, hSk, Or.inr (Or.inr ⟨tL, tD, Or.inr ⟨tS, ?_⟩⟩)⟩⟩, fr3⟩
        · rw [hN]
          unfold nextK
          have tS' := of_decide_eq_false tS
          have f1 : ¬ b s' = 40 := fun h => tS' (by simp [h])
          have f2 : ¬ b s' = 41 := fun h => tS' (by simp [h])
          have f3 : ¬ b s' = 59 := fun h => tS' (by simp [h])
          have f4 : ¬ b s' = 43 := fun h => tS' (by simp [h])
          have f5 : ¬ b s' = 45 := fun h => tS' (by simp [h])
          have f6 : ¬ b s' = 42 := fun h => tS' (by simp [h])
          have f7 : ¬ b s' = 60 := fun h => tS' (by simp [h])
          have f8 : ¬ b s' = 61 := fun h => tS' (by simp [h])
          simp only [jp_s, bnd_s, b2, q21, hb, hbs, ob_s, if_pos c0, in_L, tL, in_D, tD, Bool.false_eq_true, if_false, if_neg f1, if_neg f2, if_neg f3, if_neg f4, if_neg f5, if_neg f6, if_neg f7, if_neg f8]
        · simp [wr_at, hSk]
        · simp [wr_at]
