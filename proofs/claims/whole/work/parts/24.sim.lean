/-! tests and steps of both readers: printed by sim1.py -/
theorem nlt_160 {k : Nat} (h : k ≤ 160) : ¬ (160 : Int32) < nI k := nI_nlt (a := 160) h (by omega)
theorem nle_160 {k : Nat} (h : k < 160) : ¬ (160 : Int32) ≤ nI k := nI_ge (b := 160) h (by omega)
theorem sgnNo : ∀ u, u < 16 → isS (nI u) = false := by decide
theorem sgn_lit (g : Int32) (h : isS g = true) : g = 40 ∨ g = 41 ∨ g = 59 ∨ g = 43 ∨ g = 45 ∨ g = 42 ∨ g = 60 ∨ g = 61 := of_decide_eq_true h
theorem nI_n15 {u : Nat} (h : u < 15) : ¬ nI u = nI 15 := fun e => by have := (nI_eq (by omega) (by omega)).mp e; omega
section SIM
variable {A0 B0 A B : Mem} {n L t k o c p : Nat} {E : Nat → Nat} {fl : Option Nat}
theorem RS.at (R : RS A0 B0 L E A B k o c none) : AtTok B (A0 14) (A0 15) (A0 16) (A0 17) L E k := R.2.2.2.2.2.2.2.2.2.2.2
theorem RS.b26 (R : RS A0 B0 L E A B k o c none) : B 0 26 = 0 := R.2.2.2.2.2.2.2.2.2.2.1
theorem RS.f4 (R : RS A0 B0 L E A B k o c none) : A 18 4 = -1 := R.2.2.2.2.2.2.2.2.2.1
theorem RS.row (C : Cx A0 B0 n L t E) (R : RS A0 B0 L E A B k o c fl) : Row B t n (A0 14) := C.2.2.2.2.2.2.keep R.2.1 (by unfold pB; omega) (by unfold pB; omega) (fun j => by unfold pB; omega)
theorem RS.kL (R : RS A0 B0 L E A B k o c fl) : k ≤ L := R.2.2.2.2.2.2.1
theorem RS.o5 (R : RS A0 B0 L E A B k o c fl) : o ≤ 5 := R.2.2.2.2.2.2.2.1
theorem RS.ck' (R : RS A0 B0 L E A B k o c fl) : c ≤ k := R.2.2.2.2.2.2.2.2.1
theorem Cx.L160 (C : Cx A0 B0 n L t E) : L ≤ 160 := by
  obtain ⟨hn, ht, hsz, hL, h8, hlx, hR⟩ := C
  have := hlx.2.2.2.2.2
  omega
theorem token_ok (C : Cx A0 B0 n L t E) (R : RS A0 B0 L E A B k o c none) : f_Reader_token A = some (A0 15 k) := by
  have h1 := C.L160
  have h2 := R.kL
  have e15 : A 15 = A0 15 := funext fun j => R.1 15 j (by unfold pA; omega)
  unfold f_Reader_token
  rw [R.f4, if_pos rfl, R.2.2.1, if_neg (nI_pos (by omega)), if_neg (nlt_160 (by omega)), ck_n _ (show k < 161 by omega) (by omega), nI_cl (by omega), e15]
theorem token_bad (R : RS A0 B0 L E A B k o c (some p)) : f_Reader_token A = some 15 := by
  have h4 : A 18 4 = nI p := R.2.2.2.2.2.2.2.2.2.1
  have h5 : p ≤ 160 := R.2.2.2.2.2.2.2.2.2.2.2.2
  unfold f_Reader_token
  rw [h4, if_neg]
  rw [nI_neg1 (by omega)]
  exact id
theorem is_ok (C : Cx A0 B0 n L t E) (R : RS A0 B0 L E A B k o c fl) (w : Int32) (hw : ¬ w = 15) : ∃ z, f_Reader_is A w = some z ∧ (z = true ↔ fl = none ∧ A0 15 k = w) := by
  cases fl with
  | none =>
    unfold f_Reader_is
    rw [token_ok C R, ob_s]
    by_cases h : A0 15 k = w
    · exact ⟨true, if_pos h, fun _ => ⟨rfl, h⟩, fun _ => rfl⟩
    · exact ⟨false, if_neg h, fun h => (by cases h), fun g => absurd g.2 h⟩
  | some p =>
    unfold f_Reader_is
    rw [token_bad R, ob_s, if_neg (fun h => hw h.symm)]
    exact ⟨false, rfl, fun h => (by cases h), fun g => (by cases g.1)⟩
theorem sg_ok (C : Cx A0 B0 n L t E) (R : RS A0 B0 L E A B k o c fl) (g : Int32) (hg : isS g = true) : ∃ z, f_Reader_is A g = some z ∧ m_isSign B g = some z ∧ (z = true ↔ fl = none ∧ A0 15 k = g) := by
  have h15 : ¬ g = 15 := fun e => by rw [e] at hg; revert hg; decide
  obtain ⟨z, z1, z2⟩ := is_ok C R g h15
  refine ⟨z, z1, ?_, z2⟩
  unfold m_isSign
  cases fl with
  | some p =>
    have h26 : B 0 26 = 1 := R.2.2.2.2.2.2.2.2.2.2.1
    rw [h26, if_neg (by decide)]
    cases z with
    | false => rfl
    | true => exact absurd (z2.mp rfl).1 (by simp)
  | none =>
    rw [R.b26, if_pos rfl]
    have hno : ∀ u, u < 16 → ¬ nI u = g := fun u hu e => by have := sgnNo u hu; rw [e, hg] at this; cases this
    have hz : ∀ u, u < 16 → A0 15 k = nI u → z = false := fun u hu e => by
      cases z with
      | false => rfl
      | true => exact absurd (e.symm.trans (z2.mp rfl).2) (hno u hu)
    rcases tok_cases C R.kL R.at with ⟨-, hT, h22⟩ | ⟨-, u, -, hu, hT, h22, -⟩ | ⟨-, hT, h22⟩ | ⟨-, hT, h22, -⟩ | ⟨-, hS, h22, h24, -⟩
    · rw [h22, if_neg (by decide), hz 14 (by omega) hT]
    · rw [h22, if_neg (by decide), hz u (by omega) hT]
    · rw [hz 15 (by omega) hT]
      rcases h22 with h22 | h22 <;> rw [h22, if_neg (by decide)]
    · rw [h22, if_neg (by decide), hz 13 (by omega) hT]
    · rw [h22, if_pos rfl, h24]
      simp only [lgc (g := g) rfl]
      by_cases h : A0 15 k = g
      · rw [if_pos h, z2.mpr ⟨rfl, h⟩]
      · rw [if_neg h]
        cases z with
        | false => rfl
        | true => exact absurd (z2.mp rfl).2 h

theorem kw_ok (C : Cx A0 B0 n L t E) (R : RS A0 B0 L E A B k o c fl) (u : Nat) (hu1 : 1 ≤ u) (hu : u < 13) {a1 a2 a3 a4 a5 a6 a7 a8 : Int32} (h8 : a1 = lt8 (u + 1) 0 ∧ a2 = lt8 (u + 1) 1 ∧ a3 = lt8 (u + 1) 2 ∧ a4 = lt8 (u + 1) 3 ∧ a5 = lt8 (u + 1) 4 ∧ a6 = lt8 (u + 1) 5 ∧ a7 = lt8 (u + 1) 6 ∧ a8 = lt8 (u + 1) 7) : ∃ z, f_Reader_is A (nI u) = some z ∧ m_isWord B a1 a2 a3 a4 a5 a6 a7 a8 = some z ∧ (z = true ↔ fl = none ∧ A0 15 k = nI u) := by
  obtain ⟨rfl, rfl, rfl, rfl, rfl, rfl, rfl, rfl⟩ := h8
  have h15 : ¬ nI u = 15 := nI_n15 (by omega)
  obtain ⟨z, z1, z2⟩ := is_ok C R (nI u) h15
  refine ⟨z, z1, ?_, z2⟩
  have hRow := R.row C
  have noW : ¬ B 0 22 = 1 → B 0 26 = 0 → m_isWord B (lt8 (u + 1) 0) (lt8 (u + 1) 1) (lt8 (u + 1) 2) (lt8 (u + 1) 3) (lt8 (u + 1) 4) (lt8 (u + 1) 5) (lt8 (u + 1) 6) (lt8 (u + 1) 7) = some false := fun g g0 => by
    unfold m_isWord
    rw [if_pos g0, if_neg g]
  cases fl with
  | some p =>
    have h26 : B 0 26 = 1 := R.2.2.2.2.2.2.2.2.2.2.1
    unfold m_isWord
    rw [h26, if_neg (by decide)]
    cases z with
    | false => rfl
    | true => exact absurd (z2.mp rfl).1 (by simp)
  | none =>
    have hno : ¬ A0 15 k = nI u → z = false := fun e => by
      cases z with
      | false => rfl
      | true => exact absurd (z2.mp rfl).2 e
    have hk := R.kL
    rcases tok_cases C hk R.at with ⟨-, hT, h22⟩ | ⟨hkL, v, hv1, hv, hT, h22, -⟩ | ⟨hkL, hT, h22⟩ | ⟨-, hT, h22, -⟩ | ⟨-, hS, h22, h24, -⟩
    · rw [noW (by rw [h22]; decide) R.b26, hno (by rw [hT]; exact fun e => by have := (nI_eq (by omega) (by omega)).mp e; omega)]
    rotate_left 2
    · rw [noW (by rw [h22]; decide) R.b26, hno (by rw [hT]; exact fun e => by have := (nI_eq (by omega) (by omega)).mp e; omega)]
    · rw [noW (by rw [h22]; decide) R.b26, hno (fun e => by rw [e, sgnNo u (by omega)] at hS; cases hS)]
    all_goals
      obtain ⟨h23, ha | ⟨-, s, hs160, hs, ha⟩⟩ := R.at
      · omega
      obtain ⟨hn, ht, hsz, hL, h8, ⟨⟨hE0, hlx⟩, hEn, hbl, hTL, hSL, hLn⟩, hR⟩ := C
      obtain ⟨s', s1, s2, s3, s4, e1, e2, htok⟩ := hlx k hkL
      have hss : s' = s := by
        rw [s1] at hs
        exact (nI_eq (by omega) (by omega)).mp hs
      subst hss
    · rcases ha with ⟨tL, -, h21⟩ | ⟨-, hb⟩ | ⟨-, -, hb⟩
      · obtain ⟨w, w1, w2⟩ := isWord_ok hRow ht hn R.b26 h22 (h23.trans s1) h21 e1 e2 (lt8 (u + 1) 0) (lt8 (u + 1) 1) (lt8 (u + 1) 2) (lt8 (u + 1) 3) (lt8 (u + 1) 4) (lt8 (u + 1) 5) (lt8 (u + 1) 6) (lt8 (u + 1) 7)
        rw [w1]
        rcases htok with ⟨-, tall, -, tt⟩ | ⟨tD, -⟩ | ⟨tL', -⟩
        · have hwm := wm_iff (b := A0 14) (w := u + 1) (by omega) (by omega) e1 tall
          rcases tt with ⟨v', -, v2, v3, v4⟩ | ⟨v3, -⟩
          · have hvv : v' = v := by rw [v3] at hT; exact (nI_eq (by omega) (by omega)).mp hT
            subst hvv
            congr 1
            cases w with
            | true =>
              have := wm_uniq (hwm.mp (w2.mp rfl)) v4 (by omega) (by omega) (by omega) (by omega)
              have hvu : u = v' := by omega
              subst hvu
              exact (z2.mpr ⟨rfl, hT⟩).symm
            | false =>
              refine (hno (fun e => ?_)).symm
              have hvu : v' = u := by rw [e] at hT; exact ((nI_eq (by omega) (by omega)).mp hT).symm
              subst hvu
              exact absurd (w2.mpr (hwm.mpr v4)) (by simp)
          · rw [v3] at hT; exact absurd hT.symm (nI_n15 (by omega))
        · rw [L_notD tL] at tD; cases tD
        · rw [tL] at tL'; cases tL'
      · rcases hb with ⟨-, hb, -⟩ | ⟨-, hb⟩ <;> (rw [h22] at hb; exact absurd hb (by decide))
      · rcases hb with ⟨-, hb, -⟩ | ⟨-, hb⟩ <;> (rw [h22] at hb; exact absurd hb (by decide))
    · have hzf := hno (by rw [hT]; exact fun e => nI_n15 (show u < 15 by omega) e.symm)
      rcases h22 with h22 | h22
      · rcases ha with ⟨tL, -, h21⟩ | ⟨-, hb⟩ | ⟨-, -, hb⟩
        · obtain ⟨w, w1, w2⟩ := isWord_ok hRow ht hn R.b26 h22 (h23.trans s1) h21 e1 e2 (lt8 (u + 1) 0) (lt8 (u + 1) 1) (lt8 (u + 1) 2) (lt8 (u + 1) 3) (lt8 (u + 1) 4) (lt8 (u + 1) 5) (lt8 (u + 1) 6) (lt8 (u + 1) 7)
          rw [w1, hzf]
          rcases htok with ⟨-, tall, -, tt⟩ | ⟨tD, -⟩ | ⟨tL', -⟩
          · have hwm := wm_iff (b := A0 14) (w := u + 1) (by omega) (by omega) e1 tall
            rcases tt with ⟨v', -, v2, v3, v4⟩ | ⟨v3, v4⟩
            · rw [v3] at hT; exact absurd hT (nI_n15 (by omega))
            · congr 1
              cases w with
              | true => exact absurd (hwm.mp (w2.mp rfl)) (v4 u hu1 hu)
              | false => rfl
          · rw [L_notD tL] at tD; cases tD
          · rw [tL] at tL'; cases tL'
        · rcases hb with ⟨-, hb, -⟩ | ⟨-, hb⟩ <;> (rw [h22] at hb; exact absurd hb (by decide))
        · rcases hb with ⟨-, hb, -⟩ | ⟨-, hb⟩ <;> (rw [h22] at hb; exact absurd hb (by decide))
      · rw [noW (by rw [h22]; decide) R.b26, hzf]

theorem next_cl (C : Cx A0 B0 n L t E) (R : RS A0 B0 L E A B k o c fl) (hk : k < L) : f_Reader_next A = some (wr A 18 2 (nI (k + 1))) := by
  have h1 := C.L160
  have h13 : A 13 5 = nI L := by rw [R.1 13 5 (by unfold pA; omega)]; exact C.2.2.2.1
  unfold f_Reader_next
  rw [h13, R.2.2.1, if_neg (nI_ge hk (by omega)), if_neg (nle_160 (by omega)), bnd_s, nI_1]
theorem next_rf (C : Cx A0 B0 n L t E) (R : RS A0 B0 L E A B k o c none) (hk : k < L) (hT : ¬ A0 15 k = nI 15) : ∃ B', m_next B = some B' ∧ AtTok B' (A0 14) (A0 15) (A0 16) (A0 17) L E (k + 1) ∧ same pN B B' := by
  have hRow := R.row C
  have h21 : B 0 21 = nI (E (k + 1)) := by
    rcases tok_cases C R.kL R.at with ⟨h, -⟩ | ⟨-, u, -, -, -, -, h⟩ | ⟨-, h, -⟩ | ⟨-, -, -, -, h, -⟩ | ⟨-, -, -, -, h⟩
    · omega
    · exact h
    · exact absurd h hT
    · exact h
    · exact h
  exact next_ok C.2.1 C.1 C.2.2.2.2.1 C.2.2.2.2.2.1 hRow (by omega) h21
theorem next2 (C : Cx A0 B0 n L t E) (R : RS A0 B0 L E A B k o c none) (hk : k < L) (hT : ¬ A0 15 k = nI 15) : ∃ A' B', f_Reader_next A = some A' ∧ m_next B = some B' ∧ RS A0 B0 L E A' B' (k + 1) o c none ∧ A' 20 = A 20 := by
  obtain ⟨B', b1, b2, b3⟩ := next_rf C R hk hT
  refine ⟨_, B', next_cl C R hk, b1, ⟨R.1.wr (Or.inl rfl), R.2.1.trans (b3.mono (fun c j h => ⟨h.1, by have := h.2; omega, by have := h.2; omega⟩)), wr_hit _ _ _ _, ?_, ?_, ?_, by omega, R.o5, by have := R.ck'; omega, ?_, ?_, b2⟩, ?_⟩
  · rw [wr_off _ _ _ _ _ _ (by omega)]; exact R.2.2.2.1
  · rw [wr_off _ _ _ _ _ _ (by omega)]; exact R.2.2.2.2.1
  · rw [b3 0 25 (by unfold pN; omega)]; exact R.2.2.2.2.2.1
  · rw [wr_off _ _ _ _ _ _ (by omega)]; exact R.f4
  · rw [b3 0 26 (by unfold pN; omega)]; exact R.b26
  · funext j; rw [wr_off _ _ _ _ _ _ (by omega)]
theorem AtTok.keep {B B' : Mem} {b T S N : Nat → Int32} {k : Nat} {P : Nat → Nat → Prop} (h : AtTok B b T S N L E k) (hs : same P B B') (h1 : ¬ P 0 21) (h2 : ¬ P 0 22) (h3 : ¬ P 0 23) (h4 : ¬ P 0 24) : AtTok B' b T S N L E k := by
  unfold AtTok at h ⊢
  rw [hs 0 21 h1, hs 0 22 h2, hs 0 23 h3, hs 0 24 h4]
  exact h
theorem fail2 (C : Cx A0 B0 n L t E) (R : RS A0 B0 L E A B k o c fl) : ∃ A' B' p, f_Reader_fail A = some A' ∧ m_fail B = some B' ∧ RS A0 B0 L E A' B' k o c (some p) ∧ A' 20 = A 20 := by
  have h1 := C.L160
  have h2 := R.kL
  cases fl with
  | some p =>
    have h4 : A 18 4 = nI p := R.2.2.2.2.2.2.2.2.2.1
    have h5 : p ≤ 160 := R.2.2.2.2.2.2.2.2.2.2.2.2
    have h26 : B 0 26 = 1 := R.2.2.2.2.2.2.2.2.2.2.1
    refine ⟨A, B, p, ?_, ?_, R, rfl⟩
    · unfold f_Reader_fail
      rw [h4, if_neg]
      rw [nI_neg1 (by omega)]
      exact id
    · unfold m_fail
      rw [h26, if_neg (by decide)]
  | none =>
    have h16 : A 16 = A0 16 := funext fun j => R.1 16 j (by unfold pA; omega)
    obtain ⟨p, hp, hpS⟩ : ∃ p, p ≤ 160 ∧ A0 16 k = nI p := by
      obtain ⟨-, ha | ⟨-, s, h160, hs, -⟩⟩ := R.at
      · obtain ⟨rfl, -⟩ := ha
        exact ⟨n, C.1, C.2.2.2.2.2.1.2.2.2.2.1⟩
      · exact ⟨s, h160, hs⟩
    refine ⟨wr A 18 4 (nI p), wr (wr B 0 26 1) 0 27 (nI p), p, ?_, ?_, ⟨R.1.wr (Or.inl rfl), (R.2.1.wr ⟨rfl, by omega, by omega⟩).wr ⟨rfl, by omega, by omega⟩, ?_, ?_, ?_, ?_, h2, R.o5, R.ck', wr_hit _ _ _ _, ?_, wr_hit _ _ _ _, hp⟩, ?_⟩
    · unfold f_Reader_fail
      simp only [R.f4, if_true, R.2.2.1, jp_s, if_neg (nI_pos (show k < 2 ^ 31 by omega)), if_neg (nlt_160 (show k ≤ 160 by omega)), ck_n _ (show k < 161 by omega) (show 161 < 2 ^ 31 by omega), nI_cl (show k < 2 ^ 31 by omega), h16, hpS, bnd_s]
    · have q : wr B 0 26 1 0 23 = nI p := by rw [wr_off _ _ _ _ _ _ (by omega), R.at.1, hpS]
      unfold m_fail
      rw [R.b26, if_pos rfl, bnd_s, bnd_s, q]
    · rw [wr_off _ _ _ _ _ _ (by omega)]; exact R.2.2.1
    · rw [wr_off _ _ _ _ _ _ (by omega)]; exact R.2.2.2.1
    · rw [wr_off _ _ _ _ _ _ (by omega)]; exact R.2.2.2.2.1
    · rw [wr_off _ _ _ _ _ _ (by omega), wr_off _ _ _ _ _ _ (by omega)]; exact R.2.2.2.2.2.1
    · rw [wr_off _ _ _ _ _ _ (by omega), wr_hit]
    · funext j; rw [wr_off _ _ _ _ _ _ (by omega)]
theorem open_up (R : RS A0 B0 L E A B k o c none) (h : o < 5) : RS A0 B0 L E (wr A 18 3 (nI (o + 1))) (wr B 0 25 (nI (o + 1))) k (o + 1) c none := by
  refine ⟨R.1.wr (Or.inl rfl), R.2.1.wr ⟨rfl, by omega, by omega⟩, ?_, wr_hit _ _ _ _, ?_, wr_hit _ _ _ _, R.kL, by omega, R.ck', ?_, ?_, R.at.keep (P := fun c j => c = 0 ∧ j = 25) (same.rf.wr ⟨rfl, rfl⟩) (by omega) (by omega) (by omega) (by omega)⟩
  · rw [wr_off _ _ _ _ _ _ (by omega)]; exact R.2.2.1
  · rw [wr_off _ _ _ _ _ _ (by omega)]; exact R.2.2.2.2.1
  · rw [wr_off _ _ _ _ _ _ (by omega)]; exact R.f4
  · rw [wr_off _ _ _ _ _ _ (by omega)]; exact R.b26
theorem open_dn (R : RS A0 B0 L E A B k (o + 1) c fl) : RS A0 B0 L E (wr A 18 3 (A 18 3 - 1)) (wr B 0 25 (B 0 25 - 1)) k o c fl := by
  have e1 : A 18 3 - 1 = nI o := by rw [R.2.2.2.1]; exact nI_pred o
  have e2 : B 0 25 - 1 = nI o := by rw [R.2.2.2.2.2.1]; exact nI_pred o
  rw [e1, e2]
  have h5 := R.o5
  refine ⟨R.1.wr (Or.inl rfl), R.2.1.wr ⟨rfl, by omega, by omega⟩, ?_, wr_hit _ _ _ _, ?_, wr_hit _ _ _ _, R.kL, by omega, R.ck', ?_⟩
  · rw [wr_off _ _ _ _ _ _ (by omega)]; exact R.2.2.1
  · rw [wr_off _ _ _ _ _ _ (by omega)]; exact R.2.2.2.2.1
  · cases fl with
    | none => exact ⟨by rw [wr_off _ _ _ _ _ _ (by omega)]; exact R.f4, by rw [wr_off _ _ _ _ _ _ (by omega)]; exact R.b26, R.at.keep (P := fun c j => c = 0 ∧ j = 25) (same.rf.wr ⟨rfl, rfl⟩) (by omega) (by omega) (by omega) (by omega)⟩
    | some p =>
      have h := R.2.2.2.2.2.2.2.2.2
      exact ⟨by rw [wr_off _ _ _ _ _ _ (by omega)]; exact h.1, by rw [wr_off _ _ _ _ _ _ (by omega)]; exact h.2.1, by rw [wr_off _ _ _ _ _ _ (by omega)]; exact h.2.2.1, h.2.2.2⟩
theorem opens2 (C : Cx A0 B0 n L t E) (R : RS A0 B0 L E A B k o c none) (hk : k < L) (hT : ¬ A0 15 k = nI 15) :
    (o < 5 ∧ ∃ A' B', f_Reader_opens A = some (A', true) ∧ m_opens B = some (B', true) ∧ RS A0 B0 L E A' B' (k + 1) (o + 1) c none ∧ A' 20 = A 20) ∨
    (∃ A' B' p, f_Reader_opens A = some (A', false) ∧ m_opens B = some (B', false) ∧ RS A0 B0 L E A' B' k o c (some p) ∧ A' 20 = A 20) := by
  have h5 := R.o5
  by_cases ho : o < 5
  · refine Or.inl ⟨ho, ?_⟩
    obtain ⟨A', B', a1, b1, r, e⟩ := next2 C (open_up R ho) hk hT
    refine ⟨A', B', ?_, ?_, r, ?_⟩
    · unfold f_Reader_opens
      rw [R.2.2.2.1, if_pos (show nI o < (5 : Int32) from nI_lt (b := 5) ho (by omega)), bnd_s, nI_1, a1, ob_s]
    · unfold m_opens
      have g : ¬ nI o = 5 := fun e => by have := (nI_eq (b := 5) (by omega) (by omega)).mp e; omega
      rw [R.2.2.2.2.2.1, if_neg g, bnd_s, nI_1, b1, ob_s]
    · rw [e]; funext j; rw [wr_off _ _ _ _ _ _ (by omega)]
  · have h : o = 5 := by omega
    subst h
    obtain ⟨A', B', p, a1, b1, r, e⟩ := fail2 C R
    refine Or.inr ⟨A', B', p, ?_, ?_, r, e⟩
    · unfold f_Reader_opens
      rw [R.2.2.2.1, if_neg (show ¬ nI 5 < (5 : Int32) by decide), a1, ob_s]
    · unfold m_opens
      rw [R.2.2.2.2.2.1, if_pos (show nI 5 = (5 : Int32) from rfl), b1, ob_s]
theorem add2 (C : Cx A0 B0 n L t E) (R : RS A0 B0 L E A B k o c fl) (hc : c < k) (x : Int32) : ∃ A', f_Text_add A 19 x = some A' ∧ RS A0 B0 L E A' B k o (c + 1) fl ∧ (∀ j, A' 20 j = if j = c then x else A 20 j) := by
  have h1 := C.L160
  have h2 := R.kL
  refine ⟨wr (wr A 20 c x) 19 2 (nI (c + 1)), ?_, ⟨(R.1.wr (Or.inr (Or.inr rfl))).wr (Or.inr (Or.inl rfl)), R.2.1, ?_, ?_, wr_hit _ _ _ _, R.2.2.2.2.2.1, h2, R.o5, by omega, ?_⟩, ?_⟩
  · have q : wr A 20 c x 19 2 = nI c := by rw [wr_off _ _ _ _ _ _ (by omega)]; exact R.2.2.2.2.1
    unfold f_Text_add
    rw [R.2.2.2.2.1, if_neg (nI_pos (by omega)), if_neg (nle_160 (by omega)), ck_n _ (show c < 160 by omega) (by omega), nI_cl (by omega), bnd_s, bnd_s, q, nI_1]
  · rw [wr_off _ _ _ _ _ _ (by omega), wr_off _ _ _ _ _ _ (by omega)]; exact R.2.2.1
  · rw [wr_off _ _ _ _ _ _ (by omega), wr_off _ _ _ _ _ _ (by omega)]; exact R.2.2.2.1
  · have e4 : wr (wr A 20 c x) 19 2 (nI (c + 1)) 18 4 = A 18 4 := by rw [wr_off _ _ _ _ _ _ (by omega), wr_off _ _ _ _ _ _ (by omega)]
    cases fl with
    | none => exact ⟨by rw [e4]; exact R.f4, R.b26, R.at⟩
    | some p =>
      have h := R.2.2.2.2.2.2.2.2.2
      exact ⟨by rw [e4]; exact h.1, h.2⟩
  · intro j
    rw [wr_off _ _ _ _ _ _ (by omega), wr_at]
    simp
theorem addnext2 (C : Cx A0 B0 n L t E) (R : RS A0 B0 L E A B k o c none) (hk : k < L) (hT : ¬ A0 15 k = nI 15) (x : Int32) : ∃ A1 A2 B', f_Text_add A 19 x = some A1 ∧ f_Reader_next A1 = some A2 ∧ m_next B = some B' ∧ RS A0 B0 L E A2 B' (k + 1) o (c + 1) none ∧ (∀ j, A2 20 j = if j = c then x else A 20 j) := by
  have h1 := C.L160
  have hc := R.ck'
  obtain ⟨B', b1, b2, b3⟩ := next_rf C R hk hT
  have h13 : A 13 5 = nI L := by rw [R.1 13 5 (by unfold pA; omega)]; exact C.2.2.2.1
  have q1 : wr (wr A 20 c x) 19 2 (nI (c + 1)) 13 5 = nI L := by rw [wr_off _ _ _ _ _ _ (by omega), wr_off _ _ _ _ _ _ (by omega)]; exact h13
  have q2 : wr (wr A 20 c x) 19 2 (nI (c + 1)) 18 2 = nI k := by rw [wr_off _ _ _ _ _ _ (by omega), wr_off _ _ _ _ _ _ (by omega)]; exact R.2.2.1
  refine ⟨wr (wr A 20 c x) 19 2 (nI (c + 1)), wr (wr (wr A 20 c x) 19 2 (nI (c + 1))) 18 2 (nI (k + 1)), B', ?_, ?_, b1, ⟨((R.1.wr (Or.inr (Or.inr rfl))).wr (Or.inr (Or.inl rfl))).wr (Or.inl rfl), R.2.1.trans (b3.mono (fun c j h => ⟨h.1, by have := h.2; omega, by have := h.2; omega⟩)), wr_hit _ _ _ _, ?_, ?_, ?_, by omega, R.o5, by omega, ?_, ?_, b2⟩, ?_⟩
  · have q : wr A 20 c x 19 2 = nI c := by rw [wr_off _ _ _ _ _ _ (by omega)]; exact R.2.2.2.2.1
    unfold f_Text_add
    rw [R.2.2.2.2.1, if_neg (nI_pos (by omega)), if_neg (nle_160 (by omega)), ck_n _ (show c < 160 by omega) (by omega), nI_cl (by omega), bnd_s, bnd_s, q, nI_1]
  · unfold f_Reader_next
    rw [q1, q2, if_neg (nI_ge hk (by omega)), if_neg (nle_160 (by omega)), bnd_s, nI_1]
  · rw [wr_off _ _ _ _ _ _ (by omega), wr_off _ _ _ _ _ _ (by omega), wr_off _ _ _ _ _ _ (by omega)]; exact R.2.2.2.1
  · rw [wr_off _ _ _ _ _ _ (by omega), wr_hit]
  · rw [b3 0 25 (by unfold pN; omega)]; exact R.2.2.2.2.2.1
  · rw [wr_off _ _ _ _ _ _ (by omega), wr_off _ _ _ _ _ _ (by omega), wr_off _ _ _ _ _ _ (by omega)]; exact R.f4
  · rw [b3 0 26 (by unfold pN; omega)]; exact R.b26
  · intro j
    rw [wr_off _ _ _ _ _ _ (by omega), wr_off _ _ _ _ _ _ (by omega), wr_at]
    simp
end SIM
