/-! a day: who is to be trowelled -/
/-- of the first k in the order: the one ripe first of those that may be trowelled; -1: none -/
def scan (tr rp : Nat → Int32) (ro : Nat → Nat) (mn eg : Int32) : Nat → Int32
  | 0 => -1
  | k + 1 => if tr (ro k) = -1 ∧ ¬ mn < rp (ro k) - eg ∧ (scan tr rp ro mn eg k = -1 ∨ ¬ rp (scan tr rp ro mn eg k).toNatClampNeg ≤ rp (ro k)) then nI (ro k) else scan tr rp ro mn eg k
theorem scan_is {tr rp : Nat → Int32} {ro : Nat → Nat} {mn eg : Int32} : ∀ k, scan tr rp ro mn eg k = -1 ∨ ∃ i, i < k ∧ scan tr rp ro mn eg k = nI (ro i) ∧ tr (ro i) = -1 := by
  intro k
  induction k with
  | zero => exact Or.inl rfl
  | succ k ih =>
    rw [scan]
    by_cases g : tr (ro k) = -1 ∧ ¬ mn < rp (ro k) - eg ∧ (scan tr rp ro mn eg k = -1 ∨ ¬ rp (scan tr rp ro mn eg k).toNatClampNeg ≤ rp (ro k))
    · rw [if_pos g]
      exact Or.inr ⟨k, by omega, rfl, g.1⟩
    · rw [if_neg g]
      rcases ih with h | ⟨i, h1, h2, h3⟩
      · exact Or.inl h
      · exact Or.inr ⟨i, by omega, h2, h3⟩
theorem scan_none {tr rp : Nat → Int32} {ro : Nat → Nat} {mn eg : Int32} : ∀ k, (∀ i, i < k → ro i < 6) → (scan tr rp ro mn eg k = -1 ↔ ∀ i, i < k → ¬ (tr (ro i) = -1 ∧ ¬ mn < rp (ro i) - eg)) := by
  intro k
  induction k with
  | zero => exact fun _ => ⟨fun _ i hi => by omega, fun _ => rfl⟩
  | succ k ih =>
    intro hro
    have ih := ih (fun i hi => hro i (by omega))
    rw [scan]
    by_cases g : tr (ro k) = -1 ∧ ¬ mn < rp (ro k) - eg ∧ (scan tr rp ro mn eg k = -1 ∨ ¬ rp (scan tr rp ro mn eg k).toNatClampNeg ≤ rp (ro k))
    · rw [if_pos g]
      constructor
      · intro h
        rw [nI_neg1 (by have := hro k (by omega); omega)] at h
        exact h.elim
      · intro h
        exact absurd ⟨g.1, g.2.1⟩ (h k (by omega))
    · rw [if_neg g]
      constructor
      · intro h i hi
        by_cases hik : i = k
        · subst hik
          intro h2
          exact g ⟨h2.1, h2.2, Or.inl h⟩
        · exact ih.mp h i (by omega)
      · intro h
        exact ih.mpr (fun i hi => h i (by omega))
theorem scan_lt {tr rp : Nat → Int32} {ro : Nat → Nat} {mn eg : Int32} {k n : Nat} (hn : n ≤ 6) (hro : ∀ i, i < k → ro i < n) (h : ¬ scan tr rp ro mn eg k = -1) : ∃ w, w < n ∧ scan tr rp ro mn eg k = nI w := by
  rcases scan_is (tr := tr) (rp := rp) (ro := ro) (mn := mn) (eg := eg) k with h1 | ⟨i, h1, h2, -⟩
  · exact absurd h1 h
  · exact ⟨ro i, hro i h1, h2⟩
theorem first_loop {M : Mem} {ro : Nat → Nat} {put : Nat} (hp : put ≤ 6) (h12 : M 23 12 = nI put) (hro : ∀ i, i < put → ro i < 6 ∧ M 32 i = nI (ro i)) (j2 : Int32 → Option Int32) :
    ∀ fu k, k ≤ put → put < fu + k → f_Day_firstRipe_L4 M j2 fu (scan (M 38) (M 37) ro (M 23 14) (M 25 5) k) (nI k) = j2 (scan (M 38) (M 37) ro (M 23 14) (M 25 5) put) := by
  intro fu
  induction fu with
  | zero => intro k h1 h2; omega
  | succ fu ih =>
    intro k h1 h2
    by_cases hk : k = put
    · subst hk
      simp only [f_Day_firstRipe_L4, h12, if_pos (Int32.le_refl (nI k))]
    · have g1 : ¬ nI put ≤ nI k := nI_ge (by omega) (by omega)
      have g2 : ¬ (6 : Int32) ≤ nI k := nI_ge (b := 6) (by omega) (by omega)
      obtain ⟨r1, r2⟩ := hro k (by omega)
      have ih := ih (k + 1) (by omega) (by omega)
      have k5 : ∀ (x : Option Int32), ck 5 6 x = x := fun x => ck_n (k := 5) x (by omega) (by omega)
      have t5 : (5 : Int32).toNatClampNeg = 5 := rfl
      obtain ⟨f, hf⟩ : ∃ f, f = scan (M 38) (M 37) ro (M 23 14) (M 25 5) k := ⟨_, rfl⟩
      have hs : scan (M 38) (M 37) ro (M 23 14) (M 25 5) (k + 1) = if M 38 (ro k) = -1 ∧ ¬ M 23 14 < M 37 (ro k) - M 25 5 ∧ (f = -1 ∨ ¬ M 37 f.toNatClampNeg ≤ M 37 (ro k)) then nI (ro k) else f := by rw [scan, ← hf]
      have hf6 : ¬ f = -1 → ∀ (x : Option Int32), ck f 6 x = x := fun h x => by
        rw [hf] at h ⊢
        obtain ⟨w, w1, w2⟩ := scan_lt (n := 6) (Nat.le_refl _) (fun i hi => (hro i (by omega)).1) h
        rw [w2]
        exact ck_n x w1 (by omega)
      rw [hs] at ih
      rw [← hf]
      simp only [f_Day_firstRipe_L4, h12, if_neg g1, if_neg g2, ck_n _ (show k < 6 by omega) (show 6 < 2 ^ 31 by omega), nI_cl (show k < 2 ^ 31 by omega), bnd_s, r2, ck_n _ r1 (show 6 < 2 ^ 31 by omega), nI_cl (show ro k < 2 ^ 31 by omega), k5, t5, jp_s, nI_1]
      by_cases c1 : M 38 (ro k) = -1
      · rw [if_pos c1]
        by_cases c2 : M 23 14 < M 37 (ro k) - M 25 5
        · rw [if_neg (fun h => h.2.1 c2)] at ih
          rw [if_pos c2]
          exact ih
        · rw [if_neg c2]
          by_cases c3 : f = -1
          · rw [if_pos ⟨c1, c2, Or.inl c3⟩] at ih
            rw [if_pos c3]
            exact ih
          · rw [if_neg c3, hf6 c3]
            by_cases c4 : M 37 f.toNatClampNeg ≤ M 37 (ro k)
            · rw [if_neg (fun h => h.2.2.elim c3 (fun g => g c4))] at ih
              rw [if_pos c4]
              exact ih
            · rw [if_pos ⟨c1, c2, Or.inr c4⟩] at ih
              rw [if_neg c4]
              exact ih
      · rw [if_neg (fun h => c1 h.1)] at ih
        rw [if_neg c1]
        exact ih
theorem first_ok {M : Mem} {ro : Nat → Nat} {put : Nat} (hp : put ≤ 6) (h12 : M 23 12 = nI put) (hro : ∀ i, i < put → ro i < 6 ∧ M 32 i = nI (ro i)) : f_Day_firstRipe M = some (scan (M 38) (M 37) ro (M 23 14) (M 25 5) put) := by
  unfold f_Day_firstRipe
  rw [jp_s]
  exact first_loop hp h12 hro (fun v1 => some v1) FU 0 (Nat.zero_le _) (by unfold FU; omega)
theorem totrow_loop {B : Mem} {tr rp : Nat → Int32} {mn eg : Int32} {ro : Nat → Nat} {put : Nat} (hp : put ≤ 6) (h38 : B 0 38 = nI put) (hro : ∀ i, i < put → ro i < 6 ∧ B 9 i = nI (ro i)) (htr : ∀ i, i < 6 → B 15 i = tr i) (hrp : ∀ i, i < 6 → B 14 i = rp i) (hmn : B 0 37 = mn) (heg : B 4 5 = eg) (j2 : Int32 → Option Int32) :
    ∀ fu k, k ≤ put → put < fu + k → m_toTrowel_L4 B j2 fu (scan tr rp ro mn eg k) (nI k) = j2 (scan tr rp ro mn eg put) := by
  intro fu
  induction fu with
  | zero => intro k h1 h2; omega
  | succ fu ih =>
    intro k h1 h2
    by_cases hk : k = put
    · subst hk
      simp only [m_toTrowel_L4, h38, if_pos (Int32.le_refl (nI k))]
    · have g1 : ¬ nI put ≤ nI k := nI_ge (by omega) (by omega)
      obtain ⟨r1, r2⟩ := hro k (by omega)
      have ih := ih (k + 1) (by omega) (by omega)
      have k5 : ∀ (x : Option Int32), ck 5 6 x = x := fun x => ck_n (k := 5) x (by omega) (by omega)
      have t5 : (5 : Int32).toNatClampNeg = 5 := rfl
      obtain ⟨f, hf⟩ : ∃ f, f = scan tr rp ro mn eg k := ⟨_, rfl⟩
      have hs : scan tr rp ro mn eg (k + 1) = if tr (ro k) = -1 ∧ ¬ mn < rp (ro k) - eg ∧ (f = -1 ∨ ¬ rp f.toNatClampNeg ≤ rp (ro k)) then nI (ro k) else f := by rw [scan, ← hf]
      have hf6 : ¬ f = -1 → ∃ w, w < 6 ∧ f = nI w := fun h => by
        rw [hf] at h ⊢
        exact scan_lt (n := 6) (Nat.le_refl _) (fun i hi => (hro i (by omega)).1) h
      rw [hs] at ih
      rw [← hf]
      simp only [m_toTrowel_L4, h38, if_neg g1, ck_n _ (show k < 6 by omega) (show 6 < 2 ^ 31 by omega), nI_cl (show k < 2 ^ 31 by omega), bnd_s, r2, ck_n _ r1 (show 6 < 2 ^ 31 by omega), nI_cl (show ro k < 2 ^ 31 by omega), k5, t5, jp_s, nI_1, htr _ r1, hrp _ r1, hmn, heg]
      by_cases c1 : tr (ro k) = -1
      · rw [if_pos c1]
        by_cases c2 : mn < rp (ro k) - eg
        · rw [if_neg (fun h => h.2.1 c2)] at ih
          rw [if_pos c2, if_pos True.intro]
          exact ih
        · rw [if_neg c2, if_neg (show ¬ (1 : Int32) = 0 by decide)]
          by_cases c3 : f = -1
          · rw [if_pos ⟨c1, c2, Or.inl c3⟩] at ih
            rw [if_pos c3]
            exact ih
          · obtain ⟨w, w1, w2⟩ := hf6 c3
            have e14 : B 14 f.toNatClampNeg = rp f.toNatClampNeg := by rw [w2, nI_cl (by omega)]; exact hrp _ w1
            have cf : ∀ (x : Option Int32), ck f 6 x = x := fun x => by rw [w2]; exact ck_n x w1 (by omega)
            rw [if_neg c3, cf, e14]
            by_cases c4 : rp f.toNatClampNeg ≤ rp (ro k)
            · rw [if_neg (fun h => h.2.2.elim c3 (fun g => g c4))] at ih
              rw [if_pos c4]
              exact ih
            · rw [if_pos ⟨c1, c2, Or.inr c4⟩] at ih
              rw [if_neg c4]
              exact ih
      · rw [if_neg (fun h => c1 h.1)] at ih
        rw [if_neg c1, if_pos True.intro]
        exact ih
theorem totrow_ok {B : Mem} {tr rp : Nat → Int32} {mn eg : Int32} {ro : Nat → Nat} {put : Nat} (hp : put ≤ 6) (h38 : B 0 38 = nI put) (hro : ∀ i, i < put → ro i < 6 ∧ B 9 i = nI (ro i)) (htr : ∀ i, i < 6 → B 15 i = tr i) (hrp : ∀ i, i < 6 → B 14 i = rp i) (hmn : B 0 37 = mn) (heg : B 4 5 = eg) : m_toTrowel B = some (scan tr rp ro mn eg put) := by
  unfold m_toTrowel
  rw [jp_s]
  exact totrow_loop hp h38 hro htr hrp hmn heg (fun v1 => some v1) FU 0 (Nat.zero_le _) (by unfold FU; omega)
