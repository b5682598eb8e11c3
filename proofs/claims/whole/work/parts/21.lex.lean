/-! the class's TAPE, cut into TOKENS -/
def isL (x : Int32) : Bool := decide (97 ≤ x ∧ x ≤ 122)
def isD (x : Int32) : Bool := decide (48 ≤ x ∧ x ≤ 57)
def isB (x : Int32) : Bool := decide (x = 32 ∨ x = 10)
def isS (x : Int32) : Bool := decide (x = 40 ∨ x = 41 ∨ x = 59 ∨ x = 43 ∨ x = 45 ∨ x = 42 ∨ x = 60 ∨ x = 61)
theorem f_isLetter (a : Int32) : f_Tape_isLetter a = some (isL a) := i_rng a 97 122
theorem f_isDigit (a : Int32) : f_Tape_isDigit a = some (isD a) := i_rng a 48 57
theorem L_notD {a : Int32} (h : isL a = true) : isD a = false := by
  unfold isL at h
  unfold isD
  have h := of_decide_eq_true h
  refine decide_eq_false ?_
  rw [i_le, i_le] at h ⊢
  have e1 : (97 : Int32).toInt = 97 := by decide
  have e2 : (57 : Int32).toInt = 57 := by decide
  omega
theorem endOf_loop {M : Mem} {n : Nat} (hn : n ≤ 160) (hs : M 13 1 = nI n) (v3 v5 : Bool) (j7 : Int32 → Option Int32) :
    ∀ fu k, k ≤ n → n < fu + k → ∃ e, k ≤ e ∧ e ≤ n ∧ (∀ j, k ≤ j → j < e → ((v3 && isL (M 14 j)) || (v5 && isD (M 14 j))) = true) ∧ (e < n → ((v3 && isL (M 14 e)) || (v5 && isD (M 14 e))) = false) ∧ f_Tape_endOf_L25 M v3 v5 j7 fu (nI k) = j7 (nI e) := by
  intro fu
  induction fu with
  | zero => intro k h1 h2; omega
  | succ fu ih =>
    intro k h1 h2
    by_cases hk : k = n
    · subst hk
      refine ⟨k, Nat.le_refl _, Nat.le_refl _, fun j _ _ => by omega, fun h => by omega, ?_⟩
      simp only [f_Tape_endOf_L25, hs, Int32.le_refl, if_true]
    · have g1 : ¬ M 13 1 ≤ nI k := by rw [hs]; exact nI_ge (by omega) (by omega)
      have g2 : ¬ (160 : Int32) ≤ nI k := nI_ge (b := 160) (by omega) (by omega)
      by_cases hg : ((v3 && isL (M 14 k)) || (v5 && isD (M 14 k))) = true
      · obtain ⟨e, a1, a2, a3, a4, a5⟩ := ih (k + 1) (by omega) (by omega)
        refine ⟨e, by omega, a2, fun j b1 b2 => ?_, a4, ?_⟩
        · by_cases hj : j = k
          · subst hj; exact hg
          · exact a3 j (by omega) b2
        · rw [← a5]
          simp only [f_Tape_endOf_L25, if_neg g1, if_neg g2, jp_s, bnd_s, f_isDigit, f_isLetter, ob_s, ck_n _ (show k < 160 by omega) (by omega), nI_cl (show k < 2 ^ 31 by omega), nI_1]
          cases v3 <;> cases v5 <;> cases hL : isL (M 14 k) <;> cases hD : isD (M 14 k) <;> simp_all
      · refine ⟨k, Nat.le_refl _, h1, fun j _ _ => by omega, fun _ => by simpa using hg, ?_⟩
        simp only [f_Tape_endOf_L25, if_neg g1, if_neg g2, jp_s, bnd_s, f_isDigit, f_isLetter, ob_s, ck_n _ (show k < 160 by omega) (by omega), nI_cl (show k < 2 ^ 31 by omega), nI_1]
        cases v3 <;> cases v5 <;> cases hL : isL (M 14 k) <;> cases hD : isD (M 14 k) <;> simp_all
theorem endOf_ok {M : Mem} {n s : Nat} (hn : n ≤ 160) (hs : M 13 1 = nI n) (h : s < n) : ∃ e, s < e ∧ e ≤ n ∧ f_Tape_endOf M (nI s) = some (nI e) ∧
    (isL (M 14 s) = true → (∀ j, s ≤ j → j < e → isL (M 14 j) = true) ∧ (e < n → isL (M 14 e) = false)) ∧
    (isD (M 14 s) = true → (∀ j, s ≤ j → j < e → isD (M 14 j) = true) ∧ (e < n → isD (M 14 e) = false)) ∧
    (isL (M 14 s) = false → isD (M 14 s) = false → e = s + 1) := by
  obtain ⟨e, a1, a2, a3, a4, a5⟩ := endOf_loop hn hs (isL (M 14 s)) (isD (M 14 s)) (fun v6 => some v6) FU (s + 1) (by omega) (by unfold FU; omega)
  refine ⟨e, by omega, a2, ?_, fun hL => ?_, fun hD => ?_, fun hL hD => ?_⟩
  · simp only [f_Tape_endOf, bnd_s, jp_s, f_isDigit, f_isLetter, ob_s, ck_n _ (show s < 160 by omega) (by omega), nI_cl (show s < 2 ^ 31 by omega), nI_1]
    exact a5
  · have hD : isD (M 14 s) = false := L_notD hL
    refine ⟨fun j b1 b2 => ?_, fun he => ?_⟩
    · by_cases hj : j = s
      · subst hj; exact hL
      · have := a3 j (by omega) b2
        simpa [hL, hD] using this
    · have := a4 he
      simpa [hL, hD] using this
  · have hL : isL (M 14 s) = false := by
      cases hL : isL (M 14 s) with
      | false => rfl
      | true => rw [L_notD hL] at hD; cases hD
    refine ⟨fun j b1 b2 => ?_, fun he => ?_⟩
    · by_cases hj : j = s
      · subst hj; exact hD
      · have := a3 j (by omega) b2
        simpa [hL, hD] using this
    · have := a4 he
      simpa [hL, hD] using this
  · by_cases he : e = s + 1
    · exact he
    · have := a3 (s + 1) (Nat.le_refl _) (by omega)
      rw [hL, hD] at this
      simp at this
def numv (b : Nat → Int32) (s : Nat) : Nat → Int32
  | 0 => 0
  | l + 1 => numv b s l * 10 + (b (s + l) - 48)
theorem numberOf_loop {M : Mem} {e s : Nat} (he : e ≤ 160) (j2 : Int32 → Option Int32) :
    ∀ fu k, s ≤ k → k ≤ e → e < fu + k → f_Tape_numberOf_L5 M (nI e) j2 fu (numv (M 14) s (k - s)) (nI k) = j2 (numv (M 14) s (e - s)) := by
  intro fu
  induction fu with
  | zero => intro k h0 h1 h2; omega
  | succ fu ih =>
    intro k h0 h1 h2
    by_cases hk : k = e
    · subst hk
      simp only [f_Tape_numberOf_L5, Int32.le_refl, if_true]
    · have g1 : ¬ nI e ≤ nI k := nI_ge (by omega) (by omega)
      have g2 : ¬ (160 : Int32) ≤ nI k := nI_ge (b := 160) (by omega) (by omega)
      simp only [f_Tape_numberOf_L5, if_neg g1, if_neg g2, bnd_s, ck_n _ (show k < 160 by omega) (by omega), nI_cl (show k < 2 ^ 31 by omega), nI_1]
      rw [← ih (k + 1) (by omega) (by omega) (by omega)]
      have e1 : k + 1 - s = (k - s) + 1 := by omega
      rw [e1, numv]
      have e2 : s + (k - s) = k := by omega
      rw [e2]
theorem numberOf_ok {M : Mem} {e s : Nat} (he : e ≤ 160) (h : s ≤ e) : f_Tape_numberOf M (nI s) (nI e) = some (numv (M 14) s (e - s)) := by
  have := numberOf_loop (M := M) he (fun v1 => some v1) FU s (Nat.le_refl _) h (by unfold FU; omega)
  rw [Nat.sub_self] at this
  exact this
def lw (w : Nat) : Nat := lenS.getD w 0
def bw (w i : Nat) : Int32 := (bytS.getD w []).getD i 0
theorem lw_small : ∀ w, w < 14 → lw w < 80 := by decide
theorem len_ok : ∀ w, w < 14 → f_JS_length0 w = some (nI (lw w)) := by decide
theorem chr_ok : ∀ w, w < 14 → ∀ i, i < lw w → ((((bytS.getD w []).getD i 0) &&& 255).toUInt32 % 65536).toInt32 = bw w i := by decide +kernel
theorem charAt_ok {w i : Nat} (hw : w < 14) (hi : i < lw w) : f_JS_charAt1 w (nI i) = some (bw w i) := by
  have h9 := lw_small w hw
  have g1 : ¬ nI i < 0 := nI_pos (by omega)
  have g2 : nI i < nI (lw w) := nI_lt hi (by omega)
  have e := chr_ok w hw i hi
  unfold lw at hi g2 h9
  simp only [f_JS_charAt1, f_JS_isLatin10, ob_s, f_JL_charAt2, f_JS_checkIndex2, f_JP_checkIndex3, if_neg g1, if_pos g2, ck_n _ hi (by omega), nI_cl (show i < 2 ^ 31 by omega), e]
/-- the bytes from s to e spell the literal w -/
def wm (b : Nat → Int32) (s e w : Nat) : Prop := e - s = lw w ∧ ∀ i, i < lw w → b (s + i) = bw w i
theorem wm_one : ∀ w, w < 14 → ∀ v, v < 14 → (2 ≤ w ∧ 2 ≤ v ∧ lw w = lw v ∧ ∀ i, i < lw w → bw w i = bw v i) → w = v := by decide +kernel
theorem wm_uniq {b : Nat → Int32} {s e w v : Nat} (h1 : wm b s e w) (h2 : wm b s e v) (hw : w < 14) (hv : v < 14) (hw2 : 2 ≤ w) (hv2 : 2 ≤ v) : w = v := by
  have e1 : lw w = lw v := by rw [← h1.1, h2.1]
  exact wm_one w hw v hv ⟨hw2, hv2, e1, fun i hi => by rw [← h1.2 i hi, h2.2 i (by omega)]⟩
theorem spells_loop {M : Mem} {s e w : Nat} (hw : w < 14) (he : e ≤ 160) (hl : e - s = lw w) (j4 : Unit → Option Bool) :
    ∀ fu k, s ≤ k → k ≤ e → e < fu + k → (∀ i, i < k - s → M 14 (s + i) = bw w i) →
      ((∀ i, i < lw w → M 14 (s + i) = bw w i) ∧ f_Tape_spells_L15 M w (nI s) (nI e) j4 fu (nI k) = j4 ()) ∨ ((¬ ∀ i, i < lw w → M 14 (s + i) = bw w i) ∧ f_Tape_spells_L15 M w (nI s) (nI e) j4 fu (nI k) = some false) := by
  intro fu
  induction fu with
  | zero => intro k h0 h1 h2; omega
  | succ fu ih =>
    intro k h0 h1 h2 hin
    by_cases hk : k = e
    · subst hk
      refine Or.inl ⟨fun i hi => hin i (by omega), ?_⟩
      simp only [f_Tape_spells_L15, Int32.le_refl, if_true]
    · have g1 : ¬ nI e ≤ nI k := nI_ge (by omega) (by omega)
      have g2 : ¬ (160 : Int32) ≤ nI k := nI_ge (b := 160) (by omega) (by omega)
      have e0 : nI k - nI s = nI (k - s) := nI_sub h0
      have hb : f_Tape_spells_L15 M w (nI s) (nI e) j4 (fu + 1) (nI k) = if bw w (k - s) = M 14 k then f_Tape_spells_L15 M w (nI s) (nI e) j4 fu (nI (k + 1)) else some false := by
        simp only [f_Tape_spells_L15, if_neg g1, if_neg g2, bnd_s, e0, charAt_ok hw (show k - s < lw w by omega), ob_s, ck_n _ (show k < 160 by omega) (by omega), nI_cl (show k < 2 ^ 31 by omega), nI_1]
      have e2 : s + (k - s) = k := by omega
      by_cases hc : bw w (k - s) = M 14 k
      · rw [hb, if_pos hc]
        exact ih (k + 1) (by omega) (by omega) (by omega) (fun i hi => by
          by_cases hik : i = k - s
          · subst hik; rw [e2, hc]
          · exact hin i (by omega))
      · rw [hb, if_neg hc]
        exact Or.inr ⟨fun h => hc (by rw [← h (k - s) (by omega), e2]), rfl⟩
theorem spells_ok {M : Mem} {s e w : Nat} (hw : w < 14) (he : e ≤ 160) (h : s ≤ e) : ∃ z : Bool, f_Tape_spells M w (nI s) (nI e) = some z ∧ (z = true ↔ wm (M 14) s e w) := by
  have h9 := lw_small w hw
  have e0 : nI e - nI s = nI (e - s) := nI_sub h
  by_cases hl : lw w = e - s
  · have hb : f_Tape_spells M w (nI s) (nI e) = f_Tape_spells_L15 M w (nI s) (nI e) (fun _ => some true) FU (nI s) := by
      simp only [f_Tape_spells, len_ok w hw, ob_s, e0, hl, if_true, jp_s]
    rcases spells_loop (M := M) hw he hl.symm (fun _ => some true) FU s (Nat.le_refl _) h (by unfold FU; omega) (fun i hi => by omega) with ⟨h1, h2⟩ | ⟨h1, h2⟩
    · exact ⟨true, by rw [hb, h2], fun _ => ⟨hl.symm, h1⟩, fun _ => rfl⟩
    · exact ⟨false, by rw [hb, h2], fun h => (by cases h), fun h => absurd h.2 h1⟩
  · refine ⟨false, ?_, fun h => (by cases h), fun h => absurd h.1.symm hl⟩
    have : ¬ nI (lw w) = nI (e - s) := fun h => hl ((nI_eq (by omega) (by omega)).mp h)
    simp only [f_Tape_spells, len_ok w hw, ob_s, e0, if_neg this]
theorem wordOf_ok : ∀ t, 1 ≤ t → t < 13 → f_Tape_wordOf (nI t) = some (t + 1) := by
  intro t h1 h2
  have := (by decide : ∀ t, t < 13 → 1 ≤ t → f_Tape_wordOf (nI t) = some (t + 1))
  exact this t h2 h1
theorem tokenOf_loop {M : Mem} {s e : Nat} (he : e ≤ 160) (h : s ≤ e) (j7 : Unit → Option Int32) :
    ∀ fu t, 1 ≤ t → t ≤ 13 → 13 < fu + t →
      (∃ r, t ≤ r ∧ r < 13 ∧ wm (M 14) s e (r + 1) ∧ f_Tape_tokenOf_L56 M (nI s) (nI e) j7 fu (nI t) = some (nI r)) ∨ ((∀ u, t ≤ u → u < 13 → ¬ wm (M 14) s e (u + 1)) ∧ f_Tape_tokenOf_L56 M (nI s) (nI e) j7 fu (nI t) = j7 ()) := by
  intro fu
  induction fu with
  | zero => intro t h0 h1 h2; omega
  | succ fu ih =>
    intro t h0 h1 h2
    by_cases ht : t = 13
    · subst ht
      refine Or.inr ⟨fun u _ _ => by omega, ?_⟩
      have g : (12 : Int32) < nI 13 := by decide
      simp only [f_Tape_tokenOf_L56, if_pos g]
    · have g : ¬ (12 : Int32) < nI t := nI_nlt (a := 12) (by omega) (by omega)
      obtain ⟨z, hz1, hz2⟩ := spells_ok (M := M) (s := s) (e := e) (w := t + 1) (by omega) he h
      have hb : f_Tape_tokenOf_L56 M (nI s) (nI e) j7 (fu + 1) (nI t) = if z = true then some (nI t) else f_Tape_tokenOf_L56 M (nI s) (nI e) j7 fu (nI (t + 1)) := by
        simp only [f_Tape_tokenOf_L56, if_neg g, wordOf_ok t h0 (by omega), ob_s, hz1, bnd_s, nI_1]
      by_cases hz : z = true
      · rw [hb, if_pos hz]
        exact Or.inl ⟨t, Nat.le_refl _, by omega, hz2.mp hz, rfl⟩
      · rw [hb, if_neg hz]
        rcases ih (t + 1) (by omega) (by omega) (by omega) with ⟨r, r1, r2, r3, r4⟩ | ⟨r1, r2⟩
        · exact Or.inl ⟨r, by omega, r2, r3, r4⟩
        · refine Or.inr ⟨fun u u1 u2 => ?_, r2⟩
          by_cases hu : u = t
          · subst hu; exact fun h => hz (hz2.mpr h)
          · exact r1 u (by omega) u2
theorem sign_ok : ∀ x, x < 256 → ∃ r, f_JS_indexOf1 1 (((nI x).toUInt32 % 65536).toInt32) = some r ∧ ((r < 0) ↔ isS (nI x) = false) := by
  have h : ∀ x, x < 256 → (match f_JS_indexOf1 1 (((nI x).toUInt32 % 65536).toInt32) with | none => false | some r => (decide (r < 0) == !(isS (nI x)))) = true := by decide +kernel
  intro x hx
  have hx := h x hx
  cases hr : f_JS_indexOf1 1 (((nI x).toUInt32 % 65536).toInt32) with
  | none => rw [hr] at hx; cases hx
  | some r =>
    rw [hr] at hx
    refine ⟨r, rfl, ?_⟩
    have hx : (decide (r < 0) == !(isS (nI x))) = true := hx
    cases hq : isS (nI x) <;> simp [hq] at hx ⊢ <;> exact hx
def by8 (x : Int32) : Prop := ∃ j : Nat, j < 256 ∧ x = nI j
def TokOK (b : Nat → Int32) (n s e : Nat) (T N : Int32) : Prop := s < e ∧ e ≤ n ∧
  ((isL (b s) = true ∧ (∀ j, s ≤ j → j < e → isL (b j) = true) ∧ (e < n → isL (b e) = false) ∧ ((∃ t, 1 ≤ t ∧ t < 13 ∧ T = nI t ∧ wm b s e (t + 1)) ∨ (T = nI 15 ∧ ∀ t, 1 ≤ t → t < 13 → ¬ wm b s e (t + 1)))) ∨
   (isD (b s) = true ∧ (∀ j, s ≤ j → j < e → isD (b j) = true) ∧ (e < n → isD (b e) = false) ∧ ((e - s ≤ 4 ∧ T = nI 13 ∧ N = numv b s (e - s)) ∨ (4 < e - s ∧ T = nI 15))) ∨
   (isL (b s) = false ∧ isD (b s) = false ∧ e = s + 1 ∧ ((isS (b s) = true ∧ T = b s) ∨ (isS (b s) = false ∧ T = nI 15))))
theorem tokenOf_ok {M : Mem} {n s e : Nat} (hn : n ≤ 160) (hs : M 13 1 = nI n) (h : s < n) (h8 : by8 (M 14 s)) (he : f_Tape_endOf M (nI s) = some (nI e)) (he1 : s < e) (he2 : e ≤ n) 
    (h1 : isL (M 14 s) = true → (∀ j, s ≤ j → j < e → isL (M 14 j) = true) ∧ (e < n → isL (M 14 e) = false))
    (h2 : isD (M 14 s) = true → (∀ j, s ≤ j → j < e → isD (M 14 j) = true) ∧ (e < n → isD (M 14 e) = false))
    (h3 : isL (M 14 s) = false → isD (M 14 s) = false → e = s + 1) :
    ∃ T, f_Tape_tokenOf M (nI s) (nI e) = some T ∧ TokOK (M 14) n s e T (if T = nI 13 then numv (M 14) s (e - s) else 0) := by
  have e0 : nI e - nI s = nI (e - s) := nI_sub (by omega)
  cases hD : isD (M 14 s) with
  | true =>
    obtain ⟨a1, a2⟩ := h2 hD
    by_cases h4 : e - s ≤ 4
    · refine ⟨nI 13, ?_, he1, he2, Or.inr (Or.inl ⟨hD, a1, a2, Or.inl ⟨h4, rfl, by rw [if_pos rfl]⟩⟩)⟩
      have g : nI (e - s) ≤ 4 := nI_le (b := 4) h4 (by omega)
      simp only [f_Tape_tokenOf, ck_n _ (show s < 160 by omega) (by omega), nI_cl (show s < 2 ^ 31 by omega), bnd_s, f_isDigit, hD, ob_s, if_true, e0, if_pos g]
      rfl
    · refine ⟨nI 15, ?_, he1, he2, Or.inr (Or.inl ⟨hD, a1, a2, Or.inr ⟨by omega, rfl⟩⟩)⟩
      have g : ¬ nI (e - s) ≤ 4 := nI_ge (a := 4) (by omega) (by omega)
      simp only [f_Tape_tokenOf, ck_n _ (show s < 160 by omega) (by omega), nI_cl (show s < 2 ^ 31 by omega), bnd_s, f_isDigit, hD, ob_s, if_true, e0, if_neg g]
      rfl
  | false =>
    cases hL : isL (M 14 s) with
    | true =>
      obtain ⟨a1, a2⟩ := h1 hL
      have hb : f_Tape_tokenOf M (nI s) (nI e) = f_Tape_tokenOf_L56 M (nI s) (nI e) (fun _ => some 15) FU (nI 1) := by
        simp only [f_Tape_tokenOf, ck_n _ (show s < 160 by omega) (by omega), nI_cl (show s < 2 ^ 31 by omega), bnd_s, f_isDigit, hD, ob_s, f_isLetter, hL, if_true, jp_s]
        rfl
      rcases tokenOf_loop (M := M) (show e ≤ 160 by omega) (show s ≤ e by omega) (fun _ => some 15) FU 1 (Nat.le_refl _) (by omega) (by unfold FU; omega) with ⟨r, r1, r2, r3, r4⟩ | ⟨r1, r2⟩
      · exact ⟨nI r, by rw [hb, r4], he1, he2, Or.inl ⟨hL, a1, a2, Or.inl ⟨r, r1, r2, rfl, r3⟩⟩⟩
      · exact ⟨nI 15, by rw [hb, r2]; rfl, he1, he2, Or.inl ⟨hL, a1, a2, Or.inr ⟨rfl, r1⟩⟩⟩
    | false =>
      obtain ⟨x, hx, hxe⟩ := h8
      obtain ⟨r, hr1, hr2⟩ := sign_ok x hx
      have hb : f_Tape_tokenOf M (nI s) (nI e) = if r < 0 then some 15 else some (M 14 s) := by
        rw [hxe] at hD hL
        simp only [f_Tape_tokenOf, ck_n _ (show s < 160 by omega) (by omega), nI_cl (show s < 2 ^ 31 by omega), bnd_s, hxe, f_isDigit, hD, ob_s, f_isLetter, hL, hr1]
        simp
      cases hS : isS (M 14 s) with
      | true =>
        have g : ¬ r < 0 := fun h => by have := hr2.mp h; rw [← hxe, hS] at this; cases this
        exact ⟨M 14 s, by rw [hb, if_neg g], he1, he2, Or.inr (Or.inr ⟨hL, hD, h3 hL hD, Or.inl ⟨hS, rfl⟩⟩)⟩
      | false =>
        have g : r < 0 := hr2.mpr (by rw [← hxe, hS])
        exact ⟨nI 15, by rw [hb, if_pos g]; rfl, he1, he2, Or.inr (Or.inr ⟨hL, hD, h3 hL hD, Or.inr ⟨hS, rfl⟩⟩)⟩
/-- the first L TOKENS of the bytes; E k is where the k-th begins to be looked for -/
def LexTo (b : Nat → Int32) (n : Nat) (T S N : Nat → Int32) (L : Nat) (E : Nat → Nat) : Prop :=
  E 0 = 0 ∧ ∀ k, k < L → ∃ s, S k = nI s ∧ E k ≤ s ∧ (∀ j, E k ≤ j → j < s → isB (b j) = true) ∧ isB (b s) = false ∧ TokOK b n s (E (k + 1)) (T k) (N k)
def Lex (b : Nat → Int32) (n : Nat) (T S N : Nat → Int32) (L : Nat) (E : Nat → Nat) : Prop :=
  LexTo b n T S N L E ∧ E L ≤ n ∧ (∀ j, E L ≤ j → j < n → isB (b j) = true) ∧ T L = nI 14 ∧ S L = nI n ∧ L ≤ n
theorem cut_loop {M0 : Mem} {n : Nat} (hn : n ≤ 160) (h8 : ∀ j, j < n → by8 (M0 14 j)) (j3 : Mem → Option Mem) :
    ∀ fu i M L E, i ≤ n → n < fu + i → M 13 1 = nI n → M 14 = M0 14 → M 13 5 = nI L → L ≤ i → LexTo (M0 14) n (M 15) (M 16) (M 17) L E → E L ≤ i → (∀ j, E L ≤ j → j < i → isB (M0 14 j) = true) → (∀ c k, ¬ (c = 15 ∨ c = 16 ∨ c = 17 ∨ (c = 13 ∧ k = 5)) → M c k = M0 c k) →
    ∃ M' L' E', f_Tape_cut_L7 j3 fu (nI i) M = j3 M' ∧ M' 13 1 = nI n ∧ M' 14 = M0 14 ∧ M' 13 5 = nI L' ∧ L' ≤ n ∧ LexTo (M0 14) n (M' 15) (M' 16) (M' 17) L' E' ∧ E' L' ≤ n ∧ (∀ j, E' L' ≤ j → j < n → isB (M0 14 j) = true) ∧ (∀ c k, ¬ (c = 15 ∨ c = 16 ∨ c = 17 ∨ (c = 13 ∧ k = 5)) → M' c k = M0 c k) := by
  intro fu
  induction fu with
  | zero => intro i M L E h1 h2; omega
  | succ fu ih =>
    intro i M L E h1 h2 hsz hby hL hLi hlex hE hbl hfr
    by_cases hi : i = n
    · subst hi
      refine ⟨M, L, E, ?_, hsz, hby, hL, hLi, hlex, hE, hbl, hfr⟩
      simp only [f_Tape_cut_L7, hsz, Int32.le_refl, if_true]
    · have g1 : ¬ M 13 1 ≤ nI i := by rw [hsz]; exact nI_ge (by omega) (by omega)
      have g2 : ¬ (160 : Int32) ≤ nI i := nI_ge (b := 160) (by omega) (by omega)
      have g4 : ¬ (160 : Int32) ≤ nI L := nI_ge (b := 160) (by omega) (by omega)
      have g3 : ¬ (160 : Int32) ≤ M 13 5 := by rw [hL]; exact g4
      cases hB : isB (M0 14 i) with
      | true =>
        have hb : f_Tape_cut_L7 j3 (fu + 1) (nI i) M = f_Tape_cut_L7 j3 fu (nI (i + 1)) M := by
          have hB := of_decide_eq_true hB
          simp only [f_Tape_cut_L7, if_neg g1, if_neg g2, if_neg g3, if_neg g4, ck_n _ (show i < 160 by omega) (by omega), nI_cl (show i < 2 ^ 31 by omega), bnd_s, jp_s, hby, nI_1]
          rcases hB with hB | hB
          · rw [if_pos hB]
          · by_cases h32 : M0 14 i = 32
            · rw [if_pos h32]
            · rw [if_neg h32, if_pos hB]
        rw [hb]
        exact ih (i + 1) M L E (by omega) (by omega) hsz hby hL (by omega) hlex (by omega) (fun j j1 j2 => by
          by_cases hj : j = i
          · subst hj; exact hB
          · exact hbl j j1 (by omega)) hfr
      | false =>
        have hB' := of_decide_eq_false hB
        have n32 : ¬ M0 14 i = 32 := fun h => hB' (Or.inl h)
        have n10 : ¬ M0 14 i = 10 := fun h => hB' (Or.inr h)
        obtain ⟨e, e1, e2, e3, e4, e5, e6⟩ := endOf_ok hn hsz (show i < n by omega)
        obtain ⟨T, t1, t2⟩ := tokenOf_ok hn hsz (show i < n by omega) (by rw [hby]; exact h8 i (by omega)) e3 e1 e2 e4 e5 e6
        have hL161 : L < 161 := by omega
        obtain ⟨Nv, hNv⟩ : ∃ Nv : Int32, Nv = if T = nI 13 then numv (M 14) i (e - i) else 0 := ⟨_, rfl⟩
        obtain ⟨M2, hM2⟩ : ∃ M2 : Mem, M2 = wr (wr (wr (wr M 15 L T) 16 L (nI i)) 17 L Nv) 13 5 (nI (L + 1)) := ⟨_, rfl⟩
        have hb : f_Tape_cut_L7 j3 (fu + 1) (nI i) M = f_Tape_cut_L7 j3 fu (nI e) M2 := by
          have q1 : wr M 15 L T 13 5 = nI L := by rw [wr_at]; simp [hL]
          have q2 : wr (wr M 15 L T) 16 L (nI i) 13 5 = nI L := by rw [wr_at]; simp [q1]
          have q3 : wr (wr M 15 L T) 16 L (nI i) 15 L = T := by rw [wr_at]; simp [wr_at]
          have q4 : wr (wr (wr M 15 L T) 16 L (nI i)) 17 L Nv 13 5 = nI L := by rw [wr_at]; simp [q2]
          have q5 : wr (wr M 15 L T) 16 L (nI i) 14 = M 14 := by funext j; rw [wr_at]; simp [wr_at]
          simp only [f_Tape_cut_L7, if_neg g1, if_neg g2, if_neg g3, if_neg g4, ck_n _ (show i < 160 by omega) (by omega), nI_cl (show i < 2 ^ 31 by omega), bnd_s, jp_s, hby, nI_1, if_neg n32, if_neg n10, e3, t1, ob_s, hL, ck_n _ hL161 (by omega), nI_cl (show L < 2 ^ 31 by omega), q1, q2, q3]
          by_cases hT : T = 13
          · have hT' : T = nI 13 := hT
            have hn9 : f_Tape_numberOf (wr (wr M 15 L T) 16 L (nI i)) (nI i) (nI e) = some Nv := by
              rw [numberOf_ok (by omega) (by omega), hNv, if_pos hT', q5]
            simp only [if_pos hT, hn9, ob_s, q4, hM2, nI_1]
          · have hT' : ¬ T = nI 13 := hT
            have hn9 : Nv = 0 := by rw [hNv, if_neg hT']
            rw [← hn9]
            simp only [if_neg hT, q4, hM2, nI_1]
        rw [hb]
        obtain ⟨E', q0, q1⟩ : ∃ E' : Nat → Nat, E' (L + 1) = e ∧ ∀ k, k ≤ L → E' k = E k := ⟨fun k => if k = L + 1 then e else E k, if_pos rfl, fun k hk => if_neg (by omega)⟩
        refine ih e M2 (L + 1) E' e2 (by omega) ?_ ?_ ?_ (by omega) ?_ ?_ ?_ ?_
        · rw [hM2]; simp [wr_at, hsz]
        · rw [hM2]; funext j; simp [wr_at, hby]
        · rw [hM2]; simp [wr_at]
        · refine ⟨by rw [q1 0 (by omega)]; exact hlex.1, fun k hk => ?_⟩
          by_cases hkL : k = L
          · subst hkL
            refine ⟨i, by rw [hM2]; simp [wr_at], by rw [q1 k (by omega)]; exact hE, ?_, hB, ?_⟩
            · rw [q1 k (by omega)]; exact hbl
            · rw [q0]
              have c1 : M2 15 k = T := by rw [hM2]; simp [wr_at]
              have c2 : M2 17 k = Nv := by rw [hM2]; simp [wr_at]
              rw [c1, c2, hNv, ← hby]
              exact t2
          · obtain ⟨s, s1, s2, s3, s4, s5⟩ := hlex.2 k (by omega)
            refine ⟨s, ?_, by rw [q1 k (by omega)]; exact s2, by rw [q1 k (by omega)]; exact s3, s4, ?_⟩
            · rw [← s1, hM2]; simp [wr_at, hkL]
            · have c1 : M2 15 k = M 15 k := by rw [hM2]; simp [wr_at, hkL]
              have c2 : M2 17 k = M 17 k := by rw [hM2]; simp [wr_at, hkL]
              rw [q1 (k + 1) (by omega), c1, c2]
              exact s5
        · rw [q0]; exact Nat.le_refl _
        · rw [q0]; exact fun j j1 j2 => by omega
        · intro c k hck
          rw [← hfr c k hck, hM2]
          have d1 : ¬ (c = 13 ∧ k = 5) := fun h => hck (by omega)
          have d2 : ¬ (c = 17 ∧ k = L) := fun h => hck (by omega)
          have d3 : ¬ (c = 16 ∧ k = L) := fun h => hck (by omega)
          have d4 : ¬ (c = 15 ∧ k = L) := fun h => hck (by omega)
          rw [wr_off _ _ _ _ _ _ d1, wr_off _ _ _ _ _ _ d2, wr_off _ _ _ _ _ _ d3, wr_off _ _ _ _ _ _ d4]
theorem cut_ok {M0 : Mem} {n : Nat} (hn : n ≤ 160) (hs : M0 13 1 = nI n) (h8 : ∀ j, j < n → by8 (M0 14 j)) :
    ∃ M' L E, f_Tape_cut M0 = some M' ∧ M' 13 5 = nI L ∧ Lex (M0 14) n (M' 15) (M' 16) (M' 17) L E ∧ (∀ c k, ¬ (c = 15 ∨ c = 16 ∨ c = 17 ∨ (c = 13 ∧ k = 5)) → M' c k = M0 c k) := by
  obtain ⟨M1, hM1⟩ : ∃ M1 : Mem, M1 = wr M0 13 5 0 := ⟨_, rfl⟩
  obtain ⟨M2, L, E, a1, a2, a3, a4, a5, a6, a7, a8, a9⟩ := cut_loop (M0 := M0) hn h8 (fun M2 => ck (M2 13 5) 161 <| bnd (wr M2 15 (M2 13 5).toNatClampNeg 14) fun (M4 : Mem) => ck (M4 13 5) 161 <| bnd (wr M4 16 (M4 13 5).toNatClampNeg (M4 13 1)) fun (M5 : Mem) => some M5) FU 0 M1 0 (fun _ => 0) (Nat.zero_le _) (by unfold FU; omega)
    (by rw [hM1]; simp [wr_at, hs]) (by rw [hM1]; funext j; simp [wr_at]) (by rw [hM1]; simp [wr_at]; rfl) (Nat.le_refl _) ⟨rfl, fun k hk => by omega⟩ (Nat.le_refl _) (fun j j1 j2 => by omega) (by
      intro c k hck
      rw [hM1]
      exact wr_off _ _ _ _ _ _ (fun h => hck (by omega)))
  have q1 : wr M2 15 L 14 13 5 = nI L := by rw [wr_at]; simp [a4]
  have q2 : wr M2 15 L 14 13 1 = nI n := by rw [wr_at]; simp [a2]
  refine ⟨wr (wr M2 15 L 14) 16 L (nI n), L, E, ?_, ?_, ⟨⟨a6.1, fun k hk => ?_⟩, a7, a8, ?_, ?_, a5⟩, ?_⟩
  · have hb : f_Tape_cut M0 = f_Tape_cut_L7 (fun M2 => ck (M2 13 5) 161 <| bnd (wr M2 15 (M2 13 5).toNatClampNeg 14) fun (M4 : Mem) => ck (M4 13 5) 161 <| bnd (wr M4 16 (M4 13 5).toNatClampNeg (M4 13 1)) fun (M5 : Mem) => some M5) FU (nI 0) M1 := by
      rw [hM1]; rfl
    rw [hb, a1]
    simp only [a4, ck_n _ (show L < 161 by omega) (by omega), nI_cl (show L < 2 ^ 31 by omega), bnd_s, q1, q2]
  · simp [wr_at, a4]
  · obtain ⟨s, s1, s2, s3, s4, s5⟩ := a6.2 k hk
    refine ⟨s, ?_, s2, s3, s4, ?_⟩
    · rw [← s1]; simp [wr_at]; intro h; omega
    · have c1 : wr (wr M2 15 L 14) 16 L (nI n) 15 k = M2 15 k := by simp [wr_at]; intro h; omega
      have c2 : wr (wr M2 15 L 14) 16 L (nI n) 17 k = M2 17 k := by simp [wr_at]
      rw [c1, c2]
      exact s5
  · simp [wr_at]; rfl
  · simp [wr_at]
  · intro c k hck
    rw [← a9 c k hck, wr_off _ _ _ _ _ _ (fun h => hck (by omega)), wr_off _ _ _ _ _ _ (fun h => hck (by omega))]
