/-! the calls that compare days: good, wetting, alone, buckets -/
/-- the best so far, on both sides -/
def PickR (A : Mem) (found least done : Int32) : Prop := (A 40 0 = 0 ∧ found = -1) ∨ (A 40 0 = 1 ∧ A 40 1 = found ∧ A 40 2 = least ∧ A 40 3 = done ∧ ¬ found = -1)
def better (found least done b d : Int32) : Prop := found = -1 ∨ b < least ∨ (b = least ∧ ¬ done ≤ d)
theorem PickR.keep {A A' : Mem} {f l d : Int32} (h : PickR A f l d) (hs : ∀ j, A' 40 j = A 40 j) : PickR A' f l d := by
  unfold PickR at h ⊢
  rw [hs, hs, hs, hs]
  exact h
theorem offer_yes {A : Mem} {f l d w b e : Int32} (h : PickR A f l d) (hb : better f l d b e) (hw : ¬ w = -1) : ∃ A', f_Pick_offer A w b e = some A' ∧ same (fun c _ => c = 40) A A' ∧ PickR A' w b e := by
  refine ⟨wr (wr (wr (wr A 40 0 1) 40 1 w) 40 2 b) 40 3 e, ?_, by refine (((same.rf.wr ?_).wr ?_).wr ?_).wr ?_ <;> rfl, Or.inr ⟨by simp [wr_at], by simp [wr_at], by simp [wr_at], by simp [wr_at], hw⟩⟩
  unfold f_Pick_offer
  rw [jp_s]
  rcases h with ⟨h0, hf⟩ | ⟨h0, h1, h2, h3, h4⟩
  · rw [if_pos h0]
    simp only [bnd_s]
  · rw [h0, if_neg (by decide), h2, h3]
    rcases hb with hb | hb | ⟨hb1, hb2⟩
    · exact absurd hb h4
    · rw [if_pos hb]
      simp only [bnd_s]
    · have : ¬ b < l := by rw [i_lt, hb1]; omega
      rw [if_neg this, if_pos hb1, if_neg hb2]
      simp only [bnd_s]
theorem offer_no {A : Mem} {f l d w b e : Int32} (h : PickR A f l d) (hb : ¬ better f l d b e) : f_Pick_offer A w b e = some A := by
  have h1 : ¬ f = -1 := fun g => hb (Or.inl g)
  have h2 : ¬ b < l := fun g => hb (Or.inr (Or.inl g))
  have h3 : ¬ (b = l ∧ ¬ d ≤ e) := fun g => hb (Or.inr (Or.inr g))
  unfold f_Pick_offer
  rw [jp_s]
  rcases h with ⟨h0, hf⟩ | ⟨h0, g1, g2, g3, g4⟩
  · exact absurd hf h1
  · rw [h0, if_neg (by decide), g2, g3, if_neg h2]
    by_cases hbl : b = l
    · rw [if_pos hbl]
      by_cases hd : d ≤ e
      · rw [if_pos hd]
      · exact absurd ⟨hbl, hd⟩ h3
    · rw [if_neg hbl]
theorem good_loop {s : Nat} (hs : s < 2) {was : Int32} {top : Nat} (htop : top = if s = 0 then 60 else 20) (j6 : Mem → Option (Mem × Int32)) (j10 : Int32 → Int32 → Int32 → Mem → Option (Mem × Int32)) :
    ∀ fu1 fu2 k A B f l d, Rel A (wr B 4 (4 + s) was) → PickR A f l d → (0 < k → ¬ f = -1) → k ≤ top + 1 → top + 1 < fu1 + k → top + 1 < fu2 + k →
      ∃ A' B' f' l' d', x_good_L41 (nI (4 + s)) j6 fu1 (nI k) A = j6 A' ∧ m_good_L46 (nI s) j10 fu2 f l d (nI k) B = j10 f' l' d' B' ∧ Rel A' (wr B' 4 (4 + s) was) ∧ PickR A' f' l' d' ∧ ¬ f' = -1 := by
  intro fu1
  induction fu1 with
  | zero => intro fu2 k A B f l d h h1 h2 h3; omega
  | succ fu1 ih =>
    intro fu2 k A B f l d h hp hk0 h1 h2 h3
    obtain ⟨fu2, rfl⟩ : ∃ f, fu2 = f + 1 := ⟨fu2 - 1, by omega⟩
    have ht60 : top ≤ 60 := by rw [htop]; split <;> omega
    have etb : tb 1 (4 + s) = nI top := by
      rw [htop]
      match s, hs with
      | 0, _ => decide
      | 1, _ => decide
    have es : (4 : Int32) + nI s = nI (4 + s) := nI_add 4 s
    have hcs : ∀ (x : Option (Mem × Int32)), ck (nI (4 + s)) 9 x = x := fun x => ck_n x (by omega) (by omega)
    have hcs6 : ∀ (x : Option (Mem × Int32)), ck (nI (4 + s)) 6 x = x := fun x => ck_n x (by omega) (by omega)
    have hcl : (nI (4 + s)).toNatClampNeg = 4 + s := nI_cl (by omega)
    have hj : ∀ (X : Int32 → Option (Mem × Int32)), (if nI s = 0 then X 60 else X 20) = X (nI top) := fun X => by
      rw [htop]
      match s, hs with
      | 0, _ => rfl
      | 1, _ => rfl
    by_cases hk : k = top + 1
    · refine ⟨A, B, f, l, d, ?_, ?_, h, hp, hk0 (by omega)⟩
      · simp only [x_good_L41, hcs, hcl, etb, hk, if_pos (nI_lt (show top < top + 1 by omega) (show top + 1 < 2 ^ 31 by omega))]
      · simp only [m_good_L46]
        refine (jp_to (nI top) hj).trans ?_
        rw [hk, if_pos (nI_lt (show top < top + 1 by omega) (show top + 1 < 2 ^ 31 by omega))]
    · have g : ¬ nI top < nI k := nI_nlt (by omega) (by omega)
      obtain ⟨A1, B1, a1, a2, a3, a4, a5, a6, -⟩ := liveWith_ok h (d := 4 + s) (v := nI k) (by omega) (by omega)
      have hp1 : PickR A1 f l d := hp.keep (fun j => a4 _ _ (by unfold pY; omega))
      have hrf : m_good_L46 (nI s) j10 (fu2 + 1) f l d (nI k) B = (if f = -1 then m_good_L46 (nI s) j10 fu2 (nI k) (B1 0 41) (B1 0 37) (nI (k + 1)) B1 else if B1 0 41 < l then m_good_L46 (nI s) j10 fu2 (nI k) (B1 0 41) (B1 0 37) (nI (k + 1)) B1 else if B1 0 41 = l then (if d ≤ B1 0 37 then m_good_L46 (nI s) j10 fu2 f l d (nI (k + 1)) B1 else m_good_L46 (nI s) j10 fu2 (nI k) (B1 0 41) (B1 0 37) (nI (k + 1)) B1) else m_good_L46 (nI s) j10 fu2 f l d (nI (k + 1)) B1) := by
        simp only [m_good_L46]
        refine (jp_to (nI top) hj).trans ?_
        rw [if_neg g]
        simp only [es, hcs6, hcl, bnd_s, a2, obp_s, jp_s, nI_1]
      by_cases hb : better f l d (A1 23 16) (A1 23 14)
      · have hk1 : ¬ nI k = -1 := by rw [nI_neg1 (by omega)]; exact id
        obtain ⟨A2, b1, b2, b3⟩ := offer_yes hp1 hb hk1
        have hR2 : Rel A2 (wr B1 4 (4 + s) was) := a3.keep (b2.mono (fun c j g => by unfold pX; omega)) same.rf
        obtain ⟨A3, B3, f3, l3, d3, c1, c2, c3, c4, c5⟩ := ih fu2 (k + 1) A2 B1 (nI k) (A1 23 16) (A1 23 14) hR2 b3 (fun _ => hk1) (by omega) (by omega) (by omega)
        refine ⟨A3, B3, f3, l3, d3, ?_, ?_, c3, c4, c5⟩
        · simp only [x_good_L41, hcs, hcl, etb, if_neg g, a1, obp_s, b1, bnd_s, nI_1]
          exact c1
        · rw [hrf, ← a5, ← a6]
          rcases hb with hb | hb | ⟨hb1, hb2⟩
          · rw [if_pos hb]; exact c2
          · by_cases hf : f = -1
            · rw [if_pos hf]; exact c2
            · rw [if_neg hf, if_pos hb]; exact c2
          · by_cases hf : f = -1
            · rw [if_pos hf]; exact c2
            · have hnl : ¬ A1 23 16 < l := by rw [i_lt, hb1]; omega
              rw [if_neg hf, if_neg hnl, if_pos hb1, if_neg hb2]; exact c2
      · have b1 := offer_no (w := nI k) hp1 hb
        obtain ⟨A3, B3, f3, l3, d3, c1, c2, c3, c4, c5⟩ := ih fu2 (k + 1) A1 B1 f l d a3 hp1 (fun _ g => hb (Or.inl g)) (by omega) (by omega) (by omega)
        refine ⟨A3, B3, f3, l3, d3, ?_, ?_, c3, c4, c5⟩
        · simp only [x_good_L41, hcs, hcl, etb, if_neg g, a1, obp_s, b1, bnd_s, nI_1]
          exact c1
        · rw [hrf, ← a5, ← a6, if_neg (fun g => hb (Or.inl g)), if_neg (fun g => hb (Or.inr (Or.inl g)))]
          by_cases hbl : A1 23 16 = l
          · rw [if_pos hbl]
            by_cases hd : d ≤ A1 23 14
            · rw [if_pos hd]; exact c2
            · exact absurd (Or.inr (Or.inr ⟨hbl, hd⟩)) hb
          · rw [if_neg hbl]; exact c2
theorem c_good {A B : Mem} (h : Rel A B) (s w : Int32) : Two (x_good A s w) (m_good B s w) := by
  have c0 : (0 : Int32).toInt = 0 := by decide
  have c1 : (1 : Int32).toInt = 1 := by decide
  have c2 : (2 : Int32).toInt = 2 := by decide
  obtain ⟨z, z1, z2⟩ := in_b (a := s) (lo := 0) (hi := 1) (lo' := 0) (hi' := 1) (by decide) (by decide)
  obtain ⟨y, y1, y2⟩ := in_b (a := w) (lo := 0) (hi := 2) (lo' := 0) (hi' := 2) (by decide) (by decide)
  rw [c0, c1] at z2
  rw [c0, c2] at y2
  by_cases hs : 0 ≤ s.toInt ∧ s.toInt ≤ 1
  · have hz : z = true := z2.mpr hs
    subst hz
    by_cases hw : 0 ≤ w.toInt ∧ w.toInt ≤ 2
    · have hy : y = true := y2.mpr hw
      subst hy
      obtain ⟨k, k1, rfl, k3⟩ := i_ofnat (x := s) (n := 1) hs.1 hs.2
      obtain ⟨A0, hA0⟩ : ∃ A0 : Mem, A0 = wr A 40 0 0 := ⟨_, rfl⟩
      have h0 : Rel A0 (wr B 4 (4 + k) (B 4 (4 + k))) := by
        rw [wr_self, hA0]
        exact h.keep (same.rf.wr (by unfold pX; omega)) same.rf
      obtain ⟨A', B', f, l, d, p1, p2, p3, p4, p5⟩ := good_loop (s := k) (by omega) rfl (fun (M5 : Mem) => if w = 0 then (some (M5, (M5 40 1))) else (if w = 1 then (some (M5, (M5 40 2))) else (some (M5, (M5 40 3))))) (fun (v6 : Int32) (v7 : Int32) (v8 : Int32) (M9 : Mem) => bnd (wr M9 4 (4 + k) (B 4 (4 + k))) fun (M11 : Mem) => if w = 0 then (some (M11, v6)) else (if w = 1 then (some (M11, v7)) else (some (M11, v8)))) FU FU 0 A0 B (-1) 0 0 h0 (Or.inl ⟨by rw [hA0, wr_hit], rfl⟩) (fun g => by omega) (by split <;> omega) (by unfold FU; split <;> omega) (by unfold FU; split <;> omega)
      obtain ⟨g0, g1, g2, g3, g4⟩ := p4.resolve_left (fun g => p5 g.2)
      refine ⟨A', wr B' 4 (4 + k) (B 4 (4 + k)), if w = 0 then f else if w = 1 then l else d, ?_, ?_, p3⟩
      · unfold x_good f_Pick_clear
        rw [if_neg (by rw [i_lt, c0]; omega), if_neg (by rw [i_lt, c1]; omega), if_neg (by rw [i_lt, c0]; omega), if_pos (by rw [i_le, c2]; omega)]
        have hj : ∀ (X : Int32 → Option (Mem × Int32)), (if nI k = 0 then X 4 else X 5) = X (nI (4 + k)) := fun X => by
          match k, k1 with
          | 0, _ => rfl
          | 1, _ => rfl
        refine (jp_to (nI (4 + k)) hj).trans ?_
        simp only [bnd_s, obp_s, ← hA0, jp_s]
        refine Eq.trans p1 ?_
        rw [g1, g2, g3]
        by_cases w0 : w = 0
        · rw [if_pos w0, if_pos w0]
        · rw [if_neg w0, if_neg w0]
          by_cases w1 : w = 1
          · rw [if_pos w1, if_pos w1]
          · rw [if_neg w1, if_neg w1]
      · have es : (4 : Int32) + nI k = nI (4 + k) := nI_add 4 k
        have hcs6 : ∀ (x : Option (Mem × Int32)), ck (nI (4 + k)) 6 x = x := fun x => ck_n x (by omega) (by omega)
        have hcl : (nI (4 + k)).toNatClampNeg = 4 + k := nI_cl (by omega)
        unfold m_good
        rw [z1, obp_s, if_pos rfl, y1, obp_s, if_pos rfl]
        simp only [es, hcs6, hcl]
        rw [bnd_s, jp_s]
        refine Eq.trans p2 ?_
        rw [bnd_s]
        by_cases w0 : w = 0
        · rw [if_pos w0, if_pos w0]
        · rw [if_neg w0, if_neg w0]
          by_cases w1 : w = 1
          · rw [if_pos w1, if_pos w1]
          · rw [if_neg w1, if_neg w1]
    · have hy : y = false := by
        cases y with
        | false => rfl
        | true => exact absurd (y2.mp rfl) hw
      subst hy
      refine ⟨A, B, -2, ?_, ?_, h⟩
      · unfold x_good
        rw [if_neg (by rw [i_lt, c0]; omega), if_neg (by rw [i_lt, c1]; omega)]
        by_cases g : w < 0
        · rw [if_pos g]
        · rw [if_neg g]
          rw [i_lt, c0] at g
          rw [if_neg (by rw [i_le, c2]; omega)]
      · unfold m_good
        rw [z1, obp_s, if_pos rfl, y1, obp_s]
        rfl
  · have hz : z = false := by
      cases z with
      | false => rfl
      | true => exact absurd (z2.mp rfl) hs
    subst hz
    refine ⟨A, B, -2, ?_, ?_, h⟩
    · unfold x_good
      by_cases g : s < 0
      · rw [if_pos g]
      · rw [if_neg g]
        rw [i_lt, c0] at g
        rw [if_pos (by rw [i_lt, c1]; omega)]
    · unfold m_good
      rw [z1, obp_s]
      rfl
/-! ### alone -/
def aloneC (A : Mem) (m : Nat) : Option Mem := ob (x_startTrial A) fun M8 => bnd (wr M8 24 5 (nI m)) fun M9 => ob (f_Day_reckon M9) fun M11 => ob (f_Day_live M11) fun M13 => some M13
theorem alone_step {A B : Mem} {n tc m : Nat} (h : Sites A B n tc) (hm : m ≤ n) : ∃ A' B', aloneC A m = some A' ∧ m_livesPlain B (nI m) = some B' ∧ same pX A A' ∧ same pT B B' ∧ A' 23 16 = B' 0 41 := by
  obtain ⟨M2, r, a1, a2, a3, a4, a5⟩ := trialY h
  obtain ⟨Ar, A', B', p1, p2, p3, p4, p5⟩ := plain_ok (base_size a2 hm) (fun i hi => by rw [wr_off _ _ _ _ _ _ (by omega)]; exact a3 i hi)
  refine ⟨A', B', ?_, p3, (a4.mono (fun c j g => pY_X g)).trans ((same.rf.wr (c := 24) (k := 5) (x := nI m) (by unfold pX; omega)).trans (p4.1.mono (fun c j g => pS_X g))), p4.2.1, p4.2.2.1⟩
  unfold aloneC
  rw [a1, obp_s, bnd_s, p1, obp_s, p2, obp_s]
def aloneV (A : Mem) (m : Nat) : Int32 := match aloneC A m with
  | some M => M 23 16
  | none => 0
theorem alone_val {A0 B0 A B : Mem} {n tc m : Nat} (h : Sites A0 B0 n tc) (hA : same pX A0 A) (hB : same pT B0 B) (hm : m ≤ n) :
    (∃ A', aloneC A m = some A' ∧ same pX A A' ∧ A' 23 16 = aloneV A0 m) ∧ (∃ B', m_livesPlain B (nI m) = some B' ∧ same pT B B' ∧ B' 0 41 = aloneV A0 m) := by
  obtain ⟨A1, B1, a1, a2, a3, a4, a5⟩ := alone_step h hm
  obtain ⟨A2, B2, b1, b2, b3, b4, b5⟩ := alone_step (h.keep hA same.rf) hm
  obtain ⟨A3, B3, c1, c2, c3, c4, c5⟩ := alone_step (h.keep same.rf hB) hm
  have e1 : aloneV A0 m = A1 23 16 := by unfold aloneV; rw [a1]
  have e2 : B2 = B1 := oi (b2.symm.trans a2)
  have e3 : A3 = A1 := oi (c1.symm.trans a1)
  subst e2
  subst e3
  exact ⟨⟨A2, b1, b3, by rw [b5, e1, a5]⟩, ⟨B3, c2, c4, by rw [e1, ← c5]⟩⟩
def bestA (A : Mem) : Nat → Nat
  | 0 => 0
  | m + 1 => if aloneV A (m + 1) = 0 then m + 1 else bestA A m
theorem bestA_le (A : Mem) : ∀ m, bestA A m ≤ m := by
  intro m
  induction m with
  | zero => exact Nat.le_refl _
  | succ m ih => rw [bestA]; split <;> omega
theorem alone_cl {A0 B0 : Mem} {n tc : Nat} (h : Sites A0 B0 n tc) : ∀ fu m A, same pX A0 A → m ≤ n → m < fu → ∃ A', x_alone_L8 (fun M2 => some (M2, 0)) fu (nI m) A = some (A', nI (bestA A0 m)) ∧ same pX A0 A' := by
  intro fu
  induction fu with
  | zero => intro m A h1 h2 h3; omega
  | succ fu ih =>
    intro m A h1 h2 h3
    have hn6 := h.1
    cases m with
    | zero => exact ⟨A, by simp only [x_alone_L8, if_pos (show nI 0 ≤ 0 by decide)]; rfl, h1⟩
    | succ m =>
      obtain ⟨⟨A', a1, a2, a3⟩, -⟩ := alone_val h h1 same.rf h2
      have g : ¬ nI (m + 1) ≤ 0 := nI_nle (by omega) (by omega)
      unfold aloneC at a1
      obtain ⟨M8, m8, a1⟩ := ob_e a1
      rw [bnd_s] at a1
      obtain ⟨M11, m11, a1⟩ := ob_e a1
      obtain ⟨M13, m13, a1⟩ := ob_e a1
      have e := oi a1
      subst e
      by_cases hb : aloneV A0 (m + 1) = 0
      · refine ⟨M13, ?_, h1.trans a2⟩
        have hb' : M13 23 16 = 0 := by rw [a3]; exact hb
        simp only [x_alone_L8, if_neg g, m8, obp_s, bnd_s, m11, m13, if_pos hb']
        rw [bestA, if_pos hb]
      · obtain ⟨A2, b1, b2⟩ := ih m M13 (h1.trans a2) (by omega) (by omega)
        refine ⟨A2, ?_, b2⟩
        have hb' : ¬ M13 23 16 = 0 := by rw [a3]; exact hb
        have e1 : nI (m + 1) + (-1) = nI m := by rw [← Int32.sub_eq_add_neg]; exact nI_pred m
        simp only [x_alone_L8, if_neg g, m8, obp_s, bnd_s, m11, m13, if_neg hb', e1]
        rw [bestA, if_neg hb]
        exact b1
theorem alone_rf {A0 B0 : Mem} {n tc : Nat} (h : Sites A0 B0 n tc) : ∀ fu m B, same pT B0 B → m ≤ n → n < fu + m → ∃ B', m_alone_L4 (fun v1 M2 => some (M2, v1)) fu (nI (bestA A0 m)) (nI (m + 1)) B = some (B', nI (bestA A0 n)) ∧ same pT B0 B' := by
  intro fu
  induction fu with
  | zero => intro m B h1 h2 h3; omega
  | succ fu ih =>
    intro m B h1 h2 h3
    have hn6 := h.1
    have e12 : B 0 12 = nI n := by rw [h1 _ _ (by unfold pT; omega)]; exact h.2.2.1
    by_cases hm : m = n
    · subst hm
      exact ⟨B, by simp only [m_alone_L4, e12, if_pos (nI_lt (show m < m + 1 by omega) (show m + 1 < 2 ^ 31 by omega))], h1⟩
    · obtain ⟨-, B', b1, b2, b3⟩ := alone_val h same.rf h1 (show m + 1 ≤ n by omega)
      obtain ⟨B2, c1, c2⟩ := ih (m + 1) B' (h1.trans b2) (by omega) (by omega)
      refine ⟨B2, ?_, c2⟩
      have g : ¬ nI n < nI (m + 1) := nI_nlt (by omega) (by omega)
      rw [bestA] at c1
      by_cases hb : aloneV A0 (m + 1) = 0
      · rw [if_pos hb] at c1
        have hb' : B' 0 41 = 0 := by rw [b3]; exact hb
        simp only [m_alone_L4, e12, if_neg g, b1, obp_s, jp_s, if_pos hb', bnd_s, nI_1]
        exact c1
      · rw [if_neg hb] at c1
        have hb' : ¬ B' 0 41 = 0 := by rw [b3]; exact hb
        simp only [m_alone_L4, e12, if_neg g, b1, obp_s, jp_s, if_neg hb', bnd_s, nI_1]
        exact c1
theorem c_alone {A B : Mem} (h : Rel A B) : Two (x_alone A) (m_alone B) := by
  obtain ⟨n, tc, hS, hrest⟩ := id h
  have hn6 := hS.1
  obtain ⟨A', a1, a2⟩ := alone_cl hS FU n A same.rf (Nat.le_refl _) (by unfold FU; omega)
  obtain ⟨B', b1, b2⟩ := alone_rf hS FU 0 B same.rf (Nat.zero_le _) (by unfold FU; omega)
  refine ⟨A', B', nI (bestA A n), ?_, ?_, h.keep a2 b2⟩
  · unfold x_alone
    rw [bnd_s, jp_s, hS.2.1]
    exact a1
  · unfold m_alone
    rw [jp_s]
    exact b1
/-! ### buckets -/
theorem buckets_loop {b n : Nat} (hb : 1 ≤ b ∧ b ≤ 40) (hn : n ≤ 6) {A B : Mem} (hA : A 1 5 = nI n) (hB : B 0 12 = nI n) (h1 : ∀ i, i < n → A 36 i = B 13 i ∧ A 5 i = B 7 i ∧ A 33 i = B 10 i) (j10 : Int32 → Int32 → Int32 → Option (Mem × Int32)) (j9 : Int32 → Int32 → Int32 → Option (Mem × Int32)) :
    ∀ fu1 fu2 k mixed thrown left at', k ≤ n → n < fu1 + k → n < fu2 + k →
      ∃ m2 t2 l2, x_buckets_L55 (nI b) A j10 fu1 mixed thrown left at' (nI k) = j10 m2 t2 l2 ∧ m_buckets_L47 (nI b) B j9 fu2 left at' mixed thrown (nI k) = j9 l2 m2 t2 := by
  intro fu1
  induction fu1 with
  | zero => intro fu2 k mixed thrown left at' h2 h3; omega
  | succ fu1 ih =>
    intro fu2 k mixed thrown left at' h2 h3 h4
    obtain ⟨fu2, rfl⟩ : ∃ f, fu2 = f + 1 := ⟨fu2 - 1, by omega⟩
    by_cases hk : k = n
    · subst hk
      exact ⟨mixed, thrown, left, by simp only [x_buckets_L55, hA, if_pos (Int32.le_refl (nI k))], by simp only [m_buckets_L47, hB, if_pos (Int32.le_refl (nI k))]⟩
    · have g : ¬ nI n ≤ nI k := nI_ge (by omega) (by omega)
      obtain ⟨q1, q2, q3⟩ := h1 k (by omega)
      have hck : ∀ (x : Option (Mem × Int32)), ck (nI k) 6 x = x := fun x => ck_n x (by omega) (by omega)
      have hcl : (nI k).toNatClampNeg = k := nI_cl (by omega)
      have hb0 : ¬ nI b = 0 := nI_ne0 (by omega) (by omega)
      simp only [x_buckets_L55, m_buckets_L47, hA, hB, if_neg g, hck, hcl, bnd_s, q1, q2, q3, jp_s, nI_1, nz_s _ hb0]
      by_cases c1 : B 13 k = -1
      · rw [if_pos c1, if_pos c1]
        exact ih fu2 (k + 1) mixed thrown left at' (by omega) (by omega) (by omega)
      · rw [if_neg c1, if_neg c1]
        by_cases c2 : left < B 7 k
        · rw [if_pos c2, if_pos c2]
          exact ih fu2 (k + 1) _ _ _ _ (by omega) (by omega) (by omega)
        · rw [if_neg c2, if_neg c2]
          by_cases c3 : B 13 k - at' ≤ B 10 k
          · have c3' : ¬ B 10 k < B 13 k - at' := by rw [i_lt]; rw [i_le] at c3; omega
            rw [if_pos c3, if_neg c3']
            exact ih fu2 (k + 1) _ _ _ _ (by omega) (by omega) (by omega)
          · have c3' : B 10 k < B 13 k - at' := by rw [i_lt]; rw [i_le] at c3; omega
            rw [if_neg c3, if_pos c3']
            exact ih fu2 (k + 1) _ _ _ _ (by omega) (by omega) (by omega)
theorem c_buckets {A B : Mem} (h : Rel A B) (b w : Int32) : Two (x_buckets A b w) (m_buckets B b w) := by
  have c0 : (0 : Int32).toInt = 0 := by decide
  have c1 : (1 : Int32).toInt = 1 := by decide
  have c40 : (40 : Int32).toInt = 40 := by decide
  obtain ⟨z, z1, z2⟩ := in_b (a := b) (lo := 1) (hi := 40) (lo' := 1) (hi' := 40) (by decide) (by decide)
  obtain ⟨y, y1, y2⟩ := in_b (a := w) (lo := 0) (hi := 1) (lo' := 0) (hi' := 1) (by decide) (by decide)
  rw [c1, c40] at z2
  rw [c0, c1] at y2
  by_cases hs : 1 ≤ b.toInt ∧ b.toInt ≤ 40
  · have hz : z = true := z2.mpr hs
    subst hz
    by_cases hw : 0 ≤ w.toInt ∧ w.toInt ≤ 1
    · have hy : y = true := y2.mpr hw
      subst hy
      obtain ⟨k, k1, rfl, k3⟩ := i_ofnat (x := b) (n := 40) (by omega) hs.2
      obtain ⟨n, tc, hS, hrest⟩ := id h
      obtain ⟨M2, r, a1, a2, a3, a4, a5⟩ := trialY hS
      obtain ⟨Ar, A', B', p1, p2, p3, p4, p5⟩ := plain_ok a2 a3
      have sA : same pY A A' := a4.trans (p4.1.mono (fun c j g => pS_Y g))
      have hR : Rel A' B' := h.keep (sA.mono (fun c j g => pY_X g)) p4.2.1
      have e15 : A' 1 5 = nI n := by rw [sA _ _ (by unfold pY; omega)]; exact hS.2.1
      have e12 : B' 0 12 = nI n := by rw [p4.2.1 _ _ (by unfold pT; omega)]; exact hS.2.2.1
      have hw1 : ∀ i, i < n → A' 36 i = B' 13 i ∧ A' 5 i = B' 7 i ∧ A' 33 i = B' 10 i := fun i hi => by
        refine ⟨(p4.2.2.2.2.2.1 i (by have := hS.1; omega)).1, ?_, p5 i hi⟩
        rw [sA _ _ (by unfold pY; omega), p4.2.1 _ _ (by unfold pT; omega)]
        exact (hS.2.2.2.2.2.2.2.2.2.2.1 i hi).2.2.1
      obtain ⟨m2, t2, l2, q1, q2⟩ := buckets_loop (b := k) (by omega) hS.1 e15 e12 hw1 (fun (v7 : Int32) (v8 : Int32) (v9 : Int32) => if w = 0 then (some (A', v7)) else (some (A', (v8 + v9)))) (fun (v7 : Int32) (v8 : Int32) (v9 : Int32) => if w = 0 then (some (B', v8)) else (some (B', (v9 + v7)))) FU FU 0 0 0 0 0 (Nat.zero_le _) (by unfold FU; have := hS.1; omega) (by unfold FU; have := hS.1; omega)
      refine ⟨A', B', if w = 0 then m2 else t2 + l2, ?_, ?_, hR⟩
      · unfold x_buckets
        rw [if_neg (by rw [i_lt, c1]; omega), if_neg (by rw [i_lt, c40]; omega), if_neg (by rw [i_lt, c0]; omega), if_pos (by rw [i_le, c1]; omega), a1, obp_s, p1, obp_s, p2, obp_s, jp_s]
        refine Eq.trans q1 ?_
        by_cases w0 : w = 0
        · rw [if_pos w0, if_pos w0]
        · rw [if_neg w0, if_neg w0]
      · unfold m_buckets
        rw [z1, obp_s, if_pos rfl, y1, obp_s, if_pos rfl, hS.2.2.1, p3, obp_s, jp_s]
        refine Eq.trans q2 ?_
        by_cases w0 : w = 0
        · rw [if_pos w0, if_pos w0]
        · rw [if_neg w0, if_neg w0]
    · have hy : y = false := by
        cases y with
        | false => rfl
        | true => exact absurd (y2.mp rfl) hw
      subst hy
      refine ⟨A, B, -2, ?_, ?_, h⟩
      · unfold x_buckets
        rw [if_neg (by rw [i_lt, c1]; omega), if_neg (by rw [i_lt, c40]; omega)]
        by_cases g : w < 0
        · rw [if_pos g]
        · rw [if_neg g]
          rw [i_lt, c0] at g
          rw [if_neg (by rw [i_le, c1]; omega)]
      · unfold m_buckets
        rw [z1, obp_s, if_pos rfl, y1, obp_s]
        rfl
  · have hz : z = false := by
      cases z with
      | false => rfl
      | true => exact absurd (z2.mp rfl) hs
    subst hz
    refine ⟨A, B, -2, ?_, ?_, h⟩
    · unfold x_buckets
      by_cases g : b < 1
      · rw [if_pos g]
      · rw [if_neg g]
        rw [i_lt, c1] at g
        rw [if_pos (by rw [i_lt, c40]; omega)]
    · unfold m_buckets
      rw [z1, obp_s]
      rfl
