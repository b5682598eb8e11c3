/-! the calls that live days: told, day, gains, tooWarm, drawn, chance, good -/
def Two (f g : Option (Mem × Int32)) : Prop := ∃ A' B' v, f = some (A', v) ∧ g = some (B', v) ∧ Rel A' B'
def TwoL (f g : Option (Mem × Int64)) : Prop := ∃ A' B' v, f = some (A', v) ∧ g = some (B', v) ∧ Rel A' B'
def pY (c j : Nat) : Prop := 23 ≤ c ∧ c ≤ 39
theorem pY_X {c j : Nat} (h : pY c j) : pX c j := by unfold pY at h; unfold pX; omega
theorem pS_Y {c j : Nat} (h : pS c j) : pY c j := by unfold pS at h; unfold pY; omega
theorem trialY {A B : Mem} {n tc : Nat} (h : Sites A B n tc) : ∃ A1 r, x_startTrial A = some A1 ∧ Base A1 B n n r ∧ (∀ i, i < 6 → A1 32 i = nI i) ∧ same pY A A1 ∧ r < tc := by
  obtain ⟨A1, r, a1, a2, a3, a4, a5⟩ := trial0 h
  obtain ⟨A2, b1, b2, -⟩ := start_ok A
  have e : A1 = A2 := oi (a1.symm.trans b1)
  subst e
  exact ⟨A1, r, a1, a2, a3, b2.mono (fun c j g => by unfold pY; omega), a5⟩
theorem wr_self (M : Mem) (c k : Nat) : wr M c k (M c k) = M := by
  funext a j
  rw [wr_at]
  by_cases g : a = c ∧ j = k
  · rw [if_pos g, g.1, g.2]
  · rw [if_neg g]
theorem wr_wr (M : Mem) (c k : Nat) (x y : Int32) : wr (wr M c k x) c k y = wr M c k y := by
  funext a j
  by_cases g : a = c ∧ j = k
  · obtain ⟨rfl, rfl⟩ := g
    rw [wr_hit, wr_hit]
  · rw [wr_off _ _ _ _ _ _ g, wr_off _ _ _ _ _ _ g, wr_off _ _ _ _ _ _ g]
/-- a PLAIN day, a dial otherwise -/
theorem step_dial {A B : Mem} {d : Nat} {was v : Int32} (h : Rel A (wr B 4 d was)) (hd : d < 6) (hv : d = 3 → 1 ≤ v.toInt) :
    ∃ M2 M4 M6 A' B' n, x_startTrial A = some M2 ∧ f_Site_turn M2 24 (nI d) v = some M4 ∧ f_Day_reckon M4 = some M6 ∧ f_Day_live M6 = some A' ∧ m_livesPlain (wr B 4 d v) ((wr B 4 d v) 0 12) = some B' ∧
      Rel A' (wr B' 4 d was) ∧ same pY A A' ∧ same pT (wr B 4 d v) B' ∧ n ≤ 6 ∧ A 1 5 = nI n ∧ A' 24 5 = nI n ∧ B' 0 12 = nI n ∧ A' 23 16 = B' 0 41 ∧ A' 23 14 = B' 0 37 ∧ (∃ w, f_Day_late A' = some w ∧ m_setOf B' 1 = some w) ∧ (∀ i, i < 6 → A' 38 i = B' 15 i) := by
  obtain ⟨n, tc, hS, hrest⟩ := id h
  obtain ⟨M2, r, a1, a2, a3, a4, a5⟩ := trialY hS
  have hb := base_dial (B1 := wr B 4 d v) (v := v) a2 hd hv (fun c j g => by rw [wr_off _ _ _ _ _ _ g, wr_off _ _ _ _ _ _ g]) (wr_hit _ _ _ _)
  obtain ⟨Ar, A', B', p1, p2, p3, p4, p5⟩ := plain_ok hb (fun i hi => by rw [wr_off _ _ _ _ _ _ (by omega)]; exact a3 i hi)
  obtain ⟨q1, q2, q3, q4, q5, q6, q7⟩ := id p4
  have hn : n ≤ 6 := hS.1
  have e12 : wr B 4 d v 0 12 = nI n := by rw [wr_off _ _ _ _ _ _ (by omega)]; have := hS.2.2.1; rw [wr_off _ _ _ _ _ _ (by omega)] at this; exact this
  have sA : same pY A A' := a4.trans ((same.rf.wr (c := 25) (k := d) (x := v) (by unfold pY; omega)).trans (q1.mono (fun c j g => pS_Y g)))
  have e12' : B' 0 12 = nI n := by rw [q2 _ _ (by unfold pT; omega)]; exact e12
  refine ⟨M2, _, Ar, A', B', n, a1, turn_ok M2 hd v, p1, p2, by rw [e12]; exact p3, ?_, sA, q2, hn, hS.2.1, ?_, e12', q3, q4, p4.late (Nat.le_refl _) hn e12', fun i hi => (q6 i hi).2.2.1⟩
  · refine h.keep (sA.mono (fun c j g => pY_X g)) (fun c j g => ?_)
    rw [wr_at, wr_at]
    by_cases hcj : c = 4 ∧ j = d
    · rw [if_pos hcj, if_pos hcj]
    · rw [if_neg hcj, if_neg hcj, q2 c j g, wr_off _ _ _ _ _ _ hcj]
  · rw [q1 _ _ (by unfold pS; omega)]; exact hb.2.2.1
theorem liveWith_ok {A B : Mem} {d : Nat} {was v : Int32} (h : Rel A (wr B 4 d was)) (hd : d < 6) (hv : d = 3 → 1 ≤ v.toInt) :
    ∃ A' B', x_liveWith A (nI d) v = some A' ∧ m_livesPlain (wr B 4 d v) ((wr B 4 d v) 0 12) = some B' ∧ Rel A' (wr B' 4 d was) ∧ same pY A A' ∧ A' 23 16 = B' 0 41 ∧ A' 23 14 = B' 0 37 ∧ (∃ w, f_Day_late A' = some w ∧ m_setOf B' 1 = some w) := by
  obtain ⟨M2, M4, M6, A', B', n, a1, a2, a3, a4, a5, a6, a7, a8, a9, a10, a11, a12, a13, a14, a15, a16⟩ := step_dial h hd hv
  refine ⟨A', B', ?_, a5, a6, a7, a13, a14, a15⟩
  unfold x_liveWith
  rw [a1, obp_s, a2, obp_s, a3, obp_s, a4, obp_s]
theorem by_ok {A B : Mem} {d : Nat} {v : Int32} (h : Rel A B) (hd : d < 6) (hv : d = 3 → 1 ≤ v.toInt) :
    ∃ A' B', x_liveWith A (nI d) v = some A' ∧ m_livesBy B (nI d) v = some B' ∧ Rel A' B' ∧ A' 23 16 = B' 0 41 ∧ A' 23 14 = B' 0 37 ∧ (∃ w, f_Day_late A' = some w ∧ m_setOf B' 1 = some w) := by
  have h' : Rel A (wr B 4 d (B 4 d)) := by rw [wr_self]; exact h
  obtain ⟨A', B', a1, a2, a3, a4, a5, a6, w, a7, a8⟩ := liveWith_ok h' hd hv
  refine ⟨A', wr B' 4 d (B 4 d), a1, ?_, a3, by rw [wr_off _ _ _ _ _ _ (by omega)]; exact a5, by rw [wr_off _ _ _ _ _ _ (by omega)]; exact a6, w, a7, ?_⟩
  · unfold m_livesBy
    rw [ck_n _ hd (by omega), nI_cl (by omega), bnd_s, ck_n _ hd (by omega), bnd_s, a2, obp_s, ck_n _ hd (by omega), bnd_s]
  · obtain ⟨n, tc, hS, -⟩ := a3
    have e1 := hS.2.2.1
    rw [set_late hS.1 e1] 
    rw [wr_off _ _ _ _ _ _ (by omega)] at e1
    rw [set_late hS.1 e1] at a8
    rw [← a8]
    congr 1
theorem c_gains {A B : Mem} (h : Rel A B) (a : Int32) : Two (x_gains A a) (m_gains B a) := by
  have c2 : (2 : Int32).toInt = 2 := by decide
  have c0 : (0 : Int32).toInt = 0 := by decide
  have c1 : (1 : Int32).toInt = 1 := by decide
  obtain ⟨z, z1, z2⟩ := in_b (a := a) (lo := 0) (hi := 1) (lo' := 0) (hi' := 1) (by decide) (by decide)
  rw [c0, c1] at z2
  by_cases g0 : a = 0
  · subst g0
    have hz : z = true := z2.mpr (by rw [c0]; omega)
    subst hz
    obtain ⟨A1, B1, p1, p2, p3, p4, p5, -⟩ := by_ok h (d := 2) (v := 9) (by omega) (by omega)
    obtain ⟨A2, B2, q1, q2, q3, q4, q5, -⟩ := by_ok p3 (d := 2) (v := 0) (by omega) (by omega)
    refine ⟨A2, B2, A1 23 16 - A2 23 16, ?_, ?_, q3⟩
    · have k2 : ∀ (x : Option (Mem × Int32)), ck 2 9 x = x := fun x => ck_n (k := 2) x (by omega) (by omega)
      have e1 : tb 1 (2 : Int32).toNatClampNeg = 9 := by decide
      have e2 : tb 0 (2 : Int32).toNatClampNeg = 0 := by decide
      have p1 : x_liveWith A 2 9 = some A1 := p1
      have q1 : x_liveWith A1 2 0 = some A2 := q1
      unfold x_gains
      rw [if_pos rfl, k2, e1, p1, obp_s, bnd_s, k2, e2, q1, obp_s]
    · have p2 : m_livesBy B 2 9 = some B1 := p2
      have q2 : m_livesBy B1 2 0 = some B2 := q2
      unfold m_gains
      simp only [z1, obp_s, if_true, jp_s, p2, q2]
      rw [p4, q4]
  · by_cases g1 : a = 1
    · subst g1
      have hz : z = true := z2.mpr (by rw [c1]; omega)
      subst hz
      obtain ⟨A1, B1, p1, p2, p3, p4, p5, -⟩ := by_ok h (d := 3) (v := 1) (by omega) (by intro _; rw [c1]; omega)
      obtain ⟨A2, B2, q1, q2, q3, q4, q5, -⟩ := by_ok p3 (d := 3) (v := 2) (by omega) (fun _ => by rw [c2]; omega)
      refine ⟨A2, B2, A1 23 14 - A2 23 14, ?_, ?_, q3⟩
      · have p1 : x_liveWith A 3 1 = some A1 := p1
        have q1 : x_liveWith A1 3 2 = some A2 := q1
        unfold x_gains
        rw [if_neg (by decide), if_pos rfl, p1, obp_s, bnd_s, q1, obp_s]
      · have p2 : m_livesBy B 3 1 = some B1 := p2
        have q2 : m_livesBy B1 3 2 = some B2 := q2
        unfold m_gains
        simp only [z1, obp_s, if_true, if_neg (show ¬ (1 : Int32) = 0 by decide), jp_s, p2, q2]
        rw [p5, q5]
    · have hz : z = false := by
        cases z with
        | false => rfl
        | true =>
          have := z2.mp rfl
          rw [i_eq, c0] at g0
          rw [i_eq, c1] at g1
          omega
      subst hz
      refine ⟨A, B, -100000, ?_, ?_, h⟩
      · unfold x_gains
        rw [if_neg g0, if_neg g1]
      · unfold m_gains
        simp only [z1, obp_s]
        rfl
def dn (k : Nat) : Int32 := nI k - 1
theorem dn_S (k : Nat) : dn (k + 1) = nI k := nI_pred k
theorem dn_step (k : Nat) : nI k + (-1) = dn k := by unfold dn; rw [← Int32.sub_eq_add_neg]
theorem dn_0 : dn 0 < 0 := by decide
theorem tooWarm_loop : ∀ fu1 fu2 k A B v, Rel A B → k < 50 → k < fu1 → k < fu2 → Two (x_tooWarm_L8 (fun v2 M3 => some (M3, v2)) fu1 v (dn k) A) (m_tooWarm_L5 (fun v1 M2 => some (M2, v1)) fu2 v (dn k) B) := by
  intro fu1
  induction fu1 with
  | zero => intro fu2 k A B v h h1 h2; omega
  | succ fu1 ih =>
    intro fu2 k A B v h h1 h2 h3
    obtain ⟨fu2, rfl⟩ : ∃ f, fu2 = f + 1 := ⟨fu2 - 1, by omega⟩
    cases k with
    | zero => exact ⟨A, B, v, by simp only [x_tooWarm_L8, if_pos dn_0], by simp only [m_tooWarm_L5, if_pos dn_0], h⟩
    | succ k =>
      obtain ⟨A', B', a1, a2, a3, a4, a5, w, a6, a7⟩ := by_ok h (d := 0) (v := nI k) (by omega) (by omega)
      have a1 : x_liveWith A 0 (nI k) = some A' := a1
      have a2 : m_livesBy B 0 (nI k) = some B' := a2
      have g : ¬ nI k < 0 := nI_pos (by omega)
      by_cases hw : w = 0
      · exact ⟨A', B', v, by simp only [dn_S, x_tooWarm_L8, if_neg g, a1, obp_s, a6, if_pos hw], by simp only [dn_S, m_tooWarm_L5, if_neg g, a2, obp_s, a7, if_pos hw], a3⟩
      · obtain ⟨A2, B2, v2, b1, b2, b3⟩ := ih fu2 k A' B' (nI k) a3 (by omega) (by omega) (by omega)
        exact ⟨A2, B2, v2, by simp only [dn_S, x_tooWarm_L8, if_neg g, a1, obp_s, a6, if_neg hw, bnd_s, dn_step]; exact b1, by simp only [dn_S, m_tooWarm_L5, if_neg g, a2, obp_s, a7, if_neg hw, bnd_s, dn_step]; exact b2, b3⟩
theorem c_tooWarm {A B : Mem} (h : Rel A B) : Two (x_tooWarm A) (m_tooWarm B) := by
  have k0 : ∀ (x : Option (Mem × Int32)), ck 0 9 x = x := fun x => ck_n (k := 0) x (by omega) (by omega)
  have e1 : tb 1 (0 : Int32).toNatClampNeg = dn 41 := by decide
  have e2 : (40 : Int32) = dn 41 := by decide
  unfold x_tooWarm m_tooWarm
  rw [k0, e1, bnd_s, jp_s, jp_s, e2]
  exact tooWarm_loop FU FU 41 A B (-1) h (by omega) (by unfold FU; omega) (by unfold FU; omega)
def warmI (a : Int32) : Int32 := (((a * 1103515245) + 12345).toUInt32 >>> ((9 : Int32).toUInt32 &&& Int32.toUInt32 31)).toInt32 - (((a * 1103515245) + 12345).toUInt32 >>> ((9 : Int32).toUInt32 &&& Int32.toUInt32 31)).toInt32 / 41 * 41
theorem warmOf_ok (M : Mem) (a : Int32) : x_warmOf M a = some (warmI a) := by
  have k0 : ∀ (x : Option Int32), ck 0 9 x = x := fun x => ck_n (k := 0) x (by omega) (by omega)
  have e1 : tb 1 (0 : Int32).toNatClampNeg + 1 = 41 := by decide
  unfold x_warmOf
  rw [bnd_s, k0, e1, nz_s _ (by decide)]
  rfl
theorem draws_ok {A B : Mem} (h : Rel A B) (a : Int32) : ∃ A' B', x_liveWith A 0 (warmI a) = some A' ∧ m_draws B a = some B' ∧ Rel A' B' ∧ A' 23 16 = B' 0 41 ∧ (∃ w, f_Day_late A' = some w ∧ m_setOf B' 1 = some w) := by
  obtain ⟨A', B', a1, a2, a3, a4, a5, a6⟩ := by_ok h (d := 0) (v := warmI a) (by omega) (by omega)
  refine ⟨A', B', a1, ?_, a3, a4, a6⟩
  have a2 : m_livesBy B 0 (warmI a) = some B' := a2
  unfold m_draws
  unfold warmI at a2
  rw [a2, obp_s]
theorem c_drawn {A B : Mem} (h : Rel A B) (a : Int32) : Two (x_drawn A a) (m_drawn B a) := by
  obtain ⟨A', B', a1, a2, a3, a4, a5⟩ := draws_ok h a
  refine ⟨A', B', A' 23 16, ?_, ?_, a3⟩
  · unfold x_drawn
    rw [warmOf_ok, obp_s, a1, obp_s]
  · unfold m_drawn
    rw [a2, obp_s, a4]
theorem chance_loop {a1 : Int32} {n : Nat} (hn : n ≤ 20) (j5 : Int32 → Mem → Option (Mem × Int64)) (j9 : Int64 → Mem → Option (Mem × Int64)) :
    ∀ fu1 fu2 k f A B, Rel A B → k ≤ n → n < fu1 + k → n < fu2 + k → f ≤ k →
      ∃ A' B' f', x_chance_L30 a1 (nI n) j5 fu1 (nI f) (nI k) A = j5 (nI f') A' ∧ m_chance_L32 a1 (nI n) j9 fu2 (lN f) (nI k) B = j9 (lN f') B' ∧ Rel A' B' ∧ f' ≤ n := by
  intro fu1
  induction fu1 with
  | zero => intro fu2 k f A B h h1 h2; omega
  | succ fu1 ih =>
    intro fu2 k f A B h h1 h2 h3 h4
    obtain ⟨fu2, rfl⟩ : ∃ f, fu2 = f + 1 := ⟨fu2 - 1, by omega⟩
    by_cases hk : k = n
    · subst hk
      exact ⟨A, B, f, by simp only [x_chance_L30, if_pos (Int32.le_refl (nI k))], by simp only [m_chance_L32, if_pos (Int32.le_refl (nI k))], h, h4⟩
    · have g : ¬ nI n ≤ nI k := nI_ge (by omega) (by omega)
      obtain ⟨A', B', b1, b2, b3, b4, w, b5, b6⟩ := draws_ok h (a1 + nI k)
      by_cases hw : w = 0
      · obtain ⟨A2, B2, f2, c1, c2, c3, c4⟩ := ih fu2 (k + 1) (f + 1) A' B' b3 (by omega) (by omega) (by omega) (by omega)
        refine ⟨A2, B2, f2, ?_, ?_, c3, c4⟩
        · simp only [x_chance_L30, if_neg g, warmOf_ok, obp_s, b1, b5, if_pos hw, bnd_s, nI_1]
          exact c1
        · simp only [m_chance_L32, if_neg g, obp_s, b2, b6, if_pos hw, jp_s, bnd_s, nI_1, lN_1]
          exact c2
      · obtain ⟨A2, B2, f2, c1, c2, c3, c4⟩ := ih fu2 (k + 1) f A' B' b3 (by omega) (by omega) (by omega) (by omega)
        refine ⟨A2, B2, f2, ?_, ?_, c3, c4⟩
        · simp only [x_chance_L30, if_neg g, warmOf_ok, obp_s, b1, b5, if_neg hw, bnd_s, nI_1]
          exact c1
        · have e0 : lN f + 0 = lN f := Int64.add_zero _
          simp only [m_chance_L32, if_neg g, obp_s, b2, b6, if_neg hw, jp_s, bnd_s, nI_1, e0]
          exact c2
theorem L78_cont {j : Int64 → Option (Mem × Int64)} {M0 : Mem} {r : Int64} : ∀ fu a b, (m_chance_L78 (fun v => some (M0, v)) fu a b).map (fun p => p.2) = some r → m_chance_L78 j fu a b = j r := by
  intro fu
  induction fu with
  | zero => intro a b h; simp [m_chance_L78] at h
  | succ fu ih =>
    intro a b h
    simp only [m_chance_L78] at h ⊢
    by_cases g : lg_cmp b 0 = 0
    · rw [if_pos g] at h ⊢
      have : a = r := by simpa using h
      rw [this]
    · rw [if_neg g] at h ⊢
      have gb : ¬ b = 0 := fun e => g (by rw [e]; decide)
      rw [nzL_s _ gb, bnd_s] at h ⊢
      exact ih _ _ h
def Mz : Mem := fun _ _ => 0
theorem gcd_all : ∀ n, n < 21 → 1 ≤ n → ∀ f, f < n + 1 → (match x_commonDivisor (nI n) (nI f), (m_chance_L78 (fun v => some (Mz, v)) FU (lN f) (lN n)).map (fun p => p.2) with
    | some d, some e => decide (¬ d = 0 ∧ ¬ e = 0 ∧ (nI f / d).toInt64 = lN f / e ∧ (nI n / d).toInt64 = (nI n).toInt64 / e)
    | _, _ => false) = true := by decide +kernel
theorem c_chance {A B : Mem} (h : Rel A B) (a b c : Int32) : TwoL (x_chance A a b c) (m_chance B a b c) := by
  have c0 : (0 : Int32).toInt = 0 := by decide
  have c1 : (1 : Int32).toInt = 1 := by decide
  have c20 : (20 : Int32).toInt = 20 := by decide
  obtain ⟨z, z1, z2⟩ := in_b (a := b) (lo := 1) (hi := 20) (lo' := 1) (hi' := 20) (by decide) (by decide)
  obtain ⟨y, y1, y2⟩ := in_b (a := c) (lo := 0) (hi := 1) (lo' := 0) (hi' := 1) (by decide) (by decide)
  rw [c1, c20] at z2
  rw [c0, c1] at y2
  by_cases hb : 1 ≤ b.toInt ∧ b.toInt ≤ 20
  · have hz : z = true := z2.mpr hb
    subst hz
    by_cases hc : 0 ≤ c.toInt ∧ c.toInt ≤ 1
    · have hy : y = true := y2.mpr hc
      subst hy
      obtain ⟨n, n1, n2, n3⟩ := i_ofnat (x := b) (n := 20) (by omega) hb.2
      subst n2
      rw [n3] at hb
      obtain ⟨A', B', f, p1, p2, p3, p4⟩ := chance_loop (a1 := a) n1 (fun (v3 : Int32) (M4 : Mem) => ob (x_commonDivisor (nI n) v3) fun (v7 : Int32) => if c = 0 then (nz v7 <| some (M4, (v3 / v7).toInt64)) else (nz v7 <| some (M4, (nI n / v7).toInt64))) (fun (v7 : Int64) (M8 : Mem) => bnd (nI n).toInt64 fun (v10 : Int64) => jp (fun (v11 : Int64) => if c = 0 then (nzL v11 <| some (M8, (v7 / v11))) else (nzL v11 <| some (M8, ((nI n).toInt64 / v11)))) fun j12 => m_chance_L78 j12 FU v7 v10) FU FU 0 0 A B h (Nat.zero_le _) (by unfold FU; omega) (by unfold FU; omega) (Nat.le_refl _)
      have hg := gcd_all n (by omega) (by omega) f (by omega)
      cases hd : x_commonDivisor (nI n) (nI f) with
      | none => rw [hd] at hg; exact absurd hg (by simp)
      | some d =>
        cases he : (m_chance_L78 (fun v => some (Mz, v)) FU (lN f) (lN n)).map (fun p => p.2) with
        | none => rw [hd, he] at hg; exact absurd hg (by simp)
        | some e =>
          rw [hd, he] at hg
          obtain ⟨g1, g2, g3, g4⟩ := of_decide_eq_true hg
          have hl : (nI n).toInt64 = lN n := nI_l (by omega)
          have hL : ∀ j : Int64 → Option (Mem × Int64), m_chance_L78 j FU (lN f) (lN n) = j e := fun j => L78_cont FU _ _ he
          refine ⟨A', B', if c = 0 then lN f / e else (nI n).toInt64 / e, ?_, ?_, p3⟩
          · unfold x_chance
            rw [jp_s, if_neg (by rw [i_lt, c1, n3]; omega), if_neg (by rw [i_lt, c20, n3]; omega), if_neg (by rw [i_lt, c0]; omega), if_pos (by rw [i_le, c1]; omega), jp_s]
            refine Eq.trans p1 ?_
            simp only [hd, obp_s, nz_s _ g1]
            by_cases hc0 : c = 0
            · rw [if_pos hc0, if_pos hc0, g3]
            · rw [if_neg hc0, if_neg hc0, g4]
          · unfold m_chance
            rw [z1, obp_s, jp_s, if_pos rfl, y1, obp_s, if_pos rfl, jp_s]
            refine Eq.trans p2 ?_
            simp only [bnd_s, jp_s]
            rw [hl, hL]
            by_cases hc0 : c = 0
            · rw [if_pos hc0, if_pos hc0, nzL_s _ g2]
            · rw [if_neg hc0, if_neg hc0, nzL_s _ g2]
    · have hy : y = false := by
        cases y with
        | false => rfl
        | true => exact absurd (y2.mp rfl) hc
      subst hy
      refine ⟨A, B, -4611686018427387904, ?_, ?_, h⟩
      · unfold x_chance
        rw [jp_s, if_neg (by rw [i_lt, c1]; omega), if_neg (by rw [i_lt, c20]; omega)]
        by_cases g : c < 0
        · rw [if_pos g]
        · rw [if_neg g]
          rw [i_lt, c0] at g
          rw [if_neg (by rw [i_le, c1]; omega)]
      · unfold m_chance
        rw [z1, obp_s, jp_s, if_pos rfl, y1, obp_s]
        rfl
  · have hz : z = false := by
      cases z with
      | false => rfl
      | true => exact absurd (z2.mp rfl) hb
    subst hz
    refine ⟨A, B, -4611686018427387904, ?_, ?_, h⟩
    · unfold x_chance
      rw [jp_s]
      by_cases g : b < 1
      · rw [if_pos g]
      · rw [if_neg g]
        rw [i_lt, c1] at g
        rw [if_pos (by rw [i_lt, c20]; omega)]
    · unfold m_chance
      rw [z1, obp_s, jp_s]
      rfl
theorem c_day {A B : Mem} (h : Rel A B) (a : Int32) : Two (x_day A a) (m_day B a) := by
  obtain ⟨n, tc, hS, hrest⟩ := id h
  obtain ⟨z, z1, z2, z3⟩ := isday2 hS.1 hS.2.1 hS.2.2.1 a
  cases z with
  | false =>
    refine ⟨A, B, -100000, ?_, ?_, h⟩
    · unfold x_day
      rw [z1, obp_s]
      rfl
    · unfold m_day
      rw [z2, obp_s]
      rfl
  | true =>
    obtain ⟨M2, r, a1, a2, a3, a4, a5⟩ := trialY hS
    obtain ⟨Ar, A', B', p1, p2, p3, p4, p5⟩ := plain_ok a2 a3
    have sA : same pY A A' := a4.trans (p4.1.mono (fun c j g => pS_Y g))
    have hR : Rel A' B' := h.keep (sA.mono (fun c j g => pY_X g)) p4.2.1
    have e15 : A' 1 5 = nI n := by rw [sA _ _ (by unfold pY; omega)]; exact hS.2.1
    have e12 : B' 0 12 = nI n := by rw [p4.2.1 _ _ (by unfold pT; omega)]; exact hS.2.2.1
    obtain ⟨v, v1, v2⟩ := ofday2 p4 (Nat.le_refl _) hS.1 e12 e15 (z3 rfl)
    refine ⟨A', B', v, ?_, ?_, hR⟩
    · unfold x_day
      rw [z1, obp_s, if_pos rfl, a1, obp_s, p1, obp_s, p2, obp_s, v1, obp_s]
    · unfold m_day
      rw [z2, obp_s, if_pos rfl, hS.2.2.1, p3, obp_s, v2, obp_s]
theorem c_told {A B : Mem} (h : Rel A B) (w what : Int32) : Two (x_told A w what) (m_told B w what) := by
  obtain ⟨n, tc, hS, hrest⟩ := id h
  obtain ⟨z, z1, z2, z3⟩ := has2 hS.1 hS.2.1 hS.2.2.1 w
  have c0 : (0 : Int32).toInt = 0 := by decide
  have c6 : (6 : Int32).toInt = 6 := by decide
  obtain ⟨y, y1, y2⟩ := in_b (a := what) (lo := 0) (hi := 6) (lo' := 0) (hi' := 6) (by decide) (by decide)
  rw [c0, c6] at y2
  have hn6 : n ≤ 6 := hS.1
  cases z with
  | false =>
    refine ⟨A, B, -2, ?_, ?_, h⟩
    · unfold x_told
      rw [z1, obp_s]
      rfl
    · unfold m_told
      rw [z2, obp_s]
      rfl
  | true =>
    obtain ⟨i, hi, rfl⟩ := z3.mp rfl
    obtain ⟨q1, q2, q3, q4⟩ := hS.2.2.2.2.2.2.2.2.2.2.1 i hi
    have hck : ∀ (x : Option (Mem × Int32)), ck (nI i) 6 x = x := fun x => ck_n x (by omega) (by omega)
    have hcl : (nI i).toNatClampNeg = i := nI_cl (by omega)
    cases y with
    | false =>
      -- no such what
      obtain ⟨M2, r, a1, a2, a3, a4, a5⟩ := trialY hS
      obtain ⟨Ar, p1, p2, p3⟩ := reckon_cl a2
      have hne : ∀ k, k ≤ 6 → ¬ what = nI k := fun k hk e => by
        have := y2.mpr (by rw [e, i_nI (by omega)]; omega)
        cases this
      refine ⟨Ar, B, -2, ?_, ?_, h.keep ((a4.mono (fun c j g => pY_X g)).trans (p2.mono (fun c j g => by unfold pX; omega))) same.rf⟩
      · unfold x_told x_reckoned
        rw [z1, obp_s, if_pos rfl, if_neg (show ¬ what = (0 : Int32) from hne 0 (by omega)), if_neg (show ¬ what = (1 : Int32) from hne 1 (by omega)), if_neg (show ¬ what = (2 : Int32) from hne 2 (by omega)), if_neg (show ¬ what = (3 : Int32) from hne 3 (by omega)), a1, obp_s, p1, obp_s, if_neg (show ¬ what = (4 : Int32) from hne 4 (by omega)), if_neg (show ¬ what = (5 : Int32) from hne 5 (by omega)), if_neg (show ¬ what = (6 : Int32) from hne 6 (by omega)), obp2_s]
      · unfold m_told
        rw [z2, obp_s, if_pos rfl, y1, obp_s]
        rfl
    | true =>
      obtain ⟨g1, g2⟩ := y2.mp rfl
      obtain ⟨k, k1, rfl, k3⟩ := i_ofnat (x := what) (n := 6) g1 g2
      by_cases hk4 : k < 4
      · refine ⟨A, B, A (3 + k) i, ?_, ?_, h⟩
        · unfold x_told
          rw [z1, obp_s, if_pos rfl]
          match k, hk4 with
          | 0, _ => rw [if_pos (by decide), hck, hcl]
          | 1, _ => rw [if_neg (by decide), if_pos (by decide), hck, hcl]
          | 2, _ => rw [if_neg (by decide), if_neg (by decide), if_pos (by decide), hck, hcl]
          | 3, _ => rw [if_neg (by decide), if_neg (by decide), if_neg (by decide), if_pos (by decide), hck, hcl]
        · unfold m_told
          rw [z2, obp_s, if_pos rfl, y1, obp_s, if_pos rfl, if_neg (show ¬ (4 : Int32) ≤ nI k from nI_ge (b := 4) hk4 (by omega))]
          match k, hk4 with
          | 0, _ => rw [if_pos (by decide), hck, hcl, ← q1]
          | 1, _ => rw [if_neg (by decide), if_pos (by decide), hck, hcl, ← q2]
          | 2, _ => rw [if_neg (by decide), if_neg (by decide), if_pos (by decide), hck, hcl, ← q3]
          | 3, _ => rw [if_neg (by decide), if_neg (by decide), if_neg (by decide), hck, hcl, ← q4]
      · obtain ⟨M2, r, a1, a2, a3, a4, a5⟩ := trialY hS
        obtain ⟨Ar, p1, p2, p3⟩ := reckon_cl a2
        obtain ⟨x33, x34, x35⟩ := p3 i hi
        have sA : same pX A Ar := (a4.mono (fun c j g => pY_X g)).trans (p2.mono (fun c j g => by unfold pX; omega))
        have hn : ∀ j, j < 4 → ¬ nI k = nI j := fun j hj e => by have := nI_inj e (by omega) (by omega); omega
        have hcl1 : x_told A (nI i) (nI k) = (ob2 (if nI k = 4 then some (Ar, Ar 33 i) else if nI k = 5 then some (Ar, Ar 34 i) else if nI k = 6 then some (Ar, Ar 35 i) else some (Ar, -2)) fun M4 v5 => some (M4, v5)) := by
          unfold x_told x_reckoned
          rw [z1, obp_s, if_pos rfl, if_neg (show ¬ nI k = (0 : Int32) from hn 0 (by omega)), if_neg (show ¬ nI k = (1 : Int32) from hn 1 (by omega)), if_neg (show ¬ nI k = (2 : Int32) from hn 2 (by omega)), if_neg (show ¬ nI k = (3 : Int32) from hn 3 (by omega)), a1, obp_s, p1, obp_s, hck, hck, hck, hcl]
        have hrf1 : m_told B (nI i) (nI k) = (if nI k = 4 then (ob2 (m_ripensOf B (nI i)) fun M11 v12 => some (M11, v12)) else (if nI k = 5 then (ob (m_lastsOf B (nI i)) fun v9 => some (B, v9)) else (ob2 (m_takesOf B (nI i)) fun M6 v7 => some (M6, v7)))) := by
          unfold m_told
          rw [z2, obp_s, if_pos rfl, y1, obp_s, if_pos rfl, if_pos (show (4 : Int32) ≤ nI k from nI_le (a := 4) (by omega) (by omega))]
        obtain ⟨B4, b1, b2⟩ := rip_rf a2 same.rf hi
        have b5 := last_rf a2 same.rf hi
        obtain ⟨B6, b6, b7⟩ := take_rf a2 same.rf hi
        by_cases e4 : k = 4
        · subst e4
          refine ⟨Ar, B4, ripV M2 i, ?_, ?_, h.keep sA (b2.mono (fun c j g => by unfold pT; omega))⟩
          · rw [hcl1, if_pos (show nI 4 = (4 : Int32) from rfl), obp2_s, x33]
          · rw [hrf1, if_pos (show nI 4 = (4 : Int32) from rfl), b1, obp2_s]
        · by_cases e5 : k = 5
          · subst e5
            refine ⟨Ar, B, lastV M2 i, ?_, ?_, h.keep sA same.rf⟩
            · rw [hcl1, if_neg (by decide), if_pos (show nI 5 = (5 : Int32) from rfl), obp2_s, x34]
            · rw [hrf1, if_neg (by decide), if_pos (show nI 5 = (5 : Int32) from rfl), b5, obp_s]
          · have e6 : k = 6 := by omega
            subst e6
            refine ⟨Ar, B6, takeV M2 i, ?_, ?_, h.keep sA (b7.mono (fun c j g => by unfold pT; omega))⟩
            · rw [hcl1, if_neg (by decide), if_neg (by decide), if_pos (show nI 6 = (6 : Int32) from rfl), obp2_s, x35]
            · rw [hrf1, if_neg (by decide), if_neg (by decide), b6, obp2_s]
