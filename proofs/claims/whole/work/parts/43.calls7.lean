/-! the small calls: count, taken, set, wall, feed, force -/
def RelN (A B : Mem) (n tc : Nat) : Prop := Sites A B n tc ∧ Tapes A B ∧ A 21 0 = 0 ∧ (∀ s, s < 4 → SheetR A B s) ∧ ImageR A B n tc
theorem Rel.n {A B : Mem} (h : Rel A B) : ∃ n tc, RelN A B n tc := h
theorem RelN.rel {A B : Mem} {n tc : Nat} (h : RelN A B n tc) : Rel A B := ⟨n, tc, h⟩
def qA (c j : Nat) : Prop := 1 ≤ c ∧ c ≤ 6
def qB (c j : Nat) : Prop := (4 ≤ c ∧ c ≤ 8) ∨ (c = 0 ∧ (j = 4 ∨ j = 12))
theorem rest_site {A B A' B' : Mem} (hA : same qA A A') (hB : same qB B B') (t : Tapes A B) (z : A 21 0 = 0) (s : ∀ s, s < 4 → SheetR A B s) : Tapes A' B' ∧ A' 21 0 = 0 ∧ ∀ s, s < 4 → SheetR A' B' s := by
  obtain ⟨sz, t1, t2, t3, t4⟩ := t
  refine ⟨⟨sz, t1, ?_, ?_, fun j hj => ?_⟩, ?_, fun q hq => ?_⟩
  · rw [hA _ _ (by unfold qA; omega)]; exact t2
  · rw [hB _ _ (by unfold qB; omega)]; exact t3
  · rw [hA _ _ (by unfold qA; omega), hB _ _ (by unfold qB; omega)]; exact t4 j hj
  · rw [hA _ _ (by unfold qA; omega)]; exact z
  · rcases s q hq with ⟨g1, g2⟩ | ⟨so, z, g1, g2, g3, g4, g5, g6, g7, g8⟩
    · exact Or.inl ⟨by rw [hA _ _ (by unfold qA; omega)]; exact g1, by rw [hB _ _ (by unfold qB; omega)]; exact g2⟩
    · exact Or.inr ⟨so, z, g1, g2, by rw [hA _ _ (by unfold qA; omega)]; exact g3, by rw [hB _ _ (by unfold qB; omega)]; exact g4, by rw [hB _ _ (by unfold qB; omega)]; exact g5, by rw [hA _ _ (by unfold qA; omega)]; exact g6, by rw [hB _ _ (by unfold qB; omega)]; exact g7, fun i hi => by rw [hA _ _ (by unfold qA; omega), hB _ _ (by unfold qB; omega)]; exact g8 i hi⟩
theorem rel_site {A B A' B' : Mem} {n n' tc r : Nat} (h : RelN A B n tc) (hA : same qA A A') (hB : same qB B B') (hn : n ≤ n') (hn' : n' ≤ 6) (e1 : A' 1 5 = nI n') (e2 : B' 0 12 = nI n') (hr : r < tc) (e3 : A' 1 6 = nI r) (e4 : B' 0 4 = nI r)
    (e5 : ∀ j, j < 6 → A' 2 j = B' 4 j) (e6 : ∀ i, i < n' → A' 3 i = B' 5 i ∧ A' 4 i = B' 6 i ∧ A' 5 i = B' 7 i ∧ A' 6 i = B' 8 i) (e7 : Valid B' n') (hk : ∀ i, i < n → A' 3 i = A 3 i) : RelN A' B' n' tc := by
  obtain ⟨⟨a1, a2, a3, a4, a5, a6, a7, -, a11, a12, a13, a14⟩, t, z, s, im⟩ := h
  obtain ⟨r1, r2, r3⟩ := rest_site hA hB t z s
  refine ⟨⟨hn', e1, e2, a4, a5, ?_, ?_, ⟨r, hr, e3, e4⟩, fun t ht => ?_, e5, e6, e7⟩, r1, r2, r3, ?_⟩
  · rw [hA _ _ (by unfold qA; omega)]; exact a6
  · rw [hB _ _ (by unfold qB; omega)]; exact a7
  · exact (a11 t ht).keep (fun j => hA _ _ (by unfold qA; omega)) (fun j => hA _ _ (by unfold qA; omega)) (fun j => hB _ _ (by unfold qB; omega)) (hB _ _ (by unfold qB; omega))
  · rcases im with ⟨g1, g2⟩ | ⟨g1, k, r, g2, g3, g4, g5, g6, g7, g8, g9, g10⟩
    · exact Or.inl ⟨by rw [hA _ _ (by unfold qA; omega)]; exact g1, by rw [hB _ _ (by unfold qB; omega)]; exact g2⟩
    · refine Or.inr ⟨by rw [hA _ _ (by unfold qA; omega)]; exact g1, k, r, by omega, g3, by rw [hA _ _ (by unfold qA; omega)]; exact g4, by rw [hB _ _ (by unfold qB; omega)]; exact g5, by rw [hA _ _ (by unfold qA; omega)]; exact g6, by rw [hB _ _ (by unfold qB; omega)]; exact g7, fun j hj => by rw [hA _ _ (by unfold qA; omega), hB _ _ (by unfold qB; omega)]; exact g8 j hj, by rw [hB _ _ (by unfold qB; omega)]; exact g9, fun i hi => ?_⟩
      rw [hA 9 _ (by unfold qA; omega), hk i (by omega), hA 10 _ (by unfold qA; omega), hA 11 _ (by unfold qA; omega), hA 12 _ (by unfold qA; omega), hB 18 _ (by unfold qB; omega), hB 18 _ (by unfold qB; omega), hB 18 _ (by unfold qB; omega)]
      exact g10 i hi
theorem set_dial {A B : Mem} {n tc k : Nat} {v : Int32} (h : RelN A B n tc) (hk : k < 6) (hv : k = 3 → 1 ≤ v.toInt) : RelN (wr A 2 k v) (wr B 4 k v) n tc := by
  obtain ⟨⟨a1, a2, a3, a4, a5, a6, a7, ⟨r, a8, a9, a10⟩, a11, a12, a13, a14, a15⟩, -⟩ := id h
  refine rel_site (r := r) h (same.rf.wr (by unfold qA; omega)) (same.rf.wr (by unfold qB; omega)) (Nat.le_refl _) a1 ?_ ?_ a8 ?_ ?_ (fun j hj => ?_) (fun i hi => ?_) ⟨?_, fun i hi => ?_⟩ (fun i hi => wr_off _ _ _ _ _ _ (by omega))
  · rw [wr_off _ _ _ _ _ _ (by omega)]; exact a2
  · rw [wr_off _ _ _ _ _ _ (by omega)]; exact a3
  · rw [wr_off _ _ _ _ _ _ (by omega)]; exact a9
  · rw [wr_off _ _ _ _ _ _ (by omega)]; exact a10
  · rw [wr_at, wr_at]
    by_cases g : j = k
    · rw [if_pos ⟨rfl, g⟩, if_pos ⟨rfl, g⟩]
    · rw [if_neg (fun q => g q.2), if_neg (fun q => g q.2)]; exact a12 j hj
  · rw [wr_off _ _ _ _ _ _ (by omega), wr_off _ _ _ _ _ _ (by omega), wr_off _ _ _ _ _ _ (by omega), wr_off _ _ _ _ _ _ (by omega), wr_off _ _ _ _ _ _ (by omega), wr_off _ _ _ _ _ _ (by omega), wr_off _ _ _ _ _ _ (by omega), wr_off _ _ _ _ _ _ (by omega)]
    exact a13 i hi
  · rw [wr_at]
    by_cases g : (3 : Nat) = k
    · rw [if_pos ⟨rfl, g⟩]; exact hv g.symm
    · rw [if_neg (fun q => g q.2)]; exact a14
  · rw [wr_off _ _ _ _ _ _ (by omega), wr_off _ _ _ _ _ _ (by omega), wr_off _ _ _ _ _ _ (by omega), wr_off _ _ _ _ _ _ (by omega)]
    exact a15 i hi
theorem set_cell {A B : Mem} {n tc k c d : Nat} {v : Int32} (h : RelN A B n tc) (hk : k < n) (hc : (c = 4 ∧ d = 6 ∧ 0 ≤ v.toInt ∧ v.toInt ≤ 9) ∨ (c = 5 ∧ d = 7 ∧ 1 ≤ v.toInt ∧ v.toInt ≤ 20) ∨ (c = 6 ∧ d = 8 ∧ (v = 0 ∨ v = 1))) : RelN (wr A c k v) (wr B d k v) n tc := by
  obtain ⟨⟨a1, a2, a3, a4, a5, a6, a7, ⟨r, a8, a9, a10⟩, a11, a12, a13, a14, a15⟩, -⟩ := id h
  refine rel_site (r := r) h (same.rf.wr (by unfold qA; omega)) (same.rf.wr (by unfold qB; omega)) (Nat.le_refl _) a1 ?_ ?_ a8 ?_ ?_ (fun j hj => ?_) (fun i hi => ?_) ⟨?_, fun i hi => ?_⟩ (fun i hi => wr_off _ _ _ _ _ _ (by omega))
  · rw [wr_off _ _ _ _ _ _ (by omega)]; exact a2
  · rw [wr_off _ _ _ _ _ _ (by omega)]; exact a3
  · rw [wr_off _ _ _ _ _ _ (by omega)]; exact a9
  · rw [wr_off _ _ _ _ _ _ (by omega)]; exact a10
  · rw [wr_off _ _ _ _ _ _ (by omega), wr_off _ _ _ _ _ _ (by omega)]; exact a12 j hj
  · obtain ⟨b1, b2, b3, b4⟩ := a13 i hi
    by_cases g : i = k
    · subst g
      rcases hc with ⟨rfl, rfl, -⟩ | ⟨rfl, rfl, -⟩ | ⟨rfl, rfl, -⟩ <;> simp [wr_at, b1, b2, b3, b4]
    · rw [wr_off _ _ _ _ _ _ (by omega), wr_off _ _ _ _ _ _ (by omega), wr_off _ _ _ _ _ _ (by omega), wr_off _ _ _ _ _ _ (by omega), wr_off _ _ _ _ _ _ (by omega), wr_off _ _ _ _ _ _ (by omega), wr_off _ _ _ _ _ _ (by omega), wr_off _ _ _ _ _ _ (by omega)]
      exact ⟨b1, b2, b3, b4⟩
  · rw [wr_off _ _ _ _ _ _ (by omega)]; exact a14
  · obtain ⟨b1, b2, b3, b4⟩ := a15 i hi
    by_cases g : i = k
    · subst g
      rcases hc with ⟨rfl, rfl, hv⟩ | ⟨rfl, rfl, hv⟩ | ⟨rfl, rfl, hv⟩
      · rw [wr_off _ _ _ _ _ _ (by omega), wr_hit, wr_off _ _ _ _ _ _ (by omega), wr_off _ _ _ _ _ _ (by omega)]
        exact ⟨b1, hv, b3, b4⟩
      · rw [wr_off _ _ _ _ _ _ (by omega), wr_off _ _ _ _ _ _ (by omega), wr_hit, wr_off _ _ _ _ _ _ (by omega)]
        exact ⟨b1, b2, hv, b4⟩
      · rw [wr_off _ _ _ _ _ _ (by omega), wr_off _ _ _ _ _ _ (by omega), wr_off _ _ _ _ _ _ (by omega), wr_hit]
        exact ⟨b1, b2, b3, hv⟩
    · rw [wr_off _ _ _ _ _ _ (by omega), wr_off _ _ _ _ _ _ (by omega), wr_off _ _ _ _ _ _ (by omega), wr_off _ _ _ _ _ _ (by omega)]
      exact ⟨b1, b2, b3, b4⟩
/-! set -/
def setDX (M : Mem) (k : Nat) (lo hi v : Int32) : Option (Mem × Int32) :=
  if v < lo then some (M, -2) else if v ≤ hi then some (wr M 2 k v, M 2 k) else some (M, -2)
def setDM (M : Mem) (k : Nat) (lo hi v : Int32) : Option (Mem × Int32) :=
  ob (m_in v.toInt64 lo.toInt64 hi.toInt64) fun z => if z = true then some (wr M 4 k v, M 4 k) else some (M, -2)
def setWX (M : Mem) (c : Nat) (lo hi a v : Int32) : Option (Mem × Int32) :=
  if v < lo then some (M, -2) else if v ≤ hi then (ob (f_Site_has M 1 a) fun z => if z = true then ck a 6 (ck a 6 (some (wr M c a.toNatClampNeg v, M c a.toNatClampNeg))) else some (M, -2)) else some (M, -2)
def setWM (M : Mem) (c : Nat) (lo hi a v : Int32) : Option (Mem × Int32) :=
  ob (m_isWall M a) fun w => if w = true then (ob (m_in v.toInt64 lo.toInt64 hi.toInt64) fun z => if z = true then ck a 6 (ck a 6 (some (wr M c a.toNatClampNeg v, M c a.toNatClampNeg))) else some (M, -2)) else some (M, -2)
theorem in_lh {v lo hi : Int32} : ∃ z, m_in v.toInt64 lo.toInt64 hi.toInt64 = some z ∧ (z = true ↔ ¬ v < lo ∧ v ≤ hi) := by
  obtain ⟨z, z1, z2⟩ := in_b (a := v) (lo := lo) (hi := hi) rfl rfl
  refine ⟨z, z1, z2.trans ?_⟩
  rw [i_lt, i_le]
  constructor
  · rintro ⟨h1, h2⟩; exact ⟨by omega, h2⟩
  · rintro ⟨h1, h2⟩; exact ⟨by omega, h2⟩
theorem set_d {A B : Mem} {n tc k : Nat} {lo hi v : Int32} (h : RelN A B n tc) (hk : k < 6) (hlo : k = 3 → lo = 1) : Two (setDX A k lo hi v) (setDM B k lo hi v) := by
  obtain ⟨z, z1, z2⟩ := in_lh (v := v) (lo := lo) (hi := hi)
  have e : A 2 k = B 4 k := h.1.2.2.2.2.2.2.2.2.2.1 k hk
  unfold setDX setDM
  rw [z1, obp_s]
  by_cases g1 : v < lo
  · rw [if_pos g1, if_neg (fun q => (z2.mp q).1 g1)]
    exact ⟨A, B, -2, rfl, rfl, h.rel⟩
  · by_cases g2 : v ≤ hi
    · rw [if_neg g1, if_pos g2, if_pos (z2.mpr ⟨g1, g2⟩)]
      refine ⟨_, _, B 4 k, by rw [e], rfl, (set_dial h hk (fun g => ?_)).rel⟩
      rw [hlo g, i_lt] at g1
      have c1 : (1 : Int32).toInt = 1 := by decide
      omega
    · rw [if_neg g1, if_neg g2, if_neg (fun q => g2 (z2.mp q).2)]
      exact ⟨A, B, -2, rfl, rfl, h.rel⟩
theorem set_w {A B : Mem} {n tc c d : Nat} {lo hi a v : Int32} (h : RelN A B n tc) (hc : (c = 4 ∧ d = 6 ∧ lo = 0 ∧ hi = 9) ∨ (c = 5 ∧ d = 7 ∧ lo = 1 ∧ hi = 20) ∨ (c = 6 ∧ d = 8 ∧ lo = 0 ∧ hi = 1)) : Two (setWX A c lo hi a v) (setWM B d lo hi a v) := by
  obtain ⟨z, z1, z2⟩ := in_lh (v := v) (lo := lo) (hi := hi)
  have hn6 := h.1.1
  obtain ⟨w, w1, w2, w3⟩ := has2 hn6 h.1.2.1 h.1.2.2.1 a
  have c0 : (0 : Int32).toInt = 0 := by decide
  have c1 : (1 : Int32).toInt = 1 := by decide
  have c9 : (9 : Int32).toInt = 9 := by decide
  have c20 : (20 : Int32).toInt = 20 := by decide
  unfold setWX setWM
  rw [w1, w2, obp_s, obp_s, z1, obp_s]
  by_cases gw : w = true
  · obtain ⟨i, i1, i2⟩ := w3.mp gw
    have hcl : a.toNatClampNeg = i := by rw [i2]; exact nI_cl (by omega)
    have hck : ∀ x : Option (Mem × Int32), ck a 6 x = x := fun x => by rw [i2]; exact ck_n x (by omega) (by omega)
    rw [if_pos gw, if_pos gw, hck, hck, hck, hck, hcl]
    by_cases g1 : v < lo
    · rw [if_pos g1, if_neg (fun q => (z2.mp q).1 g1)]
      exact ⟨A, B, -2, rfl, rfl, h.rel⟩
    · by_cases g2 : v ≤ hi
      · rw [if_neg g1, if_pos g2, if_pos (z2.mpr ⟨g1, g2⟩)]
        obtain ⟨b1, b2, b3, b4⟩ := h.1.2.2.2.2.2.2.2.2.2.2.1 i i1
        have e : A c i = B d i := by
          rcases hc with ⟨rfl, rfl, -⟩ | ⟨rfl, rfl, -⟩ | ⟨rfl, rfl, -⟩
          · exact b2
          · exact b3
          · exact b4
        refine ⟨_, _, B d i, by rw [e], rfl, (set_cell h i1 ?_).rel⟩
        rw [i_lt] at g1
        rw [i_le] at g2
        rcases hc with ⟨q1, q2, rfl, rfl⟩ | ⟨q1, q2, rfl, rfl⟩ | ⟨q1, q2, rfl, rfl⟩
        · exact Or.inl ⟨q1, q2, by omega, by omega⟩
        · exact Or.inr (Or.inl ⟨q1, q2, by omega, by omega⟩)
        · refine Or.inr (Or.inr ⟨q1, q2, ?_⟩)
          rw [i_eq, i_eq]
          omega
      · rw [if_neg g1, if_neg g2, if_neg (fun q => g2 (z2.mp q).2)]
        exact ⟨A, B, -2, rfl, rfl, h.rel⟩
  · rw [if_neg gw, if_neg gw]
    refine ⟨A, B, -2, ?_, rfl, h.rel⟩
    by_cases g1 : v < lo
    · rw [if_pos g1]
    · rw [if_neg g1]
      by_cases g2 : v ≤ hi
      · rw [if_pos g2]
      · rw [if_neg g2]
theorem c_set {A B : Mem} (h : Rel A B) (a1 a2 a3 : Int32) : Two (x_set A a1 a2 a3) (m_set B a1 a2 a3) := by
  obtain ⟨n, tc, hR⟩ := h.n
  have c0 : (0 : Int32).toInt = 0 := by decide
  have c8 : (8 : Int32).toInt = 8 := by decide
  obtain ⟨z, z1, z2⟩ := in_b (a := a1) (lo := 0) (hi := 8) (lo' := 0) (hi' := 8) (by decide) (by decide)
  rw [c0, c8] at z2
  by_cases g : 0 ≤ a1.toInt ∧ a1.toInt ≤ 8
  · obtain ⟨k, k1, rfl, k3⟩ := i_ofnat (x := a1) (n := 8) g.1 g.2
    match k, k1 with
    | 0, _ => exact set_d (k := 0) (lo := 0) (hi := 40) hR (by omega) (by omega)
    | 1, _ => exact set_d (k := 1) (lo := 0) (hi := 9) hR (by omega) (by omega)
    | 2, _ => exact set_d (k := 2) (lo := 0) (hi := 9) hR (by omega) (by omega)
    | 3, _ => exact set_d (k := 3) (lo := 1) (hi := 2) hR (by omega) (fun _ => rfl)
    | 4, _ => exact set_d (k := 4) (lo := 0) (hi := 60) hR (by omega) (by omega)
    | 5, _ => exact set_d (k := 5) (lo := 0) (hi := 20) hR (by omega) (by omega)
    | 6, _ => exact set_w (c := 4) (d := 6) (lo := 0) (hi := 9) hR (by simp)
    | 7, _ => exact set_w (c := 5) (d := 7) (lo := 1) (hi := 20) hR (by simp)
    | 8, _ => exact set_w (c := 6) (d := 8) (lo := 0) (hi := 1) hR (by simp)
  · refine ⟨A, B, -2, ?_, ?_, h⟩
    · unfold x_set
      by_cases q : a1 < 0
      · rw [if_pos q]
      · rw [if_neg q]
        rw [i_lt, c0] at q
        rw [if_pos (by rw [i_lt, c8]; omega)]
    · unfold m_set
      rw [z1, obp_s, if_neg (fun q => g (z2.mp q))]
/-! force -/
theorem c_force {A B : Mem} (h : Rel A B) (a1 : Int32) : Two (x_force A a1) (m_force B a1) := by
  obtain ⟨n, tc, hR⟩ := h.n
  obtain ⟨⟨b1, b2, b3, b4, b5, b6, b7, ⟨r, b8, b9, b10⟩, b11, b12, b13, b14⟩, -⟩ := id hR
  have c0 : (0 : Int32).toInt = 0 := by decide
  have etc : B 0 3 - 1 = nI (tc - 1) := by rw [b7]; exact nI_sub (b := 1) b4
  obtain ⟨z, z1, z2⟩ := in_b (a := a1) (lo := 0) (hi := nI (tc - 1)) (lo' := 0) (hi' := (nI (tc - 1)).toInt64) (by decide) rfl
  rw [c0, i_nI (by omega)] at z2
  unfold x_force m_force
  rw [etc, z1, obp_s, b6, b9, b10]
  by_cases g : 0 ≤ a1.toInt ∧ a1.toInt ≤ ((tc - 1 : Nat) : Int)
  · obtain ⟨k, k1, rfl, k3⟩ := i_ofnat (x := a1) (n := tc - 1) g.1 g.2
    rw [if_neg (nI_pos (by omega)), if_pos (nI_lt (show k < tc by omega) (by omega)), if_pos (z2.mpr g), bnd_s, bnd_s, bnd_s, bnd_s]
    refine ⟨_, _, _, rfl, rfl, RelN.rel (n := n) (tc := tc) ?_⟩
    refine rel_site (r := k) hR (same.rf.wr (by unfold qA; omega)) (same.rf.wr (by unfold qB; omega)) (Nat.le_refl _) b1 ?_ ?_ (by omega) (wr_hit _ _ _ _) (wr_hit _ _ _ _) (fun j hj => ?_) (fun i hi => ?_) ⟨?_, fun i hi => ?_⟩ (fun i hi => wr_off _ _ _ _ _ _ (by omega))
    · rw [wr_off _ _ _ _ _ _ (by omega)]; exact b2
    · rw [wr_off _ _ _ _ _ _ (by omega)]; exact b3
    · rw [wr_off _ _ _ _ _ _ (by omega), wr_off _ _ _ _ _ _ (by omega)]; exact b12 j hj
    · rw [wr_off _ _ _ _ _ _ (by omega), wr_off _ _ _ _ _ _ (by omega), wr_off _ _ _ _ _ _ (by omega), wr_off _ _ _ _ _ _ (by omega), wr_off _ _ _ _ _ _ (by omega), wr_off _ _ _ _ _ _ (by omega), wr_off _ _ _ _ _ _ (by omega), wr_off _ _ _ _ _ _ (by omega)]
      exact b13 i hi
    · rw [wr_off _ _ _ _ _ _ (by omega)]; exact b14.1
    · rw [wr_off _ _ _ _ _ _ (by omega), wr_off _ _ _ _ _ _ (by omega), wr_off _ _ _ _ _ _ (by omega), wr_off _ _ _ _ _ _ (by omega)]
      exact b14.2 i hi
  · refine ⟨A, B, -2, ?_, by rw [if_neg (fun q => g (z2.mp q))], h⟩
    by_cases q : a1 < 0
    · rw [if_pos q]
    · rw [if_neg q]
      rw [i_lt, c0] at q
      rw [if_neg (by rw [i_lt, i_nI (by omega)]; omega)]
/-! feed -/
theorem c_feed {A B : Mem} (h : Rel A B) (a1 : Int32) : Two (x_feed A a1) (m_feed B a1) := by
  obtain ⟨n, tc, hS, ⟨sz, t1, t2, t3, t4⟩, h3, h4, h5⟩ := id h
  have c0 : (0 : Int32).toInt = 0 := by decide
  have c255 : (255 : Int32).toInt = 255 := by decide
  obtain ⟨z, z1, z2⟩ := in_b (a := a1) (lo := 0) (hi := 255) (lo' := 0) (hi' := 255) (by decide) (by decide)
  rw [c0, c255] at z2
  unfold x_feed m_feed f_Tape_add
  rw [z1, obp_s, t2, t3]
  by_cases g : 0 ≤ a1.toInt ∧ a1.toInt ≤ 255
  · obtain ⟨k, k1, rfl, k3⟩ := i_ofnat (x := a1) (n := 255) g.1 g.2
    rw [if_neg (nI_pos (by omega)), if_pos (show nI k ≤ (255 : Int32) from nI_le (b := 255) (by omega) (by omega)), if_pos (z2.mpr g), if_neg (nI_pos (by omega))]
    by_cases q : sz = 160
    · subst q
      rw [if_neg (show ¬ nI 160 < (160 : Int32) by decide), if_pos (show nI 160 = (160 : Int32) by decide), obp2_s]
      exact ⟨A, B, -4, rfl, rfl, h⟩
    · have e160 : ¬ nI sz = (160 : Int32) := fun q2 => q ((nI_eq (a := sz) (b := 160) (by omega) (by omega)).mp q2)
      have eA : wr A 14 sz (nI k) 13 1 = nI sz := by rw [wr_off _ _ _ _ _ _ (by omega)]; exact t2
      have eB : wr B 3 sz (nI k) 0 6 = nI sz := by rw [wr_off _ _ _ _ _ _ (by omega)]; exact t3
      rw [if_pos (show nI sz < (160 : Int32) from nI_lt (b := 160) (by omega) (by omega)), if_neg e160, ck_n _ (show sz < 160 by omega) (by omega), ck_n _ (show sz < 160 by omega) (by omega), nI_cl (by omega), bnd_s, bnd_s, bnd_s, bnd_s, eA, eB, nI_1, obp2_s, wr_hit, wr_hit]
      refine ⟨_, _, _, rfl, rfl, ?_⟩
      have hA : same (fun c _ => c = 14 ∨ c = 13) A (wr (wr A 14 sz (nI k)) 13 1 (nI (sz + 1))) := (same.rf.wr (Or.inl rfl)).wr (Or.inr rfl)
      have hB : same (fun c j => c = 3 ∨ (c = 0 ∧ j = 6)) B (wr (wr B 3 sz (nI k)) 0 6 (nI (sz + 1))) := (same.rf.wr (Or.inl rfl)).wr (Or.inr ⟨rfl, rfl⟩)
      obtain ⟨b1, b2, b3, b4, b5, b6, b7, ⟨r, b8, b9, b10⟩, b11, b12, b13, b14, b15⟩ := hS
      refine ⟨n, tc, ⟨b1, ?_, ?_, b4, b5, ?_, ?_, ⟨r, b8, ?_, ?_⟩, fun t ht => ?_, fun j hj => ?_, fun i hi => ?_, ?_, fun i hi => ?_⟩, ⟨sz + 1, by omega, wr_hit _ _ _ _, wr_hit _ _ _ _, fun j hj => ?_⟩, ?_, fun q hq => ?_, ?_⟩
      · rw [hA _ _ (by omega)]; exact b2
      · rw [hB _ _ (by omega)]; exact b3
      · rw [hA _ _ (by omega)]; exact b6
      · rw [hB _ _ (by omega)]; exact b7
      · rw [hA _ _ (by omega)]; exact b9
      · rw [hB _ _ (by omega)]; exact b10
      · exact (b11 t ht).keep (fun j => hA _ _ (by omega)) (fun j => hA _ _ (by omega)) (fun j => hB _ _ (by omega)) (hB _ _ (by omega))
      · rw [hA _ _ (by omega), hB _ _ (by omega)]; exact b12 j hj
      · rw [hA 3 _ (by omega), hA 4 _ (by omega), hA 5 _ (by omega), hA 6 _ (by omega), hB 5 _ (by omega), hB 6 _ (by omega), hB 7 _ (by omega), hB 8 _ (by omega)]
        exact b13 i hi
      · rw [hB _ _ (by omega)]; exact b14
      · rw [hB 5 _ (by omega), hB 6 _ (by omega), hB 7 _ (by omega), hB 8 _ (by omega)]
        exact b15 i hi
      · have u1 : wr (wr A 14 sz (nI k)) 13 1 (nI (sz + 1)) 14 j = wr A 14 sz (nI k) 14 j := wr_off _ _ _ _ _ _ (by omega)
        have u2 : wr (wr B 3 sz (nI k)) 0 6 (nI (sz + 1)) 3 j = wr B 3 sz (nI k) 3 j := wr_off _ _ _ _ _ _ (by omega)
        rw [u1, u2, wr_at, wr_at]
        by_cases gj : j = sz
        · rw [if_pos ⟨rfl, gj⟩, if_pos ⟨rfl, gj⟩]
          exact ⟨rfl, k, by omega, rfl⟩
        · rw [if_neg (fun q => gj q.2), if_neg (fun q => gj q.2)]
          exact t4 j (by omega)
      · rw [hA _ _ (by omega)]; exact h3
      · rcases h4 q hq with ⟨g1, g2⟩ | ⟨so, z, g1, g2, g3, g4, g5, g6, g7, g8⟩
        · exact Or.inl ⟨by rw [hA _ _ (by omega)]; exact g1, by rw [hB _ _ (by omega)]; exact g2⟩
        · exact Or.inr ⟨so, z, g1, g2, by rw [hA _ _ (by omega)]; exact g3, by rw [hB _ _ (by omega)]; exact g4, by rw [hB _ _ (by omega)]; exact g5, by rw [hA _ _ (by omega)]; exact g6, by rw [hB _ _ (by omega)]; exact g7, fun i hi => by rw [hA _ _ (by omega), hB _ _ (by omega)]; exact g8 i hi⟩
      · rcases h5 with ⟨g1, g2⟩ | ⟨g1, k, r, g2, g3, g4, g5, g6, g7, g8, g9, g10⟩
        · exact Or.inl ⟨by rw [hA _ _ (by omega)]; exact g1, by rw [hB _ _ (by omega)]; exact g2⟩
        · refine Or.inr ⟨by rw [hA _ _ (by omega)]; exact g1, k, r, g2, g3, by rw [hA _ _ (by omega)]; exact g4, by rw [hB _ _ (by omega)]; exact g5, by rw [hA _ _ (by omega)]; exact g6, by rw [hB _ _ (by omega)]; exact g7, fun j hj => by rw [hA _ _ (by omega), hB _ _ (by omega)]; exact g8 j hj, by rw [hB _ _ (by omega)]; exact g9, fun i hi => ?_⟩
          rw [hA 9 _ (by omega), hA 3 _ (by omega), hA 10 _ (by omega), hA 11 _ (by omega), hA 12 _ (by omega), hB 18 _ (by omega), hB 18 _ (by omega), hB 18 _ (by omega)]
          exact g10 i hi
  · rw [if_neg (fun q => g (z2.mp q))]
    refine ⟨A, B, -2, ?_, rfl, h⟩
    by_cases q : a1 < 0
    · rw [if_pos q]
    · rw [if_neg q]
      rw [i_lt, c0] at q
      rw [if_neg (by rw [i_le, c255]; omega)]
