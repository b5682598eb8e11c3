theorem range_getD (n i : Nat) : (List.range n).getD i i = i := by
  by_cases h : i < n
  · simp [List.getD_eq_getElem?_getD, h]
  · simp [List.getD_eq_getElem?_getD, h]
theorem c_best {A B : Mem} (h : Rel A B) (a1 : Int32) : Two (x_best A a1) (m_best B a1) := by
  have c0 : (0 : Int32).toInt = 0 := by decide
  have c2 : (2 : Int32).toInt = 2 := by decide
  obtain ⟨z, z1, z2⟩ := in_b (a := a1) (lo := 0) (hi := 2) (lo' := 0) (hi' := 2) (by decide) (by decide)
  rw [c0, c2] at z2
  by_cases hs : 0 ≤ a1.toInt ∧ a1.toInt ≤ 2
  · have hz : z = true := z2.mpr hs
    subst hz
    obtain ⟨n, tc, hS, hrest⟩ := id h
    have hn6 := hS.1
    obtain ⟨A1, r, t1, t2, t3, t4, t5⟩ := trialY hS
    obtain ⟨Ar, r1, r2, r3⟩ := reckon_cl t2
    obtain ⟨Bg, g1, g2, g3⟩ := gathers_rf t2
    obtain ⟨A6, hA6⟩ : ∃ A6 : Mem, A6 = wr Ar 40 0 0 := ⟨_, rfl⟩
    obtain ⟨B6, hB6⟩ : ∃ B6 : Mem, B6 = wr (wr Bg 0 29 (nI n)) 0 44 (-1) := ⟨_, rfl⟩
    obtain ⟨B2, hB2⟩ : ∃ B2 : Mem, B2 = fun c j => if c = 9 then nI j else wr Bg 0 29 (nI n) c j := ⟨_, rfl⟩
    have e9 : ∀ j, B2 9 j = nI j := fun j => by rw [hB2]; exact if_pos rfl
    have eo : ∀ c j, ¬ c = 9 → B2 c j = wr Bg 0 29 (nI n) c j := fun c j g => by rw [hB2]; exact if_neg g
    have eg12 : Bg 0 12 = nI n := by rw [g2 _ _ (by omega)]; exact hS.2.2.1
    have hR : Ready Ar B2 n n r (fun i => i) := ready_of t2 r2 r3 g2 g3 (fun c j g => by rw [eo c j (fun q => g (Or.inl q)), wr_off _ _ _ _ _ _ (fun q => g (Or.inr q))]) (fun i hi => ⟨hi, t3 i (by omega), e9 i⟩) (by rw [eo 0 29 (by omega), wr_hit])
    obtain ⟨k1, k2, k3⟩ := chk_all n (by omega)
    obtain ⟨j8, hj8⟩ : ∃ j8 : Mem → Option (Mem × Int32), j8 = fun (M7 : Mem) => if a1 = 0 then (some (M7, (M7 40 2))) else (if a1 = 1 then (some (M7, (M7 40 3))) else (some (M7, (M7 40 1)))) := ⟨_, rfl⟩
    obtain ⟨y, hy⟩ : ∃ y, y = x_best_L34 j8 FU 1 0 A6 := ⟨_, rfl⟩
    have hsB : same bB B2 B6 := fun c j g => by
      rw [eo c j (fun q => g (Or.inl q)), hB6, wr_off _ _ _ _ _ _ (fun q => g (by unfold bB; omega))]
    have hP : BP n r j8 y Ar B2 (extP n n [] ++ []) B6 := by
      rw [List.append_nil]
      refine ⟨A6, 0, FU, ?_, by rw [hA6]; exact same.rf.wr (by unfold bA; omega), hsB, Or.inl ⟨by rw [hA6, wr_hit], by rw [hB6, wr_hit]⟩, by omega, by unfold FU; omega, k1, fun r' t e i hi => ?_, fun e => ?_⟩
      · rw [hy]
        cases hL : extP n n [] with
        | nil => rw [hL] at k2; cases k2
        | cons a b => rfl
      · rw [e] at k2
        have : r' = List.range n := by simpa using k2
        rw [this, range_getD, hA6, wr_off _ _ _ _ _ _ (by omega), r2 _ _ (by omega)]
        exact t3 i hi
      · rw [e] at k2; cases k2
    obtain ⟨M', d1, d2, -⟩ := dfs hn6 (BP n r j8 y Ar B2) (fun l M hM => by
        obtain ⟨A, v10, fu, -, -, sB, -⟩ := hM
        rw [sB _ _ (by unfold bB; omega)]; exact hR.1.2.2.2.1) (fun l M k x hk hM => by
        obtain ⟨A, v10, fu, m1, m2, m3, m4, m5⟩ := hM
        exact ⟨A, v10, fu, m1, m2, m3.wr (by unfold bB; omega), by rw [wr_off _ _ _ _ _ _ (by omega), wr_off _ _ _ _ _ _ (by omega), wr_off _ _ _ _ _ _ (by omega)]; exact m4, by rw [wr_off _ _ _ _ _ _ (by omega)]; exact m5⟩) (fun r' rs M hM h9 => best_leaf hn6 hR r' rs M hM h9) n [] [] 8 B6 rfl (by omega) hP (fun i hi => absurd hi (Nat.not_lt_zero i))
    obtain ⟨A', v10, fu, m1, m2, m3, m4, m5, m6, m7, m8, m9⟩ := d2
    obtain ⟨fu, rfl⟩ : ∃ f, fu = f + 1 := ⟨fu - 1, by simp only [List.length_nil] at m6; omega⟩
    have hl : y = j8 A' := by
      rw [m1, x_best_L34]
      by_cases q : (720 : Int32) ≤ nI v10
      · rw [if_pos q]
      · have e0 : (if (([] : List (List Nat)).isEmpty = true) then (0 : Int32) else 1) = 0 := rfl
        rw [if_neg q, if_pos e0]
    obtain ⟨q0, q1, q2, q3, q4⟩ := m4.resolve_left (fun g => m9 rfl g.2)
    have sA : same pX A A' := (t4.mono (fun c j g => pY_X g)).trans ((r2.mono (fun c j g => by unfold pX; omega)).trans (m2.mono (fun c j g => by unfold bA at g; unfold pX; omega)))
    have sB : same pT B M' := fun c j g => by
      have ng : ¬ c = 9 := fun q => g (by unfold pT; omega)
      rw [m3 c j (fun q => g (by unfold bB at q; unfold pT; omega)), eo c j ng, wr_off _ _ _ _ _ _ (fun q => g (by unfold pT; omega)), g2 c j (fun q => g (by unfold pT; omega))]
    refine ⟨A', M', if a1 = 0 then M' 0 42 else if a1 = 1 then M' 0 43 else M' 0 44, ?_, ?_, h.keep sA sB⟩
    · unfold x_best f_Pick_clear
      rw [if_neg (by rw [i_lt, c0]; omega), if_pos (by rw [i_le, c2]; omega), t1, obp_s, r1, obp_s, bnd_s, obp_s, jp_s, ← hA6, ← hj8, ← hy, hl, hj8]
      show (if a1 = 0 then some (A', A' 40 2) else if a1 = 1 then some (A', A' 40 3) else some (A', A' 40 1)) = _
      rw [q1, q2, q3]
      by_cases w0 : a1 = 0
      · rw [if_pos w0, if_pos w0]
      · rw [if_neg w0, if_neg w0]
        by_cases w1 : a1 = 1
        · rw [if_pos w1, if_pos w1]
        · rw [if_neg w1, if_neg w1]
    · unfold m_best
      have em : maskP [] = 0 := by decide
      have d1 : m_triesFrom 8 B6 0 0 = some M' := by rw [← em]; exact d1
      rw [z1, obp_s, if_pos rfl, g1, obp_s, eg12, bnd_s, bnd_s, ← hB6, d1, obp_s]
      by_cases w0 : a1 = 0
      · rw [if_pos w0, if_pos w0]
      · rw [if_neg w0, if_neg w0]
        by_cases w1 : a1 = 1
        · rw [if_pos w1, if_pos w1]
        · rw [if_neg w1, if_neg w1]
  · have hz : z = false := by
      cases z with
      | false => rfl
      | true => exact absurd (z2.mp rfl) hs
    subst hz
    refine ⟨A, B, -2, ?_, ?_, h⟩
    · unfold x_best
      by_cases g : a1 < 0
      · rw [if_pos g]
      · rw [if_neg g]
        rw [i_lt, c0] at g
        rw [if_neg (by rw [i_le, c2]; omega)]
    · unfold m_best
      rw [z1, obp_s]
      rfl
