/-! best: the reference's orders -/
def maskP (p : List Nat) : Int32 := bitsF (fun i => p.contains i) 6
theorem mask_bit (p : List Nat) {v : Nat} (hv : v < 6) : (maskP p >>> (nI v &&& 31)) &&& 1 = if p.contains v = true then 1 else 0 := wb_bitsF (fun i => p.contains i) (Nat.le_refl 6) hv
theorem or_p6 : ∀ b0 b1 b2 b3 b4 b5 : Bool, ∀ v, v < 6 → bitsF (p6 b0 b1 b2 b3 b4 b5) 6 ||| (1 <<< (nI v &&& 31)) = bitsF (fun i => p6 b0 b1 b2 b3 b4 b5 i || decide (i = v)) 6 := by decide +kernel
theorem mask_or (p : List Nat) {v : Nat} (hv : v < 6) : maskP p ||| (1 <<< (nI v &&& 31)) = maskP (p ++ [v]) := by
  have e3 : ∀ q : Nat → Bool, ∀ j, j < 6 → p6 (q 0) (q 1) (q 2) (q 3) (q 4) (q 5) j = q j := fun q j hj => by
    match j, hj with
    | 0, _ => rfl
    | 1, _ => rfl
    | 2, _ => rfl
    | 3, _ => rfl
    | 4, _ => rfl
    | 5, _ => rfl
  have e4 := e3 (fun i => p.contains i)
  unfold maskP
  rw [← bitsF_ext 6 e4, or_p6 _ _ _ _ _ _ v hv]
  refine bitsF_ext 6 (fun i hi => ?_)
  rw [e4 i hi]
  simp
def leafM (M : Mem) : Option Mem :=
  ob (m_lives M) fun (M12 : Mem) =>
  jp (fun (u13 : Unit) => bnd (wr M12 0 42 (M12 0 41)) fun (M15 : Mem) => bnd (wr M15 0 43 (M15 0 37)) fun (M16 : Mem) => bnd (wr M16 0 44 0) fun (M17 : Mem) => jp (fun (M18 : Mem) => some M18) fun j19 => m_triesFrom_L76 j19 FU 0 M17) fun j14 =>
  if (M12 0 44) = (-1) then (j14 ()) else (if (M12 0 41) < (M12 0 42) then (j14 ()) else (if (M12 0 41) = (M12 0 42) then (if (M12 0 43) ≤ (M12 0 37) then (some M12) else (j14 ())) else (some M12)))
theorem tries_eq (fu : Nat) (M : Mem) (a b : Int32) : m_triesFrom (fu + 1) M a b = if a = M 0 12 then leafM M else m_triesFrom_L113 (m_triesFrom fu) a b (fun M1 => some M1) FU 0 M := by
  rw [m_triesFrom]
  unfold m_triesB leafM
  rw [jp_s (fun (M1 : Mem) => some M1)]
theorem dfs {n : Nat} (hn : n ≤ 6) (P : List (List Nat) → Mem → Prop) (h12 : ∀ l M, P l M → M 0 12 = nI n) (h9 : ∀ l M k x, k < 6 → P l M → P l (wr M 9 k x))
    (hleaf : ∀ r rs M, P (r :: rs) M → (∀ i, i < n → M 9 i = nI (r.getD i i)) → ∃ M', leafM M = some M' ∧ P rs M' ∧ ∀ j, M' 9 j = M 9 j) :
    ∀ k p rest fuel M, k + p.length = n → k < fuel → P (extP n k p ++ rest) M → (∀ i, i < p.length → M 9 i = nI (p.getD i i)) →
      ∃ M', m_triesFrom fuel M (nI p.length) (maskP p) = some M' ∧ P rest M' ∧ ∀ i, i < p.length → M' 9 i = M 9 i := by
  intro k
  induction k with
  | zero =>
    intro p rest fuel M hk hf hP hM
    obtain ⟨fu, rfl⟩ : ∃ f, fuel = f + 1 := ⟨fuel - 1, by omega⟩
    have hl : p.length = n := by omega
    obtain ⟨M', a1, a2, a3⟩ := hleaf p rest M hP (fun i hi => hM i (by omega))
    refine ⟨M', ?_, a2, fun i _ => a3 i⟩
    rw [tries_eq, h12 _ _ hP, hl, if_pos rfl]
    exact a1
  | succ k ih =>
    intro p rest fuel M hk hf hP hM
    obtain ⟨fu, rfl⟩ : ∃ f, fuel = f + 1 := ⟨fuel - 1, by omega⟩
    have hne : ¬ nI p.length = nI n := fun q => by have := (nI_eq (by omega) (by omega)).mp q; omega
    have loop : ∀ d v fl M, v + d = n → d < fl → P (((List.range' v d).filter (fun v => !p.contains v)).flatMap (fun v => extP n k (p ++ [v])) ++ rest) M → (∀ i, i < p.length → M 9 i = nI (p.getD i i)) →
        ∃ M', m_triesFrom_L113 (m_triesFrom fu) (nI p.length) (maskP p) (fun M1 => some M1) fl (nI v) M = some M' ∧ P rest M' ∧ ∀ i, i < p.length → M' 9 i = M 9 i := by
      intro d
      induction d with
      | zero =>
        intro v fl M hv hfl hP hM
        obtain ⟨fl, rfl⟩ : ∃ f, fl = f + 1 := ⟨fl - 1, by omega⟩
        have hP' : P rest M := by simpa using hP
        refine ⟨M, ?_, hP', fun i _ => rfl⟩
        have : v = n := by omega
        rw [m_triesFrom_L113, h12 _ _ hP, this, if_pos (Int32.le_refl _)]
      | succ d ihd =>
        intro v fl M hv hfl hP hM
        obtain ⟨fl, rfl⟩ : ∃ f, fl = f + 1 := ⟨fl - 1, by omega⟩
        rw [m_triesFrom_L113, h12 _ _ hP, if_neg (nI_ge (show v < n by omega) (by omega)), mask_bit p (by omega)]
        rw [List.range'_succ, List.filter_cons] at hP
        by_cases hc : p.contains v = true
        · rw [if_pos hc, if_neg (by decide), bnd_s, nI_1]
          rw [if_neg (by rw [hc]; decide)] at hP
          exact ihd (v + 1) fl M (by omega) (by omega) hP hM
        · have hcf : p.contains v = false := by simpa using hc
          rw [if_neg hc, if_pos rfl, ck_n _ (show p.length < 6 by omega) (by omega), nI_cl (by omega), bnd_s, mask_or p (by omega), nI_1]
          rw [if_pos (by rw [hcf]; decide), List.flatMap_cons, List.append_assoc] at hP
          have el : (p ++ [v]).length = p.length + 1 := by simp
          obtain ⟨M9, b1, b2, b3⟩ := ih (p ++ [v]) _ fu (wr M 9 p.length (nI v)) (by rw [el]; omega) (by omega) (h9 _ _ _ _ (by omega) hP) (fun i hi => by
            rw [el] at hi
            rw [wr_at]
            by_cases g : i = p.length
            · rw [if_pos ⟨rfl, g⟩, g]; simp
            · rw [if_neg (fun q => g q.2), hM i (by omega)]
              congr 1
              simp [List.getD_eq_getElem?_getD, List.getElem?_append_left (show i < p.length by omega)])
          rw [el] at b1 b3
          rw [b1, obp_s, bnd_s, nI_1]
          have e9 : ∀ i, i < p.length → M9 9 i = M 9 i := fun i hi => by
            rw [b3 i (by omega), wr_off _ _ _ _ _ _ (by omega)]
          obtain ⟨M', c1, c2, c3⟩ := ihd (v + 1) fl M9 (by omega) (by omega) b2 (fun i hi => by rw [e9 i hi]; exact hM i hi)
          exact ⟨M', c1, c2, fun i hi => by rw [c3 i hi, e9 i hi]⟩
    rw [extP, List.range_eq_range'] at hP
    obtain ⟨M', a1, a2, a3⟩ := loop n 0 FU M (by omega) (by unfold FU; omega) hP hM
    refine ⟨M', ?_, a2, a3⟩
    rw [tries_eq, h12 _ _ hP, if_neg hne]
    exact a1
