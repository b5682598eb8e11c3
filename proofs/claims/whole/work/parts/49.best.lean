/-! best: the orders of the walls -/
def extP (n : Nat) : Nat → List Nat → List (List Nat)
  | 0, p => [p]
  | k + 1, p => ((List.range n).filter (fun v => !p.contains v)).flatMap (fun v => extP n k (p ++ [v]))
def Krow (n : Nat) (l : List Nat) : Mem := fun c j => if c = 32 then nI (l.getD j j) else if c = 24 ∧ j = 5 then nI n else 0
def nxOK (n : Nat) (r : List Nat) (t : List (List Nat)) : Bool :=
  match f_Day_nextRow (Krow n r) with
  | none => false
  | some (K, b) => match t with
    | [] => !b
    | r' :: _ => b && (List.range 6).all (fun i => K 32 i == nI (r'.getD i i))
def chkR (n : Nat) : List (List Nat) → Bool
  | [] => true
  | r :: t => nxOK n r t && (r.length == n) && r.all (fun x => decide (x < n)) && chkR n t
theorem chk_all : ∀ n, n < 7 → chkR n (extP n n []) = true ∧ (extP n n []).head? = some (List.range n) ∧ (extP n n []).length ≤ 720 := by decide +kernel
def liftR (M K : Mem) : Mem := fun c j => if c = 32 ∧ j < 6 then K c j else M c j
theorem liftR_in {M K : Mem} {j : Nat} (h : j < 6) : liftR M K 32 j = K 32 j := if_pos ⟨rfl, h⟩
theorem liftR_out {M K : Mem} {c j : Nat} (h : ¬ c = 32) : liftR M K c j = M c j := if_neg (fun q => h q.1)
theorem liftR_wr {M K : Mem} {k : Nat} {v : Int32} (h : k < 6) : wr (liftR M K) 32 k v = liftR M (wr K 32 k v) := by
  funext c j
  unfold liftR
  rw [wr_at, wr_at]
  by_cases g : c = 32 ∧ j = k
  · rw [if_pos g, if_pos ⟨g.1, by omega⟩, if_pos g]
  · rw [if_neg g, if_neg g]
def Fr (M : Mem) (x : Option (Mem × Bool)) : Option (Mem × Bool) := match x with
  | none => none
  | some (K, b) => some (liftR M K, b)
theorem ck_no {β : Type} {i : Int32} {n : Nat} {x : Option β} (h : i < 0 ∨ n ≤ i.toNatClampNeg) : ck i n x = none := if_pos h
theorem ck_ok {β : Type} {i : Int32} {n : Nat} {x : Option β} (h : ¬ (i < 0 ∨ n ≤ i.toNatClampNeg)) : ck i n x = x := if_neg h
theorem swap_lift (M K : Mem) (a b : Int32) : (f_Day_swap K a b = none ∧ f_Day_swap (liftR M K) a b = none) ∨ ∃ K', f_Day_swap K a b = some K' ∧ f_Day_swap (liftR M K) a b = some (liftR M K') := by
  unfold f_Day_swap
  by_cases ha : a < 0 ∨ 6 ≤ a.toNatClampNeg
  · exact Or.inl ⟨ck_no ha, ck_no ha⟩
  · by_cases hb : b < 0 ∨ 6 ≤ b.toNatClampNeg
    · rw [ck_ok ha, ck_ok ha, bnd_s, bnd_s]
      exact Or.inl ⟨ck_no hb, ck_no hb⟩
    · have a6 : a.toNatClampNeg < 6 := by omega
      have b6 : b.toNatClampNeg < 6 := by omega
      refine Or.inr ⟨wr (wr K 32 a.toNatClampNeg (K 32 b.toNatClampNeg)) 32 b.toNatClampNeg (K 32 a.toNatClampNeg), ?_, ?_⟩
      · simp only [ck_ok ha, ck_ok hb, bnd_s]
      · simp only [ck_ok ha, ck_ok hb, bnd_s, liftR_in a6, liftR_in b6, liftR_wr a6, liftR_wr b6]
theorem L96_lift (M : Mem) {jM jK : Mem → Option (Mem × Bool)} (hj : ∀ K, jM (liftR M K) = Fr M (jK K)) : ∀ fu a b K, f_Day_nextRow_L96 jM fu a b (liftR M K) = Fr M (f_Day_nextRow_L96 jK fu a b K) := by
  intro fu
  induction fu with
  | zero => intro a b K; rfl
  | succ fu ih =>
    intro a b K
    rw [f_Day_nextRow_L96, f_Day_nextRow_L96]
    by_cases h : b ≤ a
    · rw [if_pos h, if_pos h]; exact hj K
    · rw [if_neg h, if_neg h]
      rcases swap_lift M K a b with ⟨h1, h2⟩ | ⟨K', h1, h2⟩
      · rw [h1, h2]; rfl
      · rw [h1, h2, obp_s, obp_s]
        simp only [bnd_s]
        exact ih _ _ K'
theorem L54_lift (M K : Mem) (v3 : Int32) {jM jK : Int32 → Option (Mem × Bool)} (hj : ∀ v, jM v = Fr M (jK v)) : ∀ fu v, f_Day_nextRow_L54 (liftR M K) v3 jM fu v = Fr M (f_Day_nextRow_L54 K v3 jK fu v) := by
  intro fu
  induction fu with
  | zero => intro v; rfl
  | succ fu ih =>
    intro v
    rw [f_Day_nextRow_L54, f_Day_nextRow_L54]
    by_cases h : v ≤ v3
    · rw [if_pos h, if_pos h]; exact hj v
    · rw [if_neg h, if_neg h]
      by_cases ha : v < 0 ∨ 6 ≤ v.toNatClampNeg
      · rw [ck_no ha, ck_no ha]; rfl
      · rw [ck_ok ha, ck_ok ha]
        by_cases hb : v3 < 0 ∨ 6 ≤ v3.toNatClampNeg
        · rw [ck_no hb, ck_no hb]; rfl
        · rw [ck_ok hb, ck_ok hb, liftR_in (by omega), liftR_in (by omega)]
          by_cases hc : K 32 v3.toNatClampNeg ≤ K 32 v.toNatClampNeg
          · rw [if_pos hc, if_pos hc]; exact hj v
          · rw [if_neg hc, if_neg hc]
            simp only [bnd_s]
            exact ih _
theorem L17_lift (M K : Mem) {jM jK : Int32 → Option (Mem × Bool)} (hj : ∀ v, jM v = Fr M (jK v)) : ∀ fu v, f_Day_nextRow_L17 (liftR M K) jM fu v = Fr M (f_Day_nextRow_L17 K jK fu v) := by
  intro fu
  induction fu with
  | zero => intro v; rfl
  | succ fu ih =>
    intro v
    rw [f_Day_nextRow_L17, f_Day_nextRow_L17]
    by_cases h : v < 0
    · rw [if_pos h, if_pos h]; exact hj v
    · rw [if_neg h, if_neg h]
      by_cases ha : v < 0 ∨ 6 ≤ v.toNatClampNeg
      · rw [ck_no ha, ck_no ha]; rfl
      · rw [ck_ok ha, ck_ok ha]
        by_cases hb : v + 1 < 0 ∨ 6 ≤ (v + 1).toNatClampNeg
        · rw [ck_no hb, ck_no hb]; rfl
        · rw [ck_ok hb, ck_ok hb, liftR_in (by omega), liftR_in (by omega)]
          by_cases hc : K 32 v.toNatClampNeg ≤ K 32 (v + 1).toNatClampNeg
          · rw [if_pos hc, if_pos hc]; exact hj v
          · rw [if_neg hc, if_neg hc]
            simp only [bnd_s]
            exact ih _
theorem nextRow_lift (M K : Mem) (h : M 24 5 = K 24 5) : f_Day_nextRow (liftR M K) = Fr M (f_Day_nextRow K) := by
  unfold f_Day_nextRow
  simp only [bnd_s, jp_s]
  rw [liftR_out (show ¬ 24 = 32 by omega), h]
  refine L17_lift M K (fun v => ?_) FU _
  by_cases g : 0 ≤ v
  · rw [if_pos g, if_pos g]
    refine L54_lift M K v (fun w => ?_) FU _
    rcases swap_lift M K v w with ⟨h1, h2⟩ | ⟨K', h1, h2⟩
    · rw [h1, h2]; rfl
    · rw [h1, h2, obp_s, obp_s]
      exact L96_lift M (fun K => rfl) FU _ _ K'
  · rw [if_neg g, if_neg g]
    rfl
/-- the class's next order -/
theorem nextR_cl {M : Mem} {n : Nat} {r : List Nat} {t : List (List Nat)} (hc : chkR n (r :: t) = true) (h1 : M 24 5 = nI n) (h2 : ∀ i, i < 6 → M 32 i = nI (r.getD i i)) :
    ∃ M', f_Day_nextRow M = some (M', !t.isEmpty) ∧ same (fun c _ => c = 32) M M' ∧ (∀ r' t', t = r' :: t' → ∀ i, i < 6 → M' 32 i = nI (r'.getD i i)) := by
  have eM : M = liftR M (Krow n r) := by
    funext c j
    unfold liftR
    by_cases g : c = 32 ∧ j < 6
    · rw [if_pos g, g.1, h2 j g.2]
      exact (if_pos rfl).symm
    · rw [if_neg g]
  have e24 : M 24 5 = Krow n r 24 5 := by rw [h1]; exact ((if_neg (by omega)).trans (if_pos ⟨rfl, rfl⟩)).symm
  have eN := nextRow_lift M (Krow n r) e24
  rw [← eM] at eN
  have hn : nxOK n r t = true := by
    unfold chkR at hc
    simp only [Bool.and_eq_true] at hc
    exact hc.1.1.1
  unfold nxOK at hn
  cases hK : f_Day_nextRow (Krow n r) with
  | none => rw [hK] at hn; cases hn
  | some x =>
    obtain ⟨K, b⟩ := x
    rw [hK] at eN hn
    refine ⟨liftR M K, ?_, fun c j g => liftR_out g, ?_⟩
    · cases t with
      | nil =>
        have hb : b = false := by simpa using hn
        subst hb
        exact eN
      | cons r' t' =>
        have hb : b = true := by
          simp only [Bool.and_eq_true] at hn
          exact hn.1
        subst hb
        exact eN
    · rintro r' t' rfl i hi
      simp only [Bool.and_eq_true, List.all_eq_true, List.mem_range, beq_iff_eq] at hn
      rw [liftR_in hi]
      exact hn.2 i hi
