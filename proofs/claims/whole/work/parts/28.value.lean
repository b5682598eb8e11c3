/-! a TEXT's part, reckoned from its codes -/
def Stk (M : Mem) : List Int32 → Prop
  | [] => True
  | x :: s => M 30 s.length = x ∧ Stk M s
theorem Stk.wr {M : Mem} {k : Nat} {x : Int32} : ∀ s : List Int32, s.length ≤ k → Stk M s → Stk (wr M 30 k x) s := by
  intro s
  induction s with
  | nil => intro _ _; trivial
  | cons y s ih =>
    intro h1 h2
    have h1 : s.length + 1 ≤ k := h1
    exact ⟨by rw [wr_off _ _ _ _ _ _ (by omega)]; exact h2.1, ih (by omega) h2.2⟩
theorem neg_m {c : Int32} (h1 : ¬ c < -6) (h2 : c < 0) : ∃ u, 1 ≤ u ∧ u ≤ 6 ∧ -c = nI u := by
  rw [i_lt] at h1 h2
  have e6 : (-6 : Int32).toInt = -6 := by decide
  have e0 : (0 : Int32).toInt = 0 := by decide
  have hn : (-c).toInt = -c.toInt := by
    rw [Int32.toInt_neg]
    exact Int.bmod_eq_of_le (by omega) (by omega)
  refine ⟨(-c.toInt).toNat, by omega, by omega, ?_⟩
  rw [i_eq, hn, i_nI (by omega)]
  omega
theorem value_loop {M0 : Mem} {t q i0 i1 : Nat} {nm : Nat → Int32} (hq : q < 3) (h01 : i0 ≤ i1) (h1 : i1 ≤ 160) (ht : 30 < t) (he : M0 (t + 2) (q + 1) = nI i1) (hnm : ∀ u, 1 ≤ u → u ≤ 6 → M0 31 (u - 1) = nm u) (j4 : Int32 → Mem → Option (Mem × Int32)) :
    ∀ fu i M s, i0 ≤ i → i ≤ i1 → i1 < fu + i → Stk M s → s.length + i0 ≤ i → s = evr nm (M0 (t + 1)) i0 (i - i0) [] → same (fun c _ => c = 30) M0 M →
      ∃ M' s', f_Text_value_L26 t (nI q) j4 fu (nI s.length) (nI i) M = j4 (nI s'.length) M' ∧ s' = evr nm (M0 (t + 1)) i0 (i1 - i0) [] ∧ s'.length ≤ 160 ∧ Stk M' s' ∧ same (fun c _ => c = 30) M0 M' := by
  intro fu
  induction fu with
  | zero => intro i M s a1 a2 a3; omega
  | succ fu ih =>
    intro i M s a1 a2 a3 hS hlen hs hsm
    have hM : M (t + 2) (q + 1) = nI i1 := by rw [hsm _ _ (by omega)]; exact he
    have hMf : ∀ j, M (t + 1) j = M0 (t + 1) j := fun j => hsm _ _ (by omega)
    by_cases hi : i = i1
    · subst hi
      refine ⟨M, s, ?_, hs, by omega, hS, hsm⟩
      simp only [f_Text_value_L26, nI_1, ck_n _ (show q + 1 < 4 by omega) (show 4 < 2 ^ 31 by omega), nI_cl (show q + 1 < 2 ^ 31 by omega), hM, if_pos (Int32.le_refl (nI i))]
    · have g1 : ¬ nI i1 ≤ nI i := nI_ge (by omega) (by omega)
      have g2 : ¬ (160 : Int32) ≤ nI i := nI_ge (b := 160) (by omega) (by omega)
      obtain ⟨cd, hcd⟩ : ∃ cd, cd = M0 (t + 1) i := ⟨_, rfl⟩
      have hnext : evr nm (M0 (t + 1)) i0 (i + 1 - i0) [] = ev nm cd s := by
        have e1 : i + 1 - i0 = (i - i0) + 1 := by omega
        rw [e1, evr, ← hs, hcd]
        congr 2
        omega
      -- the step: a stack s2 and a memory M2
      have go : ∀ (s2 : List Int32) (m m2 : Nat) (M2 : Mem), s.length = m → s2.length = m2 → f_Text_value_L26 t (nI q) j4 (fu + 1) (nI m) (nI i) M = f_Text_value_L26 t (nI q) j4 fu (nI m2) (nI (i + 1)) M2 → s2 = ev nm cd s → m2 ≤ m + 1 → Stk M2 s2 → same (fun c _ => c = 30) M0 M2 →
          ∃ M' s', f_Text_value_L26 t (nI q) j4 (fu + 1) (nI s.length) (nI i) M = j4 (nI s'.length) M' ∧ s' = evr nm (M0 (t + 1)) i0 (i1 - i0) [] ∧ s'.length ≤ 160 ∧ Stk M' s' ∧ same (fun c _ => c = 30) M0 M' := fun s2 m m2 M2 hm hm2 hb h2 hl h3 h4 => by
        rw [hm, hb, ← hm2]
        exact ih (i + 1) M2 s2 (by omega) (by omega) (by omega) h3 (by omega) (by rw [hnext]; exact h2) h4
      clear ih
      have hbody : ∀ m : Nat, f_Text_value_L26 t (nI q) j4 (fu + 1) (nI m) (nI i) M = (if cd < -6 then
          (if cd = -12 ∨ cd = -16 then
            (if nI m ≤ 0 then f_Text_value_L26 t (nI q) j4 fu (nI m) (nI (i + 1)) M
             else jp (fun (v13 : Int32) => ck (nI m - 1) 160 <| bnd (wr M 30 (nI m - 1).toNatClampNeg v13) fun (M15 : Mem) => f_Text_value_L26 t (nI q) j4 fu (nI m) (nI (i + 1)) M15) fun j14 =>
               if cd = -16 then ck (nI m - 1) 160 <| j14 (-(M 30 (nI m - 1).toNatClampNeg)) else ck (nI m - 1) 160 <| if M 30 (nI m - 1).toNatClampNeg = 0 then j14 1 else j14 0)
           else (if nI m ≤ 1 then f_Text_value_L26 t (nI q) j4 fu (nI m) (nI (i + 1)) M
             else bnd (nI m + (-1)) fun (v18 : Int32) => ck (v18 - 1) 160 <| ck v18 160 <| ob (f_Text_joined (-cd) (M 30 (v18 - 1).toNatClampNeg) (M 30 v18.toNatClampNeg)) fun (v20 : Int32) => ck (v18 - 1) 160 <| bnd (wr M 30 (v18 - 1).toNatClampNeg v20) fun (M21 : Mem) => f_Text_value_L26 t (nI q) j4 fu v18 (nI (i + 1)) M21))
         else bnd ((-cd) - 1) fun (v23 : Int32) => if 160 ≤ nI m then f_Text_value_L26 t (nI q) j4 fu (nI m) (nI (i + 1)) M else jp (fun (v25 : Int32) => ck (nI m) 160 <| bnd (wr M 30 (nI m).toNatClampNeg v25) fun (M27 : Mem) => f_Text_value_L26 t (nI q) j4 fu (nI (m + 1)) (nI (i + 1)) M27) fun j26 => if cd < 0 then (if 6 ≤ v23 then j26 0 else ck v23 6 <| j26 (M 31 v23.toNatClampNeg)) else j26 cd) := by
        intro m
        simp only [f_Text_value_L26, nI_1, ck_n _ (show q + 1 < 4 by omega) (show 4 < 2 ^ 31 by omega), nI_cl (show q + 1 < 2 ^ 31 by omega), hM, if_neg g1, if_neg g2, ck_n _ (show i < 160 by omega) (show 160 < 2 ^ 31 by omega), nI_cl (show i < 2 ^ 31 by omega), bnd_s, hMf, ← hcd]
        by_cases c6 : cd < -6
        · rw [if_pos c6, if_pos c6, jp_s]
          by_cases c12 : cd = -12
          · rw [if_pos c12, if_pos (Or.inl c12)]
          · rw [if_neg c12]
            by_cases c16 : cd = -16
            · rw [if_pos c16, if_pos (Or.inr c16)]
            · have cu : ¬ (cd = -12 ∨ cd = -16) := fun h => h.elim c12 c16
              rw [if_neg c16, if_neg cu]
        · rw [if_neg c6, if_neg c6]
      by_cases c6 : cd < -6
      · by_cases cu : cd = -12 ∨ cd = -16
        · cases s with
          | nil =>
            refine go [] 0 0 M rfl rfl ?_ ?_ (by omega) trivial hsm
            · rw [hbody, if_pos c6, if_pos cu, if_pos (by decide)]
            · unfold ev; rw [if_pos c6, if_pos cu]
          | cons x s =>
            have hl : (x :: s).length = s.length + 1 := rfl
            have e1 : nI (s.length + 1) - 1 = nI s.length := nI_pred s.length
            have n0 : ¬ nI (s.length + 1) ≤ 0 := nI_nle (by omega) (by omega)
            have hx : M 30 s.length = x := hS.1
            refine go ((if cd = -16 then -x else if x = 0 then 1 else 0) :: s) (s.length + 1) (s.length + 1) (wr M 30 s.length (if cd = -16 then -x else if x = 0 then 1 else 0)) rfl rfl ?_ ?_ (by omega) ⟨wr_hit _ _ _ _, hS.2.wr s (Nat.le_refl _)⟩ (hsm.wr rfl)
            · rw [hbody, if_pos c6, if_pos cu, if_neg n0, e1]
              have hlen' : s.length < 160 := by omega
              simp only [jp_s, ck_n _ hlen' (show 160 < 2 ^ 31 by omega), nI_cl (show s.length < 2 ^ 31 by omega), hx, bnd_s]
              by_cases c16 : cd = -16
              · rw [if_pos c16, if_pos c16]
              · rw [if_neg c16, if_neg c16]
                by_cases cx : x = 0
                · rw [if_pos cx, if_pos cx]
                · rw [if_neg cx, if_neg cx]
            · unfold ev; rw [if_pos c6, if_pos cu]
        · match s, hS, hlen, hs, hnext, go with
          | [], hS, hlen, hs, hnext, go =>
            refine go [] 0 0 M rfl rfl ?_ ?_ (by omega) trivial hsm
            · rw [hbody, if_pos c6, if_neg cu, if_pos (by decide)]
            · unfold ev; rw [if_pos c6, if_neg cu]
          | [x], hS, hlen, hs, hnext, go =>
            refine go [x] 1 1 M rfl rfl ?_ ?_ (by omega) hS hsm
            · rw [hbody, if_pos c6, if_neg cu, if_pos (show nI 1 ≤ 1 by decide)]
            · unfold ev; rw [if_pos c6, if_neg cu]
          | y :: x :: s, hS, hlen, hs, hnext, go =>
            have hl : (y :: x :: s).length = s.length + 2 := rfl
            have e1 : nI (s.length + 2) + (-1) = nI (s.length + 1) := by
              rw [← Int32.sub_eq_add_neg]
              exact nI_pred (s.length + 1)
            have e2 : nI (s.length + 1) - 1 = nI s.length := nI_pred s.length
            have n0 : ¬ nI (s.length + 2) ≤ 1 := nI_ge (a := 1) (by omega) (by omega)
            have hy : M 30 (s.length + 1) = y := hS.1
            have hx : M 30 s.length = x := hS.2.1
            refine go (jn (-cd) x y :: s) (s.length + 2) (s.length + 1) (wr M 30 s.length (jn (-cd) x y)) rfl rfl ?_ ?_ (by omega) ⟨wr_hit _ _ _ _, hS.2.2.wr s (Nat.le_refl _)⟩ (hsm.wr rfl)
            · rw [hbody, if_pos c6, if_neg cu, if_neg n0, bnd_s, e1, e2]
              simp only [ck_n _ (show s.length < 160 by omega) (show 160 < 2 ^ 31 by omega), ck_n _ (show s.length + 1 < 160 by omega) (show 160 < 2 ^ 31 by omega), nI_cl (show s.length < 2 ^ 31 by omega), nI_cl (show s.length + 1 < 2 ^ 31 by omega), hx, hy, joined_ok, ob_s, bnd_s]
            · unfold ev; rw [if_pos c6, if_neg cu]
      · have hlen' : s.length < 160 := by omega
        have n0 : ¬ (160 : Int32) ≤ nI s.length := nI_ge (b := 160) hlen' (by omega)
        refine go ((if cd < 0 then nm (-cd).toNatClampNeg else cd) :: s) s.length (s.length + 1) (wr M 30 s.length (if cd < 0 then nm (-cd).toNatClampNeg else cd)) rfl rfl ?_ ?_ (by omega) ⟨wr_hit _ _ _ _, hS.wr s (Nat.le_refl _)⟩ (hsm.wr rfl)
        · rw [hbody, if_neg c6, bnd_s, if_neg n0, jp_s]
          simp only [ck_n _ hlen' (show 160 < 2 ^ 31 by omega), nI_cl (show s.length < 2 ^ 31 by omega), bnd_s]
          by_cases c0 : cd < 0
          · obtain ⟨u, u1, u2, hu⟩ := neg_m c6 c0
            have e1 : nI u - 1 = nI (u - 1) := nI_sub (b := 1) u1
            have n6 : ¬ (6 : Int32) ≤ nI (u - 1) := nI_ge (b := 6) (by omega) (by omega)
            have hMn : M 31 (u - 1) = nm u := by rw [hsm 31 _ (by omega)]; exact hnm u u1 u2
            rw [if_pos c0, if_pos c0, hu, e1, if_neg n6, ck_n _ (show u - 1 < 6 by omega) (show 6 < 2 ^ 31 by omega), nI_cl (show u - 1 < 2 ^ 31 by omega), nI_cl (show u < 2 ^ 31 by omega), hMn]
          · rw [if_neg c0, if_neg c0]
        · unfold ev; rw [if_neg c6]
theorem value_ok {M : Mem} {t q i0 i1 : Nat} {nm : Nat → Int32} {v : Int32} (hq : q < 3) (h01 : i0 ≤ i1) (h1 : i1 ≤ 160) (ht : 30 < t) (he0 : M (t + 2) q = nI i0) (he : M (t + 2) (q + 1) = nI i1) (hnm : ∀ u, 1 ≤ u → u ≤ 6 → M 31 (u - 1) = nm u) (hv : evr nm (M (t + 1)) i0 (i1 - i0) [] = [v]) :
    ∃ M', f_Text_value M t (nI q) = some (M', v) ∧ same (fun c _ => c = 30) M M' := by
  obtain ⟨M', s', a1, a2, a3, a4, a5⟩ := value_loop hq h01 h1 ht he hnm (fun (v2 : Int32) (M3 : Mem) => if v2 ≤ 0 then (some (M3, 0)) else (ck (v2 - 1) 160 <| some (M3, (M3 30 (v2 - 1).toNatClampNeg)))) FU i0 M [] (Nat.le_refl _) h01 (by unfold FU; omega) trivial (by simp) (by rw [Nat.sub_self]; rfl) same.rf
  rw [hv] at a2
  subst a2
  refine ⟨M', ?_, a5⟩
  have hm : imax 0 (nI i0) = nI i0 := by
    unfold imax
    by_cases g : (0 : Int32) < nI i0
    · rw [if_pos g]
    · rw [if_neg g]
      have : i0 = 0 := by
        rcases Nat.eq_zero_or_pos i0 with h | h
        · exact h
        · exact absurd (nI_lt (a := 0) h (by omega)) g
      subst this
      rfl
  have hx : M' 30 0 = v := a4.1
  have e3 : f_Text_value M t (nI q) = f_Text_value_L26 t (nI q) (fun (v2 : Int32) (M3 : Mem) => if v2 ≤ 0 then (some (M3, 0)) else (ck (v2 - 1) 160 <| some (M3, (M3 30 (v2 - 1).toNatClampNeg)))) FU (nI 0) (nI i0) M := by
    unfold f_Text_value
    rw [if_neg (nI_pos (by omega)), if_pos (show nI q < (3 : Int32) from nI_lt (b := 3) hq (by omega)), ck_n _ (show q < 4 by omega) (show 4 < 2 ^ 31 by omega), nI_cl (by omega), he0, hm, bnd_s, jp_s]
    rfl
  rw [e3]
  have a1 : f_Text_value_L26 t (nI q) (fun (v2 : Int32) (M3 : Mem) => if v2 ≤ 0 then (some (M3, 0)) else (ck (v2 - 1) 160 <| some (M3, (M3 30 (v2 - 1).toNatClampNeg)))) FU (nI 0) (nI i0) M = (if nI 1 ≤ 0 then (some (M', 0)) else (ck (nI 1 - 1) 160 <| some (M', (M' 30 (nI 1 - 1).toNatClampNeg)))) := a1
  have e9 : nI 1 - 1 = nI 0 := nI_pred 0
  rw [a1, if_neg (show ¬ nI 1 ≤ 0 by decide), e9, ck_n _ (show 0 < 160 by omega) (show 160 < 2 ^ 31 by omega), nI_cl (show 0 < 2 ^ 31 by omega), hx]
