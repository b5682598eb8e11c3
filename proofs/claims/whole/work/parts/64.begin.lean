/-! the law's start: what the Statement gives of it -/
theorem tb_of {w : Cond} (i : Nat) (h : lw_tbl[i]? = some w) : w ∈ lw_tbl := List.mem_of_getElem? h
theorem arr_prim {s : State} {args : Array Value} {ty : FieldType} (h : (Cond.arrayClass ty).before args s = true) : ∃ cA : ClassId, ArrOfT s cA ty ∧ s.vm.findClass ("[" ++ ty.toString) = some cA := by
  obtain ⟨cA, kA, comp, h1, h2, h3⟩ := Cond.arrayClass_spec h
  exact ⟨cA, fun n z => ⟨fun k h => (by cases h), kA, h2, comp, h3⟩, h1⟩
theorem arr_obj {s : State} {args : Array Value} {C : String} (h : (Cond.arrayOver (.object C)).before args s = true) : ∃ cA : ClassId, ArrOfT s cA (.object C) ∧ va_RA s cA (.object C) := by
  obtain ⟨comp, c, k, h1, h2, h3, h4, h5⟩ := Cond.arrayOver_spec h
  exact ⟨c, fun n z => ⟨fun k h => (by cases h), k, h3, comp, h4⟩, k, comp, h3, h4, h1, h5⟩
set_option maxRecDepth 100000 in
theorem st_C {s : State} {b : Nat} (hts : ∀ w ∈ lw_tbl, w.before #[Value.ref b] s = true) : ∃ (dC : Nat → ClassId) (dI : Nat → Nat → Nat), ∀ (k : Nat) (q : vw_C), vwCl[k]? = some q → u_Kn s q.1 q.2.1 q.2.2 (dC k) (dI k) := by
  have htsg : ∀ w ∈ gt, w.before #[Value.ref b] s = true := fun w hw => hts w (List.mem_filter.mp hw).1
  have h : ∀ k : Nat, ∃ d : ClassId × (Nat → Nat), ∀ q : vw_C, vwCl[k]? = some q → u_Kn s q.1 q.2.1 q.2.2 d.1 d.2 := by
    intro k
    match k with
    | 0 =>
      obtain ⟨c, i, h⟩ := u_known (C := RX0) (T := TX0) (N := 17) (n := 17) htsg gc_X0 (htsg _ (gt_of 224 (by decide +kernel) rfl))
      exact ⟨(c, i), fun q hq => by cases hq; exact h⟩
    | 1 =>
      obtain ⟨c, i, h⟩ := u_known (C := RX2) (T := TX2) (N := 4) (n := 4) htsg gc_X2 (htsg _ (gt_of 295 (by decide +kernel) rfl))
      exact ⟨(c, i), fun q hq => by cases hq; exact h⟩
    | 2 =>
      obtain ⟨c, i, h⟩ := u_known (C := RX3) (T := TX3) (N := 5) (n := 5) htsg gc_X3 (htsg _ (gt_of 183 (by decide +kernel) rfl))
      exact ⟨(c, i), fun q hq => by cases hq; exact h⟩
    | 3 =>
      obtain ⟨c, i, h⟩ := u_known (C := RX4) (T := TX4) (N := 3) (n := 3) htsg gc_X4 (htsg _ (gt_of 319 (by decide +kernel) rfl))
      exact ⟨(c, i), fun q hq => by cases hq; exact h⟩
    | 4 =>
      obtain ⟨c, i, h⟩ := u_known (C := RX5) (T := TX5) (N := 7) (n := 7) htsg gc_X5 (htsg _ (gt_of 109 (by decide +kernel) rfl))
      exact ⟨(c, i), fun q hq => by cases hq; exact h⟩
    | 5 =>
      obtain ⟨c, i, h⟩ := u_known (C := RX6) (T := TX6) (N := 6) (n := 6) htsg gc_X6 (htsg _ (gt_of 152 (by decide +kernel) rfl))
      exact ⟨(c, i), fun q hq => by cases hq; exact h⟩
    | 6 =>
      obtain ⟨c, i, h⟩ := u_known (C := RX7) (T := TX7) (N := 3) (n := 3) htsg gc_X7 (htsg _ (gt_of 189 (by decide +kernel) rfl))
      exact ⟨(c, i), fun q hq => by cases hq; exact h⟩
    | 7 =>
      obtain ⟨c, i, h⟩ := u_known (C := RX8) (T := TX8) (N := 10) (n := 10) htsg gc_X8 (htsg _ (gt_of 101 (by decide +kernel) rfl))
      exact ⟨(c, i), fun q hq => by cases hq; exact h⟩
    | 8 =>
      obtain ⟨c, i, h⟩ := u_known (C := RX9) (T := TX9) (N := 53) (n := 53) htsg gc_X9 (htsg _ (gt_of 953 (by decide +kernel) rfl))
      exact ⟨(c, i), fun q hq => by cases hq; exact h⟩
    | k + 9 => exact ⟨(0, fun _ => 0), fun q hq => by simp [vwCl] at hq⟩
  obtain ⟨d, hd⟩ := Classical.axiomOfChoice h
  exact ⟨fun k => (d k).1, fun k => (d k).2, fun k q hq => hd k q hq⟩
set_option maxRecDepth 100000 in
theorem st_K {s : State} {b : Nat} (hts : ∀ w ∈ lw_tbl, w.before #[Value.ref b] s = true) : ∃ (dC : Nat → ClassId) (dI : Nat → Nat → Nat) (cy : Nat → ClassId), va_K (dC, dI) vwCl (tysO cy) s := by
  obtain ⟨dC, dI, hC⟩ := st_C hts
  obtain ⟨c0, a0, f0⟩ := arr_prim (ty := .int) (hts _ (tb_of 150 (by decide +kernel)))
  obtain ⟨c1, a1, f1⟩ := arr_prim (ty := .boolean) (hts _ (tb_of 1121 (by decide +kernel)))
  obtain ⟨c2, a2, f2⟩ := arr_obj (C := "BeforeItGoes$Text") (hts _ (tb_of 222 (by decide +kernel)))
  obtain ⟨c3, a3, f3⟩ := arr_obj (C := "BeforeItGoes$Sheet") (hts _ (tb_of 317 (by decide +kernel)))
  refine ⟨dC, dI, fun j => if j = 0 then c0 else if j = 1 then c1 else if j = 2 then c2 else c3, hC, fun k q hq => ?_⟩
  match k, hq with
  | 0, hq => cases hq; exact ⟨a0, f0⟩
  | 1, hq => cases hq; exact ⟨a1, f1⟩
  | 2, hq => cases hq; exact ⟨a2, f2⟩
  | 3, hq => cases hq; exact ⟨a3, f3⟩
  | k + 4, hq => simp [tysO] at hq
/-! the premises that are used, in the Statement's order -/
def stT (j : Nat) : Term := .static "BeforeItGoes" (tnm j) "[I"
def tmS (i : Nat) : Term := .string (whS.getD i ("", 0, "")).1 (whS.getD i ("", 0, "")).2.1
def tvS (i : Nat) : Term := .field (tmS i) "java/lang/String" "value" "[B"
def expT (j : Nat) : List Cond := .arrayOf (stT j) .int :: .eq (.length (stT j)) (.int (Int32.ofNat (tab j).length)) :: (List.range (tab j).length).map (fun k => Cond.eq (.elem (stT j) (.int (Int32.ofNat k))) (.int (tb j k)))
def expS (i : Nat) : List Cond := .exactly (tmS i) "java/lang/String" :: .eq (.field (tmS i) "java/lang/String" "coder" "B") (.int 0) :: .arrayOf (tvS i) .byte :: .eq (.length (tvS i)) (.int (Int32.ofNat (lenS.getD i 0))) :: ((List.range (lenS.getD i 0)).map (fun j => Cond.eq (.elem (tvS i) (.int (Int32.ofNat j))) (.int ((bytS.getD i []).getD j 0))) ++ (List.range i).map (fun k => Cond.not (.eq (tmS k) (tmS i))))
def cst : Cond := .eq (.static "java/lang/String" "COMPACT_STRINGS" "Z") (.int 1)
def sio : Cond := .isRef (.static "jdk/internal/util/Preconditions" "SIOOBE_FORMATTER" "Ljava/util/function/BiFunction;")
def expL : List Cond := cst :: sio :: ((List.range 4).flatMap expT ++ (List.range 14).flatMap expS)
def subl : List Cond → List Cond → Bool
  | [], _ => true
  | _ :: _, [] => false
  | a :: as, b :: bs => if a = b then subl as bs else subl (a :: as) bs
theorem subl_mem : ∀ (B A : List Cond), subl A B = true → ∀ w ∈ A, w ∈ B := by
  intro B
  induction B with
  | nil =>
    intro A h w hw
    cases A with
    | nil => exact absurd hw List.not_mem_nil
    | cons a as => simp [subl] at h
  | cons b bs ih =>
    intro A h w hw
    cases A with
    | nil => exact absurd hw List.not_mem_nil
    | cons a as =>
      unfold subl at h
      by_cases e : a = b
      · rw [if_pos e] at h
        rcases List.mem_cons.mp hw with q | q
        · rw [q, e]; exact List.mem_cons_self
        · exact List.mem_cons_of_mem _ (ih as h w q)
      · rw [if_neg e] at h
        exact List.mem_cons_of_mem _ (ih (a :: as) h w hw)
set_option maxRecDepth 100000 in
theorem exp_ok : subl expL (flatC (Cond.and given_1 narrow_1)) = true := by decide +kernel
theorem mem_expT {j : Nat} (hj : j < 4) {w : Cond} (h : w ∈ expT j) : w ∈ expL := List.mem_cons_of_mem _ (List.mem_cons_of_mem _ (List.mem_append_left _ (List.mem_flatMap.mpr ⟨j, List.mem_range.mpr hj, h⟩)))
theorem mem_expS {i : Nat} (hi : i < 14) {w : Cond} (h : w ∈ expS i) : w ∈ expL := List.mem_cons_of_mem _ (List.mem_cons_of_mem _ (List.mem_append_right _ (List.mem_flatMap.mpr ⟨i, List.mem_range.mpr hi, h⟩)))
theorem lay_tab : ∀ j : Nat, j < 4 → Cond.laysStatic "BeforeItGoes" (tnm j) "[I" ∈ lw_tbl := fun j hj => by
    match j, hj with
    | 0, _ => exact tb_of 623 (by decide +kernel)
    | 1, _ => exact tb_of 625 (by decide +kernel)
    | 2, _ => exact tb_of 682 (by decide +kernel)
    | 3, _ => exact tb_of 684 (by decide +kernel)
    | j + 4, h => exact absurd h (by omega)
theorem str_ref : ∀ (i : Nat) (q : String × Nat × String), whS[i]? = some q → Cond.stringRef q.1 q.2.1 q.2.2 ∈ lw_tbl := fun i q hq => by
  match i, hq with
  | 0, hq => cases hq; exact tb_of 338 (by decide +kernel)
  | 1, hq => cases hq; exact tb_of 421 (by decide +kernel)
  | 2, hq => cases hq; exact tb_of 484 (by decide +kernel)
  | 3, hq => cases hq; exact tb_of 485 (by decide +kernel)
  | 4, hq => cases hq; exact tb_of 486 (by decide +kernel)
  | 5, hq => cases hq; exact tb_of 487 (by decide +kernel)
  | 6, hq => cases hq; exact tb_of 488 (by decide +kernel)
  | 7, hq => cases hq; exact tb_of 489 (by decide +kernel)
  | 8, hq => cases hq; exact tb_of 490 (by decide +kernel)
  | 9, hq => cases hq; exact tb_of 491 (by decide +kernel)
  | 10, hq => cases hq; exact tb_of 492 (by decide +kernel)
  | 11, hq => cases hq; exact tb_of 493 (by decide +kernel)
  | 12, hq => cases hq; exact tb_of 494 (by decide +kernel)
  | 13, hq => cases hq; exact tb_of 495 (by decide +kernel)
  | i + 14, hq => simp [whS] at hq
theorem lenS_ok : ∀ i : Nat, i < nS → lenS.getD i 0 < 2 ^ 31 := by decide +kernel
theorem st_St {s : State} {b : Nat} (hts : ∀ w ∈ lw_tbl, w.before #[Value.ref b] s = true) (hgv : (Jvm.Cond.and given_1 narrow_1).before #[Value.ref b] s = true) (l : Launch) (D : va_G) (cy : Nat → ClassId) : ∃ ads : Nat → Nat, St (l, D, cy, ads, fun q => s.heap.size ≤ q) s s.heap := by
  have hg : ∀ w ∈ expL, w.before #[Value.ref b] s = true := fun w hw => flat_of_before _ hgv w (subl_mem _ _ exp_ok w hw)
  have hA : ∀ a : Nat, a < s.heap.size → ¬ (fun q : Nat => s.heap.size ≤ q) a := fun a h g => absurd h (Nat.not_lt.mpr g)
  have hT : ∀ j : Nat, ∃ t : Nat, j < 4 → va_Z "BeforeItGoes" (tnm j) "[I" (.ref t) (fun q : Nat => s.heap.size ≤ q) s s.heap ∧ va_T .int t (tab j).length (fun i => .int (tb j i)) (fun q : Nat => s.heap.size ≤ q) s s.heap := by
    intro j
    by_cases hj : j < 4
    · obtain ⟨t, ht, hT⟩ := va_Tof (args := #[Value.ref b]) (s := s) (tm := stT j) (ty := .int) (N := (tab j).length) (f := fun i => .int (tb j i)) (A := fun q : Nat => s.heap.size ≤ q) (by unfold tab; split <;> decide)
        (hg _ (mem_expT hj List.mem_cons_self)) (va_eqt (hg _ (mem_expT hj (List.mem_cons_of_mem _ List.mem_cons_self))))
        (fun k hk => va_eqt (hg _ (mem_expT hj (List.mem_cons_of_mem _ (List.mem_cons_of_mem _ (List.mem_map.mpr ⟨k, List.mem_range.mpr hk, rfl⟩)))))) hA
      exact ⟨t, fun _ => ⟨va_Zref (args := #[Value.ref b]) (hts _ (lay_tab j hj)) (hts _ (tb_of 82 (by decide +kernel))) ht hA, hT⟩⟩
    · exact ⟨0, fun h => absurd h hj⟩
  obtain ⟨td, htd⟩ := Classical.axiomOfChoice hT
  obtain ⟨adK, adV, hK, hE⟩ := vk_Sof (args := #[Value.ref b]) (s := s) (N := nS) (tm := tmS) (len := lenS) (byt := bytS) (A := fun q : Nat => s.heap.size ≤ q) lenS_ok
    (fun i hi => hg _ (mem_expS hi List.mem_cons_self)) (fun i hi => hg _ (mem_expS hi (List.mem_cons_of_mem _ List.mem_cons_self)))
    (fun i hi => hg _ (mem_expS hi (List.mem_cons_of_mem _ (List.mem_cons_of_mem _ List.mem_cons_self))))
    (fun i hi => hg _ (mem_expS hi (List.mem_cons_of_mem _ (List.mem_cons_of_mem _ (List.mem_cons_of_mem _ List.mem_cons_self)))))
    (fun i hi j hj => hg _ (mem_expS hi (List.mem_cons_of_mem _ (List.mem_cons_of_mem _ (List.mem_cons_of_mem _ (List.mem_cons_of_mem _ (List.mem_append_left _ (List.mem_map.mpr ⟨j, List.mem_range.mpr hj, rfl⟩))))))))
    (fun i j hi hj hne => by
      rcases Nat.lt_or_gt_of_ne hne with h | h
      · exact Or.inl (hg _ (mem_expS hj (List.mem_cons_of_mem _ (List.mem_cons_of_mem _ (List.mem_cons_of_mem _ (List.mem_cons_of_mem _ (List.mem_append_right _ (List.mem_map.mpr ⟨i, List.mem_range.mpr h, rfl⟩))))))))
      · exact Or.inr (hg _ (mem_expS hi (List.mem_cons_of_mem _ (List.mem_cons_of_mem _ (List.mem_cons_of_mem _ (List.mem_cons_of_mem _ (List.mem_append_right _ (List.mem_map.mpr ⟨j, List.mem_range.mpr h, rfl⟩))))))))) hA
  obtain ⟨ads, ha⟩ : ∃ ads : Nat → Nat, ads = fun j => if j < 2000 then td (j - 1000) else if j < 3000 then adK (j - 2000) else adV (j - 3000) := ⟨_, rfl⟩
  have e1 : ∀ j : Nat, j < 14 → ads (1000 + j) = td j := fun j hj => by rw [ha]; show (if 1000 + j < 2000 then _ else _) = _; rw [if_pos (by omega), show 1000 + j - 1000 = j by omega]
  have e2 : ∀ j : Nat, j < 14 → ads (2000 + j) = adK j := fun j hj => by rw [ha]; show (if 2000 + j < 2000 then _ else _) = _; rw [if_neg (by omega), if_pos (by omega), show 2000 + j - 2000 = j by omega]
  have e3 : ∀ j : Nat, j < 14 → ads (3000 + j) = adV j := fun j hj => by rw [ha]; show (if 3000 + j < 2000 then _ else _) = _; rw [if_neg (by omega), if_neg (by omega), show 3000 + j - 3000 = j by omega]
  refine ⟨ads, fun j hj => ?_, ⟨fun i hi => ?_, fun i j hi hj e => ?_⟩, fun i q hq => ?_, ?_, fun w hw => va_Nw.of (nw_tab (List.mem_filter.mp hw).2) (hts w (List.mem_filter.mp hw).1), ?_⟩
  · show va_Z "BeforeItGoes" (tnm j) "[I" (.ref (ads (1000 + j))) _ s s.heap ∧ va_T .int (ads (1000 + j)) _ _ _ s s.heap
    rw [e1 j (by omega)]
    exact htd j hj
  · have h := hK.1 i hi
    show va_O "java/lang/String" (ads (2000 + i)) _ s s.heap ∧ va_OF "java/lang/String" "coder" "B" (.int 0) (ads (2000 + i)) _ s s.heap ∧ va_OF "java/lang/String" "value" "[B" (.ref (ads (3000 + i))) (ads (2000 + i)) _ s s.heap ∧ va_T .byte (ads (3000 + i)) _ _ _ s s.heap
    rw [e2 i hi, e3 i hi]
    exact h
  · have e : ads (2000 + i) = ads (2000 + j) := e
    rw [e2 i hi, e2 j hj] at e
    exact hK.2 i j hi hj e
  · have hi : i < 14 := (List.getElem?_eq_some_iff.mp hq).1
    have eq : whS.getD i ("", 0, "") = q := by rw [List.getD_eq_getElem?_getD, hq]; rfl
    have h := hE i hi
    unfold tmS at h
    rw [eq] at h
    show vk_R q.1 q.2.1 q.2.2 (ads (2000 + i)) s
    rw [e2 i hi]
    exact vk_R.of (hts _ (str_ref i q hq)) h
  · exact va_Zof (args := #[Value.ref b]) (hts _ (tb_of 348 (by decide +kernel))) (hts _ (tb_of 90 (by decide +kernel))) (va_eqi (hg cst List.mem_cons_self)) hA
  · exact va_Zqof (args := #[Value.ref b]) (hts _ (tb_of 364 (by decide +kernel))) (hts _ (tb_of 92 (by decide +kernel))) (hg sio (List.mem_cons_of_mem _ List.mem_cons_self)) hA
