/-! the reference's constructor: its end -/
def fl2 (ad : Nat → Nat) (f : Nat → Int32) : Nat → List Nat → List Value
  | _, [] => []
  | k, c :: sp => fv ad f k c :: fl2 ad f (k + 1) sp
theorem fl2_ok (ad : Nat → Nat) (f : Nat → Int32) : ∀ (sp : List Nat) (k : Nat), sp.mapIdx (fun i c => fv ad f (i + k) c) = fl2 ad f k sp := by
  intro sp
  induction sp with
  | nil => intro k; rfl
  | cons c sp ih =>
    intro k
    rw [List.mapIdx_cons, fl2, ← ih (k + 1)]
    congr 1
    · rw [Nat.zero_add]
    · congr 1
      funext i c
      congr 1
      omega
theorem flds_fl2 (ad : Nat → Nat) (f : Nat → Int32) (sp : List Nat) : flds ad f sp = fl2 ad f 0 sp := fl2_ok ad f sp 0
set_option maxHeartbeats 40000000 in
set_option maxRecDepth 100000 in
theorem fin_X9_init {p : Program} {l : Launch} {e : Env} {s : State} {m : MethodId} {below : List Frame} {meth : Method} {c : Code} {Q : State → Prop} {A : Nat → Prop} {dC : Nat → ClassId} {dI : Nat → Nat → Nat} {cy : Nat → ClassId} {ads : Nat → Nat} {M' : Mem} (hM : m_initTail MM0 = some M') {h0 q1 q2 q3 q4 q5 q6 q7 q8 q9 q10 q11 q12 q13 q14 q15 q16 q17 q18 q19 q20 q21 q22 : Nat} (hx : p.tables.exec = Jvm.exec) (hb : c.code = cX9_init) (hr : meth.sig.returnType = none) (hlocks : meth.locks = false) (hml : c.maxLocals = 1) (hts : ∀ w ∈ gt, w.before #[.ref h0] s = true) (hown : s.vm.findClass RX9 = some m.cls) (hK : va_K (dC, dI) vwCl (tysO cy) s) (hSt : St (l, (dC, dI), cy, ads, A) s s.heap) {H : Heap} {locs : List Loc} {ls : Array Slot} (hP : va_P (dC, dI) vwCl [(h0, .inr (8, [.int 0, .ref q1, .ref q2, .int 0, .int 0, .ref q3, .int 0, .ref q4, .ref q5, .ref q6, .ref q7, .ref q8, .int 0, .int 0, .int 0, .int 0, .int 0, .int 0, .int 0, .int 0, .int 0, .int 0, .int 0, .int 0, .long 0, .int 0, .int 0, .int 0, .ref q9, .int 0, .ref q10, .ref q11, .ref q12, .ref q13, .ref q14, .ref q15, .ref q16, .int 0, .int 0, .int 0, .int 0, .int 0, .int 0, .int 0, .int 0, .ref q17, .ref q18, .int (-1), .int 0, .ref q19, .ref q20, .ref q21, .ref q22])), (q1, .inl (cy 0, 960, .inl (fun _ => 0))), (q2, .inl (cy 0, 6, .inl (fun _ => 0))), (q3, .inl (cy 0, 160, .inl (fun _ => 0))), (q4, .inl (cy 0, 6, .inl (fun _ => 0))), (q5, .inl (cy 0, 6, .inl (fun _ => 0))), (q6, .inl (cy 0, 6, .inl (fun _ => 0))), (q7, .inl (cy 0, 6, .inl (fun _ => 0))), (q8, .inl (cy 0, 6, .inl (fun _ => 0))), (q9, .inl (cy 0, 6, .inl (fun _ => 0))), (q10, .inl (cy 0, 6, .inl (fun _ => 0))), (q11, .inl (cy 0, 6, .inl (fun _ => 0))), (q12, .inl (cy 0, 6, .inl (fun _ => 0))), (q13, .inl (cy 0, 6, .inl (fun _ => 0))), (q14, .inl (cy 0, 6, .inl (fun _ => 0))), (q15, .inl (cy 0, 6, .inl (fun _ => 0))), (q16, .inl (cy 0, 6, .inl (fun _ => 0))), (q17, .inl (cy 0, 6, .inl (fun _ => 0))), (q18, .inl (cy 0, 18, .inl (fun _ => 0))), (q19, .inl (cy 1, 4, .inl (fun _ => 0))), (q20, .inl (cy 0, 4, .inl (fun _ => 0))), (q21, .inl (cy 0, 4, .inl (fun _ => 0))), (q22, .inl (cy 0, 160, .inl (fun _ => 0)))] H) (hD : va_D A [(h0, .inr (8, [.int 0, .ref q1, .ref q2, .int 0, .int 0, .ref q3, .int 0, .ref q4, .ref q5, .ref q6, .ref q7, .ref q8, .int 0, .int 0, .int 0, .int 0, .int 0, .int 0, .int 0, .int 0, .int 0, .int 0, .int 0, .int 0, .long 0, .int 0, .int 0, .int 0, .ref q9, .int 0, .ref q10, .ref q11, .ref q12, .ref q13, .ref q14, .ref q15, .ref q16, .int 0, .int 0, .int 0, .int 0, .int 0, .int 0, .int 0, .int 0, .ref q17, .ref q18, .int (-1), .int 0, .ref q19, .ref q20, .ref q21, .ref q22])), (q1, .inl (cy 0, 960, .inl (fun _ => 0))), (q2, .inl (cy 0, 6, .inl (fun _ => 0))), (q3, .inl (cy 0, 160, .inl (fun _ => 0))), (q4, .inl (cy 0, 6, .inl (fun _ => 0))), (q5, .inl (cy 0, 6, .inl (fun _ => 0))), (q6, .inl (cy 0, 6, .inl (fun _ => 0))), (q7, .inl (cy 0, 6, .inl (fun _ => 0))), (q8, .inl (cy 0, 6, .inl (fun _ => 0))), (q9, .inl (cy 0, 6, .inl (fun _ => 0))), (q10, .inl (cy 0, 6, .inl (fun _ => 0))), (q11, .inl (cy 0, 6, .inl (fun _ => 0))), (q12, .inl (cy 0, 6, .inl (fun _ => 0))), (q13, .inl (cy 0, 6, .inl (fun _ => 0))), (q14, .inl (cy 0, 6, .inl (fun _ => 0))), (q15, .inl (cy 0, 6, .inl (fun _ => 0))), (q16, .inl (cy 0, 6, .inl (fun _ => 0))), (q17, .inl (cy 0, 6, .inl (fun _ => 0))), (q18, .inl (cy 0, 18, .inl (fun _ => 0))), (q19, .inl (cy 1, 4, .inl (fun _ => 0))), (q20, .inl (cy 0, 4, .inl (fun _ => 0))), (q21, .inl (cy 0, 4, .inl (fun _ => 0))), (q22, .inl (cy 0, 160, .inl (fun _ => 0)))]) (hS : va_S A s.heap H locs) (hl : lv_has ls 1 [(0, .ref h0)]) (kk : ∀ (ad : Nat → Nat) (H : Heap) (locs : List Loc) (ls : Array Slot), ad 0 = h0 → (∀ j, 1000 ≤ j → ad j = ads j) → AD layM (l, (dC, dI), cy, ad, A) → va_P (dC, dI) vwCl (wsO layM (l, (dC, dI), cy, ad, A) M') H → va_S A s.heap H locs → W p l e ({ frames := 1, cells := 22, slots := 1400, locals := 40 } : Room) s m #[.ref h0] below meth c H locs 22 1400 Q (F0 m 432 ls [])) : W p l e ({ frames := 1, cells := 22, slots := 1400, locals := 40 } : Room) s m #[.ref h0] below meth c H locs 22 1400 Q (F0 m 185 ls []) := by
  obtain ⟨ad, had⟩ : ∃ ad : Nat → Nat, ad = adq [h0, q1, q2, q3, q4, q5, q6, q7, q8, q9, q10, q11, q12, q13, q14, q15, q16, q17, q18, q19, q20, q21, q22] ads := ⟨_, rfl⟩
  have hz0 : ad 0 = h0 := by rw [had]; rfl
  have hz1 : ∀ j, 1000 ≤ j → ad j = ads j := by rw [had]; exact fun j hj => adq_hi hj
  have hAD : AD layM (l, (dC, dI), cy, ad, A) := by rw [had]; exact AD.ofL hD rfl rfl (Nat.le_of_ble_eq_true rfl)
  have hP : va_P (dC, dI) vwCl (wsO layM (l, (dC, dI), cy, ad, A) MM0) H := by
    rw [had]
    refine va_P_all (X := (l, (dC, dI), cy, adq [h0, q1, q2, q3, q4, q5, q6, q7, q8, q9, q10, q11, q12, q13, q14, q15, q16, q17, q18, q19, q20, q21, q22] ads, A)) (fun k d hk => ?_)
    match k, hk with
    | 0, hk =>
      have hd := Option.some.inj (hk.symm.trans lm_0)
      subst hd
      unfold ent
      dsimp only
      rw [flds_fl2]
      exact hP 0 _ rfl
    | 1, hk => exact (Option.some.inj (hk.symm.trans lm_1)) ▸ (hP 1 _ rfl)
    | 2, hk => exact (Option.some.inj (hk.symm.trans lm_2)) ▸ (hP 2 _ rfl)
    | 3, hk => exact (Option.some.inj (hk.symm.trans lm_3)) ▸ (hP 3 _ rfl)
    | 4, hk => exact (Option.some.inj (hk.symm.trans lm_4)) ▸ (hP 4 _ rfl)
    | 5, hk => exact (Option.some.inj (hk.symm.trans lm_5)) ▸ (hP 5 _ rfl)
    | 6, hk => exact (Option.some.inj (hk.symm.trans lm_6)) ▸ (hP 6 _ rfl)
    | 7, hk => exact (Option.some.inj (hk.symm.trans lm_7)) ▸ (hP 7 _ rfl)
    | 8, hk => exact (Option.some.inj (hk.symm.trans lm_8)) ▸ (hP 8 _ rfl)
    | 9, hk => exact (Option.some.inj (hk.symm.trans lm_9)) ▸ (hP 9 _ rfl)
    | 10, hk => exact (Option.some.inj (hk.symm.trans lm_10)) ▸ (hP 10 _ rfl)
    | 11, hk => exact (Option.some.inj (hk.symm.trans lm_11)) ▸ (hP 11 _ rfl)
    | 12, hk => exact (Option.some.inj (hk.symm.trans lm_12)) ▸ (hP 12 _ rfl)
    | 13, hk => exact (Option.some.inj (hk.symm.trans lm_13)) ▸ (hP 13 _ rfl)
    | 14, hk => exact (Option.some.inj (hk.symm.trans lm_14)) ▸ (hP 14 _ rfl)
    | 15, hk => exact (Option.some.inj (hk.symm.trans lm_15)) ▸ (hP 15 _ rfl)
    | 16, hk => exact (Option.some.inj (hk.symm.trans lm_16)) ▸ (hP 16 _ rfl)
    | 17, hk => exact (Option.some.inj (hk.symm.trans lm_17)) ▸ (hP 17 _ rfl)
    | 18, hk => exact (Option.some.inj (hk.symm.trans lm_18)) ▸ (hP 18 _ rfl)
    | 19, hk => exact (Option.some.inj (hk.symm.trans lm_19)) ▸ (hP 19 _ rfl)
    | 20, hk => exact (Option.some.inj (hk.symm.trans lm_20)) ▸ (hP 20 _ rfl)
    | 21, hk => exact (Option.some.inj (hk.symm.trans lm_21)) ▸ (hP 21 _ rfl)
    | 22, hk => exact (Option.some.inj (hk.symm.trans lm_22)) ▸ (hP 22 _ rfl)
    | k + 23, hk => exact absurd (List.getElem?_eq_some_iff.mp hk).1 (by show ¬ k + 23 < 23; omega)
  have hSt2 : St (l, (dC, dI), cy, ad, A) s s.heap := by rw [had]; exact St.ads hSt
  clear had hD
  have K : Kx layM (l, (dC, dI), cy, ad, A) (p, e, s, m, (#[.ref h0] : Array Value), below, meth, c, ({ frames := 1, cells := 22, slots := 1400, locals := 40 } : Room), 22, 1400) RX9 cX9_init 1 1 none := ⟨hx, hb, hr, hts, hown, hlocks, hml, hK, hSt2, hAD, Nat.le_of_ble_eq_true rfl, Nat.le_of_ble_eq_true rfl, Nat.le_refl _, Nat.le_refl _⟩
  have hl : lv_has ls 1 [(0, .ref (ad 0))] := by rw [hz0]; exact lv_sub hl [0] rfl
  refine w_m_initTail (X := (l, (dC, dI), cy, ad, A)) K (fun M1 e1 => ?_) hM H locs ls hl hP hS
  subst e1
  intro H locs ls hl hP hS
  exact kk ad H locs ls hz0 hz1 hAD hP hS
