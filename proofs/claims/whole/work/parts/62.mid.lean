/-! the law, its second object: from pc 8, with the class's object made (its world shut as wX) -/
def WY : List Value := [.int 0, .null, .null, .int 0, .int 0, .null, .int 0, .null, .null, .null, .null, .null, .int 0, .int 0, .int 0, .int 0, .int 0, .int 0, .int 0, .int 0, .int 0, .int 0, .int 0, .int 0, .long 0, .int 0, .int 0, .int 0, .null, .int 0, .null, .null, .null, .null, .null, .null, .null, .int 0, .int 0, .int 0, .int 0, .int 0, .int 0, .int 0, .int 0, .null, .null, .int 0, .int 0, .null, .null, .null, .null]
theorem WY_def : ∀ j, j < 53 → defaultValue (tyX9 j) = vp_V WY j := fun j hj => by rcases (show j = 0 ∨ j = 1 ∨ j = 2 ∨ j = 3 ∨ j = 4 ∨ j = 5 ∨ j = 6 ∨ j = 7 ∨ j = 8 ∨ j = 9 ∨ j = 10 ∨ j = 11 ∨ j = 12 ∨ j = 13 ∨ j = 14 ∨ j = 15 ∨ j = 16 ∨ j = 17 ∨ j = 18 ∨ j = 19 ∨ j = 20 ∨ j = 21 ∨ j = 22 ∨ j = 23 ∨ j = 24 ∨ j = 25 ∨ j = 26 ∨ j = 27 ∨ j = 28 ∨ j = 29 ∨ j = 30 ∨ j = 31 ∨ j = 32 ∨ j = 33 ∨ j = 34 ∨ j = 35 ∨ j = 36 ∨ j = 37 ∨ j = 38 ∨ j = 39 ∨ j = 40 ∨ j = 41 ∨ j = 42 ∨ j = 43 ∨ j = 44 ∨ j = 45 ∨ j = 46 ∨ j = 47 ∨ j = 48 ∨ j = 49 ∨ j = 50 ∨ j = 51 ∨ j = 52 by omega) with rfl | rfl | rfl | rfl | rfl | rfl | rfl | rfl | rfl | rfl | rfl | rfl | rfl | rfl | rfl | rfl | rfl | rfl | rfl | rfl | rfl | rfl | rfl | rfl | rfl | rfl | rfl | rfl | rfl | rfl | rfl | rfl | rfl | rfl | rfl | rfl | rfl | rfl | rfl | rfl | rfl | rfl | rfl | rfl | rfl | rfl | rfl | rfl | rfl | rfl | rfl | rfl | rfl <;> rfl
def AY1 (h0 sz : Nat) : Nat → Prop := va_A [(h0, .inr (8, WY))] sz
set_option maxRecDepth 100000 in
theorem k_X9_W (l : Launch) (dC : Nat → ClassId) (dI : Nat → Nat → Nat) (cy : Nat → ClassId) (ads : Nat → Nat) (h0 sz : Nat) {M' : Mem} (hM : m_initTail MM0 = some M') : Met l yX9_init (.code yX9_init cX9_init 1 none :: gt) ({ frames := 1, cells := 22, slots := 1400, locals := 40 }) (va_Pc [.ref h0] (fun U => U.heap.size = sz ∧ va_P (dC, dI) vwCl [(h0, .inr (8, WY))] U.heap ∧ va_K (dC, dI) vwCl (tysO cy) U ∧ va_D (fun _ => True) [(h0, .inr (8, WY))] ∧ St (l, (dC, dI), cy, ads, AY1 h0 sz) U U.heap)) (va_Qv (fun _ : Unit => True) (fun _ t => ∃ ad : Nat → Nat, ad 0 = h0 ∧ (∀ j, 1000 ≤ j → ad j = ads j) ∧ va_P (dC, dI) vwCl (wsO layM (l, (dC, dI), cy, ad, AY1 h0 sz) M') t.heap ∧ AD layM (l, (dC, dI), cy, ad, AY1 h0 sz)) (AY1 h0 sz)) 22 1400 (AY1 h0 sz) :=
  k_X9_init l dC dI cy ads h0 sz hM
set_option maxHeartbeats 4000000 in
set_option maxRecDepth 100000 in
theorem law_mid {p : Program} {l : Launch} {e : Env} {s : State} {m : MethodId} {below : List Frame} {meth : Method} {c : Code} {b L : Nat} {xs : Nat → Int32} {dC : Nat → ClassId} {dI : Nat → Nat → Nat} {cy : Nat → ClassId} {ads adX : Nat → Nat} {A1 : Nat → Prop} {cells slots : Nat} {H : Heap} {locs : List Loc} {ls : Array Slot} {MX MM : Mem} (hL : L ≤ 3072) (C0 : lw_At p s m meth c b L xs)
    (hK : va_K (dC, dI) vwCl (tysO cy) s) (hSt : St (l, (dC, dI), cy, ads, fun q => s.heap.size ≤ q) s s.heap) (hMM : m_initTail MM0 = some MM) (hRel : Rel MX MM)
    (x1 : ∀ j, 1000 ≤ j → adX j = ads j) (hPX : va_P (dC, dI) vwCl (wsO layX (l, (dC, dI), cy, adX, A1) MX) H) (dX : AD layX (l, (dC, dI), cy, adX, A1)) (nX : ∀ i, i < layX.length → s.heap.size ≤ adX i)
    (hS : va_S (fun q => s.heap.size ≤ q) s.heap H locs) (hl : lv_has ls 4 [(1, .ref (adX 0)), (0, .ref b)]) (hc : cells ≤ 500000) (hs : slots ≤ 7000000) :
    W p l e room_1 s m #[Value.ref b] below meth c H locs cells slots (lw_Z below #[Value.ref b] s) (F0 m 8 ls []) := by
  obtain ⟨hx, hb, hr, hml, hown, hts, hscr, hbl, hlocks, hgv⟩ := id C0
  have hown : s.vm.findClass RL = some m.cls := hown
  have htsg : ∀ w ∈ gt, w.before #[Value.ref b] s = true := fun w hw => hts w (List.mem_filter.mp hw).1
  have hA : ∀ q : Nat, s.heap.size ≤ q → (fun q : Nat => s.heap.size ≤ q) q := fun _ h => h
  have hDX : va_D (fun q : Nat => s.heap.size ≤ q) (wsO layX (l, (dC, dI), cy, adX, A1) MX) := (dX.D MX).weaken (fun k q hk _ => by obtain ⟨h1, h2⟩ := wsO_ad hk; rw [h2]; exact nX k h1)
  obtain ⟨wX, hwX⟩ : ∃ w, w = wsO layX (l, (dC, dI), cy, adX, A1) MX := ⟨_, rfl⟩
  rw [← hwX] at hPX hDX
  have r1 : room_1.cells = 600000 := rfl
  have r2 : room_1.slots = 7302250 := rfl
  refine va_new (ci := 8) (fs := WY) (C := RX9) (T := TX9) (N := 53) hx hb htsg gc_X9 tyX9 tyX9_ok hown (htsg _ (gt_of 952 (by decide +kernel) rfl)) (htsg _ (gt_of 953 (by decide +kernel) rfl)) (htsg _ (gt_of 96 (by decide +kernel) rfl)) hK hPX hDX hS hA rfl WY_def (by omega) (by omega) dW_8 (fun q2 H2 hP2 hD2 hS => ?_)
  have hPX2 : va_P (dC, dI) vwCl wX H2 := fun k q hk => hP2 k q (by rw [List.getElem?_append_left (List.getElem?_eq_some_iff.mp hk).1]; exact hk)
  have hlast : (wX ++ [(q2, (Sum.inr (8, WY) : va_E))])[wX.length]? = some (q2, .inr (8, WY)) := by rw [List.getElem?_append_right (Nat.le_refl _), Nat.sub_self]; rfl
  have hPY : va_P (dC, dI) vwCl [(q2, .inr (8, WY))] H2 := fun k q hk => by
    match k, hk with
    | 0, hk => cases hk; exact hP2 _ _ hlast
    | k + 1, hk => simp at hk
  have hDY : va_D (fun q : Nat => s.heap.size ≤ q) [(q2, .inr (8, WY))] := ⟨fun i j x y h1 h2 _ => by
    have := (List.getElem?_eq_some_iff.mp h1).1
    have := (List.getElem?_eq_some_iff.mp h2).1
    simp at *
    omega, fun k q hk => by
    match k, hk with
    | 0, hk => cases hk; exact hD2.2 _ _ hlast
    | k + 1, hk => simp at hk⟩
  have hne : ∀ (k : Nat) (q : Nat × va_E), wX[k]? = some q → q.1 ≠ q2 := fun k q hk e => by
    have hk' := (List.getElem?_eq_some_iff.mp hk).1
    have := hD2.1 k wX.length q _ (by rw [List.getElem?_append_left hk']; exact hk) hlast e
    omega
  refine lv_dup hx hb dW_11 rfl ?_
  have hFy : ∀ q, AY1 q2 H2.size q → s.heap.size ≤ q := va_free (wc := [(q2, .inr (8, WY))]) hDY hS hA [0] rfl
  have hpre : ∀ U : State, U.heap = H2 → s.WarmedH U.vm → va_Pc [.ref q2] (fun U => U.heap.size = H2.size ∧ va_P (dC, dI) vwCl [(q2, .inr (8, WY))] U.heap ∧ va_K (dC, dI) vwCl (tysO cy) U ∧ va_D (fun _ => True) [(q2, .inr (8, WY))] ∧ St (l, (dC, dI), cy, ads, AY1 q2 H2.size) U U.heap) #[Value.ref q2] U := fun U hU hW => ⟨rfl, by rw [hU], by rw [hU]; exact hPY, va_K.moved hW.alike hK, hDY.weaken (fun _ _ _ _ => trivial), by rw [hU]; exact ((hSt.kept hS.2.1).narrow (Y := (l, (dC, dI), cy, ads, AY1 q2 H2.size)) (fun _ _ => rfl) hFy).warm hW⟩
  refine va_callv (va_runI (As := []) (rest := [.ref q2]) ⟨hx, hb, hml, hown, htsg⟩ (k_X9_W l dC dI cy ads q2 H2.size hMM) (cwI 0 htsg (gt_call (y := yX9_init) (b' := cX9_init) (n' := 1) (r' := none) (gt_of 956 rfl rfl)) rfl rfl rfl (htsg _ (gt_of 96 (by decide +kernel) rfl)) (htsg _ (gt_of 954 (by decide +kernel) rfl)) (htsg _ (gt_of 955 (by decide +kernel) rfl)) rfl ⟨by decide +kernel, by decide +kernel, by decide +kernel⟩ ⟨(Nat.le_of_ble_eq_true rfl), (Nat.le_of_ble_eq_true rfl)⟩) ⟨fun a U g mk q => by obtain ⟨q0, q1, qP, qK, qD, qS⟩ := q; exact ⟨q0, q1, qP, va_K.moved (u := U) (U := U.calling g mk a) (Vm.Alike.refl U.vm) qK, qD, St.same (u := U) (U := U.calling g mk a) rfl qS⟩, hpre⟩ rfl rfl hl.1 rfl (lv_room (Nat.le_of_ble_eq_true rfl)) dW_12 ⟨by omega, by omega⟩) hS (fun q _ h => hFy q h) hFy (fun u t H3 locs ht hvm hw hB hz1 hk1 hS => ?_)
  obtain ⟨adY, y0, y1, hPY3, dY⟩ := hB
  rw [ht] at hPY3
  subst y0
  refine lv_astore_n (lv' := [(2, .ref (adY 0)), (1, .ref (adX 0)), (0, .ref b)]) hx hb dW_15 rfl hl (by decide) rfl (fun ls hl => ?_)
  have notA : ∀ (k : Nat) (q : Nat × va_E), wX[k]? = some q → ¬ AY1 (adY 0) H2.size q.1 := fun k q hk h => by
    rcases h with ⟨k', e', h⟩ | h
    · match k', h with
      | 0, h => exact hne k q hk (by simpa using (congrArg (fun z => z.map Prod.fst) h).symm)
      | k' + 1, h => simp at h
    · exact absurd ((hPX2 k q hk).lt) (Nat.not_lt.mpr h)
  have hPX3 : va_P (dC, dI) vwCl wX H3 := hPX2.kept (fun k q hk => hk1 q.1 ((hPX2 k q hk).lt) (notA k q hk))
  have notX : ∀ i j, i < layX.length → j < layM.length → adX i ≠ adY j := fun i j hi hj e => by
    have h1 := notA i (adX i, ent cy adX (MX i) layX[i]) (by rw [hwX]; exact wsO_at (List.getElem?_eq_getElem hi))
    exact h1 (e ▸ dY.2 j hj)
  rw [hwX] at hPX3
  exact law_go hL C0 hK hSt x1 y1 dX dY nX (fun i hi => hFy _ (dY.2 i hi)) notX (by omega) (by omega) hPX3 hPY3 hS hl hRel
