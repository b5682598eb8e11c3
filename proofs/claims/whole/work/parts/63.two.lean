/-! the law, from its entry: the class's object is made, then on to law_mid -/
def WX0 : List Value := [.null, .null, .int 0, .null, .null, .null, .int 0, .null, .null, .null]
def AX1 (h0 sz : Nat) : Nat → Prop := va_A [(h0, .inr (7, WX0))] sz
theorem WX0_def : ∀ j, j < 10 → defaultValue (tyX8 j) = vp_V WX0 j := fun j hj => by rcases (show j = 0 ∨ j = 1 ∨ j = 2 ∨ j = 3 ∨ j = 4 ∨ j = 5 ∨ j = 6 ∨ j = 7 ∨ j = 8 ∨ j = 9 by omega) with rfl | rfl | rfl | rfl | rfl | rfl | rfl | rfl | rfl | rfl <;> rfl
theorem k_X8_W (l : Launch) (dC : Nat → ClassId) (dI : Nat → Nat → Nat) (cy : Nat → ClassId) (ads : Nat → Nat) (h0 sz : Nat) {M' : Mem} (hM : x_initTail MX0 = some M') : Met l yX8_init (.code yX8_init cX8_init 2 none :: gt) ({ frames := 167, cells := 67, slots := 2351, locals := 6680 }) (va_Pc [.ref h0] (fun U => U.heap.size = sz ∧ va_P (dC, dI) vwCl [(h0, .inr (7, WX0))] U.heap ∧ va_K (dC, dI) vwCl (tysO cy) U ∧ va_D (fun _ => True) [(h0, .inr (7, WX0))] ∧ St (l, (dC, dI), cy, ads, AX1 h0 sz) U U.heap ∧ va_AO "BeforeItGoes$Text" U ∧ va_AO "BeforeItGoes$Sheet" U)) (va_Qv (fun _ : Unit => True) (fun _ t => ∃ ad : Nat → Nat, ad 0 = h0 ∧ (∀ j, 1000 ≤ j → ad j = ads j) ∧ va_P (dC, dI) vwCl (wsO layX (l, (dC, dI), cy, ad, AX1 h0 sz) M') t.heap ∧ AD layX (l, (dC, dI), cy, ad, AX1 h0 sz)) (AX1 h0 sz)) 67 2351 (AX1 h0 sz) :=
  k_X8_init l dC dI cy ads h0 sz hM
set_option maxHeartbeats 4000000 in
set_option maxRecDepth 100000 in
theorem law_two {p : Program} {l : Launch} {e : Env} {s : State} {m : MethodId} {below : List Frame} {meth : Method} {c : Code} {b L : Nat} {xs : Nat → Int32} {dC : Nat → ClassId} {dI : Nat → Nat → Nat} {cy : Nat → ClassId} {ads : Nat → Nat} (hL : L ≤ 3072) (C0 : lw_At p s m meth c b L xs)
    (hK : va_K (dC, dI) vwCl (tysO cy) s) (hSt : St (l, (dC, dI), cy, ads, fun q => s.heap.size ≤ q) s s.heap) (hA2 : va_AO "BeforeItGoes$Text" s) (hA3 : va_AO "BeforeItGoes$Sheet" s) :
    W p l e room_1 s m #[Value.ref b] below meth c s.heap [] 0 0 (lw_Z below #[Value.ref b] s) (entryFrame m ([Value.ref b] : List Value).toArray 4) := by
  obtain ⟨hx, hb, hr, hml, hown, hts, hscr, hbl, hlocks, hgv⟩ := id C0
  have hown : s.vm.findClass RL = some m.cls := hown
  have htsg : ∀ w ∈ gt, w.before #[Value.ref b] s = true := fun w hw => hts w (List.mem_filter.mp hw).1
  obtain ⟨MX, MM, hMX, hMM, hRel⟩ := first_rel
  have hA : ∀ q : Nat, s.heap.size ≤ q → (fun q : Nat => s.heap.size ≤ q) q := fun _ h => h
  have hS : va_S (fun q : Nat => s.heap.size ≤ q) s.heap s.heap [] := va_S.rf
  have hP : va_P (dC, dI) vwCl [] s.heap := fun k q h => by simp at h
  have hD : va_D (fun q : Nat => s.heap.size ≤ q) [] := ⟨fun i j p q h => by simp at h, fun k q h => by simp at h⟩
  have hl := lv_entry ([.ref b]) (n := 4) (Nat.le_of_ble_eq_true rfl)
  rw [lg_entry_eq]
  generalize (lg_sl ([.ref b]) ++ List.replicate (4 - (lg_sl ([.ref b])).length) Slot.unset).toArray = ls at hl ⊢
  have hl : lv_has ls 4 [(0, .ref b)] := hl
  refine va_new (ci := 7) (fs := WX0) (C := RX8) (T := TX8) (N := 10) hx hb htsg gc_X8 tyX8 tyX8_ok hown (htsg _ (gt_of 100 (by decide +kernel) rfl)) (htsg _ (gt_of 101 (by decide +kernel) rfl)) (htsg _ (gt_of 82 (by decide +kernel) rfl)) hK hP hD hS hA rfl WX0_def (Nat.le_of_ble_eq_true rfl) (Nat.le_of_ble_eq_true rfl) dW_0 (fun q1 H hP hD hS => ?_)
  have hP : va_P (dC, dI) vwCl [(q1, .inr (7, WX0))] H := hP
  have hD : va_D (fun q : Nat => s.heap.size ≤ q) [(q1, .inr (7, WX0))] := hD
  refine lv_dup hx hb dW_3 rfl ?_
  have hFx : ∀ q, AX1 q1 H.size q → s.heap.size ≤ q := va_free (wc := [(q1, .inr (7, WX0))]) hD hS hA [0] rfl
  have hpre : ∀ U : State, U.heap = H → s.WarmedH U.vm → va_Pc [.ref q1] (fun U => U.heap.size = H.size ∧ va_P (dC, dI) vwCl [(q1, .inr (7, WX0))] U.heap ∧ va_K (dC, dI) vwCl (tysO cy) U ∧ va_D (fun _ => True) [(q1, .inr (7, WX0))] ∧ St (l, (dC, dI), cy, ads, AX1 q1 H.size) U U.heap ∧ va_AO "BeforeItGoes$Text" U ∧ va_AO "BeforeItGoes$Sheet" U) #[Value.ref q1] U := fun U hU hW => ⟨rfl, by rw [hU], by rw [hU]; exact hP, va_K.moved hW.alike hK, hD.weaken (fun _ _ _ _ => trivial), by rw [hU]; exact ((hSt.kept hS.2.1).narrow (Y := (l, (dC, dI), cy, ads, AX1 q1 H.size)) (fun _ _ => rfl) hFx).warm hW, va_AO.moved hW.alike hA2, va_AO.moved hW.alike hA3⟩
  refine va_callv (va_runI (As := []) (rest := [.ref q1]) ⟨hx, hb, hml, hown, htsg⟩ (k_X8_W l dC dI cy ads q1 H.size hMX) (cwI 0 htsg (gt_call (y := yX8_init) (b' := cX8_init) (n' := 2) (r' := none) (gt_of 104 rfl rfl)) rfl rfl rfl (htsg _ (gt_of 82 (by decide +kernel) rfl)) (htsg _ (gt_of 102 (by decide +kernel) rfl)) (htsg _ (gt_of 103 (by decide +kernel) rfl)) rfl ⟨by decide +kernel, by decide +kernel, by decide +kernel⟩ ⟨(Nat.le_of_ble_eq_true rfl), (Nat.le_of_ble_eq_true rfl)⟩) ⟨fun a U g mk q => by obtain ⟨q0, q1, qP, qK, qD, qS, qA2, qA3⟩ := q; exact ⟨q0, q1, qP, va_K.moved (u := U) (U := U.calling g mk a) (Vm.Alike.refl U.vm) qK, qD, St.same (u := U) (U := U.calling g mk a) rfl qS, va_AO.moved (u := U) (U := U.calling g mk a) (Vm.Alike.refl U.vm) qA2, va_AO.moved (u := U) (U := U.calling g mk a) (Vm.Alike.refl U.vm) qA3⟩, hpre⟩ rfl rfl hl.1 rfl (lv_room (Nat.le_of_ble_eq_true rfl)) dW_4 ⟨(Nat.le_of_ble_eq_true rfl), (Nat.le_of_ble_eq_true rfl)⟩) hS (fun q _ h => hFx q h) hFx (fun u t H1 locs ht hvm hw hB hz1 hk1 hS => ?_)
  obtain ⟨adX, x0, x1, hPX, dX⟩ := hB
  rw [ht] at hPX
  subst x0
  refine lv_astore_n (lv' := [(1, .ref (adX 0)), (0, .ref b)]) hx hb dW_7 rfl hl (by decide) rfl (fun ls hl => ?_)
  exact law_mid hL C0 hK hSt hMM hRel x1 hPX dX (fun i hi => hFx _ (dX.2 i hi)) hS hl (Nat.le_of_ble_eq_true rfl) (Nat.le_of_ble_eq_true rfl)
