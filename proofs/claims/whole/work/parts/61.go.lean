/-! both objects made: on to the loop -/
theorem law_go {p : Program} {l : Launch} {e : Env} {s : State} {m : MethodId} {below : List Frame} {meth : Method} {c : Code} {b L : Nat} {xs : Nat → Int32} {D : va_G} {cy : Nat → ClassId} {ads adX adY : Nat → Nat} {A1 A2 : Nat → Prop} {cells slots : Nat} {H : Heap} {locs : List Loc} {ls : Array Slot} {MX MM : Mem} (hL : L ≤ 3072) (C0 : lw_At p s m meth c b L xs)
    (hK : va_K D vwCl (tysO cy) s) (hSt : St (l, D, cy, ads, fun q => s.heap.size ≤ q) s s.heap) (hX : ∀ j, 1000 ≤ j → adX j = ads j) (hY : ∀ j, 1000 ≤ j → adY j = ads j) (dX : AD layX (l, D, cy, adX, A1)) (dY : AD layM (l, D, cy, adY, A2))
    (nX : ∀ i, i < layX.length → s.heap.size ≤ adX i) (nY : ∀ i, i < layM.length → s.heap.size ≤ adY i) (apart : ∀ i j, i < layX.length → j < layM.length → adX i ≠ adY j) (hc : cells ≤ 600000) (hs : slots ≤ 7302250)
    (hPX : va_P D vwCl (wsO layX (l, D, cy, adX, A1) MX) H) (hPY : va_P D vwCl (wsO layM (l, D, cy, adY, A2) MM) H) (hS : va_S (fun q => s.heap.size ≤ q) s.heap H locs) (hl : lv_has ls 4 [(2, .ref (adY 0)), (1, .ref (adX 0)), (0, .ref b)]) (hRel : Rel MX MM) :
    W p l e room_1 s m #[Value.ref b] below meth c H locs cells slots (lw_Z below #[Value.ref b] s) (F0 m 16 ls []) := by
  obtain ⟨hx, hb, hr, hml, hown, hts, hscr, hbl, hlocks, hgv⟩ := C0
  have htsg : ∀ w ∈ gt, w.before #[Value.ref b] s = true := fun w hw => hts w (List.mem_filter.mp hw).1
  obtain ⟨AX, hAX⟩ : ∃ AX : Nat → Prop, AX = fun q => ∃ i, i < layX.length ∧ q = adX i := ⟨_, rfl⟩
  obtain ⟨AY, hAY⟩ : ∃ AY : Nat → Prop, AY = fun q => ∃ i, i < layM.length ∧ q = adY i := ⟨_, rfl⟩
  have axl : ∀ q, AX q → s.heap.size ≤ q := fun q h => by
    rw [hAX] at h
    obtain ⟨i, h1, rfl⟩ := h
    exact nX i h1
  have ayl : ∀ q, AY q → s.heap.size ≤ q := fun q h => by
    rw [hAY] at h
    obtain ⟨i, h1, rfl⟩ := h
    exact nY i h1
  have sx : St (XX l D cy adX (fun q => s.heap.size ≤ q)) s s.heap := hSt.narrow (Y := XX l D cy adX (fun q => s.heap.size ≤ q)) hX (fun q h => h)
  have sy : St (XX l D cy adY (fun q => s.heap.size ≤ q)) s s.heap := hSt.narrow (Y := XX l D cy adY (fun q => s.heap.size ≤ q)) hY (fun q h => h)
  have dX' : AD layX (XX l D cy adX AX) := ⟨dX.1, fun i hi => by rw [hAX]; exact ⟨i, hi, rfl⟩⟩
  have dY' : AD layM (XX l D cy adY AY) := ⟨dY.1, fun i hi => by rw [hAY]; exact ⟨i, hi, rfl⟩⟩
  have hf : (200 : Nat) ≤ room_1.frames := by decide
  have hlo : 40 * 200 ≤ room_1.locals := by decide
  have C : LC l D cy adX adY AX AY (fun q => s.heap.size ≤ q) (p, e, s, m, #[Value.ref b], below, meth, c, room_1, cells, slots) b L xs :=
    ⟨⟨hx, hb, hr, htsg, hown, hlocks, hml, hK, sx.narrow (Y := XX l D cy adX AX) (fun _ _ => rfl) axl, dX', hf, hlo, hc, hs⟩,
     ⟨hx, hb, hr, htsg, hown, hlocks, hml, hK, sy.narrow (Y := XX l D cy adY AY) (fun _ _ => rfl) ayl, dY', hf, hlo, hc, hs⟩,
     sx, sy, axl, ayl, fun i hi h => by
       rw [hAX] at h
       obtain ⟨j, h1, h2⟩ := h
       exact apart j i h1 hi h2.symm,
     fun i hi h => by
       rw [hAY] at h
       obtain ⟨j, h1, h2⟩ := h
       exact apart i j hi h1 h2,
     hscr, hbl, Nat.not_le.mpr hbl, hL⟩
  refine lv_iconst (v := 0) hx hb dW_16 (by decide) ?_
  refine lv_istore_n (lv' := lvL b (adX 0) (adY 0) (nI 0)) hx hb dW_17 rfl hl (by decide) rfl (fun ls hl => ?_)
  exact law_loop C (law_end hx hb hr hlocks hc hs) (L + 1) 0 MX MM (by omega) (Nat.zero_le _) hRel H locs ls hl hPX hPY hS
