/-! ===== the law: the two objects side by side ===== -/
theorem va_Z_narrow {C n d : String} {v : Value} {A B : Nat → Prop} {U : State} {H : Heap} (h : va_Z C n d v A U H) (hAB : ∀ q, B q → A q) : va_Z C n d v B U H := by
  obtain ⟨cf, kf, fi, f, a, cell, h1, h2, h3, h4, h5, h6, h7, h8⟩ := h
  exact ⟨cf, kf, fi, f, a, cell, h1, h2, h3, h4, h5, h6, h7, fun q => h8 (hAB a q)⟩
/-- the same statics, with other addresses of cells and fewer cells that may change -/
theorem St.narrow {X Y : XT} {U : State} {H : Heap} (h : St X U H) (had : ∀ j, 1000 ≤ j → Y.2.2.2.1 j = X.2.2.2.1 j) (hAB : ∀ q, Y.2.2.2.2 q → X.2.2.2.2 q) : St Y U H := by
  obtain ⟨h1, h2, h3, h4, h5, h6⟩ := h
  refine ⟨fun j hj => ?_, ?_, fun i q hq => ?_, va_Z_narrow h4 hAB, h5, ?_⟩
  · rw [had _ (by omega)]
    exact ⟨va_Z_narrow (h1 j hj).1 hAB, (h1 j hj).2.narrow hAB⟩
  · have e2 : (fun i => Y.2.2.2.1 (2000 + i)) = (fun i => X.2.2.2.1 (2000 + i)) := funext fun i => had _ (by omega)
    have e3 : (fun i => Y.2.2.2.1 (3000 + i)) = (fun i => X.2.2.2.1 (3000 + i)) := funext fun i => had _ (by omega)
    rw [e2, e3]
    exact h2.narrow hAB
  · rw [had _ (by omega)]
    exact h3 i q hq
  · rcases h6 with h6 | ⟨t, h6⟩
    · exact Or.inl (va_Z_narrow h6 hAB)
    · exact Or.inr ⟨t, va_Z_narrow h6 hAB⟩
/-- the machine in the law, with two worlds of cells -/
def GW (D : va_G) (l : Launch) (AL : Nat → Prop) (Γ : MT) (nL : Nat) (Q : State → Prop) (pc : Nat) (lv : List (Nat × Value)) (st : List Value) (w1 w2 : va_W) : Prop :=
  ∀ (H : Heap) (locs : List Loc) (ls : Array Slot), lv_has ls nL lv → va_P D vwCl w1 H → va_P D vwCl w2 H → va_S AL Γ.2.2.1.heap H locs → W Γ.1 l Γ.2.1 Γ.2.2.2.2.2.2.2.2.1 Γ.2.2.1 Γ.2.2.2.1 Γ.2.2.2.2.1 Γ.2.2.2.2.2.1 Γ.2.2.2.2.2.2.1 Γ.2.2.2.2.2.2.2.1 H locs Γ.2.2.2.2.2.2.2.2.2.1 Γ.2.2.2.2.2.2.2.2.2.2 Q (F0 Γ.2.2.2.1 pc ls st)
theorem GW.swap {D : va_G} {l : Launch} {AL : Nat → Prop} {Γ : MT} {nL : Nat} {Q : State → Prop} {pc : Nat} {lv : List (Nat × Value)} {st : List Value} {w1 w2 : va_W} (h : GW D l AL Γ nL Q pc lv st w1 w2) : GW D l AL Γ nL Q pc lv st w2 w1 :=
  fun H locs ls hl h2 h1 hS => h H locs ls hl h1 h2 hS
section LROWS
variable {L : List LD} {X : XT} {Γ : MT} {own : String} {b : ByteArray} {nL d : Nat} {ret : Option FieldType} {Q : State → Prop} {pc : Nat} {lv : List (Nat × Value)} {st : List Value} {M : Mem} {AL : Nat → Prop} {w2 : va_W}
theorem pre_at2 (K : Kx L X Γ own b nL d ret) (hSL : St (X.1, X.2.1, X.2.2.1, X.2.2.2.1, AL) Γ.2.2.1 Γ.2.2.1.heap) (hAL : ∀ q, X.2.2.2.2 q → AL q) {H : Heap} {locs : List Loc} {av : List Value} (hP : va_P X.2.1 vwCl (wsO L X M) H) (hS : va_S AL Γ.2.2.1.heap H locs) : ∀ U : State, U.heap = H → Γ.2.2.1.WarmedH U.vm → va_Pc av (Pre L X M) av.toArray U := by
  intro U hU hW
  refine ⟨rfl, by rw [hU]; exact hP, va_K.moved hW.alike K.kk, ?_, K.ad⟩
  rw [hU]
  exact ((hSL.kept hS.2.1).narrow (Y := X) (fun _ _ => rfl) hAL).warm hW
/-- a call of a method of the first world's object: the second world is not touched -/
theorem l_callV (K : Kx L X Γ own b nL d ret) (hSL : St (X.1, X.2.1, X.2.2.1, X.2.2.2.1, AL) Γ.2.2.1 Γ.2.2.1.heap) (hAL : ∀ q, X.2.2.2.2 q → AL q) (h2A : ∀ (k : Nat) (q : Nat × va_E), w2[k]? = some q → ¬ X.2.2.2.2 q.1) {pn : Nat} (hp : pc + 3 = pn) {idx n d' a ci : Nat} {sp : List Nat} {qc : vw_C} {y : MethodName} {b' : ByteArray} {nL' : Nat} {ret' : Option FieldType} {As st0 rest : List Value} {w : Value} {M1 : Mem} (hdd : d' + 1 ≤ d) (V : MV own idx y b' nL' ret' n) (hc : L[a]? = some (.inl (ci, sp))) (hq : vwCl[ci]? = some qc) (hcls : qc.1 = y.cls) (ct : CT L X d' y b' nL' ret' (.ref (X.2.2.2.1 a) :: As) M M1 (some w)) (hn : As.length = n) (hst : st0 = As.reverse ++ .ref (X.2.2.2.1 a) :: rest) (hw : (rest.map fun v => v.category).sum ≤ 8) (hd : decode b pc = .ok (.invokevirtual idx, 3)) (kk : GW X.2.1 X.1 AL Γ nL Q pn lv (w :: rest) (wsO L X M1) w2) : GW X.2.1 X.1 AL Γ nL Q pc lv st0 (wsO L X M) w2 := by
  subst hp
  obtain ⟨hl0, hin, hse, hini, hco, hyy, hnl⟩ := V
  have hR : (rm d').frames + 1 ≤ Γ.2.2.2.2.2.2.2.2.1.frames ∧ 8 + (nL' + 11) + (rm d').locals ≤ Γ.2.2.2.2.2.2.2.2.1.locals := ⟨Nat.le_trans hdd K.fr, by have := K.lo; show 8 + (nL' + 11) + 40 * d' ≤ _; omega⟩
  intro H locs ls hl hP h2 hS T hT Xs
  have hrc : ∃ cellB : Cell, H[X.2.2.2.1 a]? = some cellB ∧ cellB.vm.isStatics = false ∧ Γ.2.2.1.vm.findClass y.cls = some cellB.cls := by
    rw [← hcls]
    exact va_recv K.kk hP hq (wsO_at hc)
  have hrun : va_Run Γ.1 X.1 Γ.2.1 Γ.2.2.2.2.2.2.2.2.1 Γ.2.2.1 Γ.2.2.2.1 Γ.2.2.2.2.1 Γ.2.2.2.2.2.1 Γ.2.2.2.2.2.2.1 Γ.2.2.2.2.2.2.2.1 H locs Γ.2.2.2.2.2.2.2.2.2.1 Γ.2.2.2.2.2.2.2.2.2.2 0 0 (F0 Γ.2.2.2.1 pc ls st0) rest (Qo L X (some w) M1 (Value.ref (X.2.2.2.1 a) :: As).toArray) X.2.2.2.2 := by
    rcases hl0 with hl0 | ⟨host, hl0⟩
    · exact va_runV ⟨K.ex, K.cd, K.ml, K.ow, K.ts⟩ ct (cwV (own := own) (index := idx) (C := y.cls) n K.ts (gt_good (fun w hw => by
          rcases List.mem_append.mp hw with hw | hw
          · simp only [List.mem_cons, List.not_mem_nil, or_false] at hw
            rcases hw with rfl | rfl | rfl | rfl <;> assumption
          · exact (List.mem_cons.mp hw).elim (fun e => e ▸ hco) id)) rfl rfl rfl ⟨rfl, hyy⟩ hR) ⟨pre_blind, hrc, pre_at2 K hSL hAL hP hS⟩ rfl hn hl.1 hst (lv_room hw) hd ⟨K.ce, K.sl⟩
    · exact va_runVN ⟨K.ex, K.cd, K.ml, K.ow, K.ts⟩ ct ⟨va_cnB n K.ts (gt_call hco) rfl rfl rfl (va_Nw.of rfl (K.nw _ hl0)) (K.ts _ hini) hyy hR, K.ts _ hin, K.ts _ hse⟩ ⟨pre_blind, hrc, pre_at2 K hSL hAL hP hS⟩ rfl hn hl.1 hst (lv_room hw) hd ⟨K.ce, K.sl⟩
  obtain ⟨v', st₀, t, T', Lc, h0, X', hL, e1, e2, ⟨hv, hP1, hz, hk⟩, stp⟩ := hrun T hT Xs
  cases hv
  rw [h0] at hz hk
  have hk2 : va_P X.2.1 vwCl w2 T'.heap := h2.kept (fun k q hkq => by rw [e1]; exact hk q.1 ((h2 k q hkq).lt) (h2A k q hkq))
  obtain ⟨t2, a1, b1⟩ := kk T'.heap (locs ++ Lc) ls hl (by rw [e1]; exact hP1) hk2 ⟨Nat.le_trans hS.1 (by rw [e1]; exact hz), fun q g1 g2 => by rw [e1, hk q (Nat.lt_of_lt_of_le g1 hS.1) (fun g => g2 (hAL q g))]; exact hS.2.1 q g1 g2, fun q hq => by
      rcases List.mem_append.mp hq with h | h
      · exact hS.2.2 q h
      · exact hAL _ (hL q h)⟩ T' rfl X'
  exact ⟨t2, stp t2 a1, b1⟩
end LROWS
