/-! the law's rows -/
def lvL (b x y : Nat) (i : Int32) : List (Nat × Value) := [(3, .int i), (2, .ref y), (1, .ref x), (0, .ref b)]
abbrev XX (l : Launch) (D : va_G) (cy : Nat → ClassId) (ad : Nat → Nat) (A : Nat → Prop) : XT := (l, D, cy, ad, A)
/-- where the law stands, once both objects are made -/
def LC (l : Launch) (D : va_G) (cy : Nat → ClassId) (adX adY : Nat → Nat) (AX AY AL : Nat → Prop) (Γ : MT) (b L : Nat) (xs : Nat → Int32) : Prop :=
  (Kx layX (XX l D cy adX AX) Γ RL code 4 200 ret) ∧
  (Kx layM (XX l D cy adY AY) Γ RL code 4 200 ret) ∧
  (St (XX l D cy adX AL) Γ.2.2.1 Γ.2.2.1.heap) ∧
  (St (XX l D cy adY AL) Γ.2.2.1 Γ.2.2.1.heap) ∧
  (∀ q, AX q → AL q) ∧
  (∀ q, AY q → AL q) ∧
  (∀ i, i < layM.length → ¬ AX (adY i)) ∧
  (∀ i, i < layX.length → ¬ AY (adX i)) ∧
  (va_X b L xs Γ.2.2.1 Γ.2.2.1.heap) ∧
  (b < Γ.2.2.1.heap.size) ∧
  (¬ AL b) ∧
  (L ≤ 3072)
theorem LC.kx {l : Launch} {D : va_G} {cy : Nat → ClassId} {adX adY : Nat → Nat} {AX AY AL : Nat → Prop} {Γ : MT} {b L : Nat} {xs : Nat → Int32} (h : LC l D cy adX adY AX AY AL Γ b L xs) : Kx layX (XX l D cy adX AX) Γ RL code 4 200 ret := h.1
theorem LC.ky {l : Launch} {D : va_G} {cy : Nat → ClassId} {adX adY : Nat → Nat} {AX AY AL : Nat → Prop} {Γ : MT} {b L : Nat} {xs : Nat → Int32} (h : LC l D cy adX adY AX AY AL Γ b L xs) : Kx layM (XX l D cy adY AY) Γ RL code 4 200 ret := h.2.1
theorem LC.sx {l : Launch} {D : va_G} {cy : Nat → ClassId} {adX adY : Nat → Nat} {AX AY AL : Nat → Prop} {Γ : MT} {b L : Nat} {xs : Nat → Int32} (h : LC l D cy adX adY AX AY AL Γ b L xs) : St (XX l D cy adX AL) Γ.2.2.1 Γ.2.2.1.heap := h.2.2.1
theorem LC.sy {l : Launch} {D : va_G} {cy : Nat → ClassId} {adX adY : Nat → Nat} {AX AY AL : Nat → Prop} {Γ : MT} {b L : Nat} {xs : Nat → Int32} (h : LC l D cy adX adY AX AY AL Γ b L xs) : St (XX l D cy adY AL) Γ.2.2.1 Γ.2.2.1.heap := h.2.2.2.1
theorem LC.ax {l : Launch} {D : va_G} {cy : Nat → ClassId} {adX adY : Nat → Nat} {AX AY AL : Nat → Prop} {Γ : MT} {b L : Nat} {xs : Nat → Int32} (h : LC l D cy adX adY AX AY AL Γ b L xs) : ∀ q, AX q → AL q := h.2.2.2.2.1
theorem LC.ay {l : Launch} {D : va_G} {cy : Nat → ClassId} {adX adY : Nat → Nat} {AX AY AL : Nat → Prop} {Γ : MT} {b L : Nat} {xs : Nat → Int32} (h : LC l D cy adX adY AX AY AL Γ b L xs) : ∀ q, AY q → AL q := h.2.2.2.2.2.1
theorem LC.xy {l : Launch} {D : va_G} {cy : Nat → ClassId} {adX adY : Nat → Nat} {AX AY AL : Nat → Prop} {Γ : MT} {b L : Nat} {xs : Nat → Int32} (h : LC l D cy adX adY AX AY AL Γ b L xs) : ∀ i, i < layM.length → ¬ AX (adY i) := h.2.2.2.2.2.2.1
theorem LC.yx {l : Launch} {D : va_G} {cy : Nat → ClassId} {adX adY : Nat → Nat} {AX AY AL : Nat → Prop} {Γ : MT} {b L : Nat} {xs : Nat → Int32} (h : LC l D cy adX adY AX AY AL Γ b L xs) : ∀ i, i < layX.length → ¬ AY (adX i) := h.2.2.2.2.2.2.2.1
theorem LC.scr {l : Launch} {D : va_G} {cy : Nat → ClassId} {adX adY : Nat → Nat} {AX AY AL : Nat → Prop} {Γ : MT} {b L : Nat} {xs : Nat → Int32} (h : LC l D cy adX adY AX AY AL Γ b L xs) : va_X b L xs Γ.2.2.1 Γ.2.2.1.heap := h.2.2.2.2.2.2.2.2.1
theorem LC.lt {l : Launch} {D : va_G} {cy : Nat → ClassId} {adX adY : Nat → Nat} {AX AY AL : Nat → Prop} {Γ : MT} {b L : Nat} {xs : Nat → Int32} (h : LC l D cy adX adY AX AY AL Γ b L xs) : b < Γ.2.2.1.heap.size := h.2.2.2.2.2.2.2.2.2.1
theorem LC.nb {l : Launch} {D : va_G} {cy : Nat → ClassId} {adX adY : Nat → Nat} {AX AY AL : Nat → Prop} {Γ : MT} {b L : Nat} {xs : Nat → Int32} (h : LC l D cy adX adY AX AY AL Γ b L xs) : ¬ AL b := h.2.2.2.2.2.2.2.2.2.2.1
theorem LC.sm {l : Launch} {D : va_G} {cy : Nat → ClassId} {adX adY : Nat → Nat} {AX AY AL : Nat → Prop} {Γ : MT} {b L : Nat} {xs : Nat → Int32} (h : LC l D cy adX adY AX AY AL Γ b L xs) : L ≤ 3072 := h.2.2.2.2.2.2.2.2.2.2.2
section LAW
variable {l : Launch} {D : va_G} {cy : Nat → ClassId} {adX adY : Nat → Nat} {AX AY AL : Nat → Prop} {Γ : MT} {b L : Nat} {xs : Nat → Int32} {Q : State → Prop} {pc : Nat} {lv : List (Nat × Value)} {st : List Value} {w1 w2 : va_W}
theorem l_iload_n (C : LC l D cy adX adY AX AY AL Γ b L xs) {pn : Nat} (hp : pc + 1 = pn) {kf : Fin 4} {x : Int32} (q : Nat) (hq : lv[q]? = some ((kf : Nat), .int x)) (hd : decode code pc = .ok (.iload_n kf, 1)) (k : GW D l AL Γ 4 Q pn lv (.int x :: st) w1 w2) : GW D l AL Γ 4 Q pc lv st w1 w2 := by
  subst hp
  exact fun H locs ls hl h1 h2 hS => lv_iload_n C.kx.ex C.kx.cd hd rfl (lv_at hl q hq) (k H locs ls hl h1 h2 hS)
theorem l_aload_n (C : LC l D cy adX adY AX AY AL Γ b L xs) {pn : Nat} (hp : pc + 1 = pn) {kf : Fin 4} {x : Nat} (q : Nat) (hq : lv[q]? = some ((kf : Nat), .ref x)) (hd : decode code pc = .ok (.aload_n kf, 1)) (k : GW D l AL Γ 4 Q pn lv (.ref x :: st) w1 w2) : GW D l AL Γ 4 Q pc lv st w1 w2 := by
  subst hp
  exact fun H locs ls hl h1 h2 hS => lv_aload_n C.kx.ex C.kx.cd hd rfl (lv_at hl q hq) (k H locs ls hl h1 h2 hS)
theorem l_iconst (C : LC l D cy adX adY AX AY AL Γ b L xs) {pn : Nat} (hp : pc + 1 = pn) {n : Int} {v : Int32} (hv : Int32.ofInt n = v) (hd : decode code pc = .ok (.iconst n, 1)) (k : GW D l AL Γ 4 Q pn lv (.int v :: st) w1 w2) : GW D l AL Γ 4 Q pc lv st w1 w2 := by
  subst hp
  exact fun H locs ls hl h1 h2 hS => lv_iconst C.kx.ex C.kx.cd hd hv (k H locs ls hl h1 h2 hS)
theorem l_bipush (C : LC l D cy adX adY AX AY AL Γ b L xs) {pn : Nat} (hp : pc + 2 = pn) {n : Int} {v : Int32} (hv : (Int8.ofInt n).toInt32 = v) (hd : decode code pc = .ok (.bipush n, 2)) (k : GW D l AL Γ 4 Q pn lv (.int v :: st) w1 w2) : GW D l AL Γ 4 Q pc lv st w1 w2 := by
  subst hp
  exact fun H locs ls hl h1 h2 hS => lv_bipush C.kx.ex C.kx.cd hd hv (k H locs ls hl h1 h2 hS)
theorem l_iadd (C : LC l D cy adX adY AX AY AL Γ b L xs) {pn : Nat} (hp : pc + 1 = pn) {x y : Int32} (hd : decode code pc = .ok (.iadd, 1)) (k : GW D l AL Γ 4 Q pn lv (.int (x + y) :: st) w1 w2) : GW D l AL Γ 4 Q pc lv (.int y :: .int x :: st) w1 w2 := by
  subst hp
  exact fun H locs ls hl h1 h2 hS => lv_iadd C.kx.ex C.kx.cd hd (k H locs ls hl h1 h2 hS)
theorem l_isub (C : LC l D cy adX adY AX AY AL Γ b L xs) {pn : Nat} (hp : pc + 1 = pn) {x y : Int32} (hd : decode code pc = .ok (.isub, 1)) (k : GW D l AL Γ 4 Q pn lv (.int (x - y) :: st) w1 w2) : GW D l AL Γ 4 Q pc lv (.int y :: .int x :: st) w1 w2 := by
  subst hp
  exact fun H locs ls hl h1 h2 hS => lv_isub C.kx.ex C.kx.cd hd (k H locs ls hl h1 h2 hS)
theorem l_iand (C : LC l D cy adX adY AX AY AL Γ b L xs) {pn : Nat} (hp : pc + 1 = pn) {x y : Int32} (hd : decode code pc = .ok (.iand, 1)) (k : GW D l AL Γ 4 Q pn lv (.int (x &&& y) :: st) w1 w2) : GW D l AL Γ 4 Q pc lv (.int y :: .int x :: st) w1 w2 := by
  subst hp
  exact fun H locs ls hl h1 h2 hS => lv_iand C.kx.ex C.kx.cd hd (k H locs ls hl h1 h2 hS)
theorem l_lcmp (C : LC l D cy adX adY AX AY AL Γ b L xs) {pn : Nat} (hp : pc + 1 = pn) {x y : Int64} (hd : decode code pc = .ok (.lcmp, 1)) (k : GW D l AL Γ 4 Q pn lv (.int (lg_cmp x y) :: st) w1 w2) : GW D l AL Γ 4 Q pc lv (.long y :: .long x :: st) w1 w2 := by
  subst hp
  exact fun H locs ls hl h1 h2 hS => W.lcmp C.kx.ex C.kx.cd hd (k H locs ls hl h1 h2 hS)
theorem l_goto (C : LC l D cy adX adY AX AY AL Γ b L xs) {off : Int} {tgt : Nat} (ht : (pc : Int) + off = (tgt : Int)) (hd : decode code pc = .ok (.goto off, 3)) (k : GW D l AL Γ 4 Q tgt lv st w1 w2) : GW D l AL Γ 4 Q pc lv st w1 w2 :=
  fun H locs ls hl h1 h2 hS => lv_goto C.kx.ex C.kx.cd hd ht (k H locs ls hl h1 h2 hS)
/-- equal answers: on to the next -/
theorem l_same (C : LC l D cy adX adY AX AY AL Γ b L xs) {x : Int32} {off : Int} {tgt : Nat} (ht : (pc : Int) + off = (tgt : Int)) (hd : decode code pc = .ok (.if_icmp .eq off, 3)) (k : GW D l AL Γ 4 Q tgt lv st w1 w2) : GW D l AL Γ 4 Q pc lv (.int x :: .int x :: st) w1 w2 :=
  fun H locs ls hl h1 h2 hS => lv_icmp_eq C.kx.ex C.kx.cd hd ht (fun _ => k H locs ls hl h1 h2 hS) (fun z => absurd rfl z)
theorem l_sameL (C : LC l D cy adX adY AX AY AL Γ b L xs) {x : Int64} {pn : Nat} (hp : pc + 1 = pn) {off : Int} {tgt : Nat} (hd1 : decode code pc = .ok (.lcmp, 1)) (ht : (pn : Int) + off = (tgt : Int)) (hd : decode code pn = .ok (.ifCond .eq off, 3)) (k : GW D l AL Γ 4 Q tgt lv st w1 w2) : GW D l AL Γ 4 Q pc lv (.long x :: .long x :: st) w1 w2 := by
  refine l_lcmp C hp hd1 ?_
  have e : lg_cmp x x = 0 := by unfold lg_cmp; simp
  rw [e]
  exact fun H locs ls hl h1 h2 hS => lv_if_eq C.kx.ex C.kx.cd hd ht (fun _ => k H locs ls hl h1 h2 hS) (fun z => absurd rfl z)
theorem l_if_gt (C : LC l D cy adX adY AX AY AL Γ b L xs) {pn : Nat} (hp : pc + 3 = pn) {x y : Int32} {off : Int} {tgt : Nat} (ht : (pc : Int) + off = (tgt : Int)) (hd : decode code pc = .ok (.if_icmp .gt off, 3)) (kt : y < x → GW D l AL Γ 4 Q tgt lv st w1 w2) (kf : ¬ y < x → GW D l AL Γ 4 Q pn lv st w1 w2) : GW D l AL Γ 4 Q pc lv (.int y :: .int x :: st) w1 w2 := by
  subst hp
  exact fun H locs ls hl h1 h2 hS => lv_icmp_gt C.kx.ex C.kx.cd hd ht (fun z => kt z H locs ls hl h1 h2 hS) (fun z => kf z H locs ls hl h1 h2 hS)
theorem l_len (C : LC l D cy adX adY AX AY AL Γ b L xs) {pn : Nat} (hp : pc + 1 = pn) (hd : decode code pc = .ok (.arraylength, 1)) (k : GW D l AL Γ 4 Q pn lv (.int (Int32.ofNat L) :: st) w1 w2) : GW D l AL Γ 4 Q pc lv (.ref b :: st) w1 w2 := by
  subst hp
  exact fun H locs ls hl h1 h2 hS => va_slen C.kx.ex C.kx.cd C.scr C.lt C.nb hS hd (k H locs ls hl h1 h2 hS)
theorem l_iald (C : LC l D cy adX adY AX AY AL Γ b L xs) {pn : Nat} (hp : pc + 1 = pn) {i : Int32} (hin : vp_in i L) (hd : decode code pc = .ok (.iaload, 1)) (k : GW D l AL Γ 4 Q pn lv (.int (xs i.toNatClampNeg) :: st) w1 w2) : GW D l AL Γ 4 Q pc lv (.int i :: .ref b :: st) w1 w2 := by
  subst hp
  exact fun H locs ls hl h1 h2 hS => va_sld C.kx.ex C.kx.cd C.scr C.lt C.nb hS hin hd (k H locs ls hl h1 h2 hS)
/-- a number of the script, onto the stack -/
theorem l_arg (C : LC l D cy adX adY AX AY AL Γ b L xs) {x y i j : Nat} {n : Int} {p1 p2 p3 p4 pn : Nat} (e1 : pc + 1 = p1) (e2 : p1 + 1 = p2) (e3 : p2 + 1 = p3) (e4 : p3 + 1 = p4) (e5 : p4 + 1 = pn) (hj : Int32.ofInt n = nI j) (hlt : i + j < L)
    (d0 : decode code pc = .ok (.aload_n 0, 1)) (d1 : decode code p1 = .ok (.iload_n 3, 1)) (d2 : decode code p2 = .ok (.iconst n, 1)) (d3 : decode code p3 = .ok (.iadd, 1)) (d4 : decode code p4 = .ok (.iaload, 1))
    (k : GW D l AL Γ 4 Q pn (lvL b x y (nI i)) (.int (xs (i + j)) :: st) w1 w2) : GW D l AL Γ 4 Q pc (lvL b x y (nI i)) st w1 w2 := by
  have hL := C.sm
  refine l_aload_n C e1 3 rfl d0 ?_
  refine l_iload_n C e2 0 rfl d1 ?_
  refine l_iconst C e3 hj d2 ?_
  refine l_iadd C e4 d3 ?_
  rw [nI_add]
  refine l_iald C e5 (nI_in hlt (by omega)) d4 ?_
  rw [nI_cl (by omega)]
  exact k
/-- a call of the class -/
theorem l_callX (C : LC l D cy adX adY AX AY AL Γ b L xs) {A A1 B : Mem} {pn : Nat} (hp : pc + 3 = pn) {idx n d' : Nat} {y : MethodName} {b' : ByteArray} {nL' : Nat} {ret' : Option FieldType} {As st0 rest : List Value} {w : Value} (hdd : d' + 1 ≤ 200) (V : MV RL idx y b' nL' ret' n) (hcls : RX8 = y.cls) (ct : CT layX (XX l D cy adX AX) d' y b' nL' ret' (.ref (adX 0) :: As) A A1 (some w)) (hn : As.length = n) (hst : st0 = As.reverse ++ .ref (adX 0) :: rest) (hw : (rest.map fun v => v.category).sum ≤ 8) (hd : decode code pc = .ok (.invokevirtual idx, 3)) (kk : GW D l AL Γ 4 Q pn lv (w :: rest) (wsO layX (XX l D cy adX AX) A1) (wsO layM (XX l D cy adY AY) B)) : GW D l AL Γ 4 Q pc lv st0 (wsO layX (XX l D cy adX AX) A) (wsO layM (XX l D cy adY AY) B) :=
  l_callV C.kx C.sx C.ax (fun k q hq => by obtain ⟨h1, h2⟩ := wsO_ad hq; rw [h2]; exact C.xy k h1) hp hdd V lx_0 rfl hcls ct hn hst hw hd kk
theorem l_callY (C : LC l D cy adX adY AX AY AL Γ b L xs) {A B B1 : Mem} {pn : Nat} (hp : pc + 3 = pn) {idx n d' : Nat} {y : MethodName} {b' : ByteArray} {nL' : Nat} {ret' : Option FieldType} {As st0 rest : List Value} {w : Value} (hdd : d' + 1 ≤ 200) (V : MV RL idx y b' nL' ret' n) (hcls : RX9 = y.cls) (ct : CT layM (XX l D cy adY AY) d' y b' nL' ret' (.ref (adY 0) :: As) B B1 (some w)) (hn : As.length = n) (hst : st0 = As.reverse ++ .ref (adY 0) :: rest) (hw : (rest.map fun v => v.category).sum ≤ 8) (hd : decode code pc = .ok (.invokevirtual idx, 3)) (kk : GW D l AL Γ 4 Q pn lv (w :: rest) (wsO layX (XX l D cy adX AX) A) (wsO layM (XX l D cy adY AY) B1)) : GW D l AL Γ 4 Q pc lv st0 (wsO layX (XX l D cy adX AX) A) (wsO layM (XX l D cy adY AY) B) :=
  (l_callV C.ky C.sy C.ay (fun k q hq => by obtain ⟨h1, h2⟩ := wsO_ad hq; rw [h2]; exact C.yx k h1) hp hdd V lm_0 rfl hcls ct hn hst hw hd kk.swap).swap
end LAW
