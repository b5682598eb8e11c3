/-! ===== rows over G: an instruction, a row; h carries what is still to be done ===== -/
def bnd {α β : Type} (x : α) (f : α → β) : β := f x
def ck {β : Type} (i : Int32) (n : Nat) (x : Option β) : Option β := if i < 0 ∨ n ≤ i.toNatClampNeg then none else x
def nz {β : Type} (y : Int32) (x : Option β) : Option β := if y = 0 then none else x
def nzL {β : Type} (y : Int64) (x : Option β) : Option β := if y = 0 then none else x
def rq {β : Type} (c : Prop) [Decidable c] (x : Option β) : Option β := if c then x else none
def ob {α β : Type} (x : Option α) (k : α → Option β) : Option β := match x with
  | none => none
  | some a => k a
def ob2 {α γ β : Type} (x : Option (α × γ)) (k : α → γ → Option β) : Option β := match x with
  | none => none
  | some (a, c) => k a c
def jp {α β : Type} (k : α) (f : α → β) : β := f k
def b2i (b : Bool) : Int32 := if b = true then 1 else 0
def imax (x y : Int32) : Int32 := if x < y then y else x
def imin (x y : Int32) : Int32 := if y < x then y else x
theorem ck_e {β : Type} {i : Int32} {n : Nat} {x : Option β} {r : β} (h : ck i n x = some r) : vp_in i n ∧ x = some r := by
  unfold ck at h
  split at h
  · cases h
  · exact ⟨by assumption, h⟩
theorem nz_e {β : Type} {y : Int32} {x : Option β} {r : β} (h : nz y x = some r) : ¬ y = 0 ∧ x = some r := by
  unfold nz at h
  split at h
  · cases h
  · exact ⟨by assumption, h⟩
theorem nzL_e {β : Type} {y : Int64} {x : Option β} {r : β} (h : nzL y x = some r) : ¬ y = 0 ∧ x = some r := by
  unfold nzL at h
  split at h
  · cases h
  · exact ⟨by assumption, h⟩
theorem rq_e {β : Type} {c : Prop} [Decidable c] {x : Option β} {r : β} (h : rq c x = some r) : c ∧ x = some r := by
  unfold rq at h
  split at h
  · exact ⟨by assumption, h⟩
  · cases h
theorem bnd_e {α β : Type} {e : α} {f : α → Option β} {r : β} (h : bnd e f = some r) : ∃ v, e = v ∧ f v = some r := ⟨e, rfl, h⟩
def FU : Nat := 100000
theorem ob_e {α β : Type} {x : Option α} {k : α → Option β} {r : β} (h : ob x k = some r) : ∃ a, x = some a ∧ k a = some r := by
  cases x with
  | none => cases h
  | some a => exact ⟨a, rfl, h⟩
theorem ob2_e {α γ β : Type} {x : Option (α × γ)} {k : α → γ → Option β} {r : β} (h : ob2 x k = some r) : ∃ a c, x = some (a, c) ∧ k a c = some r := by
  cases x with
  | none => cases h
  | some q => exact ⟨q.1, q.2, rfl, h⟩
theorem ite_e {β : Type} {c : Prop} [Decidable c] {a b : Option β} {r : β} (h : (if c then a else b) = some r) : (c → a = some r) ∧ (¬ c → b = some r) :=
  ⟨fun z => by rw [if_pos z] at h; exact h, fun z => by rw [if_neg z] at h; exact h⟩
def st1 (i : Nat) (v : Value) (lv : List (Nat × Value)) : List (Nat × Value) := (i, v) :: lv.filter (fun q => !(q.1 == i) && !(q.1 + 1 == i && q.2.category == 2))
def st2 (i : Nat) (v : Value) (lv : List (Nat × Value)) : List (Nat × Value) := (i, v) :: lv.filter (fun q => !(q.1 == i) && (!(q.1 == i + 1) && !(q.1 + 1 == i && q.2.category == 2)))
/-- a field of an object of class number ci: the link of index idx in class own is its k-th -/
def FL (own : String) (idx ci k : Nat) : Prop := ∃ (C : String) (T : u_T) (N : Nat), vwCl[ci]? = some (C, T, N) ∧ k < N ∧ (∀ w ∈ u_ws C T N, w ∈ gt) ∧ (Cond.fieldLink own idx (T k).1 (T k).2.1 (T k).2.2.1 ∈ gt ∨ ∃ host : String, Cond.fieldLinkNest own idx (T k).1 (T k).2.1 (T k).2.2.1 host ∈ nw)
/-- .. and it may be written, being of type ty -/
def FP (own : String) (idx ci k : Nat) (ty : FieldType) : Prop := ∃ (C : String) (T : u_T) (N : Nat) (ty0 : Nat → FieldType), vwCl[ci]? = some (C, T, N) ∧ k < N ∧ (∀ w ∈ u_ws C T N, w ∈ gt) ∧ (Cond.fieldLink own idx (T k).1 (T k).2.1 (T k).2.2.1 ∈ gt ∨ ∃ host : String, Cond.fieldLinkNest own idx (T k).1 (T k).2.1 (T k).2.2.1 host ∈ nw) ∧ (∀ j, j < N → parseFieldDescriptor (T j).2.2.1 = some (ty0 j)) ∧ (∀ a, a < N → ∀ b, b < N → a ≠ b → (T a).2.1 ≠ (T b).2.1) ∧ (T k).2.2.2 = false ∧ parseFieldDescriptor (T k).2.2.1 = some ty
/-- a call of a method of an object -/
def MV (own : String) (idx : Nat) (y : MethodName) (b : ByteArray) (nL : Nat) (ret : Option FieldType) (n : Nat) : Prop :=
  (Cond.methodLink own idx y ∈ gt ∨ ∃ host : String, Cond.methodLinkNest own idx y host ∈ nw) ∧ Cond.instanceMethod y ∈ gt ∧ Cond.selects y.cls y y ∈ gt ∧ Cond.initialized y.cls ∈ gt ∧ Cond.code y b nL ret ∈ gt ∧ (y.cls ≠ "java/lang/invoke/MethodHandle" ∧ y.cls ≠ "java/lang/invoke/VarHandle" ∧ (parseMethodDescriptor y.desc).map (fun d => d.parameters.length) = some n) ∧ nL ≤ 20
/-- a call of a static method -/
def MS (own : String) (idx : Nat) (y : MethodName) (b : ByteArray) (nL : Nat) (ret : Option FieldType) (n : Nat) : Prop :=
  (Cond.methodLink own idx y ∈ gt ∨ ∃ host : String, Cond.methodLinkNest own idx y host ∈ nw) ∧ Cond.static y ∈ gt ∧ Cond.initialized y.cls ∈ gt ∧ Cond.code y b nL ret ∈ gt ∧ (y.cls ≠ "java/lang/invoke/MethodHandle" ∧ y.cls ≠ "java/lang/invoke/VarHandle" ∧ (parseMethodDescriptor y.desc).map (fun d => d.parameters.length) = some n) ∧ nL ≤ 20
section ROWS
variable {L : List LD} {X : XT} {Γ : MT} {own : String} {b : ByteArray} {nL d : Nat} {ret : Option FieldType} {Q : State → Prop} {pc : Nat} {lv : List (Nat × Value)} {st : List Value} {M : Mem}
theorem Kx.ex (K : Kx L X Γ own b nL d ret) : Γ.1.tables.exec = Jvm.exec := K.1
theorem Kx.cd (K : Kx L X Γ own b nL d ret) : Γ.2.2.2.2.2.2.2.1.code = b := K.2.1
theorem Kx.rt (K : Kx L X Γ own b nL d ret) : Γ.2.2.2.2.2.2.1.sig.returnType = ret := K.2.2.1
theorem Kx.ts (K : Kx L X Γ own b nL d ret) : ∀ w ∈ gt, w.before Γ.2.2.2.2.1 Γ.2.2.1 = true := K.2.2.2.1
theorem Kx.ow (K : Kx L X Γ own b nL d ret) : Γ.2.2.1.vm.findClass own = some Γ.2.2.2.1.cls := K.2.2.2.2.1
theorem Kx.lk (K : Kx L X Γ own b nL d ret) : Γ.2.2.2.2.2.2.1.locks = false := K.2.2.2.2.2.1
theorem Kx.ml (K : Kx L X Γ own b nL d ret) : Γ.2.2.2.2.2.2.2.1.maxLocals = nL := K.2.2.2.2.2.2.1
theorem Kx.kk (K : Kx L X Γ own b nL d ret) : va_K X.2.1 vwCl (tysO X.2.2.1) Γ.2.2.1 := K.2.2.2.2.2.2.2.1
theorem Kx.sta (K : Kx L X Γ own b nL d ret) : St X Γ.2.2.1 Γ.2.2.1.heap := K.2.2.2.2.2.2.2.2.1
theorem Kx.nw (K : Kx L X Γ own b nL d ret) : ∀ w ∈ nw, w.before Γ.2.2.2.2.1 Γ.2.2.1 = true := fun w hw => va_Nw.use (nw_tab (List.mem_filter.mp hw).2) (K.sta.2.2.2.2.1 w hw)
theorem Kx.ad (K : Kx L X Γ own b nL d ret) : AD L X := K.2.2.2.2.2.2.2.2.2.1
theorem Kx.fr (K : Kx L X Γ own b nL d ret) : d ≤ Γ.2.2.2.2.2.2.2.2.1.frames := K.2.2.2.2.2.2.2.2.2.2.1
theorem Kx.lo (K : Kx L X Γ own b nL d ret) : 40 * d ≤ Γ.2.2.2.2.2.2.2.2.1.locals := K.2.2.2.2.2.2.2.2.2.2.2.1
theorem Kx.ce (K : Kx L X Γ own b nL d ret) : Γ.2.2.2.2.2.2.2.2.2.1 ≤ Γ.2.2.2.2.2.2.2.2.1.cells := K.2.2.2.2.2.2.2.2.2.2.2.2.1
theorem Kx.sl (K : Kx L X Γ own b nL d ret) : Γ.2.2.2.2.2.2.2.2.2.2 ≤ Γ.2.2.2.2.2.2.2.2.1.slots := K.2.2.2.2.2.2.2.2.2.2.2.2.2
theorem g_iconst (K : Kx L X Γ own b nL d ret) {pn : Nat} (hp : pc + 1 = pn) {n : Int} {v : Int32} (hv : Int32.ofInt n = v) (hd : decode b pc = .ok (.iconst n, 1)) (k : G L X Γ nL Q pn lv (.int v :: st) M) : G L X Γ nL Q pc lv st M := by
  subst hp
  exact fun H locs ls hl hP hS => lv_iconst K.ex K.cd hd hv (k H locs ls hl hP hS)
theorem g_bipush (K : Kx L X Γ own b nL d ret) {pn : Nat} (hp : pc + 2 = pn) {n : Int} {v : Int32} (hv : (Int8.ofInt n).toInt32 = v) (hd : decode b pc = .ok (.bipush n, 2)) (k : G L X Γ nL Q pn lv (.int v :: st) M) : G L X Γ nL Q pc lv st M := by
  subst hp
  exact fun H locs ls hl hP hS => lv_bipush K.ex K.cd hd hv (k H locs ls hl hP hS)
theorem g_sipush (K : Kx L X Γ own b nL d ret) {pn : Nat} (hp : pc + 3 = pn) {n : Int} {v : Int32} (hv : (Int16.ofInt n).toInt32 = v) (hd : decode b pc = .ok (.sipush n, 3)) (k : G L X Γ nL Q pn lv (.int v :: st) M) : G L X Γ nL Q pc lv st M := by
  subst hp
  exact fun H locs ls hl hP hS => lv_sipush K.ex K.cd hd hv (k H locs ls hl hP hS)
theorem g_lconst (K : Kx L X Γ own b nL d ret) {pn : Nat} (hp : pc + 1 = pn) {n : Fin 2} {v : Int64} (hv : Int64.ofNat (n : Nat) = v) (hd : decode b pc = .ok (.lconst n, 1)) (k : G L X Γ nL Q pn lv (.long v :: st) M) : G L X Γ nL Q pc lv st M := by
  subst hp
  exact fun H locs ls hl hP hS => lv_lconst K.ex K.cd hd hv (k H locs ls hl hP hS)
theorem g_ldc (K : Kx L X Γ own b nL d ret) {pn : Nat} (hp : pc + 2 = pn) {idx : Nat} {v : Int32} (hw : Cond.constant own idx v ∈ gt) (hd : decode b pc = .ok (.ldc idx, 2)) (k : G L X Γ nL Q pn lv (.int v :: st) M) : G L X Γ nL Q pc lv st M := by
  subst hp
  exact fun H locs ls hl hP hS => lv_ldc K.ex K.cd K.ow (K.ts _ hw) hd (k H locs ls hl hP hS)
theorem g_ldcw (K : Kx L X Γ own b nL d ret) {pn : Nat} (hp : pc + 3 = pn) {idx : Nat} {v : Int32} (hw : Cond.constant own idx v ∈ gt) (hd : decode b pc = .ok (.ldc_w idx, 3)) (k : G L X Γ nL Q pn lv (.int v :: st) M) : G L X Γ nL Q pc lv st M := by
  subst hp
  exact fun H locs ls hl hP hS => lv_ldcw K.ex K.cd K.ow (K.ts _ hw) hd (k H locs ls hl hP hS)
theorem g_ldc2 (K : Kx L X Γ own b nL d ret) {pn : Nat} (hp : pc + 3 = pn) {idx : Nat} {v : Int64} (hw : Cond.constantLong own idx v ∈ gt) (hd : decode b pc = .ok (.ldc2_w idx, 3)) (k : G L X Γ nL Q pn lv (.long v :: st) M) : G L X Γ nL Q pc lv st M := by
  subst hp
  exact fun H locs ls hl hP hS => lv_ldc2 K.ex K.cd K.ow (K.ts _ hw) hd (k H locs ls hl hP hS)
theorem g_iload_n (K : Kx L X Γ own b nL d ret) {pn : Nat} (hp : pc + 1 = pn) {kf : Fin 4} {x : Int32} (q : Nat) (hq : lv[q]? = some ((kf : Nat), .int x)) (hd : decode b pc = .ok (.iload_n kf, 1)) (k : G L X Γ nL Q pn lv (.int x :: st) M) : G L X Γ nL Q pc lv st M := by
  subst hp
  exact fun H locs ls hl hP hS => lv_iload_n K.ex K.cd hd rfl (lv_at hl q hq) (k H locs ls hl hP hS)
theorem g_iload (K : Kx L X Γ own b nL d ret) {pn : Nat} (hp : pc + 2 = pn) {i : Nat} {x : Int32} (q : Nat) (hq : lv[q]? = some (i, .int x)) (hd : decode b pc = .ok (.iload i, 2)) (k : G L X Γ nL Q pn lv (.int x :: st) M) : G L X Γ nL Q pc lv st M := by
  subst hp
  exact fun H locs ls hl hP hS => lv_iload K.ex K.cd hd (lv_at hl q hq) (k H locs ls hl hP hS)
theorem g_lload_n (K : Kx L X Γ own b nL d ret) {pn : Nat} (hp : pc + 1 = pn) {kf : Fin 4} {x : Int64} (q : Nat) (hq : lv[q]? = some ((kf : Nat), .long x)) (hd : decode b pc = .ok (.lload_n kf, 1)) (k : G L X Γ nL Q pn lv (.long x :: st) M) : G L X Γ nL Q pc lv st M := by
  subst hp
  exact fun H locs ls hl hP hS => lv_lload_n K.ex K.cd hd rfl (lv_at hl q hq) (k H locs ls hl hP hS)
theorem g_lload (K : Kx L X Γ own b nL d ret) {pn : Nat} (hp : pc + 2 = pn) {i : Nat} {x : Int64} (q : Nat) (hq : lv[q]? = some (i, .long x)) (hd : decode b pc = .ok (.lload i, 2)) (k : G L X Γ nL Q pn lv (.long x :: st) M) : G L X Γ nL Q pc lv st M := by
  subst hp
  exact fun H locs ls hl hP hS => lv_lload K.ex K.cd hd (lv_at hl q hq) (k H locs ls hl hP hS)
theorem g_aload_n (K : Kx L X Γ own b nL d ret) {pn : Nat} (hp : pc + 1 = pn) {kf : Fin 4} {x : Nat} (q : Nat) (hq : lv[q]? = some ((kf : Nat), .ref x)) (hd : decode b pc = .ok (.aload_n kf, 1)) (k : G L X Γ nL Q pn lv (.ref x :: st) M) : G L X Γ nL Q pc lv st M := by
  subst hp
  exact fun H locs ls hl hP hS => lv_aload_n K.ex K.cd hd rfl (lv_at hl q hq) (k H locs ls hl hP hS)
theorem g_aload (K : Kx L X Γ own b nL d ret) {pn : Nat} (hp : pc + 2 = pn) {i : Nat} {x : Nat} (q : Nat) (hq : lv[q]? = some (i, .ref x)) (hd : decode b pc = .ok (.aload i, 2)) (k : G L X Γ nL Q pn lv (.ref x :: st) M) : G L X Γ nL Q pc lv st M := by
  subst hp
  exact fun H locs ls hl hP hS => lv_aload K.ex K.cd hd (lv_at hl q hq) (k H locs ls hl hP hS)
theorem g_istore_n (K : Kx L X Γ own b nL d ret) {pn : Nat} (hp : pc + 1 = pn) {kf : Fin 4} {i : Nat} {x : Int32} {lv' : List (Nat × Value)} (hd : decode b pc = .ok (.istore_n kf, 1)) (hi : (kf : Nat) = i) (hn : i < nL) (hlv : st1 i (.int x) lv = lv') (k : G L X Γ nL Q pn lv' st M) : G L X Γ nL Q pc lv (.int x :: st) M := by
  subst hp
  exact fun H locs ls hl hP hS => lv_istore_n K.ex K.cd hd hi hl hn hlv (fun ls' hl' => k H locs ls' hl' hP hS)
theorem g_istore (K : Kx L X Γ own b nL d ret) {pn : Nat} (hp : pc + 2 = pn) {i : Nat} {x : Int32} {lv' : List (Nat × Value)} (hd : decode b pc = .ok (.istore i, 2)) (hn : i < nL) (hlv : st1 i (.int x) lv = lv') (k : G L X Γ nL Q pn lv' st M) : G L X Γ nL Q pc lv (.int x :: st) M := by
  subst hp
  exact fun H locs ls hl hP hS => lv_istore K.ex K.cd hd hl hn hlv (fun ls' hl' => k H locs ls' hl' hP hS)
theorem g_lstore_n (K : Kx L X Γ own b nL d ret) {pn : Nat} (hp : pc + 1 = pn) {kf : Fin 4} {i : Nat} {x : Int64} {lv' : List (Nat × Value)} (hd : decode b pc = .ok (.lstore_n kf, 1)) (hi : (kf : Nat) = i) (hn : i + 1 < nL) (hlv : st2 i (.long x) lv = lv') (k : G L X Γ nL Q pn lv' st M) : G L X Γ nL Q pc lv (.long x :: st) M := by
  subst hp
  exact fun H locs ls hl hP hS => lv_lstore_n K.ex K.cd hd hi hl hn hlv (fun ls' hl' => k H locs ls' hl' hP hS)
theorem g_lstore (K : Kx L X Γ own b nL d ret) {pn : Nat} (hp : pc + 2 = pn) {i : Nat} {x : Int64} {lv' : List (Nat × Value)} (hd : decode b pc = .ok (.lstore i, 2)) (hn : i + 1 < nL) (hlv : st2 i (.long x) lv = lv') (k : G L X Γ nL Q pn lv' st M) : G L X Γ nL Q pc lv (.long x :: st) M := by
  subst hp
  exact fun H locs ls hl hP hS => lv_lstore K.ex K.cd hd hl hn hlv (fun ls' hl' => k H locs ls' hl' hP hS)
theorem g_astore_n (K : Kx L X Γ own b nL d ret) {pn : Nat} (hp : pc + 1 = pn) {kf : Fin 4} {i : Nat} {x : Nat} {lv' : List (Nat × Value)} (hd : decode b pc = .ok (.astore_n kf, 1)) (hi : (kf : Nat) = i) (hn : i < nL) (hlv : st1 i (.ref x) lv = lv') (k : G L X Γ nL Q pn lv' st M) : G L X Γ nL Q pc lv (.ref x :: st) M := by
  subst hp
  exact fun H locs ls hl hP hS => lv_astore_n K.ex K.cd hd hi hl hn hlv (fun ls' hl' => k H locs ls' hl' hP hS)
theorem g_astore (K : Kx L X Γ own b nL d ret) {pn : Nat} (hp : pc + 2 = pn) {i : Nat} {x : Nat} {lv' : List (Nat × Value)} (hd : decode b pc = .ok (.astore i, 2)) (hn : i < nL) (hlv : st1 i (.ref x) lv = lv') (k : G L X Γ nL Q pn lv' st M) : G L X Γ nL Q pc lv (.ref x :: st) M := by
  subst hp
  exact fun H locs ls hl hP hS => lv_astore K.ex K.cd hd hl hn hlv (fun ls' hl' => k H locs ls' hl' hP hS)
theorem g_iinc (K : Kx L X Γ own b nL d ret) {pn : Nat} (hp : pc + 3 = pn) {i : Nat} {n : Int} {x v mm : Int32} {lv' : List (Nat × Value)} (q : Nat) (hq : lv[q]? = some (i, .int x)) (hm : Int32.ofInt n = mm) (hv : x + mm = v) (hd : decode b pc = .ok (.iinc i n, 3)) (hn : i < nL) (hlv : st1 i (.int v) lv = lv') (k : G L X Γ nL Q pn lv' st M) : G L X Γ nL Q pc lv st M := by
  subst hp
  exact fun H locs ls hl hP hS => lv_iinc K.ex K.cd hd hl hq (by rw [hm]; exact hv) hn hlv (fun ls' hl' => k H locs ls' hl' hP hS)
theorem g_sub {lv' : List (Nat × Value)} (ks : List Nat) (hlv : lv_pick lv ks = lv') (k : G L X Γ nL Q pc lv' st M) : G L X Γ nL Q pc lv st M :=
  fun H locs ls hl hP hS => k H locs ls (lv_sub hl ks hlv) hP hS
theorem g_aload_nN (K : Kx L X Γ own b nL d ret) {pn : Nat} (hp : pc + 1 = pn) {kf : Fin 4} (q : Nat) (hq : lv[q]? = some ((kf : Nat), .null)) (hd : decode b pc = .ok (.aload_n kf, 1)) (k : G L X Γ nL Q pn lv (.null :: st) M) : G L X Γ nL Q pc lv st M := by
  subst hp
  exact fun H locs ls hl hP hS => lv_aload_nN K.ex K.cd hd rfl (lv_at hl q hq) (k H locs ls hl hP hS)
theorem g_aloadN (K : Kx L X Γ own b nL d ret) {pn : Nat} (hp : pc + 2 = pn) {i : Nat} (q : Nat) (hq : lv[q]? = some (i, .null)) (hd : decode b pc = .ok (.aload i, 2)) (k : G L X Γ nL Q pn lv (.null :: st) M) : G L X Γ nL Q pc lv st M := by
  subst hp
  exact fun H locs ls hl hP hS => lv_aloadN K.ex K.cd hd (lv_at hl q hq) (k H locs ls hl hP hS)
theorem g_astore_nN (K : Kx L X Γ own b nL d ret) {pn : Nat} (hp : pc + 1 = pn) {kf : Fin 4} {i : Nat} {lv' : List (Nat × Value)} (hd : decode b pc = .ok (.astore_n kf, 1)) (hi : (kf : Nat) = i) (hn : i < nL) (hlv : st1 i .null lv = lv') (k : G L X Γ nL Q pn lv' st M) : G L X Γ nL Q pc lv (.null :: st) M := by
  subst hp
  exact fun H locs ls hl hP hS => lv_astore_nN K.ex K.cd hd hi hl hn hlv (fun ls' hl' => k H locs ls' hl' hP hS)
theorem g_astoreN (K : Kx L X Γ own b nL d ret) {pn : Nat} (hp : pc + 2 = pn) {i : Nat} {lv' : List (Nat × Value)} (hd : decode b pc = .ok (.astore i, 2)) (hn : i < nL) (hlv : st1 i .null lv = lv') (k : G L X Γ nL Q pn lv' st M) : G L X Γ nL Q pc lv (.null :: st) M := by
  subst hp
  exact fun H locs ls hl hP hS => lv_astoreN K.ex K.cd hd hl hn hlv (fun ls' hl' => k H locs ls' hl' hP hS)
theorem g_nmr {ρ : Type} {res : ρ} {e : Nat} {f : Nat → Option ρ} (h : bnd e f = some res) (P : Nat → Prop) (hp : P e) (k : ∀ t : Nat, P t → f t = some res → G L X Γ nL Q pc lv (.ref (X.2.2.2.1 t) :: st) M) : G L X Γ nL Q pc lv (.ref (X.2.2.2.1 e) :: st) M := k e hp h
theorem g_nmi {ρ : Type} {res : ρ} {e : Int32} {f : Int32 → Option ρ} (h : bnd e f = some res) (k : ∀ v : Int32, f v = some res → G L X Γ nL Q pc lv (.int v :: st) M) : G L X Γ nL Q pc lv (.int e :: st) M := k e h
theorem g_nml {ρ : Type} {res : ρ} {e : Int64} {f : Int64 → Option ρ} (h : bnd e f = some res) (k : ∀ v : Int64, f v = some res → G L X Γ nL Q pc lv (.long v :: st) M) : G L X Γ nL Q pc lv (.long e :: st) M := k e h
theorem g_iadd (K : Kx L X Γ own b nL d ret) {pn : Nat} (hp : pc + 1 = pn) {x y : Int32}  (hd : decode b pc = .ok (.iadd, 1)) (k : G L X Γ nL Q pn lv (.int (x + y) :: st) M) : G L X Γ nL Q pc lv (.int y :: .int x :: st) M := by
  subst hp
  exact fun H locs ls hl hP hS => lv_iadd K.ex K.cd hd  (k H locs ls hl hP hS)
theorem g_isub (K : Kx L X Γ own b nL d ret) {pn : Nat} (hp : pc + 1 = pn) {x y : Int32}  (hd : decode b pc = .ok (.isub, 1)) (k : G L X Γ nL Q pn lv (.int (x - y) :: st) M) : G L X Γ nL Q pc lv (.int y :: .int x :: st) M := by
  subst hp
  exact fun H locs ls hl hP hS => lv_isub K.ex K.cd hd  (k H locs ls hl hP hS)
theorem g_imul (K : Kx L X Γ own b nL d ret) {pn : Nat} (hp : pc + 1 = pn) {x y : Int32}  (hd : decode b pc = .ok (.imul, 1)) (k : G L X Γ nL Q pn lv (.int (x * y) :: st) M) : G L X Γ nL Q pc lv (.int y :: .int x :: st) M := by
  subst hp
  exact fun H locs ls hl hP hS => lv_imul K.ex K.cd hd  (k H locs ls hl hP hS)
theorem g_iand (K : Kx L X Γ own b nL d ret) {pn : Nat} (hp : pc + 1 = pn) {x y : Int32}  (hd : decode b pc = .ok (.iand, 1)) (k : G L X Γ nL Q pn lv (.int (x &&& y) :: st) M) : G L X Γ nL Q pc lv (.int y :: .int x :: st) M := by
  subst hp
  exact fun H locs ls hl hP hS => lv_iand K.ex K.cd hd  (k H locs ls hl hP hS)
theorem g_ior (K : Kx L X Γ own b nL d ret) {pn : Nat} (hp : pc + 1 = pn) {x y : Int32}  (hd : decode b pc = .ok (.ior, 1)) (k : G L X Γ nL Q pn lv (.int (x ||| y) :: st) M) : G L X Γ nL Q pc lv (.int y :: .int x :: st) M := by
  subst hp
  exact fun H locs ls hl hP hS => lv_ior K.ex K.cd hd  (k H locs ls hl hP hS)
theorem g_ishl (K : Kx L X Γ own b nL d ret) {pn : Nat} (hp : pc + 1 = pn) {x y : Int32}  (hd : decode b pc = .ok (.ishl, 1)) (k : G L X Γ nL Q pn lv (.int (x <<< (y &&& 31)) :: st) M) : G L X Γ nL Q pc lv (.int y :: .int x :: st) M := by
  subst hp
  exact fun H locs ls hl hP hS => lv_ishl K.ex K.cd hd  (k H locs ls hl hP hS)
theorem g_ishr (K : Kx L X Γ own b nL d ret) {pn : Nat} (hp : pc + 1 = pn) {x y : Int32}  (hd : decode b pc = .ok (.ishr, 1)) (k : G L X Γ nL Q pn lv (.int (x >>> (y &&& 31)) :: st) M) : G L X Γ nL Q pc lv (.int y :: .int x :: st) M := by
  subst hp
  exact fun H locs ls hl hP hS => lv_ishr K.ex K.cd hd  (k H locs ls hl hP hS)
theorem g_ladd (K : Kx L X Γ own b nL d ret) {pn : Nat} (hp : pc + 1 = pn) {x y : Int64}  (hd : decode b pc = .ok (.ladd, 1)) (k : G L X Γ nL Q pn lv (.long (x + y) :: st) M) : G L X Γ nL Q pc lv (.long y :: .long x :: st) M := by
  subst hp
  exact fun H locs ls hl hP hS => lv_ladd K.ex K.cd hd  (k H locs ls hl hP hS)
theorem g_lsub (K : Kx L X Γ own b nL d ret) {pn : Nat} (hp : pc + 1 = pn) {x y : Int64}  (hd : decode b pc = .ok (.lsub, 1)) (k : G L X Γ nL Q pn lv (.long (x - y) :: st) M) : G L X Γ nL Q pc lv (.long y :: .long x :: st) M := by
  subst hp
  exact fun H locs ls hl hP hS => lv_lsub K.ex K.cd hd  (k H locs ls hl hP hS)
theorem g_lmul (K : Kx L X Γ own b nL d ret) {pn : Nat} (hp : pc + 1 = pn) {x y : Int64}  (hd : decode b pc = .ok (.lmul, 1)) (k : G L X Γ nL Q pn lv (.long (x * y) :: st) M) : G L X Γ nL Q pc lv (.long y :: .long x :: st) M := by
  subst hp
  exact fun H locs ls hl hP hS => lv_lmul K.ex K.cd hd  (k H locs ls hl hP hS)
theorem g_lor (K : Kx L X Γ own b nL d ret) {pn : Nat} (hp : pc + 1 = pn) {x y : Int64}  (hd : decode b pc = .ok (.lor, 1)) (k : G L X Γ nL Q pn lv (.long (x ||| y) :: st) M) : G L X Γ nL Q pc lv (.long y :: .long x :: st) M := by
  subst hp
  exact fun H locs ls hl hP hS => lv_lor K.ex K.cd hd  (k H locs ls hl hP hS)
theorem g_ineg (K : Kx L X Γ own b nL d ret) {pn : Nat} (hp : pc + 1 = pn) {x : Int32}  (hd : decode b pc = .ok (.ineg, 1)) (k : G L X Γ nL Q pn lv (.int (-x) :: st) M) : G L X Γ nL Q pc lv (.int x :: st) M := by
  subst hp
  exact fun H locs ls hl hP hS => lv_ineg K.ex K.cd hd  (k H locs ls hl hP hS)
theorem g_idiv (K : Kx L X Γ own b nL d ret) {pn : Nat} (hp : pc + 1 = pn) {x y : Int32} (hy : ¬ y = 0) (hd : decode b pc = .ok (.idiv, 1)) (k : G L X Γ nL Q pn lv (.int (x / y) :: st) M) : G L X Γ nL Q pc lv (.int y :: .int x :: st) M := by
  subst hp
  exact fun H locs ls hl hP hS => lv_idiv K.ex K.cd hd hy (k H locs ls hl hP hS)
theorem g_irem (K : Kx L X Γ own b nL d ret) {pn : Nat} (hp : pc + 1 = pn) {x y : Int32} (hy : ¬ y = 0) (hd : decode b pc = .ok (.irem, 1)) (k : G L X Γ nL Q pn lv (.int (x - x / y * y) :: st) M) : G L X Γ nL Q pc lv (.int y :: .int x :: st) M := by
  subst hp
  exact fun H locs ls hl hP hS => lv_irem K.ex K.cd hd hy (k H locs ls hl hP hS)
theorem g_ldiv (K : Kx L X Γ own b nL d ret) {pn : Nat} (hp : pc + 1 = pn) {x y : Int64} (hy : ¬ y = 0) (hd : decode b pc = .ok (.ldiv, 1)) (k : G L X Γ nL Q pn lv (.long (x / y) :: st) M) : G L X Γ nL Q pc lv (.long y :: .long x :: st) M := by
  subst hp
  exact fun H locs ls hl hP hS => lv_ldiv K.ex K.cd hd hy (k H locs ls hl hP hS)
theorem g_lrem (K : Kx L X Γ own b nL d ret) {pn : Nat} (hp : pc + 1 = pn) {x y : Int64} (hy : ¬ y = 0) (hd : decode b pc = .ok (.lrem, 1)) (k : G L X Γ nL Q pn lv (.long (x - x / y * y) :: st) M) : G L X Γ nL Q pc lv (.long y :: .long x :: st) M := by
  subst hp
  exact fun H locs ls hl hP hS => lv_lrem K.ex K.cd hd hy (k H locs ls hl hP hS)
theorem g_i2l (K : Kx L X Γ own b nL d ret) {pn : Nat} (hp : pc + 1 = pn) {x : Int32} (hd : decode b pc = .ok (.i2l, 1)) (k : G L X Γ nL Q pn lv (.long x.toInt64 :: st) M) : G L X Γ nL Q pc lv (.int x :: st) M := by
  subst hp
  exact fun H locs ls hl hP hS => lv_i2l K.ex K.cd hd rfl (k H locs ls hl hP hS)
theorem g_l2i (K : Kx L X Γ own b nL d ret) {pn : Nat} (hp : pc + 1 = pn) {x : Int64} (hd : decode b pc = .ok (.l2i, 1)) (k : G L X Γ nL Q pn lv (.int x.toInt32 :: st) M) : G L X Γ nL Q pc lv (.long x :: st) M := by
  subst hp
  exact fun H locs ls hl hP hS => lv_l2i K.ex K.cd hd rfl (k H locs ls hl hP hS)
theorem g_i2b (K : Kx L X Γ own b nL d ret) {pn : Nat} (hp : pc + 1 = pn) {x : Int32} (hd : decode b pc = .ok (.i2b, 1)) (k : G L X Γ nL Q pn lv (.int x.toInt8.toInt32 :: st) M) : G L X Γ nL Q pc lv (.int x :: st) M := by
  subst hp
  exact fun H locs ls hl hP hS => lv_i2b K.ex K.cd hd rfl (k H locs ls hl hP hS)
theorem g_i2s (K : Kx L X Γ own b nL d ret) {pn : Nat} (hp : pc + 1 = pn) {x : Int32} (hd : decode b pc = .ok (.i2s, 1)) (k : G L X Γ nL Q pn lv (.int x.toInt16.toInt32 :: st) M) : G L X Γ nL Q pc lv (.int x :: st) M := by
  subst hp
  exact fun H locs ls hl hP hS => lv_i2s K.ex K.cd hd rfl (k H locs ls hl hP hS)
theorem g_i2c (K : Kx L X Γ own b nL d ret) {pn : Nat} (hp : pc + 1 = pn) {x : Int32} (hd : decode b pc = .ok (.i2c, 1)) (k : G L X Γ nL Q pn lv (.int (x.toUInt32 % 65536).toInt32 :: st) M) : G L X Γ nL Q pc lv (.int x :: st) M := by
  subst hp
  exact fun H locs ls hl hP hS => lv_i2c K.ex K.cd hd rfl (k H locs ls hl hP hS)
theorem g_iushr (K : Kx L X Γ own b nL d ret) {pn : Nat} (hp : pc + 1 = pn) {x y : Int32} (hd : decode b pc = .ok (.iushr, 1)) (k : G L X Γ nL Q pn lv (.int (x.toUInt32 >>> (y.toUInt32 &&& Int32.toUInt32 31)).toInt32 :: st) M) : G L X Γ nL Q pc lv (.int y :: .int x :: st) M := by
  subst hp
  exact fun H locs ls hl hP hS => lv_iushr K.ex K.cd hd rfl (k H locs ls hl hP hS)
theorem g_lshl (K : Kx L X Γ own b nL d ret) {pn : Nat} (hp : pc + 1 = pn) {x : Int64} {y : Int32} (hd : decode b pc = .ok (.lshl, 1)) (k : G L X Γ nL Q pn lv (.long (x <<< (y.toInt64 &&& 63)) :: st) M) : G L X Γ nL Q pc lv (.int y :: .long x :: st) M := by
  subst hp
  exact fun H locs ls hl hP hS => lv_lshl K.ex K.cd hd rfl (k H locs ls hl hP hS)
theorem g_lcmp (K : Kx L X Γ own b nL d ret) {pn : Nat} (hp : pc + 1 = pn) {x y : Int64} (hd : decode b pc = .ok (.lcmp, 1)) (k : G L X Γ nL Q pn lv (.int (lg_cmp x y) :: st) M) : G L X Γ nL Q pc lv (.long y :: .long x :: st) M := by
  subst hp
  exact fun H locs ls hl hP hS => W.lcmp K.ex K.cd hd (k H locs ls hl hP hS)
theorem g_dup (K : Kx L X Γ own b nL d ret) {pn : Nat} (hp : pc + 1 = pn) {v : Value} (hv : v.category = 1) (hd : decode b pc = .ok (.dup, 1)) (k : G L X Γ nL Q pn lv (v :: v :: st) M) : G L X Γ nL Q pc lv (v :: st) M := by
  subst hp
  exact fun H locs ls hl hP hS => lv_dup K.ex K.cd hd hv (k H locs ls hl hP hS)
theorem g_pop (K : Kx L X Γ own b nL d ret) {pn : Nat} (hp : pc + 1 = pn) {v : Value} (hv : v.category = 1) (hd : decode b pc = .ok (.pop, 1)) (k : G L X Γ nL Q pn lv st M) : G L X Γ nL Q pc lv (v :: st) M := by
  subst hp
  exact fun H locs ls hl hP hS => lv_pop K.ex K.cd hd hv (k H locs ls hl hP hS)
theorem g_goto (K : Kx L X Γ own b nL d ret) {off : Int} {tgt : Nat} (ht : (pc : Int) + off = (tgt : Int)) (hd : decode b pc = .ok (.goto off, 3)) (k : G L X Γ nL Q tgt lv st M) : G L X Γ nL Q pc lv st M :=
  fun H locs ls hl hP hS => lv_goto K.ex K.cd hd ht (k H locs ls hl hP hS)
theorem g_icmp_eq (K : Kx L X Γ own b nL d ret) {pn : Nat} (hp : pc + 3 = pn) {x y : Int32} {off : Int} {tgt : Nat} {ρ : Type} {res : ρ} {A B : Option ρ} (ht : (pc : Int) + off = (tgt : Int)) (hd : decode b pc = .ok (.if_icmp .eq off, 3)) (h : (if x = y then A else B) = some res) (kt : A = some res → G L X Γ nL Q tgt lv st M) (kf : B = some res → G L X Γ nL Q pn lv st M) : G L X Γ nL Q pc lv (.int y :: .int x :: st) M := by
  subst hp
  exact fun H locs ls hl hP hS => lv_icmp_eq K.ex K.cd hd ht (fun z => kt ((ite_e h).1 z) H locs ls hl hP hS) (fun z => kf ((ite_e h).2 z) H locs ls hl hP hS)
theorem g_icmp_ne (K : Kx L X Γ own b nL d ret) {pn : Nat} (hp : pc + 3 = pn) {x y : Int32} {off : Int} {tgt : Nat} {ρ : Type} {res : ρ} {A B : Option ρ} (ht : (pc : Int) + off = (tgt : Int)) (hd : decode b pc = .ok (.if_icmp .ne off, 3)) (h : (if x = y then B else A) = some res) (kt : A = some res → G L X Γ nL Q tgt lv st M) (kf : B = some res → G L X Γ nL Q pn lv st M) : G L X Γ nL Q pc lv (.int y :: .int x :: st) M := by
  subst hp
  exact fun H locs ls hl hP hS => lv_icmp_ne K.ex K.cd hd ht (fun z => kt ((ite_e h).2 z) H locs ls hl hP hS) (fun z => kf ((ite_e h).1 z) H locs ls hl hP hS)
theorem g_icmp_lt (K : Kx L X Γ own b nL d ret) {pn : Nat} (hp : pc + 3 = pn) {x y : Int32} {off : Int} {tgt : Nat} {ρ : Type} {res : ρ} {A B : Option ρ} (ht : (pc : Int) + off = (tgt : Int)) (hd : decode b pc = .ok (.if_icmp .lt off, 3)) (h : (if x < y then A else B) = some res) (kt : A = some res → G L X Γ nL Q tgt lv st M) (kf : B = some res → G L X Γ nL Q pn lv st M) : G L X Γ nL Q pc lv (.int y :: .int x :: st) M := by
  subst hp
  exact fun H locs ls hl hP hS => lv_icmp_lt K.ex K.cd hd ht (fun z => kt ((ite_e h).1 z) H locs ls hl hP hS) (fun z => kf ((ite_e h).2 z) H locs ls hl hP hS)
theorem g_icmp_ge (K : Kx L X Γ own b nL d ret) {pn : Nat} (hp : pc + 3 = pn) {x y : Int32} {off : Int} {tgt : Nat} {ρ : Type} {res : ρ} {A B : Option ρ} (ht : (pc : Int) + off = (tgt : Int)) (hd : decode b pc = .ok (.if_icmp .ge off, 3)) (h : (if y ≤ x then A else B) = some res) (kt : A = some res → G L X Γ nL Q tgt lv st M) (kf : B = some res → G L X Γ nL Q pn lv st M) : G L X Γ nL Q pc lv (.int y :: .int x :: st) M := by
  subst hp
  exact fun H locs ls hl hP hS => lv_icmp_ge K.ex K.cd hd ht (fun z => kt ((ite_e h).1 z) H locs ls hl hP hS) (fun z => kf ((ite_e h).2 z) H locs ls hl hP hS)
theorem g_icmp_gt (K : Kx L X Γ own b nL d ret) {pn : Nat} (hp : pc + 3 = pn) {x y : Int32} {off : Int} {tgt : Nat} {ρ : Type} {res : ρ} {A B : Option ρ} (ht : (pc : Int) + off = (tgt : Int)) (hd : decode b pc = .ok (.if_icmp .gt off, 3)) (h : (if y < x then A else B) = some res) (kt : A = some res → G L X Γ nL Q tgt lv st M) (kf : B = some res → G L X Γ nL Q pn lv st M) : G L X Γ nL Q pc lv (.int y :: .int x :: st) M := by
  subst hp
  exact fun H locs ls hl hP hS => lv_icmp_gt K.ex K.cd hd ht (fun z => kt ((ite_e h).1 z) H locs ls hl hP hS) (fun z => kf ((ite_e h).2 z) H locs ls hl hP hS)
theorem g_icmp_le (K : Kx L X Γ own b nL d ret) {pn : Nat} (hp : pc + 3 = pn) {x y : Int32} {off : Int} {tgt : Nat} {ρ : Type} {res : ρ} {A B : Option ρ} (ht : (pc : Int) + off = (tgt : Int)) (hd : decode b pc = .ok (.if_icmp .le off, 3)) (h : (if x ≤ y then A else B) = some res) (kt : A = some res → G L X Γ nL Q tgt lv st M) (kf : B = some res → G L X Γ nL Q pn lv st M) : G L X Γ nL Q pc lv (.int y :: .int x :: st) M := by
  subst hp
  exact fun H locs ls hl hP hS => lv_icmp_le K.ex K.cd hd ht (fun z => kt ((ite_e h).1 z) H locs ls hl hP hS) (fun z => kf ((ite_e h).2 z) H locs ls hl hP hS)
theorem g_if_eq (K : Kx L X Γ own b nL d ret) {pn : Nat} (hp : pc + 3 = pn) {x : Int32} {off : Int} {tgt : Nat} {ρ : Type} {res : ρ} {A B : Option ρ} (ht : (pc : Int) + off = (tgt : Int)) (hd : decode b pc = .ok (.ifCond .eq off, 3)) (h : (if x = 0 then A else B) = some res) (kt : A = some res → G L X Γ nL Q tgt lv st M) (kf : B = some res → G L X Γ nL Q pn lv st M) : G L X Γ nL Q pc lv (.int x :: st) M := by
  subst hp
  exact fun H locs ls hl hP hS => lv_if_eq K.ex K.cd hd ht (fun z => kt ((ite_e h).1 z) H locs ls hl hP hS) (fun z => kf ((ite_e h).2 z) H locs ls hl hP hS)
theorem g_if_ne (K : Kx L X Γ own b nL d ret) {pn : Nat} (hp : pc + 3 = pn) {x : Int32} {off : Int} {tgt : Nat} {ρ : Type} {res : ρ} {A B : Option ρ} (ht : (pc : Int) + off = (tgt : Int)) (hd : decode b pc = .ok (.ifCond .ne off, 3)) (h : (if x = 0 then B else A) = some res) (kt : A = some res → G L X Γ nL Q tgt lv st M) (kf : B = some res → G L X Γ nL Q pn lv st M) : G L X Γ nL Q pc lv (.int x :: st) M := by
  subst hp
  exact fun H locs ls hl hP hS => lv_if_ne K.ex K.cd hd ht (fun z => kt ((ite_e h).2 z) H locs ls hl hP hS) (fun z => kf ((ite_e h).1 z) H locs ls hl hP hS)
theorem g_if_lt (K : Kx L X Γ own b nL d ret) {pn : Nat} (hp : pc + 3 = pn) {x : Int32} {off : Int} {tgt : Nat} {ρ : Type} {res : ρ} {A B : Option ρ} (ht : (pc : Int) + off = (tgt : Int)) (hd : decode b pc = .ok (.ifCond .lt off, 3)) (h : (if x < 0 then A else B) = some res) (kt : A = some res → G L X Γ nL Q tgt lv st M) (kf : B = some res → G L X Γ nL Q pn lv st M) : G L X Γ nL Q pc lv (.int x :: st) M := by
  subst hp
  exact fun H locs ls hl hP hS => lv_if_lt K.ex K.cd hd ht (fun z => kt ((ite_e h).1 z) H locs ls hl hP hS) (fun z => kf ((ite_e h).2 z) H locs ls hl hP hS)
theorem g_if_ge (K : Kx L X Γ own b nL d ret) {pn : Nat} (hp : pc + 3 = pn) {x : Int32} {off : Int} {tgt : Nat} {ρ : Type} {res : ρ} {A B : Option ρ} (ht : (pc : Int) + off = (tgt : Int)) (hd : decode b pc = .ok (.ifCond .ge off, 3)) (h : (if 0 ≤ x then A else B) = some res) (kt : A = some res → G L X Γ nL Q tgt lv st M) (kf : B = some res → G L X Γ nL Q pn lv st M) : G L X Γ nL Q pc lv (.int x :: st) M := by
  subst hp
  exact fun H locs ls hl hP hS => lv_if_ge K.ex K.cd hd ht (fun z => kt ((ite_e h).1 z) H locs ls hl hP hS) (fun z => kf ((ite_e h).2 z) H locs ls hl hP hS)
theorem g_if_gt (K : Kx L X Γ own b nL d ret) {pn : Nat} (hp : pc + 3 = pn) {x : Int32} {off : Int} {tgt : Nat} {ρ : Type} {res : ρ} {A B : Option ρ} (ht : (pc : Int) + off = (tgt : Int)) (hd : decode b pc = .ok (.ifCond .gt off, 3)) (h : (if 0 < x then A else B) = some res) (kt : A = some res → G L X Γ nL Q tgt lv st M) (kf : B = some res → G L X Γ nL Q pn lv st M) : G L X Γ nL Q pc lv (.int x :: st) M := by
  subst hp
  exact fun H locs ls hl hP hS => lv_if_gt K.ex K.cd hd ht (fun z => kt ((ite_e h).1 z) H locs ls hl hP hS) (fun z => kf ((ite_e h).2 z) H locs ls hl hP hS)
theorem g_if_le (K : Kx L X Γ own b nL d ret) {pn : Nat} (hp : pc + 3 = pn) {x : Int32} {off : Int} {tgt : Nat} {ρ : Type} {res : ρ} {A B : Option ρ} (ht : (pc : Int) + off = (tgt : Int)) (hd : decode b pc = .ok (.ifCond .le off, 3)) (h : (if x ≤ 0 then A else B) = some res) (kt : A = some res → G L X Γ nL Q tgt lv st M) (kf : B = some res → G L X Γ nL Q pn lv st M) : G L X Γ nL Q pc lv (.int x :: st) M := by
  subst hp
  exact fun H locs ls hl hP hS => lv_if_le K.ex K.cd hd ht (fun z => kt ((ite_e h).1 z) H locs ls hl hP hS) (fun z => kf ((ite_e h).2 z) H locs ls hl hP hS)
theorem b2i_0 {z : Bool} : b2i z = 0 ↔ ¬ z = true := by cases z <;> decide
theorem g_ifB_eq (K : Kx L X Γ own b nL d ret) {pn : Nat} (hp : pc + 3 = pn) {z : Bool} {off : Int} {tgt : Nat} {ρ : Type} {res : ρ} {A B : Option ρ} (ht : (pc : Int) + off = (tgt : Int)) (hd : decode b pc = .ok (.ifCond .eq off, 3)) (h : (if z = true then B else A) = some res) (kt : A = some res → G L X Γ nL Q tgt lv st M) (kf : B = some res → G L X Γ nL Q pn lv st M) : G L X Γ nL Q pc lv (.int (b2i z) :: st) M := by
  subst hp
  exact fun H locs ls hl hP hS => lv_if_eq K.ex K.cd hd ht (fun z => kt ((ite_e h).2 (b2i_0.mp z)) H locs ls hl hP hS) (fun z => kf ((ite_e h).1 ((Decidable.not_not.mp fun w => z (b2i_0.mpr w)))) H locs ls hl hP hS)
theorem g_ifB_ne (K : Kx L X Γ own b nL d ret) {pn : Nat} (hp : pc + 3 = pn) {z : Bool} {off : Int} {tgt : Nat} {ρ : Type} {res : ρ} {A B : Option ρ} (ht : (pc : Int) + off = (tgt : Int)) (hd : decode b pc = .ok (.ifCond .ne off, 3)) (h : (if z = true then A else B) = some res) (kt : A = some res → G L X Γ nL Q tgt lv st M) (kf : B = some res → G L X Γ nL Q pn lv st M) : G L X Γ nL Q pc lv (.int (b2i z) :: st) M := by
  subst hp
  exact fun H locs ls hl hP hS => lv_if_ne K.ex K.cd hd ht (fun z => kt ((ite_e h).1 ((Decidable.not_not.mp fun w => z (b2i_0.mpr w)))) H locs ls hl hP hS) (fun z => kf ((ite_e h).2 (b2i_0.mp z)) H locs ls hl hP hS)
theorem g_ifT_eq (K : Kx L X Γ own b nL d ret) {x : Int32} {off : Int} {tgt : Nat} (ht : (pc : Int) + off = (tgt : Int)) (hd : decode b pc = .ok (.ifCond .eq off, 3)) (hc : x = 0) (kt : G L X Γ nL Q tgt lv st M) : G L X Γ nL Q pc lv (.int x :: st) M :=
  fun H locs ls hl hP hS => lv_if_eq K.ex K.cd hd ht (fun z => kt H locs ls hl hP hS) (fun z => absurd hc (by first | exact z | exact not_not_intro z))
theorem g_ifF_eq (K : Kx L X Γ own b nL d ret) {pn : Nat} (hp : pc + 3 = pn) {x : Int32} {off : Int} {tgt : Nat} (ht : (pc : Int) + off = (tgt : Int)) (hd : decode b pc = .ok (.ifCond .eq off, 3)) (hc : ¬ x = 0) (kf : G L X Γ nL Q pn lv st M) : G L X Γ nL Q pc lv (.int x :: st) M := by
  subst hp
  exact fun H locs ls hl hP hS => lv_if_eq K.ex K.cd hd ht (fun z => absurd z (by first | exact hc | exact not_not_intro hc)) (fun z => kf H locs ls hl hP hS)
theorem g_ifT_ne (K : Kx L X Γ own b nL d ret) {x : Int32} {off : Int} {tgt : Nat} (ht : (pc : Int) + off = (tgt : Int)) (hd : decode b pc = .ok (.ifCond .ne off, 3)) (hc : ¬ x = 0) (kt : G L X Γ nL Q tgt lv st M) : G L X Γ nL Q pc lv (.int x :: st) M :=
  fun H locs ls hl hP hS => lv_if_ne K.ex K.cd hd ht (fun z => kt H locs ls hl hP hS) (fun z => absurd hc (by first | exact z | exact not_not_intro z))
theorem g_ifF_ne (K : Kx L X Γ own b nL d ret) {pn : Nat} (hp : pc + 3 = pn) {x : Int32} {off : Int} {tgt : Nat} (ht : (pc : Int) + off = (tgt : Int)) (hd : decode b pc = .ok (.ifCond .ne off, 3)) (hc : x = 0) (kf : G L X Γ nL Q pn lv st M) : G L X Γ nL Q pc lv (.int x :: st) M := by
  subst hp
  exact fun H locs ls hl hP hS => lv_if_ne K.ex K.cd hd ht (fun z => absurd z (by first | exact hc | exact not_not_intro hc)) (fun z => kf H locs ls hl hP hS)
theorem g_ifT_lt (K : Kx L X Γ own b nL d ret) {x : Int32} {off : Int} {tgt : Nat} (ht : (pc : Int) + off = (tgt : Int)) (hd : decode b pc = .ok (.ifCond .lt off, 3)) (hc : x < 0) (kt : G L X Γ nL Q tgt lv st M) : G L X Γ nL Q pc lv (.int x :: st) M :=
  fun H locs ls hl hP hS => lv_if_lt K.ex K.cd hd ht (fun z => kt H locs ls hl hP hS) (fun z => absurd hc (by first | exact z | exact not_not_intro z))
theorem g_ifF_lt (K : Kx L X Γ own b nL d ret) {pn : Nat} (hp : pc + 3 = pn) {x : Int32} {off : Int} {tgt : Nat} (ht : (pc : Int) + off = (tgt : Int)) (hd : decode b pc = .ok (.ifCond .lt off, 3)) (hc : ¬ x < 0) (kf : G L X Γ nL Q pn lv st M) : G L X Γ nL Q pc lv (.int x :: st) M := by
  subst hp
  exact fun H locs ls hl hP hS => lv_if_lt K.ex K.cd hd ht (fun z => absurd z (by first | exact hc | exact not_not_intro hc)) (fun z => kf H locs ls hl hP hS)
theorem g_ifT_ge (K : Kx L X Γ own b nL d ret) {x : Int32} {off : Int} {tgt : Nat} (ht : (pc : Int) + off = (tgt : Int)) (hd : decode b pc = .ok (.ifCond .ge off, 3)) (hc : 0 ≤ x) (kt : G L X Γ nL Q tgt lv st M) : G L X Γ nL Q pc lv (.int x :: st) M :=
  fun H locs ls hl hP hS => lv_if_ge K.ex K.cd hd ht (fun z => kt H locs ls hl hP hS) (fun z => absurd hc (by first | exact z | exact not_not_intro z))
theorem g_ifF_ge (K : Kx L X Γ own b nL d ret) {pn : Nat} (hp : pc + 3 = pn) {x : Int32} {off : Int} {tgt : Nat} (ht : (pc : Int) + off = (tgt : Int)) (hd : decode b pc = .ok (.ifCond .ge off, 3)) (hc : ¬ 0 ≤ x) (kf : G L X Γ nL Q pn lv st M) : G L X Γ nL Q pc lv (.int x :: st) M := by
  subst hp
  exact fun H locs ls hl hP hS => lv_if_ge K.ex K.cd hd ht (fun z => absurd z (by first | exact hc | exact not_not_intro hc)) (fun z => kf H locs ls hl hP hS)
theorem g_ifT_gt (K : Kx L X Γ own b nL d ret) {x : Int32} {off : Int} {tgt : Nat} (ht : (pc : Int) + off = (tgt : Int)) (hd : decode b pc = .ok (.ifCond .gt off, 3)) (hc : 0 < x) (kt : G L X Γ nL Q tgt lv st M) : G L X Γ nL Q pc lv (.int x :: st) M :=
  fun H locs ls hl hP hS => lv_if_gt K.ex K.cd hd ht (fun z => kt H locs ls hl hP hS) (fun z => absurd hc (by first | exact z | exact not_not_intro z))
theorem g_ifF_gt (K : Kx L X Γ own b nL d ret) {pn : Nat} (hp : pc + 3 = pn) {x : Int32} {off : Int} {tgt : Nat} (ht : (pc : Int) + off = (tgt : Int)) (hd : decode b pc = .ok (.ifCond .gt off, 3)) (hc : ¬ 0 < x) (kf : G L X Γ nL Q pn lv st M) : G L X Γ nL Q pc lv (.int x :: st) M := by
  subst hp
  exact fun H locs ls hl hP hS => lv_if_gt K.ex K.cd hd ht (fun z => absurd z (by first | exact hc | exact not_not_intro hc)) (fun z => kf H locs ls hl hP hS)
theorem g_ifT_le (K : Kx L X Γ own b nL d ret) {x : Int32} {off : Int} {tgt : Nat} (ht : (pc : Int) + off = (tgt : Int)) (hd : decode b pc = .ok (.ifCond .le off, 3)) (hc : x ≤ 0) (kt : G L X Γ nL Q tgt lv st M) : G L X Γ nL Q pc lv (.int x :: st) M :=
  fun H locs ls hl hP hS => lv_if_le K.ex K.cd hd ht (fun z => kt H locs ls hl hP hS) (fun z => absurd hc (by first | exact z | exact not_not_intro z))
theorem g_ifF_le (K : Kx L X Γ own b nL d ret) {pn : Nat} (hp : pc + 3 = pn) {x : Int32} {off : Int} {tgt : Nat} (ht : (pc : Int) + off = (tgt : Int)) (hd : decode b pc = .ok (.ifCond .le off, 3)) (hc : ¬ x ≤ 0) (kf : G L X Γ nL Q pn lv st M) : G L X Γ nL Q pc lv (.int x :: st) M := by
  subst hp
  exact fun H locs ls hl hP hS => lv_if_le K.ex K.cd hd ht (fun z => absurd z (by first | exact hc | exact not_not_intro hc)) (fun z => kf H locs ls hl hP hS)
theorem g_ifnull (K : Kx L X Γ own b nL d ret) {pn : Nat} (hp : pc + 3 = pn) {x : Nat} {off : Int} (hd : decode b pc = .ok (.ifnull off, 3)) (k : G L X Γ nL Q pn lv st M) : G L X Γ nL Q pc lv (.ref x :: st) M := by
  subst hp
  exact fun H locs ls hl hP hS => lv_ifnull K.ex K.cd hd (k H locs ls hl hP hS)
theorem g_ifnonnull (K : Kx L X Γ own b nL d ret) {x : Nat} {off : Int} {tgt : Nat} (ht : (pc : Int) + off = (tgt : Int)) (hd : decode b pc = .ok (.ifnonnull off, 3)) (k : G L X Γ nL Q tgt lv st M) : G L X Γ nL Q pc lv (.ref x :: st) M :=
  fun H locs ls hl hP hS => lv_ifnonnull K.ex K.cd hd ht (k H locs ls hl hP hS)
theorem g_ifnullN (K : Kx L X Γ own b nL d ret)  {off : Int} {tgt : Nat} (ht : (pc : Int) + off = (tgt : Int)) (hd : decode b pc = .ok (.ifnull off, 3)) (k : G L X Γ nL Q tgt lv st M) : G L X Γ nL Q pc lv (.null :: st) M :=
  fun H locs ls hl hP hS => lv_ifnullN K.ex K.cd hd ht (k H locs ls hl hP hS)
theorem g_ifnonnullN (K : Kx L X Γ own b nL d ret) {pn : Nat} (hp : pc + 3 = pn)  {off : Int} (hd : decode b pc = .ok (.ifnonnull off, 3)) (k : G L X Γ nL Q pn lv st M) : G L X Γ nL Q pc lv (.null :: st) M := by
  subst hp
  exact fun H locs ls hl hP hS => lv_ifnonnullN K.ex K.cd hd (k H locs ls hl hP hS)
theorem g_null (K : Kx L X Γ own b nL d ret) {pn : Nat} (hp : pc + 1 = pn) (hd : decode b pc = .ok (.aconst_null, 1)) (k : G L X Γ nL Q pn lv (.null :: st) M) : G L X Γ nL Q pc lv st M := by
  subst hp
  exact fun H locs ls hl hP hS => lv_null K.ex K.cd hd (k H locs ls hl hP hS)
theorem g_tsw (K : Kx L X Γ own b nL d ret) {x v : Int32} {dflt lo hi off : Int} {offs : Array Int} {len tgt : Nat} (hx : x = v) (h1 : ¬ v.toInt < lo) (h2 : ¬ hi < v.toInt) (ho : offs[(v.toInt - lo).toNat]? = some off) (ht : (pc : Int) + off = (tgt : Int)) (hd : decode b pc = .ok (.tableswitch dflt lo hi offs, len)) (k : G L X Γ nL Q tgt lv st M) : G L X Γ nL Q pc lv (.int x :: st) M := by
  subst hx
  exact fun H locs ls hl hP hS => lv_tableIn K.ex K.cd hd h1 h2 ho ht (k H locs ls hl hP hS)
theorem g_tswD (K : Kx L X Γ own b nL d ret) {x : Int32} {dflt lo hi : Int} {offs : Array Int} {len tgt : Nat} (vs : List Int32) (hv : ∀ i : Nat, i < vs.length → (vs.getD i 0).toInt = lo + i) (hn : hi < lo + vs.length) (hx : ∀ v ∈ vs, ¬ x = v) (ht : (pc : Int) + dflt = (tgt : Int)) (hd : decode b pc = .ok (.tableswitch dflt lo hi offs, len)) (k : G L X Γ nL Q tgt lv st M) : G L X Γ nL Q pc lv (.int x :: st) M := by
  have hz : x.toInt < lo ∨ hi < x.toInt := by
    refine Decidable.byContradiction fun z => ?_
    have z1 : ¬ x.toInt < lo := fun w => z (Or.inl w)
    have z2 : ¬ hi < x.toInt := fun w => z (Or.inr w)
    have hlt : (x.toInt - lo).toNat < vs.length := by omega
    have e := hv _ hlt
    refine hx (vs.getD (x.toInt - lo).toNat 0) ?_ ?_
    · rw [List.getD_eq_getElem?_getD, List.getElem?_eq_getElem hlt]
      exact List.getElem_mem hlt
    · apply Int32.toInt_inj.mp
      rw [e]
      omega
  exact fun H locs ls hl hP hS => lv_tableOut K.ex K.cd hd hz ht (k H locs ls hl hP hS)
theorem g_lsw (K : Kx L X Γ own b nL d ret) {x : Int32} {dflt off : Int} {ps : Array (Int × Int)} {len tgt : Nat} (ho : Op.lookupswitch.offset ps.toList dflt x.toInt = off) (hp : (ps.toList.zip (ps.toList.drop 1)).all (fun (a, next) => a.1 < next.1) = true) (ht : (pc : Int) + off = (tgt : Int)) (hd : decode b pc = .ok (.lookupswitch dflt ps, len)) (k : G L X Γ nL Q tgt lv st M) : G L X Γ nL Q pc lv (.int x :: st) M :=
  fun H locs ls hl hP hS => lv_lookup K.ex K.cd hd hp ho ht (k H locs ls hl hP hS)
theorem lsw_0 (dflt k : Int) : Op.lookupswitch.offset [] dflt k = dflt := rfl
theorem lsw_t {x v : Int32} {a o : Int} {r : List (Int × Int)} {dflt : Int} (h : x = v) (ha : v.toInt = a) : Op.lookupswitch.offset ((a, o) :: r) dflt x.toInt = o := by
  subst h
  rw [lookupswitch.offset_cons, if_pos ha.symm]
theorem lsw_f {x v : Int32} {a o w : Int} {r : List (Int × Int)} {dflt : Int} (h : ¬ x = v) (ha : v.toInt = a) (k : Op.lookupswitch.offset r dflt x.toInt = w) : Op.lookupswitch.offset ((a, o) :: r) dflt x.toInt = w := by
  rw [lookupswitch.offset_cons, if_neg (fun z => h (Int32.toInt_inj.mp (by rw [ha, z]))), k]
theorem g_get (K : Kx L X Γ own b nL d ret) {pn : Nat} (hp : pc + 3 = pn) {idx ci k t cd : Nat} {sp : List Nat} {v : Value} (F : FL own idx ci k) (hc : L[t]? = some (.inl (ci, sp))) (hk : sp[k]? = some cd) (hv : fv X.2.2.2.1 (M t) k cd = v) (hd : decode b pc = .ok (.getfield idx, 3)) (kk : G L X Γ nL Q pn lv (v :: st) M) : G L X Γ nL Q pc lv (.ref (X.2.2.2.1 t) :: st) M := by
  subst hp
  obtain ⟨C, T, N, h1, h2, h3, h4⟩ := F
  subst hv
  intro H locs ls hl hP hS
  rcases h4 with h4 | ⟨host, h4⟩
  · exact va_get (D := X.2.1) (cl := vwCl) (Ts := gt) K.ex K.cd K.ts h3 K.ow K.kk hP t (wsO_at hc) h1 k h2 (K.ts _ h4) (fun _ h => h) (flds_at hk) hd (kk H locs ls hl hP hS)
  · exact va_getN (D := X.2.1) (cl := vwCl) (Ts := gt) K.ex K.cd K.ts h3 K.ow K.kk hP t (wsO_at hc) h1 k h2 (K.nw _ h4) (fun _ h => h) (flds_at hk) hd (kk H locs ls hl hP hS)
theorem g_geti (K : Kx L X Γ own b nL d ret) {pn : Nat} (hp : pc + 3 = pn) {idx ci k t : Nat} {sp : List Nat} (F : FL own idx ci k) (hc : L[t]? = some (.inl (ci, sp))) (hk : sp[k]? = some 0) (hd : decode b pc = .ok (.getfield idx, 3)) (kk : G L X Γ nL Q pn lv (.int (M t k) :: st) M) : G L X Γ nL Q pc lv (.ref (X.2.2.2.1 t) :: st) M := by
  subst hp
  exact g_get K rfl F hc hk rfl hd kk
theorem g_getl (K : Kx L X Γ own b nL d ret) {pn : Nat} (hp : pc + 3 = pn) {idx ci k t : Nat} {sp : List Nat} (F : FL own idx ci k) (hc : L[t]? = some (.inl (ci, sp))) (hk : sp[k]? = some 1) (hd : decode b pc = .ok (.getfield idx, 3)) (kk : G L X Γ nL Q pn lv (.long (M t k).toInt64 :: st) M) : G L X Γ nL Q pc lv (.ref (X.2.2.2.1 t) :: st) M := by
  subst hp
  exact g_get K rfl F hc hk rfl hd kk
theorem g_getr (K : Kx L X Γ own b nL d ret) {pn : Nat} (hp : pc + 3 = pn) {idx ci k t j : Nat} {sp : List Nat} (F : FL own idx ci k) (hc : L[t]? = some (.inl (ci, sp))) (hk : sp[k]? = some (j + 2)) (hd : decode b pc = .ok (.getfield idx, 3)) (kk : G L X Γ nL Q pn lv (.ref (X.2.2.2.1 j) :: st) M) : G L X Γ nL Q pc lv (.ref (X.2.2.2.1 t) :: st) M := by
  subst hp
  exact g_get K rfl F hc hk rfl hd kk
theorem g_put (K : Kx L X Γ own b nL d ret) {pn : Nat} (hp : pc + 3 = pn) {idx ci k t cd : Nat} {sp : List Nat} {ty : FieldType} {x : Int32} {v : Value} (F : FP own idx ci k ty) (hc : L[t]? = some (.inl (ci, sp))) (hk : sp[k]? = some cd) (hcd : cd < 2) (hv : fv X.2.2.2.1 (upd (M t) k x) k cd = v) (hn : narrow ty v = v) (hf : fits ty v = true) (hd : decode b pc = .ok (.putfield idx, 3)) (kk : G L X Γ nL Q pn lv st (wr M t k x)) : G L X Γ nL Q pc lv (v :: .ref (X.2.2.2.1 t) :: st) M := by
  subst hp
  obtain ⟨C, T, N, ty0, h1, h2, h3, h4, h5, h6, h7, h8⟩ := F
  intro H locs ls hl hP hS
  have e := wsO_put (X := X) (M := M) hc hk hv hcd
  rcases h4 with h4 | ⟨host, h4⟩
  · exact va_put (D := X.2.1) (cl := vwCl) (Ts := gt) K.ex K.cd K.ts h3 ty0 h5 h6 K.ow K.kk hP (K.ad.D M) hS t (wsO_at hc) h1 k h2 (K.ts _ h4) (fun _ h => h) h7 h8 hn hf (flds_len hk) hd (fun H1 locs1 hP1 hD1 hS1 => by
      rw [e] at hP1
      exact kk H1 locs1 ls hl hP1 hS1)
  · exact va_putN (D := X.2.1) (cl := vwCl) (Ts := gt) K.ex K.cd K.ts h3 ty0 h5 h6 K.ow K.kk hP (K.ad.D M) hS t (wsO_at hc) h1 k h2 (K.nw _ h4) (fun _ h => h) h7 h8 hn hf (flds_len hk) hd (fun H1 locs1 hP1 hD1 hS1 => by
      rw [e] at hP1
      exact kk H1 locs1 ls hl hP1 hS1)
theorem upd_at (f : Nat → Int32) (k : Nat) (x : Int32) : upd f k x k = x := by simp [upd]
theorem g_puti (K : Kx L X Γ own b nL d ret) {pn : Nat} (hp : pc + 3 = pn) {idx ci k t : Nat} {sp : List Nat} {x : Int32} {ρ : Type} {res : ρ} {f : Mem → Option ρ} (F : FP own idx ci k .int) (hc : L[t]? = some (.inl (ci, sp))) (hk : sp[k]? = some 0) (hd : decode b pc = .ok (.putfield idx, 3)) (h : bnd (wr M t k x) f = some res) (kk : ∀ M1 : Mem, f M1 = some res → G L X Γ nL Q pn lv st M1) : G L X Γ nL Q pc lv (.int x :: .ref (X.2.2.2.1 t) :: st) M := by
  subst hp
  exact g_put K rfl F hc hk (Nat.le_of_ble_eq_true rfl) (by show Value.int (upd (M t) k x k) = _; rw [upd_at]) rfl rfl hd (kk _ h)
theorem g_putz (K : Kx L X Γ own b nL d ret) {pn : Nat} (hp : pc + 3 = pn) {idx ci k t : Nat} {sp : List Nat} {x : Int32} {ρ : Type} {res : ρ} {f : Mem → Option ρ} (F : FP own idx ci k .boolean) (hc : L[t]? = some (.inl (ci, sp))) (hk : sp[k]? = some 0) (hx : narrow .boolean (.int x) = .int x) (hf : fits .boolean (.int x) = true) (hd : decode b pc = .ok (.putfield idx, 3)) (h : bnd (wr M t k x) f = some res) (kk : ∀ M1 : Mem, f M1 = some res → G L X Γ nL Q pn lv st M1) : G L X Γ nL Q pc lv (.int x :: .ref (X.2.2.2.1 t) :: st) M := by
  subst hp
  exact g_put K rfl F hc hk (Nat.le_of_ble_eq_true rfl) (by show Value.int (upd (M t) k x k) = _; rw [upd_at]) hx hf hd (kk _ h)
theorem g_putl (K : Kx L X Γ own b nL d ret) {pn : Nat} (hp : pc + 3 = pn) {idx ci k t : Nat} {sp : List Nat} {x : Int64} {ρ : Type} {res : ρ} {f : Mem → Option ρ} (F : FP own idx ci k .long) (hc : L[t]? = some (.inl (ci, sp))) (hk : sp[k]? = some 1) (hd : decode b pc = .ok (.putfield idx, 3)) (h : rq (x.toInt32.toInt64 = x) (bnd (wr M t k x.toInt32) f) = some res) (kk : ∀ M1 : Mem, f M1 = some res → G L X Γ nL Q pn lv st M1) : G L X Γ nL Q pc lv (.long x :: .ref (X.2.2.2.1 t) :: st) M := by
  subst hp
  obtain ⟨e, h⟩ := rq_e h
  exact g_put K rfl F hc hk (Nat.le_of_ble_eq_true rfl) (by show Value.long (upd (M t) k x.toInt32 k).toInt64 = _; rw [upd_at, e]) rfl rfl hd (kk _ h)
theorem g_iald (K : Kx L X Γ own b nL d ret) {pn : Nat} (hp : pc + 1 = pn) {t n : Nat} {ch : Nat → Nat} {i : Int32} {ρ : Type} {res : ρ} {A : Option ρ} (hc : L[t]? = some (.inr (0, n, ch))) (hd : decode b pc = .ok (.iaload, 1)) (h : ck i n A = some res) (kk : A = some res → G L X Γ nL Q pn lv (.int (M t i.toNatClampNeg) :: st) M) : G L X Γ nL Q pc lv (.int i :: .ref (X.2.2.2.1 t) :: st) M := by
  subst hp
  exact fun H locs ls hl hP hS => va_iald K.ex K.cd K.kk hP t 0 (wsO_at hc) (show (tysO X.2.2.1)[0]? = some (X.2.2.1 0, _) from rfl) (ck_e h).1 hd (kk (ck_e h).2 H locs ls hl hP hS)
theorem g_zald (K : Kx L X Γ own b nL d ret) {pn : Nat} (hp : pc + 1 = pn) {t n : Nat} {ch : Nat → Nat} {i : Int32} {ρ : Type} {res : ρ} {A : Option ρ} (hc : L[t]? = some (.inr (1, n, ch))) (hd : decode b pc = .ok (.baload, 1)) (h : ck i n A = some res) (kk : A = some res → G L X Γ nL Q pn lv (.int (M t i.toNatClampNeg) :: st) M) : G L X Γ nL Q pc lv (.int i :: .ref (X.2.2.2.1 t) :: st) M := by
  subst hp
  exact fun H locs ls hl hP hS => va_zald K.ex K.cd K.kk hP t 1 (wsO_at hc) (show (tysO X.2.2.1)[1]? = some (X.2.2.1 1, _) from rfl) (ck_e h).1 hd (kk (ck_e h).2 H locs ls hl hP hS)
theorem g_iast (K : Kx L X Γ own b nL d ret) {pn : Nat} (hp : pc + 1 = pn) {t n : Nat} {ch : Nat → Nat} {i x : Int32} {ρ : Type} {res : ρ} {f : Mem → Option ρ} (hc : L[t]? = some (.inr (0, n, ch))) (hd : decode b pc = .ok (.iastore, 1)) (h : ck i n (bnd (wr M t i.toNatClampNeg x) f) = some res) (kk : ∀ M1 : Mem, f M1 = some res → G L X Γ nL Q pn lv st M1) : G L X Γ nL Q pc lv (.int x :: .int i :: .ref (X.2.2.2.1 t) :: st) M := by
  subst hp
  exact fun H locs ls hl hP hS => va_iast K.ex K.cd K.kk hP (K.ad.D M) hS t 0 (wsO_at hc) (show (tysO X.2.2.1)[0]? = some (X.2.2.1 0, _) from rfl) (ck_e h).1 hd (fun H1 locs1 hP1 hD1 hS1 => by
      have hc' : L[t]? = some (.inr (0, n, ch)) := hc
      rw [wsO_st hc' (Nat.le_of_ble_eq_true rfl)] at hP1
      exact kk _ (ck_e h).2 H1 locs1 ls hl hP1 hS1)
theorem g_zast (K : Kx L X Γ own b nL d ret) {pn : Nat} (hp : pc + 1 = pn) {t n : Nat} {ch : Nat → Nat} {i x : Int32} {ρ : Type} {res : ρ} {f : Mem → Option ρ} (hc : L[t]? = some (.inr (1, n, ch))) (hd : decode b pc = .ok (.bastore, 1)) (h : ck i n (bnd (wr M t i.toNatClampNeg (vp_nar .boolean x)) f) = some res) (kk : ∀ M1 : Mem, f M1 = some res → G L X Γ nL Q pn lv st M1) : G L X Γ nL Q pc lv (.int x :: .int i :: .ref (X.2.2.2.1 t) :: st) M := by
  subst hp
  exact fun H locs ls hl hP hS => va_zast K.ex K.cd K.kk hP (K.ad.D M) hS t 1 (wsO_at hc) (show (tysO X.2.2.1)[1]? = some (X.2.2.1 1, _) from rfl) (ck_e h).1 hd (fun H1 locs1 hP1 hD1 hS1 => by
      have hc' : L[t]? = some (.inr (1, n, ch)) := hc
      rw [wsO_st hc' (Nat.le_of_ble_eq_true rfl)] at hP1
      exact kk _ (ck_e h).2 H1 locs1 ls hl hP1 hS1)
theorem g_aald (K : Kx L X Γ own b nL d ret) {pn : Nat} (hp : pc + 1 = pn) {t n ty : Nat} {C : String} {ch : Nat → Nat} {i : Int32} {ρ : Type} {res : ρ} {A : Option ρ} (hc : L[t]? = some (.inr (ty + 2, n, ch))) (hty : (tysO X.2.2.1)[ty + 2]? = some (X.2.2.1 (ty + 2), .object C)) (hd : decode b pc = .ok (.aaload, 1)) (h : ck i n A = some res) (kk : vp_in i n → A = some res → G L X Γ nL Q pn lv (.ref (X.2.2.2.1 (ch i.toNatClampNeg)) :: st) M) : G L X Γ nL Q pc lv (.int i :: .ref (X.2.2.2.1 t) :: st) M := by
  subst hp
  exact fun H locs ls hl hP hS => va_aldq K.ex K.cd K.kk hP t (ty + 2) (wsO_at hc) hty (ck_e h).1 hd (kk (ck_e h).1 (ck_e h).2 H locs ls hl hP hS)
theorem g_alen (K : Kx L X Γ own b nL d ret) {pn : Nat} (hp : pc + 1 = pn) {t n ty : Nat} {ch : Nat → Nat} {v : Int32} {fty : FieldType} (hc : L[t]? = some (.inr (ty, n, ch))) (hty : (tysO X.2.2.1)[ty]? = some (X.2.2.1 ty, fty)) (hv : Int32.ofNat n = v) (hd : decode b pc = .ok (.arraylength, 1)) (kk : G L X Γ nL Q pn lv (.int v :: st) M) : G L X Γ nL Q pc lv (.ref (X.2.2.2.1 t) :: st) M := by
  subst hp
  exact fun H locs ls hl hP hS => va_alen K.ex K.cd K.kk hP t ty (wsO_at hc) hty hv hd (kk H locs ls hl hP hS)
theorem g_gets (K : Kx L X Γ own b nL d ret) {pn : Nat} (hp : pc + 3 = pn) {idx j : Nat} (hj : j < 4) (hw : Cond.fieldLink own idx "BeforeItGoes" (tnm j) "[I" ∈ gt ∨ ∃ host : String, Cond.fieldLinkNest own idx "BeforeItGoes" (tnm j) "[I" host ∈ nw) (hd : decode b pc = .ok (.getstatic idx, 3)) (kk : G L X Γ nL Q pn lv (.ref (X.2.2.2.1 (1000 + j)) :: st) M) : G L X Γ nL Q pc lv st M := by
  subst hp
  intro H locs ls hl hP hS
  rcases hw with hw | ⟨host, hw⟩
  · exact va_gets K.ex K.cd (K.sta.1 j hj).1 hS K.ow (K.ts _ hw) (fun _ h => h) hd (kk H locs ls hl hP hS)
  · exact va_getsN K.ex K.cd (K.sta.1 j hj).1 hS K.ow (K.nw _ hw) (fun _ h => h) hd (kk H locs ls hl hP hS)
theorem g_tald (K : Kx L X Γ own b nL d ret) {pn : Nat} (hp : pc + 1 = pn) {j n : Nat} {i : Int32} {ρ : Type} {res : ρ} {A : Option ρ} (hj : j < 4) (hn : (tab j).length = n) (hd : decode b pc = .ok (.iaload, 1)) (h : ck i n A = some res) (kk : A = some res → G L X Γ nL Q pn lv (.int (tb j i.toNatClampNeg) :: st) M) : G L X Γ nL Q pc lv (.int i :: .ref (X.2.2.2.1 (1000 + j)) :: st) M := by
  subst hp
  subst hn
  exact fun H locs ls hl hP hS => va_ti K.ex K.cd (K.sta.1 j hj).2 hS (ck_e h).1 rfl hd (kk (ck_e h).2 H locs ls hl hP hS)
theorem g_tlen (K : Kx L X Γ own b nL d ret) {pn : Nat} (hp : pc + 1 = pn) {j : Nat} {v : Int32} (hj : j < 4) (hv : Int32.ofNat (tab j).length = v) (hd : decode b pc = .ok (.arraylength, 1)) (kk : G L X Γ nL Q pn lv (.int v :: st) M) : G L X Γ nL Q pc lv (.ref (X.2.2.2.1 (1000 + j)) :: st) M := by
  subst hp
  exact fun H locs ls hl hP hS => va_tlen K.ex K.cd (K.sta.1 j hj).2 hS hv hd (kk H locs ls hl hP hS)
theorem g_ldcS (K : Kx L X Γ own b nL d ret) {pn : Nat} (hp : pc + 2 = pn) {idx i : Nat} {tx : String} (hi : whS[i]? = some (own, idx, tx)) (hd : decode b pc = .ok (.ldc idx, 2)) (kk : G L X Γ nL Q pn lv (.ref (X.2.2.2.1 (2000 + i)) :: st) M) : G L X Γ nL Q pc lv st M := by
  subst hp
  exact fun H locs ls hl hP hS => va_ldcS K.ex K.cd K.ow (K.sta.2.2.1 i _ hi) hd (kk H locs ls hl hP hS)
theorem g_coder (K : Kx L X Γ own b nL d ret) {pn : Nat} (hp : pc + 3 = pn) {idx i : Nat} (hi : i < nS) (hw : Cond.fieldLink own idx "java/lang/String" "coder" "B" ∈ gt) (hd : decode b pc = .ok (.getfield idx, 3)) (kk : G L X Γ nL Q pn lv (.int 0 :: st) M) : G L X Γ nL Q pc lv (.ref (X.2.2.2.1 (2000 + i)) :: st) M := by
  subst hp
  exact fun H locs ls hl hP hS => vk_getf K.ex K.cd (K.sta.2.1.1 i hi).2.1 hS K.ow (K.ts _ hw) (fun _ h => h) hd (kk H locs ls hl hP hS)
theorem g_value (K : Kx L X Γ own b nL d ret) {pn : Nat} (hp : pc + 3 = pn) {idx i : Nat} (hi : i < nS) (hw : Cond.fieldLink own idx "java/lang/String" "value" "[B" ∈ gt) (hd : decode b pc = .ok (.getfield idx, 3)) (kk : G L X Γ nL Q pn lv (.ref (X.2.2.2.1 (3000 + i)) :: st) M) : G L X Γ nL Q pc lv (.ref (X.2.2.2.1 (2000 + i)) :: st) M := by
  subst hp
  exact fun H locs ls hl hP hS => vk_getf K.ex K.cd (K.sta.2.1.1 i hi).2.2.1 hS K.ow (K.ts _ hw) (fun _ h => h) hd (kk H locs ls hl hP hS)
theorem g_compact (K : Kx L X Γ own b nL d ret) {pn : Nat} (hp : pc + 3 = pn) {idx : Nat} (hw : Cond.fieldLink own idx "java/lang/String" "COMPACT_STRINGS" "Z" ∈ gt) (hd : decode b pc = .ok (.getstatic idx, 3)) (kk : G L X Γ nL Q pn lv (.int 1 :: st) M) : G L X Γ nL Q pc lv st M := by
  subst hp
  exact fun H locs ls hl hP hS => va_gets K.ex K.cd K.sta.2.2.2.1 hS K.ow (K.ts _ hw) (fun _ h => h) hd (kk H locs ls hl hP hS)
theorem g_siobe (K : Kx L X Γ own b nL d ret) {pn : Nat} (hp : pc + 3 = pn) {idx : Nat} (hw : Cond.fieldLink own idx "jdk/internal/util/Preconditions" "SIOOBE_FORMATTER" "Ljava/util/function/BiFunction;" ∈ gt) (hd : decode b pc = .ok (.getstatic idx, 3)) (kk : ∀ v : Value, (v = .null ∨ ∃ t : Nat, v = .ref t) → G L X Γ nL Q pn lv (v :: st) M) : G L X Γ nL Q pc lv st M := by
  subst hp
  rcases K.sta.2.2.2.2.2 with hz | ⟨t, hz⟩
  · exact fun H locs ls hl hP hS => va_gets K.ex K.cd hz hS K.ow (K.ts _ hw) (fun _ h => h) hd (kk _ (Or.inl rfl) H locs ls hl hP hS)
  · exact fun H locs ls hl hP hS => va_gets K.ex K.cd hz hS K.ow (K.ts _ hw) (fun _ h => h) hd (kk _ (Or.inr ⟨t, rfl⟩) H locs ls hl hP hS)
theorem g_bald (K : Kx L X Γ own b nL d ret) {pn : Nat} (hp : pc + 1 = pn) {i n : Nat} {j : Int32} {ρ : Type} {res : ρ} {A : Option ρ} (hi : i < nS) (hn : lenS.getD i 0 = n) (hd : decode b pc = .ok (.baload, 1)) (h : ck j n A = some res) (kk : A = some res → G L X Γ nL Q pn lv (.int ((bytS.getD i []).getD j.toNatClampNeg 0) :: st) M) : G L X Γ nL Q pc lv (.int j :: .ref (X.2.2.2.1 (3000 + i)) :: st) M := by
  subst hp
  subst hn
  exact fun H locs ls hl hP hS => va_tb K.ex K.cd (K.sta.2.1.1 i hi).2.2.2 hS (ck_e h).1 rfl hd (kk (ck_e h).2 H locs ls hl hP hS)
theorem g_blen (K : Kx L X Γ own b nL d ret) {pn : Nat} (hp : pc + 1 = pn) {i : Nat} (hi : i < nS) (hd : decode b pc = .ok (.arraylength, 1)) (kk : G L X Γ nL Q pn lv (.int (nI (lenS.getD i 0)) :: st) M) : G L X Γ nL Q pc lv (.ref (X.2.2.2.1 (3000 + i)) :: st) M := by
  subst hp
  exact fun H locs ls hl hP hS => va_tlen K.ex K.cd (K.sta.2.1.1 i hi).2.2.2 hS rfl hd (kk H locs ls hl hP hS)
theorem pre_blind {av : List Value} : FrameBlind (va_Pc av (Pre L X M)) := by
  intro a U g mk q
  obtain ⟨q0, qP, qK, qS, qA⟩ := q
  exact ⟨q0, qP, va_K.moved (u := U) (U := U.calling g mk a) (Vm.Alike.refl U.vm) qK, St.same (u := U) (U := U.calling g mk a) rfl qS, qA⟩
theorem pre_at (K : Kx L X Γ own b nL d ret) {H : Heap} {locs : List Loc} {av : List Value} (hP : va_P X.2.1 vwCl (wsO L X M) H) (hS : va_S X.2.2.2.2 Γ.2.2.1.heap H locs) : ∀ U : State, U.heap = H → Γ.2.2.1.WarmedH U.vm → va_Pc av (Pre L X M) av.toArray U := by
  intro U hU hW
  refine ⟨rfl, by rw [hU]; exact hP, va_K.moved hW.alike K.kk, ?_, K.ad⟩
  rw [hU]
  exact (K.sta.kept hS.2.1).warm hW
theorem g_run {st0 rest : List Value} {M1 : Mem} {v : Option Value} {a : Array Value} (hr : ∀ (H : Heap) (locs : List Loc) (ls : Array Slot), lv_has ls nL lv → va_P X.2.1 vwCl (wsO L X M) H → va_S X.2.2.2.2 Γ.2.2.1.heap H locs → va_Run Γ.1 X.1 Γ.2.1 Γ.2.2.2.2.2.2.2.2.1 Γ.2.2.1 Γ.2.2.2.1 Γ.2.2.2.2.1 Γ.2.2.2.2.2.1 Γ.2.2.2.2.2.2.1 Γ.2.2.2.2.2.2.2.1 H locs Γ.2.2.2.2.2.2.2.2.2.1 Γ.2.2.2.2.2.2.2.2.2.2 0 0 (F0 Γ.2.2.2.1 pc ls st0) rest (Qo L X v M1 a) X.2.2.2.2) (kk : G L X Γ nL Q (pc + 3) lv (v.toList ++ rest) M1) : G L X Γ nL Q pc lv st0 M := by
  intro H locs ls hl hP hS T hT Xs
  obtain ⟨v', st₀, t, T', Lc, h0, X', hL, e1, e2, ⟨hv, hP1, hz, hk⟩, stp⟩ := hr H locs ls hl hP hS T hT Xs
  cases hv
  rw [h0] at hz hk
  obtain ⟨t2, a1, b1⟩ := kk T'.heap (locs ++ Lc) ls hl (by rw [e1]; exact hP1) ⟨Nat.le_trans hS.1 (by rw [e1]; exact hz), fun q h1 h2 => by rw [e1, hk q (Nat.lt_of_lt_of_le h1 hS.1) h2]; exact hS.2.1 q h1 h2, fun q hq => by
      rcases List.mem_append.mp hq with h | h
      · exact hS.2.2 q h
      · exact hL q h⟩ T' rfl X'
  exact ⟨t2, stp t2 a1, b1⟩
theorem gt_call {y : MethodName} {b' : ByteArray} {n' : Nat} {r' : Option FieldType} (h : Cond.code y b' n' r' ∈ gt) : GoodIn gt (.code y b' n' r' :: gt) := gt_good (fun w hw => (List.mem_cons.mp hw).elim (fun e => e ▸ h) id)
theorem g_callV (K : Kx L X Γ own b nL d ret) {pn : Nat} (hp : pc + 3 = pn) {idx n d' : Nat} {y : MethodName} {b' : ByteArray} {nL' : Nat} {ret' : Option FieldType} {As st0 rest : List Value} {a : Nat} {v : Option Value} {M1 : Mem} (hdd : d' + 1 ≤ d) (V : MV own idx y b' nL' ret' n) (hrc : ∀ (H : Heap) (locs : List Loc), va_P X.2.1 vwCl (wsO L X M) H → va_S X.2.2.2.2 Γ.2.2.1.heap H locs → ∃ cellB : Cell, H[X.2.2.2.1 a]? = some cellB ∧ cellB.vm.isStatics = false ∧ Γ.2.2.1.vm.findClass y.cls = some cellB.cls) (ct : CT L X d' y b' nL' ret' (.ref (X.2.2.2.1 a) :: As) M M1 v) (hn : As.length = n) (hst : st0 = As.reverse ++ .ref (X.2.2.2.1 a) :: rest) (hw : (rest.map fun v => v.category).sum ≤ 8) (hd : decode b pc = .ok (.invokevirtual idx, 3)) (kk : G L X Γ nL Q pn lv (v.toList ++ rest) M1) : G L X Γ nL Q pc lv st0 M := by
  subst hp
  obtain ⟨hl0, hin, hse, hini, hco, hyy, hnl⟩ := V
  have hR : (rm d').frames + 1 ≤ Γ.2.2.2.2.2.2.2.2.1.frames ∧ 8 + (nL' + 11) + (rm d').locals ≤ Γ.2.2.2.2.2.2.2.2.1.locals := ⟨Nat.le_trans hdd K.fr, by have := K.lo; show 8 + (nL' + 11) + 40 * d' ≤ _; omega⟩
  refine g_run (rest := rest) (v := v) (M1 := M1) (a := (Value.ref (X.2.2.2.1 a) :: As).toArray) (fun H locs ls hl hP hS => ?_) kk
  rcases hl0 with hl0 | ⟨host, hl0⟩
  · exact va_runV ⟨K.ex, K.cd, K.ml, K.ow, K.ts⟩ ct (cwV (own := own) (index := idx) (C := y.cls) n K.ts (gt_good (fun w hw => by
        rcases List.mem_append.mp hw with hw | hw
        · simp only [List.mem_cons, List.not_mem_nil, or_false] at hw
          rcases hw with rfl | rfl | rfl | rfl <;> assumption
        · exact (List.mem_cons.mp hw).elim (fun e => e ▸ hco) id)) rfl rfl rfl ⟨rfl, hyy⟩ hR) ⟨pre_blind, hrc H locs hP hS, pre_at K hP hS⟩ rfl hn hl.1 hst (lv_room hw) hd ⟨K.ce, K.sl⟩
  · exact va_runVN ⟨K.ex, K.cd, K.ml, K.ow, K.ts⟩ ct ⟨va_cnB n K.ts (gt_call hco) rfl rfl rfl (va_Nw.of rfl (K.nw _ hl0)) (K.ts _ hini) hyy hR, K.ts _ hin, K.ts _ hse⟩ ⟨pre_blind, hrc H locs hP hS, pre_at K hP hS⟩ rfl hn hl.1 hst (lv_room hw) hd ⟨K.ce, K.sl⟩
theorem recvO (K : Kx L X Γ own b nL d ret) {t ci : Nat} {sp : List Nat} {q : vw_C} (hc : L[t]? = some (.inl (ci, sp))) (hq : vwCl[ci]? = some q) : ∀ (H : Heap) (locs : List Loc), va_P X.2.1 vwCl (wsO L X M) H → va_S X.2.2.2.2 Γ.2.2.1.heap H locs → ∃ cellB : Cell, H[X.2.2.2.1 t]? = some cellB ∧ cellB.vm.isStatics = false ∧ Γ.2.2.1.vm.findClass q.1 = some cellB.cls := fun H locs hP hS => va_recv K.kk hP hq (wsO_at hc)
theorem recvS (K : Kx L X Γ own b nL d ret) {i : Nat} (hi : i < nS) : ∀ (H : Heap) (locs : List Loc), va_P X.2.1 vwCl (wsO L X M) H → va_S X.2.2.2.2 Γ.2.2.1.heap H locs → ∃ cellB : Cell, H[X.2.2.2.1 (2000 + i)]? = some cellB ∧ cellB.vm.isStatics = false ∧ Γ.2.2.1.vm.findClass "java/lang/String" = some cellB.cls := fun H locs hP hS => vk_recv (adK := fun i => X.2.2.2.1 (2000 + i)) (i := i) K.sta.2.1 hi hS
theorem g_callS (K : Kx L X Γ own b nL d ret) {pn : Nat} (hp : pc + 3 = pn) {idx n d' : Nat} {y : MethodName} {b' : ByteArray} {nL' : Nat} {ret' : Option FieldType} {As st0 rest : List Value} {v : Option Value} {M1 : Mem} (hdd : d' + 1 ≤ d) (V : MS own idx y b' nL' ret' n) (ct : CT L X d' y b' nL' ret' As M M1 v) (hn : As.length = n) (hst : st0 = As.reverse ++ rest) (hw : (rest.map fun v => v.category).sum ≤ 8) (hd : decode b pc = .ok (.invokestatic idx, 3)) (kk : G L X Γ nL Q pn lv (v.toList ++ rest) M1) : G L X Γ nL Q pc lv st0 M := by
  subst hp
  obtain ⟨hl0, hsa, hini, hco, hyy, hnl⟩ := V
  have hR : (rm d').frames + 1 ≤ Γ.2.2.2.2.2.2.2.2.1.frames ∧ 8 + (nL' + 11) + (rm d').locals ≤ Γ.2.2.2.2.2.2.2.2.1.locals := ⟨Nat.le_trans hdd K.fr, by have := K.lo; show 8 + (nL' + 11) + 40 * d' ≤ _; omega⟩
  refine g_run (rest := rest) (v := v) (M1 := M1) (a := As.toArray) (fun H locs ls hl hP hS => ?_) kk
  rcases hl0 with hl0 | ⟨host, hl0⟩
  · exact va_runS ⟨K.ex, K.cd, K.ml, K.ow, K.ts⟩ ct (va_cwS (own := own) (index := idx) n K.ts (gt_good (fun w hw => by
        rcases List.mem_append.mp hw with hw | hw
        · simp only [List.mem_cons, List.not_mem_nil, or_false] at hw
          rcases hw with rfl | rfl | rfl <;> assumption
        · exact (List.mem_cons.mp hw).elim (fun e => e ▸ hco) id)) rfl rfl rfl hyy hR) ⟨pre_blind, pre_at K hP hS⟩ rfl hn hl.1 hst (lv_room hw) hd ⟨K.ce, K.sl⟩
  · exact va_runSN ⟨K.ex, K.cd, K.ml, K.ow, K.ts⟩ ct ⟨va_cnB n K.ts (gt_call hco) rfl rfl rfl (va_Nw.of rfl (K.nw _ hl0)) (K.ts _ hini) hyy hR, K.ts _ hsa, trivial⟩ ⟨pre_blind, pre_at K hP hS⟩ rfl hn hl.1 hst (lv_room hw) hd ⟨K.ce, K.sl⟩
theorem g_callV1 (K : Kx L X Γ own b nL d ret) {pn : Nat} (hp : pc + 3 = pn) {idx n d' : Nat} {y : MethodName} {b' : ByteArray} {nL' : Nat} {ret' : Option FieldType} {As st0 rest : List Value} {a : Nat} {w : Value} {M1 : Mem} (hdd : d' + 1 ≤ d) (V : MV own idx y b' nL' ret' n) (hrc : ∀ (H : Heap) (locs : List Loc), va_P X.2.1 vwCl (wsO L X M) H → va_S X.2.2.2.2 Γ.2.2.1.heap H locs → ∃ cellB : Cell, H[X.2.2.2.1 a]? = some cellB ∧ cellB.vm.isStatics = false ∧ Γ.2.2.1.vm.findClass y.cls = some cellB.cls) (ct : CT L X d' y b' nL' ret' (.ref (X.2.2.2.1 a) :: As) M M1 (some w)) (hn : As.length = n) (hst : st0 = As.reverse ++ .ref (X.2.2.2.1 a) :: rest) (hw : (rest.map fun v => v.category).sum ≤ 8) (hd : decode b pc = .ok (.invokevirtual idx, 3)) (kk : G L X Γ nL Q pn lv (w :: rest) M1) : G L X Γ nL Q pc lv st0 M := by
  subst hp
  exact g_callV K rfl hdd V hrc ct hn hst hw hd kk
theorem g_callV0 (K : Kx L X Γ own b nL d ret) {pn : Nat} (hp : pc + 3 = pn) {idx n d' : Nat} {y : MethodName} {b' : ByteArray} {nL' : Nat} {ret' : Option FieldType} {As st0 rest : List Value} {a : Nat}  {M1 : Mem} (hdd : d' + 1 ≤ d) (V : MV own idx y b' nL' ret' n) (hrc : ∀ (H : Heap) (locs : List Loc), va_P X.2.1 vwCl (wsO L X M) H → va_S X.2.2.2.2 Γ.2.2.1.heap H locs → ∃ cellB : Cell, H[X.2.2.2.1 a]? = some cellB ∧ cellB.vm.isStatics = false ∧ Γ.2.2.1.vm.findClass y.cls = some cellB.cls) (ct : CT L X d' y b' nL' ret' (.ref (X.2.2.2.1 a) :: As) M M1 none) (hn : As.length = n) (hst : st0 = As.reverse ++ .ref (X.2.2.2.1 a) :: rest) (hw : (rest.map fun v => v.category).sum ≤ 8) (hd : decode b pc = .ok (.invokevirtual idx, 3)) (kk : G L X Γ nL Q pn lv rest M1) : G L X Γ nL Q pc lv st0 M := by
  subst hp
  exact g_callV K rfl hdd V hrc ct hn hst hw hd kk
theorem g_callS1 (K : Kx L X Γ own b nL d ret) {pn : Nat} (hp : pc + 3 = pn) {idx n d' : Nat} {y : MethodName} {b' : ByteArray} {nL' : Nat} {ret' : Option FieldType} {As st0 rest : List Value}  {w : Value} {M1 : Mem} (hdd : d' + 1 ≤ d) (V : MS own idx y b' nL' ret' n)  (ct : CT L X d' y b' nL' ret' As M M1 (some w)) (hn : As.length = n) (hst : st0 = As.reverse ++ rest) (hw : (rest.map fun v => v.category).sum ≤ 8) (hd : decode b pc = .ok (.invokestatic idx, 3)) (kk : G L X Γ nL Q pn lv (w :: rest) M1) : G L X Γ nL Q pc lv st0 M := by
  subst hp
  exact g_callS K rfl hdd V  ct hn hst hw hd kk
theorem g_callS0 (K : Kx L X Γ own b nL d ret) {pn : Nat} (hp : pc + 3 = pn) {idx n d' : Nat} {y : MethodName} {b' : ByteArray} {nL' : Nat} {ret' : Option FieldType} {As st0 rest : List Value}   {M1 : Mem} (hdd : d' + 1 ≤ d) (V : MS own idx y b' nL' ret' n)  (ct : CT L X d' y b' nL' ret' As M M1 none) (hn : As.length = n) (hst : st0 = As.reverse ++ rest) (hw : (rest.map fun v => v.category).sum ≤ 8) (hd : decode b pc = .ok (.invokestatic idx, 3)) (kk : G L X Γ nL Q pn lv rest M1) : G L X Γ nL Q pc lv st0 M := by
  subst hp
  exact g_callS K rfl hdd V  ct hn hst hw hd kk
theorem g_mmax (K : Kx L X Γ own b nL d ret) {pn : Nat} (hp : pc + 3 = pn) {idx : Nat} {x y : Int32} (hdd : 1 ≤ d) (h1 : Cond.methodLink own idx Lib.Math.max.name ∈ gt) (h2 : Cond.static Lib.Math.max.name ∈ gt) (h3 : Cond.initialized "java/lang/Math" ∈ gt) (h4 : Cond.code Lib.Math.max.name Lib.Math.max.code 2 (some .int) ∈ gt) (hw : (st.map fun v => v.category).sum ≤ 8) (hd : decode b pc = .ok (.invokestatic idx, 3)) (kk : G L X Γ nL Q pn lv (.int (imax x y) :: st) M) : G L X Γ nL Q pc lv (.int y :: .int x :: st) M := by
  subst hp
  exact fun H locs ls hl hP hS => va_mmax K.ex K.cd (K.ml.trans hl.1.symm) K.ow (K.ts _ h1) (K.ts _ h2) (K.ts _ h3) (K.ts _ h4) (Nat.le_trans hdd K.fr) (by have := K.lo; omega) K.ce K.sl hd (kk H locs ls hl hP hS)
theorem g_mmin (K : Kx L X Γ own b nL d ret) {pn : Nat} (hp : pc + 3 = pn) {idx : Nat} {x y : Int32} (hdd : 1 ≤ d) (h1 : Cond.methodLink own idx Lib.Math.min.name ∈ gt) (h2 : Cond.static Lib.Math.min.name ∈ gt) (h3 : Cond.initialized "java/lang/Math" ∈ gt) (h4 : Cond.code Lib.Math.min.name Lib.Math.min.code 2 (some .int) ∈ gt) (hw : (st.map fun v => v.category).sum ≤ 8) (hd : decode b pc = .ok (.invokestatic idx, 3)) (kk : G L X Γ nL Q pn lv (.int (imin x y) :: st) M) : G L X Γ nL Q pc lv (.int y :: .int x :: st) M := by
  subst hp
  exact fun H locs ls hl hP hS => va_mmin K.ex K.cd (K.ml.trans hl.1.symm) K.ow (K.ts _ h1) (K.ts _ h2) (K.ts _ h3) (K.ts _ h4) (Nat.le_trans hdd K.fr) (by have := K.lo; omega) K.ce K.sl hd (kk H locs ls hl hP hS)
theorem g_copy (K : Kx L X Γ own b nL d ret) {idx t0 t1 n0 n1 : Nat} {ch0 ch1 : Nat → Nat} {sp dp n : Int32} {ρ : Type} {res : ρ} {f : Mem → Option ρ} (hdd : 2 ≤ d) (h1 : Cond.methodLink own idx arraycopyName ∈ gt) (h2 : Cond.native arraycopyName ∈ gt) (h3 : Cond.static arraycopyName ∈ gt) (h4 : Cond.initialized "java/lang/System" ∈ gt) (hc0 : L[t0]? = some (.inr (0, n0, ch0))) (hc1 : L[t1]? = some (.inr (0, n1, ch1))) (hw : (st.map fun v => v.category).sum ≤ 8) (hd : decode b pc = .ok (.invokestatic idx, 3))
    (h : rq (¬ sp < 0 ∧ ¬ dp < 0 ∧ ¬ n < 0 ∧ sp.toNatClampNeg + n.toNatClampNeg ≤ n0 ∧ dp.toNatClampNeg + n.toNatClampNeg ≤ n1) (bnd (wrA M t1 (va_cpy (M t0) (M t1) sp.toNatClampNeg dp.toNatClampNeg n.toNatClampNeg)) f) = some res) (kk : ∀ M1 : Mem, f M1 = some res → G L X Γ nL Q (pc + 3) lv st M1) : G L X Γ nL Q pc lv (.int n :: .int dp :: .ref (X.2.2.2.1 t1) :: .int sp :: .ref (X.2.2.2.1 t0) :: st) M := by
  obtain ⟨⟨g1, g2, g3, g4, g5⟩, h⟩ := rq_e h
  have hnl : (st.map fun v => v.category).sum + (nativeFrameWords "java/lang/System" "arraycopy" 5 + 11) ≤ Γ.2.2.2.2.2.2.2.2.1.locals := by
    have e8 := K.lo
    have e9 : nativeFrameWords "java/lang/System" "arraycopy" 5 ≤ 50 := by decide
    omega
  intro H locs ls hl hP hS
  refine va_copyi K.ex K.cd (K.ml.trans hl.1.symm) K.ow (K.ts _ h1) (K.ts _ h2) (K.ts _ h3) (K.ts _ h4) K.kk hP (K.ad.D M) hS t0 t1 0 0 (wsO_at hc0) (wsO_at hc1) (ty := .int) rfl rfl rfl g1 g2 g3 g4 g5 (fun _ _ => rfl) (Nat.le_trans (Nat.le_trans (by omega) hdd) K.fr) hnl hd (fun H1 locs1 hP1 hD1 hS1 => ?_)
  rw [wsO_stA hc1 (Nat.le_of_ble_eq_true rfl)] at hP1
  exact kk _ h H1 locs1 ls hl hP1 hS1
theorem oi {α : Type} {a b : α} (h : some a = some b) : a = b := Option.some.inj h
theorem oi2 {α β : Type} {a b : α} {c d : β} (h : some (a, c) = some (b, d)) : a = b ∧ c = d := by cases h; exact ⟨rfl, rfl⟩
def oc {α β : Type} (x : Option α) (n : β) (f : α → β) : β := match x with
  | none => n
  | some a => f a
theorem ckI {β : Type} {i : Int32} {n : Nat} {x : Option β} {r : β} (h : ck i n x = some r) : vp_in i n := (ck_e h).1
theorem oc_n {α β : Type} {A r : β} {F : α → β} (h : oc none A F = r) : A = r := h
theorem oc_s {α β : Type} {a : α} {A r : β} {F : α → β} (h : oc (some a) A F = r) : F a = r := h
theorem bq0 {r : Bool} (h : false = r) : (0 : Int32) = b2i r := by subst h; rfl
theorem bq1 {r : Bool} (h : true = r) : (1 : Int32) = b2i r := by subst h; rfl
theorem bqz {z r : Bool} (h : z = r) : b2i z = b2i r := by subst h; rfl
theorem ob_n {α β : Type} (k : α → Option β) : ob none k = none := rfl
theorem ob_s {α β : Type} (a : α) (k : α → Option β) : ob (some a) k = k a := rfl
theorem ob2_s {α γ β : Type} (a : α) (c : γ) (k : α → γ → Option β) : ob2 (some (a, c)) k = k a c := rfl
def rv (ad : Nat → Nat) (r : Option Nat) : Value := match r with
  | none => .null
  | some c => .ref (ad c)
theorem jp_e1 {α1 ρ : Type} {res : ρ} {k : α1 → Option ρ} {f : (α1 → Option ρ) → Option ρ} {C : Prop} (h : jp k f = some res) (P : α1 → Prop) (hk : ∀ (a1 : α1), k a1 = some res → P a1) (hf : ∀ j : α1 → Option ρ, (∀ (a1 : α1), j a1 = some res → P a1) → f j = some res → C) : C := hf k hk h
theorem jp_e2 {α1 α2 ρ : Type} {res : ρ} {k : α1 → α2 → Option ρ} {f : (α1 → α2 → Option ρ) → Option ρ} {C : Prop} (h : jp k f = some res) (P : α1 → α2 → Prop) (hk : ∀ (a1 : α1) (a2 : α2), k a1 a2 = some res → P a1 a2) (hf : ∀ j : α1 → α2 → Option ρ, (∀ (a1 : α1) (a2 : α2), j a1 a2 = some res → P a1 a2) → f j = some res → C) : C := hf k hk h
theorem jp_e3 {α1 α2 α3 ρ : Type} {res : ρ} {k : α1 → α2 → α3 → Option ρ} {f : (α1 → α2 → α3 → Option ρ) → Option ρ} {C : Prop} (h : jp k f = some res) (P : α1 → α2 → α3 → Prop) (hk : ∀ (a1 : α1) (a2 : α2) (a3 : α3), k a1 a2 a3 = some res → P a1 a2 a3) (hf : ∀ j : α1 → α2 → α3 → Option ρ, (∀ (a1 : α1) (a2 : α2) (a3 : α3), j a1 a2 a3 = some res → P a1 a2 a3) → f j = some res → C) : C := hf k hk h
theorem jp_e4 {α1 α2 α3 α4 ρ : Type} {res : ρ} {k : α1 → α2 → α3 → α4 → Option ρ} {f : (α1 → α2 → α3 → α4 → Option ρ) → Option ρ} {C : Prop} (h : jp k f = some res) (P : α1 → α2 → α3 → α4 → Prop) (hk : ∀ (a1 : α1) (a2 : α2) (a3 : α3) (a4 : α4), k a1 a2 a3 a4 = some res → P a1 a2 a3 a4) (hf : ∀ j : α1 → α2 → α3 → α4 → Option ρ, (∀ (a1 : α1) (a2 : α2) (a3 : α3) (a4 : α4), j a1 a2 a3 a4 = some res → P a1 a2 a3 a4) → f j = some res → C) : C := hf k hk h
theorem jp_e5 {α1 α2 α3 α4 α5 ρ : Type} {res : ρ} {k : α1 → α2 → α3 → α4 → α5 → Option ρ} {f : (α1 → α2 → α3 → α4 → α5 → Option ρ) → Option ρ} {C : Prop} (h : jp k f = some res) (P : α1 → α2 → α3 → α4 → α5 → Prop) (hk : ∀ (a1 : α1) (a2 : α2) (a3 : α3) (a4 : α4) (a5 : α5), k a1 a2 a3 a4 a5 = some res → P a1 a2 a3 a4 a5) (hf : ∀ j : α1 → α2 → α3 → α4 → α5 → Option ρ, (∀ (a1 : α1) (a2 : α2) (a3 : α3) (a4 : α4) (a5 : α5), j a1 a2 a3 a4 a5 = some res → P a1 a2 a3 a4 a5) → f j = some res → C) : C := hf k hk h
theorem jp_e6 {α1 α2 α3 α4 α5 α6 ρ : Type} {res : ρ} {k : α1 → α2 → α3 → α4 → α5 → α6 → Option ρ} {f : (α1 → α2 → α3 → α4 → α5 → α6 → Option ρ) → Option ρ} {C : Prop} (h : jp k f = some res) (P : α1 → α2 → α3 → α4 → α5 → α6 → Prop) (hk : ∀ (a1 : α1) (a2 : α2) (a3 : α3) (a4 : α4) (a5 : α5) (a6 : α6), k a1 a2 a3 a4 a5 a6 = some res → P a1 a2 a3 a4 a5 a6) (hf : ∀ j : α1 → α2 → α3 → α4 → α5 → α6 → Option ρ, (∀ (a1 : α1) (a2 : α2) (a3 : α3) (a4 : α4) (a5 : α5) (a6 : α6), j a1 a2 a3 a4 a5 a6 = some res → P a1 a2 a3 a4 a5 a6) → f j = some res → C) : C := hf k hk h
theorem jp_e7 {α1 α2 α3 α4 α5 α6 α7 ρ : Type} {res : ρ} {k : α1 → α2 → α3 → α4 → α5 → α6 → α7 → Option ρ} {f : (α1 → α2 → α3 → α4 → α5 → α6 → α7 → Option ρ) → Option ρ} {C : Prop} (h : jp k f = some res) (P : α1 → α2 → α3 → α4 → α5 → α6 → α7 → Prop) (hk : ∀ (a1 : α1) (a2 : α2) (a3 : α3) (a4 : α4) (a5 : α5) (a6 : α6) (a7 : α7), k a1 a2 a3 a4 a5 a6 a7 = some res → P a1 a2 a3 a4 a5 a6 a7) (hf : ∀ j : α1 → α2 → α3 → α4 → α5 → α6 → α7 → Option ρ, (∀ (a1 : α1) (a2 : α2) (a3 : α3) (a4 : α4) (a5 : α5) (a6 : α6) (a7 : α7), j a1 a2 a3 a4 a5 a6 a7 = some res → P a1 a2 a3 a4 a5 a6 a7) → f j = some res → C) : C := hf k hk h
theorem g_iret (K : Kx L X Γ own b nL d (some .int)) {r r' : Int32} {M' : Mem}  (hd : decode b pc = .ok (.ireturn, 1)) (hr : r = r') (hM : M = M') : G L X Γ nL (QM L X Γ (some (.int r')) M') pc lv [.int r] M := by
  subst hr
  subst hM
  exact fun H locs ls hl hP hS => W.iret K.ex K.cd K.rt  (fun t ht hW => ⟨rfl, by rw [ht]; exact hP, hS.F ht⟩) hS.2.2 hd K.lk
theorem g_lret (K : Kx L X Γ own b nL d (some .long)) {r r' : Int64} {M' : Mem}  (hd : decode b pc = .ok (.lreturn, 1)) (hr : r = r') (hM : M = M') : G L X Γ nL (QM L X Γ (some (.long r')) M') pc lv [.long r] M := by
  subst hr
  subst hM
  exact fun H locs ls hl hP hS => W.lret K.ex K.cd K.rt  (fun t ht hW => ⟨rfl, by rw [ht]; exact hP, hS.F ht⟩) hS.2.2 hd K.lk
theorem g_zret {ty : FieldType} (K : Kx L X Γ own b nL d (some ty)) {x x' : Int32} {M' : Mem} (hn : narrow ty (.int x) = .int x) (hd : decode b pc = .ok (.ireturn, 1)) (hr : x = x') (hM : M = M') : G L X Γ nL (QM L X Γ (some (.int x')) M') pc lv [.int x] M := by
  subst hr
  subst hM
  exact fun H locs ls hl hP hS => W.zret K.ex K.cd K.rt hn (fun t ht hW => ⟨rfl, by rw [ht]; exact hP, hS.F ht⟩) hS.2.2 hd K.lk
theorem narrow_b2i (z : Bool) : narrow .boolean (.int (b2i z)) = .int (b2i z) := by cases z <;> rfl
theorem g_vret (K : Kx L X Γ own b nL d none) {M' : Mem} (hd : decode b pc = .ok (.return_, 1)) (hM : M = M') : G L X Γ nL (QM L X Γ none M') pc lv [] M := by
  subst hM
  exact fun H locs ls hl hP hS => W.vret K.ex K.cd K.rt (fun t ht hW => ⟨rfl, by rw [ht]; exact hP, hS.F ht⟩) hS.2.2 hd K.lk
theorem g_aret {rt : FieldType} (K : Kx L X Γ own b nL d (some rt)) {v v' : Value} {M' : Mem} (hrt : (∃ n, rt = .object n) ∨ ∃ t, rt = .array t) (hv : v = .null ∨ ∃ a, v = .ref a) (hd : decode b pc = .ok (.areturn, 1)) (hr : v = v') (hM : M = M') : G L X Γ nL (QM L X Γ (some v') M') pc lv [v] M := by
  subst hr
  subst hM
  exact fun H locs ls hl hP hS => W.aret K.ex K.cd K.rt hrt hv (fun t ht hW => ⟨rfl, by rw [ht]; exact hP, hS.F ht⟩) hS.2.2 hd K.lk
end ROWS
