/-! ===== the frame: one memory of whole numbers, a fixed layout of cells, contracts over it ===== -/
def gt : List Cond := lw_tbl.filter goodWord
theorem gt_of {w : Cond} (i : Nat) (h : lw_tbl[i]? = some w) (g : goodWord w = true) : w ∈ gt := List.mem_filter.mpr ⟨List.mem_of_getElem? h, g⟩
theorem gt_good {ws : List Cond} (h : ∀ w ∈ ws, w ∈ gt) : GoodIn gt ws := fun w hw => ⟨h w hw, good_of_word (List.mem_filter.mp (h w hw)).2⟩
def isNest : Cond → Bool
  | .fieldLinkNest .. => true
  | .methodLinkNest .. => true
  | _ => false
def nw : List Cond := lw_tbl.filter isNest
theorem nw_of {w : Cond} (i : Nat) (h : lw_tbl[i]? = some w) (g : isNest w = true) : w ∈ nw := List.mem_filter.mpr ⟨List.mem_of_getElem? h, g⟩
theorem nw_tab {w : Cond} (h : isNest w = true) : w.onTables = true := by
  cases w <;> first | rfl | (exact absurd h (by decide)) | (simp [isNest] at h)
theorem nw_warm {w : Cond} (h : isNest w = true) {s U : State} (hW : s.WarmedH U.vm) (hZ : va_Nw w s) : va_Nw w U := by
  cases w <;> first | exact va_Nw.warmF hW hZ | exact va_Nw.warmM hW hZ | (simp [isNest] at h)
abbrev Mem : Type := Nat → Nat → Int32
def wr (M : Mem) (c k : Nat) (x : Int32) : Mem := fun a => if a = c then upd (M c) k x else M a
def wrA (M : Mem) (c : Nat) (f : Nat → Int32) : Mem := fun a => if a = c then f else M a
theorem wr_same (M : Mem) (c k : Nat) (x : Int32) : wr M c k x c k = x := by simp [wr, upd]
theorem wr_cell (M : Mem) (c k j : Nat) (x : Int32) (h : j ≠ k) : wr M c k x c j = M c j := by simp [wr, upd, h]
theorem wr_ne (M : Mem) (c k a : Nat) (x : Int32) (h : a ≠ c) : wr M c k x a = M a := by simp [wr, h]
theorem wrA_same (M : Mem) (c : Nat) (f : Nat → Int32) : wrA M c f c = f := by simp [wrA]
theorem wrA_ne (M : Mem) (c a : Nat) (f : Nat → Int32) (h : a ≠ c) : wrA M c f a = M a := by simp [wrA, h]
abbrev LD : Type := (Nat × List Nat) ⊕ (Nat × Nat × (Nat → Nat))
def fv (ad : Nat → Nat) (f : Nat → Int32) (k c : Nat) : Value := match c with
  | 0 => .int (f k)
  | 1 => .long (f k).toInt64
  | j + 2 => .ref (ad j)
def flds (ad : Nat → Nat) (f : Nat → Int32) (sp : List Nat) : List Value := sp.mapIdx (fun k c => fv ad f k c)
def arrR (ad : Nat → Nat) (f : Nat → Int32) (ty : Nat) (ch : Nat → Nat) : (Nat → Int32) ⊕ (Nat → Int64) ⊕ (Nat → UInt32) ⊕ (Nat → UInt64) ⊕ (Nat → Option Nat) := match ty with
  | 0 => .inl f
  | 1 => .inl f
  | _ => .inr (.inr (.inr (.inr fun j => some (ad (ch j)))))
/-- the launch, the classes, the arrays' classes, the addresses of the cells, what may be changed -/
abbrev XT : Type := Launch × va_G × (Nat → ClassId) × (Nat → Nat) × (Nat → Prop)
def ent (cy : Nat → ClassId) (ad : Nat → Nat) (f : Nat → Int32) : LD → va_E
  | .inl (ci, sp) => .inr (ci, flds ad f sp)
  | .inr (ty, len, ch) => .inl (cy ty, len, arrR ad f ty ch)
def wsO (L : List LD) (X : XT) (M : Mem) : va_W := L.mapIdx fun c d => (X.2.2.2.1 c, ent X.2.2.1 X.2.2.2.1 (M c) d)
def tysO (cy : Nat → ClassId) : List (ClassId × FieldType) := [(cy 0, .int), (cy 1, .boolean), (cy 2, .object "BeforeItGoes$Text"), (cy 3, .object "BeforeItGoes$Sheet")]
theorem wsO_at {L : List LD} {X : XT} {M : Mem} {c : Nat} {d : LD} (h : L[c]? = some d) : (wsO L X M)[c]? = some (X.2.2.2.1 c, ent X.2.2.1 X.2.2.2.1 (M c) d) := by
  simp [wsO, List.getElem?_mapIdx, h]
theorem flds_at {ad : Nat → Nat} {f : Nat → Int32} {sp : List Nat} {k c : Nat} (h : sp[k]? = some c) : (flds ad f sp)[k]? = some (fv ad f k c) := by
  simp [flds, List.getElem?_mapIdx, h]
theorem flds_len {ad : Nat → Nat} {f : Nat → Int32} {sp : List Nat} {k c : Nat} (h : sp[k]? = some c) : k < (flds ad f sp).length := by
  have := (List.getElem?_eq_some_iff.mp h).1
  simpa [flds] using this
theorem flds_set {ad : Nat → Nat} {f : Nat → Int32} {sp : List Nat} {k c : Nat} {x : Int32} {v : Value} (h : sp[k]? = some c) (hv : fv ad (upd f k x) k c = v) (hc : c < 2) : (flds ad f sp).set k v = flds ad (upd f k x) sp := by
  apply List.ext_getElem?
  intro i
  by_cases hi : i = k
  · subst hi
    rw [List.getElem?_set_self (flds_len h), flds_at h, hv]
  · rw [List.getElem?_set_ne (fun e => hi e.symm)]
    simp only [flds, List.getElem?_mapIdx]
    cases hs : sp[i]? with
    | none => rfl
    | some d =>
      simp only [Option.map_some]
      congr 1
      unfold fv
      split <;> simp [upd, hi]
theorem wsO_set {L : List LD} {X : XT} {M M' : Mem} {c : Nat} {d : LD} {e : va_E} (h : L[c]? = some d) (he : ent X.2.2.1 X.2.2.2.1 (M' c) d = e) (hM : ∀ a, a ≠ c → M' a = M a) : (wsO L X M).set c (X.2.2.2.1 c, e) = wsO L X M' := by
  apply List.ext_getElem?
  intro i
  by_cases hi : i = c
  · subst hi
    rw [List.getElem?_set_self (by have := (List.getElem?_eq_some_iff.mp h).1; simpa [wsO] using this), wsO_at h, he]
  · rw [List.getElem?_set_ne (fun e => hi e.symm)]
    simp only [wsO, List.getElem?_mapIdx]
    cases hs : L[i]? with
    | none => rfl
    | some d =>
      simp only [Option.map_some]
      rw [hM i hi]
theorem wsO_put {L : List LD} {X : XT} {M : Mem} {c ci k cd : Nat} {sp : List Nat} {x : Int32} {v : Value} (h : L[c]? = some (.inl (ci, sp))) (hk : sp[k]? = some cd) (hv : fv X.2.2.2.1 (upd (M c) k x) k cd = v) (hc : cd < 2) : (wsO L X M).set c (X.2.2.2.1 c, .inr (ci, (flds X.2.2.2.1 (M c) sp).set k v)) = wsO L X (wr M c k x) := by
  refine wsO_set h ?_ (fun a ha => wr_ne M c k a x ha)
  show Sum.inr (ci, flds X.2.2.2.1 (wr M c k x c) sp) = _
  rw [flds_set hk hv hc]
  congr 3
  simp [wr]
theorem wsO_st {L : List LD} {X : XT} {M : Mem} {c ty n k : Nat} {ch : Nat → Nat} {x : Int32} (h : L[c]? = some (.inr (ty, n, ch))) (ht : ty < 2) : (wsO L X M).set c (X.2.2.2.1 c, .inl (X.2.2.1 ty, n, .inl (upd (M c) k x))) = wsO L X (wr M c k x) := by
  refine wsO_set h ?_ (fun a ha => wr_ne M c k a x ha)
  have e : wr M c k x c = upd (M c) k x := by simp [wr]
  rw [e]
  match ty, ht with
  | 0, _ => rfl
  | 1, _ => rfl
theorem wsO_stA {L : List LD} {X : XT} {M : Mem} {c ty n : Nat} {ch : Nat → Nat} {f : Nat → Int32} (h : L[c]? = some (.inr (ty, n, ch))) (ht : ty < 2) : (wsO L X M).set c (X.2.2.2.1 c, .inl (X.2.2.1 ty, n, .inl f)) = wsO L X (wrA M c f) := by
  refine wsO_set h ?_ (fun a ha => wrA_ne M c a f ha)
  rw [wrA_same]
  match ty, ht with
  | 0, _ => rfl
  | 1, _ => rfl
def AD (L : List LD) (X : XT) : Prop := (∀ i j : Nat, i < L.length → j < L.length → X.2.2.2.1 i = X.2.2.2.1 j → i = j) ∧ ∀ i : Nat, i < L.length → X.2.2.2.2 (X.2.2.2.1 i)
theorem wsO_ad {L : List LD} {X : XT} {M : Mem} {k : Nat} {q : Nat × va_E} (h : (wsO L X M)[k]? = some q) : k < L.length ∧ q.1 = X.2.2.2.1 k := by
  simp only [wsO, List.getElem?_mapIdx] at h
  cases hs : L[k]? with
  | none => rw [hs] at h; cases h
  | some d =>
    rw [hs] at h
    cases h
    exact ⟨(List.getElem?_eq_some_iff.mp hs).1, rfl⟩
theorem AD.D {L : List LD} {X : XT} (h : AD L X) (M : Mem) : va_D X.2.2.2.2 (wsO L X M) := by
  refine ⟨fun i j p q hp hq e => ?_, fun k q hq => ?_⟩
  · obtain ⟨h1, h2⟩ := wsO_ad hp
    obtain ⟨h3, h4⟩ := wsO_ad hq
    exact h.1 i j h1 h3 (by rw [← h2, ← h4, e])
  · obtain ⟨h1, h2⟩ := wsO_ad hq
    rw [h2]
    exact h.2 k h1
/-- the statics that the class reads: four tables, the literals -/
def tnm (j : Nat) : String := match j with
  | 0 => "LEAST"
  | 1 => "MOST"
  | 2 => "PART_LEAST"
  | _ => "PART_MOST"
def tab (j : Nat) : List Int32 := match j with
  | 0 => [0, 0, 0, 1, 0, 0, 0, 1, 0]
  | 1 => [40, 9, 9, 2, 60, 20, 9, 20, 1]
  | 2 => [1, 1, 0]
  | _ => [240, 20, 999]
def tb (j : Nat) (i : Nat) : Int32 := (tab j).getD i 0
def nS : Nat := 14
def lenS : List Nat := [76, 8, 4, 3, 4, 5, 3, 6, 6, 5, 6, 2, 3, 3]
def bytS : List (List Int32) := [[114, 105, 112, 101, 110, 115, 32, 54, 48, 32, 45, 32, 119, 97, 114, 109, 32, 45, 32, 100, 105, 114, 116, 32, 42, 32, 52, 32, 45, 32, 97, 103, 101, 32, 42, 32, 50, 32, 59, 32, 116, 97, 107, 101, 115, 32, 50, 32, 59, 32, 115, 112, 111, 105, 108, 115, 32, 111, 102, 102, 32, 42, 32, 111, 102, 102, 32, 42, 32, 121, 97, 114, 100, 115, 32, 59], [40, 41, 59, 43, 45, 42, 60, 61], [119, 97, 114, 109], [97, 103, 101], [100, 105, 114, 116], [121, 97, 114, 100, 115], [111, 102, 102], [110, 117, 109, 98, 101, 114], [114, 105, 112, 101, 110, 115], [116, 97, 107, 101, 115], [115, 112, 111, 105, 108, 115], [111, 114], [97, 110, 100], [110, 111, 116]]
def whS : List (String × Nat × String) := [("BeforeItGoes", 73, "ripens 60 - warm - dirt * 4 - age * 2 ; takes 2 ; spoils off * off * yards ;"), ("BeforeItGoes$Tape", 49, "();+-*<="), ("BeforeItGoes$Tape", 72, "warm"), ("BeforeItGoes$Tape", 74, "age"), ("BeforeItGoes$Tape", 76, "dirt"), ("BeforeItGoes$Tape", 78, "yards"), ("BeforeItGoes$Tape", 80, "off"), ("BeforeItGoes$Tape", 82, "number"), ("BeforeItGoes$Tape", 84, "ripens"), ("BeforeItGoes$Tape", 86, "takes"), ("BeforeItGoes$Tape", 88, "spoils"), ("BeforeItGoes$Tape", 90, "or"), ("BeforeItGoes$Tape", 92, "and"), ("BeforeItGoes$Tape", 94, "not")]
def St (X : XT) (U : State) (H : Heap) : Prop :=
  (∀ j : Nat, j < 4 → va_Z "BeforeItGoes" (tnm j) "[I" (.ref (X.2.2.2.1 (1000 + j))) X.2.2.2.2 U H ∧ va_T .int (X.2.2.2.1 (1000 + j)) (tab j).length (fun i => .int (tb j i)) X.2.2.2.2 U H) ∧
  vk_S nS lenS bytS (fun i => X.2.2.2.1 (2000 + i)) (fun i => X.2.2.2.1 (3000 + i)) X.2.2.2.2 U H ∧
  (∀ (i : Nat) (q : String × Nat × String), whS[i]? = some q → vk_R q.1 q.2.1 q.2.2 (X.2.2.2.1 (2000 + i)) U) ∧
  va_Z "java/lang/String" "COMPACT_STRINGS" "Z" (.int 1) X.2.2.2.2 U H ∧ (∀ w ∈ nw, va_Nw w U) ∧ va_Zq "jdk/internal/util/Preconditions" "SIOOBE_FORMATTER" "Ljava/util/function/BiFunction;" X.2.2.2.2 U H
theorem St.kept {X : XT} {U : State} {H H1 : Heap} (h : St X U H) (hq : ∀ a : Nat, a < H.size → ¬ X.2.2.2.2 a → H1[a]? = H[a]?) : St X U H1 :=
  ⟨fun j hj => ⟨(h.1 j hj).1.kept hq, (h.1 j hj).2.kept hq⟩, h.2.1.kept hq, h.2.2.1, h.2.2.2.1.kept hq, h.2.2.2.2.1, h.2.2.2.2.2.kept hq⟩
theorem St.warm {X : XT} {s U : State} {H : Heap} (hW : s.WarmedH U.vm) (h : St X s H) : St X U H :=
  ⟨fun j hj => ⟨(h.1 j hj).1.moved hW.alike, (h.1 j hj).2.moved hW.alike⟩, h.2.1.moved hW.alike, fun i q hq => vk_R.warm hW (h.2.2.1 i q hq), h.2.2.2.1.moved hW.alike, fun w hw => nw_warm (List.mem_filter.mp hw).2 hW (h.2.2.2.2.1 w hw), h.2.2.2.2.2.moved hW.alike⟩
theorem St.same {X : XT} {u U : State} {H : Heap} (hv : U.vm = u.vm) (h : St X u H) : St X U H :=
  ⟨fun j hj => ⟨(h.1 j hj).1.moved (by rw [hv]; exact Vm.Alike.refl _), (h.1 j hj).2.moved (by rw [hv]; exact Vm.Alike.refl _)⟩, h.2.1.moved (by rw [hv]; exact Vm.Alike.refl _), fun i q hq => vk_R.same hv (h.2.2.1 i q hq), h.2.2.2.1.moved (by rw [hv]; exact Vm.Alike.refl _), fun w hw => va_Nw.same (nw_tab (List.mem_filter.mp hw).2) hv.symm (h.2.2.2.2.1 w hw), h.2.2.2.2.2.moved (by rw [hv]; exact Vm.Alike.refl _)⟩
abbrev rm (d : Nat) : Room := { frames := d, cells := 0, slots := 0, locals := 40 * d }
def Pre (L : List LD) (X : XT) (M : Mem) : State → Prop := fun U => va_P X.2.1 vwCl (wsO L X M) U.heap ∧ va_K X.2.1 vwCl (tysO X.2.2.1) U ∧ St X U U.heap ∧ AD L X
def Qo (L : List LD) (X : XT) (v : Option Value) (M : Mem) : Array Value → State → Outcome → State → Prop := fun _ st o t => o = .returned v ∧ va_P X.2.1 vwCl (wsO L X M) t.heap ∧ va_F X.2.2.2.2 st t
/-- a method's contract: from the memory M it comes to the memory M', and answers v -/
def CT (L : List LD) (X : XT) (d : Nat) (y : MethodName) (b : ByteArray) (nL : Nat) (ret : Option FieldType) (args : List Value) (M M' : Mem) (v : Option Value) : Prop :=
  Met X.1 y (.code y b nL ret :: gt) (rm d) (va_Pc args (Pre L X M)) (Qo L X v M') 0 0 X.2.2.2.2
/-- the machine in a method: program, environment, state at its start, method, arguments, what is below, its code, the room, cells and slots that are made -/
abbrev MT : Type := Program × Env × State × MethodId × Array Value × List Frame × Method × Code × Room × Nat × Nat
def Kx (L : List LD) (X : XT) (Γ : MT) (own : String) (b : ByteArray) (nL d : Nat) (ret : Option FieldType) : Prop :=
  Γ.1.tables.exec = Jvm.exec ∧ Γ.2.2.2.2.2.2.2.1.code = b ∧ Γ.2.2.2.2.2.2.1.sig.returnType = ret ∧ (∀ w ∈ gt, w.before Γ.2.2.2.2.1 Γ.2.2.1 = true) ∧ Γ.2.2.1.vm.findClass own = some Γ.2.2.2.1.cls ∧ Γ.2.2.2.2.2.2.1.locks = false ∧ Γ.2.2.2.2.2.2.2.1.maxLocals = nL ∧
  va_K X.2.1 vwCl (tysO X.2.2.1) Γ.2.2.1 ∧ St X Γ.2.2.1 Γ.2.2.1.heap ∧ AD L X ∧ d ≤ Γ.2.2.2.2.2.2.2.2.1.frames ∧ 40 * d ≤ Γ.2.2.2.2.2.2.2.2.1.locals ∧ Γ.2.2.2.2.2.2.2.2.2.1 ≤ Γ.2.2.2.2.2.2.2.2.1.cells ∧ Γ.2.2.2.2.2.2.2.2.2.2 ≤ Γ.2.2.2.2.2.2.2.2.1.slots
def G (L : List LD) (X : XT) (Γ : MT) (nL : Nat) (Q : State → Prop) (pc : Nat) (lv : List (Nat × Value)) (st : List Value) (M : Mem) : Prop :=
  ∀ (H : Heap) (locs : List Loc) (ls : Array Slot), lv_has ls nL lv → va_P X.2.1 vwCl (wsO L X M) H → va_S X.2.2.2.2 Γ.2.2.1.heap H locs → W Γ.1 X.1 Γ.2.1 Γ.2.2.2.2.2.2.2.2.1 Γ.2.2.1 Γ.2.2.2.1 Γ.2.2.2.2.1 Γ.2.2.2.2.2.1 Γ.2.2.2.2.2.2.1 Γ.2.2.2.2.2.2.2.1 H locs Γ.2.2.2.2.2.2.2.2.2.1 Γ.2.2.2.2.2.2.2.2.2.2 Q (F0 Γ.2.2.2.1 pc ls st)
def QM (L : List LD) (X : XT) (Γ : MT) (v : Option Value) (M : Mem) : State → Prop := MQ Γ.2.2.2.2.2.1 (Qo L X v M) Γ.2.2.2.2.1 Γ.2.2.1 Γ.2.2.2.2.2.2.2.2.2.1 Γ.2.2.2.2.2.2.2.2.2.2 X.2.2.2.2
set_option maxHeartbeats 1000000 in
theorem CT.of {L : List LD} {X : XT} {d : Nat} {y : MethodName} {b : ByteArray} {nL : Nat} {ret : Option FieldType} {args : List Value} {M M' : Mem} {v : Option Value} {lv : List (Nat × Value)} (hy : plainName y.cls = true) (hn : (lg_sl args).length ≤ nL) (hlv : lv_args 0 args = lv)
    (k : ∀ Γ : MT, Kx L X Γ y.cls b nL d ret → G L X Γ nL (QM L X Γ v M') 0 lv [] M) : CT L X d y b nL ret args M M' v := by
  refine Met.ofW (cc := b) (maxL := nL) (ret := ret) hy rfl ?_
  intro p e s m as below meth c s₁ B hml hv
  obtain ⟨rfl, hP, hK, hS, hA⟩ := hv
  have hts : ∀ w ∈ gt, w.before args.toArray s = true := fun w hw => atoms_spec (ws := .code y b nL ret :: gt) B.pre w (List.mem_cons_of_mem _ hw)
  have hl := lv_entry args (n := nL) hn
  rw [lg_entry_eq]
  rw [hlv] at hl
  exact k (p, e, s, m, args.toArray, below, meth, c, rm d, 0, 0) ⟨B.exec, B.bytes, B.returns, hts, findClass_of_methodNamed B.named, B.notSynchronized, hml, hK, hS, hA, Nat.le_refl _, Nat.le_refl _, Nat.le_refl _, Nat.le_refl _⟩ s.heap [] _ hl hP va_S.rf
