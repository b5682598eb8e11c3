/-! the law's end -/
theorem law_end {p : Program} {l : Launch} {e : Env} {s : State} {m : MethodId} {below : List Frame} {meth : Method} {c : Code} {b : Nat} {D : va_G} {cells slots : Nat} (hx : p.tables.exec = Jvm.exec) (hb : c.code = code) (hr : meth.sig.returnType = ret) (hlocks : meth.locks = false) (hc : cells ≤ 600000) (hs : slots ≤ 7302250) (lv : List (Nat × Value)) (w1 w2 : va_W) :
    GW D l (fun q => s.heap.size ≤ q) (p, e, s, m, #[Value.ref b], below, meth, c, room_1, cells, slots) 4 (lw_Z below #[Value.ref b] s) 1002 lv [] w1 w2 := by
  intro H locs ls hl h1 h2 hS
  refine lv_iconst (v := 1) hx hb dW_1002 (by decide) ?_
  refine va_forget (fun q hq => hS.2.2 q hq) ?_
  refine W.widen (k := 600000) (n := 7302250) hc hs ?_
  exact lw_ret hx hb hr hlocks dW_1003
