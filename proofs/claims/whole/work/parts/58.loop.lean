/-! the law's loop -/
theorem and31 (x : Int32) : ∃ k : Nat, k < 32 ∧ x &&& 31 = nI k := by
  refine ⟨(x &&& 31).toBitVec.toNat, ?_, ?_⟩
  · rw [Int32.toBitVec_and, BitVec.toNat_and]
    exact Nat.lt_succ_of_le Nat.and_le_right
  · apply Int32.toBitVec_inj.mp
    show _ = BitVec.ofNat 32 _
    rw [BitVec.ofNat_toNat, BitVec.setWidth_eq]
theorem L_sub6 {L : Nat} (h : L ≤ 3072) : (Int32.ofNat L - 6).toInt = (L : Int) - 6 := by
  have h1 : (Int32.ofNat L).toInt = (L : Int) := i_nI (n := L) (by omega)
  have h2 : (6 : Int32).toInt = 6 := by decide
  rw [Int32.toInt_sub, h1, h2, Int.bmod_eq_of_le (by omega) (by omega)]
theorem l_iinc6 {l : Launch} {D : va_G} {cy : Nat → ClassId} {adX adY : Nat → Nat} {AX AY AL : Nat → Prop} {Γ : MT} {b L : Nat} {xs : Nat → Int32} {Q : State → Prop} {pc : Nat} {st : List Value} {w1 w2 : va_W} (C : LC l D cy adX adY AX AY AL Γ b L xs) {x y i : Nat} {pn : Nat} (hp : pc + 3 = pn) (hd : decode code pc = .ok (.iinc 3 6, 3)) (k : GW D l AL Γ 4 Q pn (lvL b x y (nI (i + 6))) st w1 w2) : GW D l AL Γ 4 Q pc (lvL b x y (nI i)) st w1 w2 := by
  subst hp
  exact fun H locs ls hl h1 h2 hS => lv_iinc (v := nI (i + 6)) (k := 0) C.kx.ex C.kx.cd hd hl rfl (nI_add i 6) (by decide) rfl (fun ls' hl' => k H locs ls' hl' h1 h2 hS)
theorem law_loop {l : Launch} {D : va_G} {cy : Nat → ClassId} {adX adY : Nat → Nat} {AX AY AL : Nat → Prop} {Γ : MT} {b L : Nat} {xs : Nat → Int32} {Q : State → Prop} (C : LC l D cy adX adY AX AY AL Γ b L xs) (hend : ∀ (lv : List (Nat × Value)) (w1 w2 : va_W), GW D l AL Γ 4 Q 1002 lv [] w1 w2) :
    ∀ (n i : Nat) (A B : Mem), L < i + n → i ≤ L → Rel A B → GW D l AL Γ 4 Q 18 (lvL b (adX 0) (adY 0) (nI i)) [] (wsO layX (XX l D cy adX AX) A) (wsO layM (XX l D cy adY AY) B) := by
  have hL := C.sm
  intro n
  induction n with
  | zero => intro i A B h1 h2; omega
  | succ n ih =>
    intro i A B h1 h2 hR
    refine l_iload_n C (pn := 19) rfl 0 rfl dW_18 ?_
    refine l_aload_n C (pn := 20) rfl 3 rfl dW_19 ?_
    refine l_len C (pn := 21) rfl dW_20 ?_
    refine l_bipush C (pn := 23) (v := 6) rfl (by decide) dW_21 ?_
    refine l_isub C (pn := 24) rfl dW_23 ?_
    refine l_if_gt C (pn := 27) (tgt := 1002) rfl (by decide) dW_24 (fun _ => hend _ _ _) (fun g => ?_)
    rw [i_lt, L_sub6 hL, i_nI (by omega)] at g
    refine l_aload_n C (pn := 28) rfl 3 rfl dW_27 ?_
    refine l_iload_n C (pn := 29) rfl 0 rfl dW_28 ?_
    refine l_iald C (pn := 30) rfl (nI_in (show i < L by omega) (by omega)) dW_29 ?_
    rw [nI_cl (by omega)]
    refine l_bipush C (pn := 32) (v := 31) rfl (by decide) dW_30 ?_
    refine l_iand C (pn := 33) rfl dW_32 ?_
    have next : ∀ A' B' : Mem, Rel A' B' → GW D l AL Γ 4 Q 996 (lvL b (adX 0) (adY 0) (nI i)) [] (wsO layX (XX l D cy adX AX) A') (wsO layM (XX l D cy adY AY) B') := by
      intro A' B' hR'
      refine l_iinc6 C (pn := 999) rfl dW_996 ?_
      refine l_goto C (tgt := 18) (by decide) dW_999 ?_
      exact ih (i + 6) A' B' (by omega) (by omega) hR'
    obtain ⟨k, k1, k2⟩ := and31 (xs i)
    rw [k2]
    match k, k1 with
    | 0, _ => exact fun H locs ls hl g1 g2 hS => lv_tableIn C.kx.ex C.kx.cd (off := 127) (tgt := 160) dW_33 (by decide) (by decide) (by decide) (by decide) (arm_set C (by omega) hR next H locs ls hl g1 g2 hS)
    | 1, _ => exact fun H locs ls hl g1 g2 hS => lv_tableIn C.kx.ex C.kx.cd (off := 170) (tgt := 203) dW_33 (by decide) (by decide) (by decide) (by decide) (arm_wall C (by omega) hR next H locs ls hl g1 g2 hS)
    | 2, _ => exact fun H locs ls hl g1 g2 hS => lv_tableIn C.kx.ex C.kx.cd (off := 213) (tgt := 246) dW_33 (by decide) (by decide) (by decide) (by decide) (arm_told C (by omega) hR next H locs ls hl g1 g2 hS)
    | 3, _ => exact fun H locs ls hl g1 g2 hS => lv_tableIn C.kx.ex C.kx.cd (off := 246) (tgt := 279) dW_33 (by decide) (by decide) (by decide) (by decide) (arm_feed C (by omega) hR next H locs ls hl g1 g2 hS)
    | 4, _ => exact fun H locs ls hl g1 g2 hS => lv_tableIn C.kx.ex C.kx.cd (off := 269) (tgt := 302) dW_33 (by decide) (by decide) (by decide) (by decide) (arm_text C (by omega) hR next H locs ls hl g1 g2 hS)
    | 5, _ => exact fun H locs ls hl g1 g2 hS => lv_tableIn C.kx.ex C.kx.cd (off := 282) (tgt := 315) dW_33 (by decide) (by decide) (by decide) (by decide) (arm_force C (by omega) hR next H locs ls hl g1 g2 hS)
    | 6, _ => exact fun H locs ls hl g1 g2 hS => lv_tableIn C.kx.ex C.kx.cd (off := 305) (tgt := 338) dW_33 (by decide) (by decide) (by decide) (by decide) (arm_day C (by omega) hR next H locs ls hl g1 g2 hS)
    | 7, _ => exact fun H locs ls hl g1 g2 hS => lv_tableIn C.kx.ex C.kx.cd (off := 328) (tgt := 361) dW_33 (by decide) (by decide) (by decide) (by decide) (arm_order C (by omega) hR next H locs ls hl g1 g2 hS)
    | 8, _ => exact fun H locs ls hl g1 g2 hS => lv_tableIn C.kx.ex C.kx.cd (off := 361) (tgt := 394) dW_33 (by decide) (by decide) (by decide) (by decide) (arm_best C (by omega) hR next H locs ls hl g1 g2 hS)
    | 9, _ => exact fun H locs ls hl g1 g2 hS => lv_tableIn C.kx.ex C.kx.cd (off := 384) (tgt := 417) dW_33 (by decide) (by decide) (by decide) (by decide) (arm_good C (by omega) hR next H locs ls hl g1 g2 hS)
    | 10, _ => exact fun H locs ls hl g1 g2 hS => lv_tableIn C.kx.ex C.kx.cd (off := 417) (tgt := 450) dW_33 (by decide) (by decide) (by decide) (by decide) (arm_wetting C (by omega) hR next H locs ls hl g1 g2 hS)
    | 11, _ => exact fun H locs ls hl g1 g2 hS => lv_tableIn C.kx.ex C.kx.cd (off := 450) (tgt := 483) dW_33 (by decide) (by decide) (by decide) (by decide) (arm_alone C (by omega) hR next H locs ls hl g1 g2 hS)
    | 12, _ => exact fun H locs ls hl g1 g2 hS => lv_tableIn C.kx.ex C.kx.cd (off := 463) (tgt := 496) dW_33 (by decide) (by decide) (by decide) (by decide) (arm_tooWarm C (by omega) hR next H locs ls hl g1 g2 hS)
    | 13, _ => exact fun H locs ls hl g1 g2 hS => lv_tableIn C.kx.ex C.kx.cd (off := 476) (tgt := 509) dW_33 (by decide) (by decide) (by decide) (by decide) (arm_gains C (by omega) hR next H locs ls hl g1 g2 hS)
    | 14, _ => exact fun H locs ls hl g1 g2 hS => lv_tableIn C.kx.ex C.kx.cd (off := 499) (tgt := 532) dW_33 (by decide) (by decide) (by decide) (by decide) (arm_buckets C (by omega) hR next H locs ls hl g1 g2 hS)
    | 15, _ => exact fun H locs ls hl g1 g2 hS => lv_tableIn C.kx.ex C.kx.cd (off := 532) (tgt := 565) dW_33 (by decide) (by decide) (by decide) (by decide) (arm_books C (by omega) hR next H locs ls hl g1 g2 hS)
    | 16, _ => exact fun H locs ls hl g1 g2 hS => lv_tableIn C.kx.ex C.kx.cd (off := 565) (tgt := 598) dW_33 (by decide) (by decide) (by decide) (by decide) (arm_warms C (by omega) hR next H locs ls hl g1 g2 hS)
    | 17, _ => exact fun H locs ls hl g1 g2 hS => lv_tableIn C.kx.ex C.kx.cd (off := 589) (tgt := 622) dW_33 (by decide) (by decide) (by decide) (by decide) (arm_film C (by omega) hR next H locs ls hl g1 g2 hS)
    | 18, _ => exact fun H locs ls hl g1 g2 hS => lv_tableIn C.kx.ex C.kx.cd (off := 612) (tgt := 645) dW_33 (by decide) (by decide) (by decide) (by decide) (arm_drawn C (by omega) hR next H locs ls hl g1 g2 hS)
    | 19, _ => exact fun H locs ls hl g1 g2 hS => lv_tableIn C.kx.ex C.kx.cd (off := 635) (tgt := 668) dW_33 (by decide) (by decide) (by decide) (by decide) (arm_chance C (by omega) hR next H locs ls hl g1 g2 hS)
    | 20, _ => exact fun H locs ls hl g1 g2 hS => lv_tableIn C.kx.ex C.kx.cd (off := 679) (tgt := 712) dW_33 (by decide) (by decide) (by decide) (by decide) (arm_image C (by omega) hR next H locs ls hl g1 g2 hS)
    | 21, _ => exact fun H locs ls hl g1 g2 hS => lv_tableIn C.kx.ex C.kx.cd (off := 692) (tgt := 725) dW_33 (by decide) (by decide) (by decide) (by decide) (arm_back C (by omega) hR next H locs ls hl g1 g2 hS)
    | 22, _ => exact fun H locs ls hl g1 g2 hS => lv_tableIn C.kx.ex C.kx.cd (off := 705) (tgt := 738) dW_33 (by decide) (by decide) (by decide) (by decide) (arm_count C (by omega) hR next H locs ls hl g1 g2 hS)
    | 23, _ => exact fun H locs ls hl g1 g2 hS => lv_tableIn C.kx.ex C.kx.cd (off := 728) (tgt := 761) dW_33 (by decide) (by decide) (by decide) (by decide) (arm_sheet C (by omega) hR next H locs ls hl g1 g2 hS)
    | 24, _ => exact fun H locs ls hl g1 g2 hS => lv_tableIn C.kx.ex C.kx.cd (off := 771) (tgt := 804) dW_33 (by decide) (by decide) (by decide) (by decide) (arm_cell C (by omega) hR next H locs ls hl g1 g2 hS)
    | 25, _ => exact fun H locs ls hl g1 g2 hS => lv_tableIn C.kx.ex C.kx.cd (off := 814) (tgt := 847) dW_33 (by decide) (by decide) (by decide) (by decide) (arm_copy C (by omega) hR next H locs ls hl g1 g2 hS)
    | 26, _ => exact fun H locs ls hl g1 g2 hS => lv_tableIn C.kx.ex C.kx.cd (off := 877) (tgt := 910) dW_33 (by decide) (by decide) (by decide) (by decide) (arm_walls C (by omega) hR next H locs ls hl g1 g2 hS)
    | 27, _ => exact fun H locs ls hl g1 g2 hS => lv_tableIn C.kx.ex C.kx.cd (off := 930) (tgt := 963) dW_33 (by decide) (by decide) (by decide) (by decide) (arm_taken C (by omega) hR next H locs ls hl g1 g2 hS)
    | 28, _ => exact fun H locs ls hl g1 g2 hS => lv_tableOut C.kx.ex C.kx.cd (tgt := 996) dW_33 (by decide) (by decide) (next A B hR H locs ls hl g1 g2 hS)
    | 29, _ => exact fun H locs ls hl g1 g2 hS => lv_tableOut C.kx.ex C.kx.cd (tgt := 996) dW_33 (by decide) (by decide) (next A B hR H locs ls hl g1 g2 hS)
    | 30, _ => exact fun H locs ls hl g1 g2 hS => lv_tableOut C.kx.ex C.kx.cd (tgt := 996) dW_33 (by decide) (by decide) (next A B hR H locs ls hl g1 g2 hS)
    | 31, _ => exact fun H locs ls hl g1 g2 hS => lv_tableOut C.kx.ex C.kx.cd (tgt := 996) dW_33 (by decide) (by decide) (next A B hR H locs ls hl g1 g2 hS)
    | q + 32, h => exact absurd h (by omega)
