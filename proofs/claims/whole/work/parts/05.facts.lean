/-! layouts, constants, words of the tables: printed by facts.py -/
def layX : List LD := [.inl (7, [3, 9, 0, 15, 20, 24, 0, 25, 42, 43]), .inl (4, [4, 5, 6, 7, 8, 0, 0]), .inr (0, 6, fun _ => 0), .inr (0, 6, fun _ => 0), .inr (0, 6, fun _ => 0), .inr (0, 6, fun _ => 0), .inr (0, 6, fun _ => 0), .inl (4, [10, 11, 12, 13, 14, 0, 0]), .inr (0, 6, fun _ => 0), .inr (0, 6, fun _ => 0), .inr (0, 6, fun _ => 0), .inr (0, 6, fun _ => 0), .inr (0, 6, fun _ => 0), .inl (5, [16, 0, 17, 18, 19, 0]), .inr (0, 160, fun _ => 0), .inr (0, 161, fun _ => 0), .inr (0, 161, fun _ => 0), .inr (0, 161, fun _ => 0), .inl (2, [15, 21, 0, 0, 0]), .inl (6, [22, 23, 0]), .inr (0, 160, fun _ => 0), .inr (0, 4, fun _ => 0), .inr (2, 6, fun i => 42 + 3 * i), .inl (0, [26, 24, 32, 33, 34, 35, 36, 37, 38, 39, 40, 41, 0, 0, 0, 0, 0]), .inl (4, [27, 28, 29, 30, 31, 0, 0]), .inr (0, 6, fun _ => 0), .inr (0, 6, fun _ => 0), .inr (0, 6, fun _ => 0), .inr (0, 6, fun _ => 0), .inr (0, 6, fun _ => 0), .inr (0, 160, fun _ => 0), .inr (0, 6, fun _ => 0), .inr (0, 6, fun _ => 0), .inr (0, 6, fun _ => 0), .inr (0, 6, fun _ => 0), .inr (0, 6, fun _ => 0), .inr (0, 6, fun _ => 0), .inr (0, 6, fun _ => 0), .inr (0, 6, fun _ => 0), .inr (0, 6, fun _ => 0), .inl (1, [0, 0, 0, 0]), .inr (3, 4, fun i => 60 + 2 * i), .inl (6, [45, 46, 0]), .inr (0, 160, fun _ => 0), .inr (0, 4, fun _ => 0), .inl (6, [48, 49, 0]), .inr (0, 160, fun _ => 0), .inr (0, 4, fun _ => 0), .inl (6, [51, 52, 0]), .inr (0, 160, fun _ => 0), .inr (0, 4, fun _ => 0), .inl (6, [54, 55, 0]), .inr (0, 160, fun _ => 0), .inr (0, 4, fun _ => 0), .inl (6, [57, 58, 0]), .inr (0, 160, fun _ => 0), .inr (0, 4, fun _ => 0), .inl (6, [60, 61, 0]), .inr (0, 160, fun _ => 0), .inr (0, 4, fun _ => 0), .inl (3, [63, 0, 0]), .inr (0, 40, fun _ => 0), .inl (3, [65, 0, 0]), .inr (0, 40, fun _ => 0), .inl (3, [67, 0, 0]), .inr (0, 40, fun _ => 0), .inl (3, [69, 0, 0]), .inr (0, 40, fun _ => 0)]
theorem lx_0 : layX[0]? = some (.inl (7, [3, 9, 0, 15, 20, 24, 0, 25, 42, 43])) := rfl
theorem lx_1 : layX[1]? = some (.inl (4, [4, 5, 6, 7, 8, 0, 0])) := rfl
theorem lx_2 : layX[2]? = some (.inr (0, 6, fun _ => 0)) := rfl
theorem lx_3 : layX[3]? = some (.inr (0, 6, fun _ => 0)) := rfl
theorem lx_4 : layX[4]? = some (.inr (0, 6, fun _ => 0)) := rfl
theorem lx_5 : layX[5]? = some (.inr (0, 6, fun _ => 0)) := rfl
theorem lx_6 : layX[6]? = some (.inr (0, 6, fun _ => 0)) := rfl
theorem lx_7 : layX[7]? = some (.inl (4, [10, 11, 12, 13, 14, 0, 0])) := rfl
theorem lx_8 : layX[8]? = some (.inr (0, 6, fun _ => 0)) := rfl
theorem lx_9 : layX[9]? = some (.inr (0, 6, fun _ => 0)) := rfl
theorem lx_10 : layX[10]? = some (.inr (0, 6, fun _ => 0)) := rfl
theorem lx_11 : layX[11]? = some (.inr (0, 6, fun _ => 0)) := rfl
theorem lx_12 : layX[12]? = some (.inr (0, 6, fun _ => 0)) := rfl
theorem lx_13 : layX[13]? = some (.inl (5, [16, 0, 17, 18, 19, 0])) := rfl
theorem lx_14 : layX[14]? = some (.inr (0, 160, fun _ => 0)) := rfl
theorem lx_15 : layX[15]? = some (.inr (0, 161, fun _ => 0)) := rfl
theorem lx_16 : layX[16]? = some (.inr (0, 161, fun _ => 0)) := rfl
theorem lx_17 : layX[17]? = some (.inr (0, 161, fun _ => 0)) := rfl
theorem lx_18 : layX[18]? = some (.inl (2, [15, 21, 0, 0, 0])) := rfl
theorem lx_19 : layX[19]? = some (.inl (6, [22, 23, 0])) := rfl
theorem lx_20 : layX[20]? = some (.inr (0, 160, fun _ => 0)) := rfl
theorem lx_21 : layX[21]? = some (.inr (0, 4, fun _ => 0)) := rfl
theorem lx_22 : layX[22]? = some (.inr (2, 6, fun i => 42 + 3 * i)) := rfl
theorem lx_23 : layX[23]? = some (.inl (0, [26, 24, 32, 33, 34, 35, 36, 37, 38, 39, 40, 41, 0, 0, 0, 0, 0])) := rfl
theorem lx_24 : layX[24]? = some (.inl (4, [27, 28, 29, 30, 31, 0, 0])) := rfl
theorem lx_25 : layX[25]? = some (.inr (0, 6, fun _ => 0)) := rfl
theorem lx_26 : layX[26]? = some (.inr (0, 6, fun _ => 0)) := rfl
theorem lx_27 : layX[27]? = some (.inr (0, 6, fun _ => 0)) := rfl
theorem lx_28 : layX[28]? = some (.inr (0, 6, fun _ => 0)) := rfl
theorem lx_29 : layX[29]? = some (.inr (0, 6, fun _ => 0)) := rfl
theorem lx_30 : layX[30]? = some (.inr (0, 160, fun _ => 0)) := rfl
theorem lx_31 : layX[31]? = some (.inr (0, 6, fun _ => 0)) := rfl
theorem lx_32 : layX[32]? = some (.inr (0, 6, fun _ => 0)) := rfl
theorem lx_33 : layX[33]? = some (.inr (0, 6, fun _ => 0)) := rfl
theorem lx_34 : layX[34]? = some (.inr (0, 6, fun _ => 0)) := rfl
theorem lx_35 : layX[35]? = some (.inr (0, 6, fun _ => 0)) := rfl
theorem lx_36 : layX[36]? = some (.inr (0, 6, fun _ => 0)) := rfl
theorem lx_37 : layX[37]? = some (.inr (0, 6, fun _ => 0)) := rfl
theorem lx_38 : layX[38]? = some (.inr (0, 6, fun _ => 0)) := rfl
theorem lx_39 : layX[39]? = some (.inr (0, 6, fun _ => 0)) := rfl
theorem lx_40 : layX[40]? = some (.inl (1, [0, 0, 0, 0])) := rfl
theorem lx_41 : layX[41]? = some (.inr (3, 4, fun i => 60 + 2 * i)) := rfl
theorem lx_42 : layX[42]? = some (.inl (6, [45, 46, 0])) := rfl
theorem lx_43 : layX[43]? = some (.inr (0, 160, fun _ => 0)) := rfl
theorem lx_44 : layX[44]? = some (.inr (0, 4, fun _ => 0)) := rfl
theorem lx_45 : layX[45]? = some (.inl (6, [48, 49, 0])) := rfl
theorem lx_46 : layX[46]? = some (.inr (0, 160, fun _ => 0)) := rfl
theorem lx_47 : layX[47]? = some (.inr (0, 4, fun _ => 0)) := rfl
theorem lx_48 : layX[48]? = some (.inl (6, [51, 52, 0])) := rfl
theorem lx_49 : layX[49]? = some (.inr (0, 160, fun _ => 0)) := rfl
theorem lx_50 : layX[50]? = some (.inr (0, 4, fun _ => 0)) := rfl
theorem lx_51 : layX[51]? = some (.inl (6, [54, 55, 0])) := rfl
theorem lx_52 : layX[52]? = some (.inr (0, 160, fun _ => 0)) := rfl
theorem lx_53 : layX[53]? = some (.inr (0, 4, fun _ => 0)) := rfl
theorem lx_54 : layX[54]? = some (.inl (6, [57, 58, 0])) := rfl
theorem lx_55 : layX[55]? = some (.inr (0, 160, fun _ => 0)) := rfl
theorem lx_56 : layX[56]? = some (.inr (0, 4, fun _ => 0)) := rfl
theorem lx_57 : layX[57]? = some (.inl (6, [60, 61, 0])) := rfl
theorem lx_58 : layX[58]? = some (.inr (0, 160, fun _ => 0)) := rfl
theorem lx_59 : layX[59]? = some (.inr (0, 4, fun _ => 0)) := rfl
theorem lx_60 : layX[60]? = some (.inl (3, [63, 0, 0])) := rfl
theorem lx_61 : layX[61]? = some (.inr (0, 40, fun _ => 0)) := rfl
theorem lx_62 : layX[62]? = some (.inl (3, [65, 0, 0])) := rfl
theorem lx_63 : layX[63]? = some (.inr (0, 40, fun _ => 0)) := rfl
theorem lx_64 : layX[64]? = some (.inl (3, [67, 0, 0])) := rfl
theorem lx_65 : layX[65]? = some (.inr (0, 40, fun _ => 0)) := rfl
theorem lx_66 : layX[66]? = some (.inl (3, [69, 0, 0])) := rfl
theorem lx_67 : layX[67]? = some (.inr (0, 40, fun _ => 0)) := rfl
def layM : List LD := [.inl (8, [0, 3, 4, 0, 0, 5, 0, 6, 7, 8, 9, 10, 0, 0, 0, 0, 0, 0, 0, 0, 0, 0, 0, 0, 1, 0, 0, 0, 11, 0, 12, 13, 14, 15, 16, 17, 18, 0, 0, 0, 0, 0, 0, 0, 0, 19, 20, 0, 0, 21, 22, 23, 24]), .inr (0, 960, fun _ => 0), .inr (0, 6, fun _ => 0), .inr (0, 160, fun _ => 0), .inr (0, 6, fun _ => 0), .inr (0, 6, fun _ => 0), .inr (0, 6, fun _ => 0), .inr (0, 6, fun _ => 0), .inr (0, 6, fun _ => 0), .inr (0, 6, fun _ => 0), .inr (0, 6, fun _ => 0), .inr (0, 6, fun _ => 0), .inr (0, 6, fun _ => 0), .inr (0, 6, fun _ => 0), .inr (0, 6, fun _ => 0), .inr (0, 6, fun _ => 0), .inr (0, 6, fun _ => 0), .inr (0, 6, fun _ => 0), .inr (0, 18, fun _ => 0), .inr (1, 4, fun _ => 0), .inr (0, 4, fun _ => 0), .inr (0, 4, fun _ => 0), .inr (0, 160, fun _ => 0)]
theorem lm_0 : layM[0]? = some (.inl (8, [0, 3, 4, 0, 0, 5, 0, 6, 7, 8, 9, 10, 0, 0, 0, 0, 0, 0, 0, 0, 0, 0, 0, 0, 1, 0, 0, 0, 11, 0, 12, 13, 14, 15, 16, 17, 18, 0, 0, 0, 0, 0, 0, 0, 0, 19, 20, 0, 0, 21, 22, 23, 24])) := rfl
theorem lm_1 : layM[1]? = some (.inr (0, 960, fun _ => 0)) := rfl
theorem lm_2 : layM[2]? = some (.inr (0, 6, fun _ => 0)) := rfl
theorem lm_3 : layM[3]? = some (.inr (0, 160, fun _ => 0)) := rfl
theorem lm_4 : layM[4]? = some (.inr (0, 6, fun _ => 0)) := rfl
theorem lm_5 : layM[5]? = some (.inr (0, 6, fun _ => 0)) := rfl
theorem lm_6 : layM[6]? = some (.inr (0, 6, fun _ => 0)) := rfl
theorem lm_7 : layM[7]? = some (.inr (0, 6, fun _ => 0)) := rfl
theorem lm_8 : layM[8]? = some (.inr (0, 6, fun _ => 0)) := rfl
theorem lm_9 : layM[9]? = some (.inr (0, 6, fun _ => 0)) := rfl
theorem lm_10 : layM[10]? = some (.inr (0, 6, fun _ => 0)) := rfl
theorem lm_11 : layM[11]? = some (.inr (0, 6, fun _ => 0)) := rfl
theorem lm_12 : layM[12]? = some (.inr (0, 6, fun _ => 0)) := rfl
theorem lm_13 : layM[13]? = some (.inr (0, 6, fun _ => 0)) := rfl
theorem lm_14 : layM[14]? = some (.inr (0, 6, fun _ => 0)) := rfl
theorem lm_15 : layM[15]? = some (.inr (0, 6, fun _ => 0)) := rfl
theorem lm_16 : layM[16]? = some (.inr (0, 6, fun _ => 0)) := rfl
theorem lm_17 : layM[17]? = some (.inr (0, 6, fun _ => 0)) := rfl
theorem lm_18 : layM[18]? = some (.inr (0, 18, fun _ => 0)) := rfl
theorem lm_19 : layM[19]? = some (.inr (1, 4, fun _ => 0)) := rfl
theorem lm_20 : layM[20]? = some (.inr (0, 4, fun _ => 0)) := rfl
theorem lm_21 : layM[21]? = some (.inr (0, 4, fun _ => 0)) := rfl
theorem lm_22 : layM[22]? = some (.inr (0, 160, fun _ => 0)) := rfl
def isSite (t : Nat) : Prop := t = 1 ∨ t = 7 ∨ t = 24
def isText (t : Nat) : Prop := t = 19 ∨ ∃ i : Nat, i < 6 ∧ t = 42 + 3 * i
def isSheet (t : Nat) : Prop := ∃ i : Nat, i < 4 ∧ t = 60 + 2 * i
theorem lxSite {t : Nat} (h : isSite t) : layX[t]? = some (.inl (4, [t + 1 + 2, t + 2 + 2, t + 3 + 2, t + 4 + 2, t + 5 + 2, 0, 0])) := by rcases h with rfl | rfl | rfl <;> rfl
theorem lxSite1 {t : Nat} (h : isSite t) : layX[t + 1]? = some (.inr (0, 6, fun _ => 0)) := by rcases h with rfl | rfl | rfl <;> rfl
theorem lxSite2 {t : Nat} (h : isSite t) : layX[t + 2]? = some (.inr (0, 6, fun _ => 0)) := by rcases h with rfl | rfl | rfl <;> rfl
theorem lxSite3 {t : Nat} (h : isSite t) : layX[t + 3]? = some (.inr (0, 6, fun _ => 0)) := by rcases h with rfl | rfl | rfl <;> rfl
theorem lxSite4 {t : Nat} (h : isSite t) : layX[t + 4]? = some (.inr (0, 6, fun _ => 0)) := by rcases h with rfl | rfl | rfl <;> rfl
theorem lxSite5 {t : Nat} (h : isSite t) : layX[t + 5]? = some (.inr (0, 6, fun _ => 0)) := by rcases h with rfl | rfl | rfl <;> rfl
theorem isText_c {P : Nat → Prop} (h0 : P 19) (h1 : P 42) (h2 : P 45) (h3 : P 48) (h4 : P 51) (h5 : P 54) (h6 : P 57) {t : Nat} (h : isText t) : P t := by
  rcases h with rfl | ⟨i, hi, rfl⟩
  · exact h0
  · match i, hi with
    | 0, _ => exact h1
    | 1, _ => exact h2
    | 2, _ => exact h3
    | 3, _ => exact h4
    | 4, _ => exact h5
    | 5, _ => exact h6
theorem lxText {t : Nat} (h : isText t) : layX[t]? = some (.inl (6, [t + 1 + 2, t + 2 + 2, 0])) := isText_c (P := fun t => layX[t]? = some (.inl (6, [t + 1 + 2, t + 2 + 2, 0]))) rfl rfl rfl rfl rfl rfl rfl h
theorem lxText1 {t : Nat} (h : isText t) : layX[t + 1]? = some (.inr (0, 160, fun _ => 0)) := isText_c (P := fun t => layX[t + 1]? = some (.inr (0, 160, fun _ => 0))) rfl rfl rfl rfl rfl rfl rfl h
theorem lxText2 {t : Nat} (h : isText t) : layX[t + 2]? = some (.inr (0, 4, fun _ => 0)) := isText_c (P := fun t => layX[t + 2]? = some (.inr (0, 4, fun _ => 0))) rfl rfl rfl rfl rfl rfl rfl h
theorem isSheet_c {P : Nat → Prop} (h0 : P 60) (h1 : P 62) (h2 : P 64) (h3 : P 66) {t : Nat} (h : isSheet t) : P t := by
  obtain ⟨i, hi, rfl⟩ := h
  match i, hi with
  | 0, _ => exact h0
  | 1, _ => exact h1
  | 2, _ => exact h2
  | 3, _ => exact h3
theorem lxSheet {t : Nat} (h : isSheet t) : layX[t]? = some (.inl (3, [t + 1 + 2, 0, 0])) := isSheet_c (P := fun t => layX[t]? = some (.inl (3, [t + 1 + 2, 0, 0]))) rfl rfl rfl rfl h
theorem lxSheet1 {t : Nat} (h : isSheet t) : layX[t + 1]? = some (.inr (0, 40, fun _ => 0)) := isSheet_c (P := fun t => layX[t + 1]? = some (.inr (0, 40, fun _ => 0))) rfl rfl rfl rfl h
theorem vp_lt {i : Int32} {n : Nat} (h : vp_in i n) : i.toNatClampNeg < n := Nat.not_le.mp fun q => h (Or.inr q)
theorem isText_in {i : Int32} (h : vp_in i 6) : isText (42 + 3 * i.toNatClampNeg) := Or.inr ⟨_, vp_lt h, rfl⟩
theorem isSheet_in {i : Int32} (h : vp_in i 4) : isSheet (60 + 2 * i.toNatClampNeg) := ⟨_, vp_lt h, rfl⟩
theorem ic_m1 : Int32.ofInt (-1) = (-1 : Int32) := by decide
theorem ic_0 : Int32.ofInt 0 = (0 : Int32) := by decide
theorem ic_1 : Int32.ofInt 1 = (1 : Int32) := by decide
theorem ic_2 : Int32.ofInt 2 = (2 : Int32) := by decide
theorem ic_3 : Int32.ofInt 3 = (3 : Int32) := by decide
theorem ic_4 : Int32.ofInt 4 = (4 : Int32) := by decide
theorem ic_5 : Int32.ofInt 5 = (5 : Int32) := by decide
theorem bp_m100 : (Int8.ofInt (-100)).toInt32 = (-100 : Int32) := by decide
theorem bp_m42 : (Int8.ofInt (-42)).toInt32 = (-42 : Int32) := by decide
theorem bp_m16 : (Int8.ofInt (-16)).toInt32 = (-16 : Int32) := by decide
theorem bp_m14 : (Int8.ofInt (-14)).toInt32 = (-14 : Int32) := by decide
theorem bp_m13 : (Int8.ofInt (-13)).toInt32 = (-13 : Int32) := by decide
theorem bp_m12 : (Int8.ofInt (-12)).toInt32 = (-12 : Int32) := by decide
theorem bp_m11 : (Int8.ofInt (-11)).toInt32 = (-11 : Int32) := by decide
theorem bp_m10 : (Int8.ofInt (-10)).toInt32 = (-10 : Int32) := by decide
theorem bp_m6 : (Int8.ofInt (-6)).toInt32 = (-6 : Int32) := by decide
theorem bp_m4 : (Int8.ofInt (-4)).toInt32 = (-4 : Int32) := by decide
theorem bp_m3 : (Int8.ofInt (-3)).toInt32 = (-3 : Int32) := by decide
theorem bp_m2 : (Int8.ofInt (-2)).toInt32 = (-2 : Int32) := by decide
theorem bp_6 : (Int8.ofInt 6).toInt32 = (6 : Int32) := by decide
theorem bp_7 : (Int8.ofInt 7).toInt32 = (7 : Int32) := by decide
theorem bp_8 : (Int8.ofInt 8).toInt32 = (8 : Int32) := by decide
theorem bp_9 : (Int8.ofInt 9).toInt32 = (9 : Int32) := by decide
theorem bp_10 : (Int8.ofInt 10).toInt32 = (10 : Int32) := by decide
theorem bp_11 : (Int8.ofInt 11).toInt32 = (11 : Int32) := by decide
theorem bp_12 : (Int8.ofInt 12).toInt32 = (12 : Int32) := by decide
theorem bp_13 : (Int8.ofInt 13).toInt32 = (13 : Int32) := by decide
theorem bp_14 : (Int8.ofInt 14).toInt32 = (14 : Int32) := by decide
theorem bp_15 : (Int8.ofInt 15).toInt32 = (15 : Int32) := by decide
theorem bp_16 : (Int8.ofInt 16).toInt32 = (16 : Int32) := by decide
theorem bp_17 : (Int8.ofInt 17).toInt32 = (17 : Int32) := by decide
theorem bp_18 : (Int8.ofInt 18).toInt32 = (18 : Int32) := by decide
theorem bp_20 : (Int8.ofInt 20).toInt32 = (20 : Int32) := by decide
theorem bp_24 : (Int8.ofInt 24).toInt32 = (24 : Int32) := by decide
theorem bp_30 : (Int8.ofInt 30).toInt32 = (30 : Int32) := by decide
theorem bp_31 : (Int8.ofInt 31).toInt32 = (31 : Int32) := by decide
theorem bp_32 : (Int8.ofInt 32).toInt32 = (32 : Int32) := by decide
theorem bp_40 : (Int8.ofInt 40).toInt32 = (40 : Int32) := by decide
theorem bp_41 : (Int8.ofInt 41).toInt32 = (41 : Int32) := by decide
theorem bp_42 : (Int8.ofInt 42).toInt32 = (42 : Int32) := by decide
theorem bp_43 : (Int8.ofInt 43).toInt32 = (43 : Int32) := by decide
theorem bp_45 : (Int8.ofInt 45).toInt32 = (45 : Int32) := by decide
theorem bp_48 : (Int8.ofInt 48).toInt32 = (48 : Int32) := by decide
theorem bp_50 : (Int8.ofInt 50).toInt32 = (50 : Int32) := by decide
theorem bp_52 : (Int8.ofInt 52).toInt32 = (52 : Int32) := by decide
theorem bp_54 : (Int8.ofInt 54).toInt32 = (54 : Int32) := by decide
theorem bp_56 : (Int8.ofInt 56).toInt32 = (56 : Int32) := by decide
theorem bp_57 : (Int8.ofInt 57).toInt32 = (57 : Int32) := by decide
theorem bp_59 : (Int8.ofInt 59).toInt32 = (59 : Int32) := by decide
theorem bp_60 : (Int8.ofInt 60).toInt32 = (60 : Int32) := by decide
theorem bp_61 : (Int8.ofInt 61).toInt32 = (61 : Int32) := by decide
theorem bp_63 : (Int8.ofInt 63).toInt32 = (63 : Int32) := by decide
theorem bp_64 : (Int8.ofInt 64).toInt32 = (64 : Int32) := by decide
theorem bp_72 : (Int8.ofInt 72).toInt32 = (72 : Int32) := by decide
theorem bp_80 : (Int8.ofInt 80).toInt32 = (80 : Int32) := by decide
theorem bp_97 : (Int8.ofInt 97).toInt32 = (97 : Int32) := by decide
theorem bp_98 : (Int8.ofInt 98).toInt32 = (98 : Int32) := by decide
theorem bp_99 : (Int8.ofInt 99).toInt32 = (99 : Int32) := by decide
theorem bp_100 : (Int8.ofInt 100).toInt32 = (100 : Int32) := by decide
theorem bp_101 : (Int8.ofInt 101).toInt32 = (101 : Int32) := by decide
theorem bp_102 : (Int8.ofInt 102).toInt32 = (102 : Int32) := by decide
theorem bp_103 : (Int8.ofInt 103).toInt32 = (103 : Int32) := by decide
theorem bp_105 : (Int8.ofInt 105).toInt32 = (105 : Int32) := by decide
theorem bp_107 : (Int8.ofInt 107).toInt32 = (107 : Int32) := by decide
theorem bp_108 : (Int8.ofInt 108).toInt32 = (108 : Int32) := by decide
theorem bp_109 : (Int8.ofInt 109).toInt32 = (109 : Int32) := by decide
theorem bp_110 : (Int8.ofInt 110).toInt32 = (110 : Int32) := by decide
theorem bp_111 : (Int8.ofInt 111).toInt32 = (111 : Int32) := by decide
theorem bp_112 : (Int8.ofInt 112).toInt32 = (112 : Int32) := by decide
theorem bp_114 : (Int8.ofInt 114).toInt32 = (114 : Int32) := by decide
theorem bp_115 : (Int8.ofInt 115).toInt32 = (115 : Int32) := by decide
theorem bp_116 : (Int8.ofInt 116).toInt32 = (116 : Int32) := by decide
theorem bp_117 : (Int8.ofInt 117).toInt32 = (117 : Int32) := by decide
theorem bp_119 : (Int8.ofInt 119).toInt32 = (119 : Int32) := by decide
theorem bp_121 : (Int8.ofInt 121).toInt32 = (121 : Int32) := by decide
theorem bp_122 : (Int8.ofInt 122).toInt32 = (122 : Int32) := by decide
theorem sp_160 : (Int16.ofInt 160).toInt32 = (160 : Int32) := by decide
theorem sp_161 : (Int16.ofInt 161).toInt32 = (161 : Int32) := by decide
theorem sp_240 : (Int16.ofInt 240).toInt32 = (240 : Int32) := by decide
theorem sp_255 : (Int16.ofInt 255).toInt32 = (255 : Int32) := by decide
theorem sp_720 : (Int16.ofInt 720).toInt32 = (720 : Int32) := by decide
theorem sp_960 : (Int16.ofInt 960).toInt32 = (960 : Int32) := by decide
theorem sp_999 : (Int16.ofInt 999).toInt32 = (999 : Int32) := by decide
theorem sp_1023 : (Int16.ofInt 1023).toInt32 = (1023 : Int32) := by decide
theorem sp_4000 : (Int16.ofInt 4000).toInt32 = (4000 : Int32) := by decide
theorem sp_12345 : (Int16.ofInt 12345).toInt32 = (12345 : Int32) := by decide
theorem ii_m1 : Int32.ofInt (-1) = (-1 : Int32) := by decide
theorem ii_1 : Int32.ofInt 1 = (1 : Int32) := by decide
theorem ii_6 : Int32.ofInt 6 = (6 : Int32) := by decide
theorem lc_0 : Int64.ofNat ((0 : Fin 2) : Nat) = (0 : Int64) := by decide
theorem lc_1 : Int64.ofNat ((1 : Fin 2) : Nat) = (1 : Int64) := by decide
theorem gt_list {ws : List Cond} (ps : List Nat) (h : ws = ps.filterMap (fun i => lw_tbl[i]?)) (g : ws.all goodWord = true) : ∀ w ∈ ws, w ∈ gt := by
  intro w hw
  have h1 := List.all_eq_true.mp g w hw
  rw [h] at hw
  obtain ⟨i, -, hi⟩ := List.mem_filterMap.mp hw
  exact gt_of i hi h1
theorem gc_X0 : ∀ w ∈ u_ws RX0 TX0 17, w ∈ gt := gt_list [259, 261, 263, 265, 267, 269, 271, 273, 275, 277, 279, 281, 283, 285, 287, 289, 291] (by decide +kernel) (by decide +kernel)
theorem gc_X2 : ∀ w ∈ u_ws RX2 TX2 4, w ∈ gt := gt_list [307, 309, 311, 313] (by decide +kernel) (by decide +kernel)
theorem gc_X3 : ∀ w ∈ u_ws RX3 TX3 5, w ∈ gt := gt_list [210, 212, 214, 216, 218] (by decide +kernel) (by decide +kernel)
theorem gc_X4 : ∀ w ∈ u_ws RX4 TX4 3, w ∈ gt := gt_list [331, 333, 335] (by decide +kernel) (by decide +kernel)
theorem gc_X5 : ∀ w ∈ u_ws RX5 TX5 7, w ∈ gt := gt_list [135, 137, 139, 141, 143, 145, 147] (by decide +kernel) (by decide +kernel)
theorem gc_X6 : ∀ w ∈ u_ws RX6 TX6 6, w ∈ gt := gt_list [169, 171, 173, 175, 177, 179] (by decide +kernel) (by decide +kernel)
theorem gc_X7 : ∀ w ∈ u_ws RX7 TX7 3, w ∈ gt := gt_list [197, 199, 201] (by decide +kernel) (by decide +kernel)
theorem gc_X8 : ∀ w ∈ u_ws RX8 TX8 10, w ∈ gt := gt_list [596, 598, 600, 602, 604, 606, 608, 610, 612, 614] (by decide +kernel) (by decide +kernel)
theorem gc_X9 : ∀ w ∈ u_ws RX9 TX9 53, w ∈ gt := gt_list [1014, 1016, 1018, 1020, 1022, 1024, 1026, 1028, 1030, 1032, 1034, 1036, 1038, 1040, 1042, 1044, 1046, 1048, 1050, 1052, 1054, 1056, 1058, 1060, 1062, 1064, 1066, 1068, 1070, 1072, 1074, 1076, 1078, 1080, 1082, 1084, 1086, 1088, 1090, 1092, 1094, 1096, 1098, 1100, 1102, 1104, 1106, 1108, 1110, 1112, 1114, 1116, 1118] (by decide +kernel) (by decide +kernel)
theorem fl_X8_10 : FL RX8 10 7 0 := ⟨RX8, TX8, 10, rfl, by decide, gc_X8, Or.inl (gt_of 586 (by decide +kernel) rfl)⟩
theorem fl_X8_16 : FL RX8 16 7 1 := ⟨RX8, TX8, 10, rfl, by decide, gc_X8, Or.inl (gt_of 587 (by decide +kernel) rfl)⟩
theorem fl_X8_19 : FL RX8 19 7 2 := ⟨RX8, TX8, 10, rfl, by decide, gc_X8, Or.inl (gt_of 588 (by decide +kernel) rfl)⟩
theorem fp_X8_19 : FP RX8 19 7 2 .boolean := ⟨RX8, TX8, 10, tyX8, rfl, by decide, gc_X8, Or.inl (gt_of 588 (by decide +kernel) rfl), tyX8_ok, nmX8, rfl, by decide +kernel⟩
theorem fl_X8_26 : FL RX8 26 7 3 := ⟨RX8, TX8, 10, rfl, by decide, gc_X8, Or.inl (gt_of 589 (by decide +kernel) rfl)⟩
theorem fl_X8_35 : FL RX8 35 7 4 := ⟨RX8, TX8, 10, rfl, by decide, gc_X8, Or.inl (gt_of 590 (by decide +kernel) rfl)⟩
theorem fl_X8_41 : FL RX8 41 7 5 := ⟨RX8, TX8, 10, rfl, by decide, gc_X8, Or.inl (gt_of 591 (by decide +kernel) rfl)⟩
theorem fl_X8_45 : FL RX8 45 7 6 := ⟨RX8, TX8, 10, rfl, by decide, gc_X8, Or.inl (gt_of 592 (by decide +kernel) rfl)⟩
theorem fp_X8_45 : FP RX8 45 7 6 .int := ⟨RX8, TX8, 10, tyX8, rfl, by decide, gc_X8, Or.inl (gt_of 592 (by decide +kernel) rfl), tyX8_ok, nmX8, rfl, by decide +kernel⟩
theorem fl_X8_54 : FL RX8 54 7 7 := ⟨RX8, TX8, 10, rfl, by decide, gc_X8, Or.inl (gt_of 593 (by decide +kernel) rfl)⟩
theorem fl_X8_61 : FL RX8 61 7 8 := ⟨RX8, TX8, 10, rfl, by decide, gc_X8, Or.inl (gt_of 594 (by decide +kernel) rfl)⟩
theorem fl_X8_67 : FL RX8 67 7 9 := ⟨RX8, TX8, 10, rfl, by decide, gc_X8, Or.inl (gt_of 595 (by decide +kernel) rfl)⟩
theorem fl_X8_113 : FL RX8 113 4 1 := ⟨RX5, TX5, 7, rfl, by decide, gc_X5, Or.inr ⟨"BeforeItGoes", nw_of 119 (by decide +kernel) rfl⟩⟩
theorem fl_X8_116 : FL RX8 116 4 2 := ⟨RX5, TX5, 7, rfl, by decide, gc_X5, Or.inr ⟨"BeforeItGoes", nw_of 122 (by decide +kernel) rfl⟩⟩
theorem fl_X8_119 : FL RX8 119 4 3 := ⟨RX5, TX5, 7, rfl, by decide, gc_X5, Or.inr ⟨"BeforeItGoes", nw_of 125 (by decide +kernel) rfl⟩⟩
theorem fl_X8_122 : FL RX8 122 4 4 := ⟨RX5, TX5, 7, rfl, by decide, gc_X5, Or.inr ⟨"BeforeItGoes", nw_of 128 (by decide +kernel) rfl⟩⟩
theorem fl_X8_135 : FL RX8 135 0 5 := ⟨RX0, TX0, 17, rfl, by decide, gc_X0, Or.inr ⟨"BeforeItGoes", nw_of 238 (by decide +kernel) rfl⟩⟩
theorem fl_X8_138 : FL RX8 138 0 6 := ⟨RX0, TX0, 17, rfl, by decide, gc_X0, Or.inr ⟨"BeforeItGoes", nw_of 240 (by decide +kernel) rfl⟩⟩
theorem fl_X8_141 : FL RX8 141 0 7 := ⟨RX0, TX0, 17, rfl, by decide, gc_X0, Or.inr ⟨"BeforeItGoes", nw_of 242 (by decide +kernel) rfl⟩⟩
theorem fl_X8_150 : FL RX8 150 2 1 := ⟨RX3, TX3, 5, rfl, by decide, gc_X3, Or.inr ⟨"BeforeItGoes", nw_of 206 (by decide +kernel) rfl⟩⟩
theorem fl_X8_158 : FL RX8 158 4 6 := ⟨RX5, TX5, 7, rfl, by decide, gc_X5, Or.inr ⟨"BeforeItGoes", nw_of 134 (by decide +kernel) rfl⟩⟩
theorem fp_X8_158 : FP RX8 158 4 6 .int := ⟨RX5, TX5, 7, tyX5, rfl, by decide, gc_X5, Or.inr ⟨"BeforeItGoes", nw_of 134 (by decide +kernel) rfl⟩, tyX5_ok, nmX5, rfl, by decide +kernel⟩
theorem fl_X8_183 : FL RX8 183 3 2 := ⟨RX4, TX4, 3, rfl, by decide, gc_X4, Or.inr ⟨"BeforeItGoes", nw_of 330 (by decide +kernel) rfl⟩⟩
theorem fp_X8_183 : FP RX8 183 3 2 .int := ⟨RX4, TX4, 3, tyX4, rfl, by decide, gc_X4, Or.inr ⟨"BeforeItGoes", nw_of 330 (by decide +kernel) rfl⟩, tyX4_ok, nmX4, rfl, by decide +kernel⟩
theorem fl_X8_186 : FL RX8 186 4 5 := ⟨RX5, TX5, 7, rfl, by decide, gc_X5, Or.inr ⟨"BeforeItGoes", nw_of 131 (by decide +kernel) rfl⟩⟩
theorem fp_X8_186 : FP RX8 186 4 5 .int := ⟨RX5, TX5, 7, tyX5, rfl, by decide, gc_X5, Or.inr ⟨"BeforeItGoes", nw_of 131 (by decide +kernel) rfl⟩, tyX5_ok, nmX5, rfl, by decide +kernel⟩
theorem fl_X8_187 : FL RX8 187 3 0 := ⟨RX4, TX4, 3, rfl, by decide, gc_X4, Or.inr ⟨"BeforeItGoes", nw_of 325 (by decide +kernel) rfl⟩⟩
theorem fl_X8_194 : FL RX8 194 0 16 := ⟨RX0, TX0, 17, rfl, by decide, gc_X0, Or.inr ⟨"BeforeItGoes", nw_of 258 (by decide +kernel) rfl⟩⟩
theorem fp_X8_194 : FP RX8 194 0 16 .int := ⟨RX0, TX0, 17, tyX0, rfl, by decide, gc_X0, Or.inr ⟨"BeforeItGoes", nw_of 258 (by decide +kernel) rfl⟩, tyX0_ok, nmX0, rfl, by decide +kernel⟩
theorem fl_X8_197 : FL RX8 197 0 14 := ⟨RX0, TX0, 17, rfl, by decide, gc_X0, Or.inr ⟨"BeforeItGoes", nw_of 254 (by decide +kernel) rfl⟩⟩
theorem fp_X8_197 : FP RX8 197 0 14 .int := ⟨RX0, TX0, 17, tyX0, rfl, by decide, gc_X0, Or.inr ⟨"BeforeItGoes", nw_of 254 (by decide +kernel) rfl⟩, tyX0_ok, nmX0, rfl, by decide +kernel⟩
theorem fl_X8_200 : FL RX8 200 0 15 := ⟨RX0, TX0, 17, rfl, by decide, gc_X0, Or.inr ⟨"BeforeItGoes", nw_of 256 (by decide +kernel) rfl⟩⟩
theorem fp_X8_200 : FP RX8 200 0 15 .int := ⟨RX0, TX0, 17, tyX0, rfl, by decide, gc_X0, Or.inr ⟨"BeforeItGoes", nw_of 256 (by decide +kernel) rfl⟩, tyX0_ok, nmX0, rfl, by decide +kernel⟩
theorem fl_X8_212 : FL RX8 212 0 8 := ⟨RX0, TX0, 17, rfl, by decide, gc_X0, Or.inr ⟨"BeforeItGoes", nw_of 244 (by decide +kernel) rfl⟩⟩
theorem fl_X8_215 : FL RX8 215 0 9 := ⟨RX0, TX0, 17, rfl, by decide, gc_X0, Or.inr ⟨"BeforeItGoes", nw_of 246 (by decide +kernel) rfl⟩⟩
theorem fl_X8_218 : FL RX8 218 0 10 := ⟨RX0, TX0, 17, rfl, by decide, gc_X0, Or.inr ⟨"BeforeItGoes", nw_of 248 (by decide +kernel) rfl⟩⟩
theorem fl_X8_221 : FL RX8 221 0 11 := ⟨RX0, TX0, 17, rfl, by decide, gc_X0, Or.inr ⟨"BeforeItGoes", nw_of 250 (by decide +kernel) rfl⟩⟩
theorem fl_X8_224 : FL RX8 224 0 0 := ⟨RX0, TX0, 17, rfl, by decide, gc_X0, Or.inr ⟨"BeforeItGoes", nw_of 232 (by decide +kernel) rfl⟩⟩
theorem fl_X8_242 : FL RX8 242 1 2 := ⟨RX2, TX2, 4, rfl, by decide, gc_X2, Or.inr ⟨"BeforeItGoes", nw_of 304 (by decide +kernel) rfl⟩⟩
theorem fp_X8_242 : FP RX8 242 1 2 .int := ⟨RX2, TX2, 4, tyX2, rfl, by decide, gc_X2, Or.inr ⟨"BeforeItGoes", nw_of 304 (by decide +kernel) rfl⟩, tyX2_ok, nmX2, rfl, by decide +kernel⟩
theorem fl_X8_243 : FL RX8 243 1 3 := ⟨RX2, TX2, 4, rfl, by decide, gc_X2, Or.inr ⟨"BeforeItGoes", nw_of 306 (by decide +kernel) rfl⟩⟩
theorem fp_X8_243 : FP RX8 243 1 3 .int := ⟨RX2, TX2, 4, tyX2, rfl, by decide, gc_X2, Or.inr ⟨"BeforeItGoes", nw_of 306 (by decide +kernel) rfl⟩, tyX2_ok, nmX2, rfl, by decide +kernel⟩
theorem fl_X8_246 : FL RX8 246 1 1 := ⟨RX2, TX2, 4, rfl, by decide, gc_X2, Or.inr ⟨"BeforeItGoes", nw_of 302 (by decide +kernel) rfl⟩⟩
theorem fp_X8_246 : FP RX8 246 1 1 .int := ⟨RX2, TX2, 4, tyX2, rfl, by decide, gc_X2, Or.inr ⟨"BeforeItGoes", nw_of 302 (by decide +kernel) rfl⟩, tyX2_ok, nmX2, rfl, by decide +kernel⟩
theorem fl_X8_293 : FL RX8 293 4 0 := ⟨RX5, TX5, 7, rfl, by decide, gc_X5, Or.inr ⟨"BeforeItGoes", nw_of 116 (by decide +kernel) rfl⟩⟩
theorem fl_X8_296 : FL RX8 296 5 1 := ⟨RX6, TX6, 6, rfl, by decide, gc_X6, Or.inr ⟨"BeforeItGoes", nw_of 160 (by decide +kernel) rfl⟩⟩
theorem fp_X8_296 : FP RX8 296 5 1 .int := ⟨RX6, TX6, 6, tyX6, rfl, by decide, gc_X6, Or.inr ⟨"BeforeItGoes", nw_of 160 (by decide +kernel) rfl⟩, tyX6_ok, nmX6, rfl, by decide +kernel⟩
theorem fl_X8_298 : FL RX8 298 3 1 := ⟨RX4, TX4, 3, rfl, by decide, gc_X4, Or.inr ⟨"BeforeItGoes", nw_of 328 (by decide +kernel) rfl⟩⟩
theorem fp_X8_298 : FP RX8 298 3 1 .int := ⟨RX4, TX4, 3, tyX4, rfl, by decide, gc_X4, Or.inr ⟨"BeforeItGoes", nw_of 328 (by decide +kernel) rfl⟩, tyX4_ok, nmX4, rfl, by decide +kernel⟩
theorem fl_X0_12 : FL RX0 12 0 0 := ⟨RX0, TX0, 17, rfl, by decide, gc_X0, Or.inl (gt_of 231 (by decide +kernel) rfl)⟩
theorem fl_X0_18 : FL RX0 18 0 2 := ⟨RX0, TX0, 17, rfl, by decide, gc_X0, Or.inl (gt_of 234 (by decide +kernel) rfl)⟩
theorem fl_X0_22 : FL RX0 22 0 3 := ⟨RX0, TX0, 17, rfl, by decide, gc_X0, Or.inl (gt_of 235 (by decide +kernel) rfl)⟩
theorem fl_X0_25 : FL RX0 25 0 4 := ⟨RX0, TX0, 17, rfl, by decide, gc_X0, Or.inl (gt_of 236 (by decide +kernel) rfl)⟩
theorem fl_X0_28 : FL RX0 28 0 5 := ⟨RX0, TX0, 17, rfl, by decide, gc_X0, Or.inl (gt_of 237 (by decide +kernel) rfl)⟩
theorem fl_X0_31 : FL RX0 31 0 6 := ⟨RX0, TX0, 17, rfl, by decide, gc_X0, Or.inl (gt_of 239 (by decide +kernel) rfl)⟩
theorem fl_X0_34 : FL RX0 34 0 7 := ⟨RX0, TX0, 17, rfl, by decide, gc_X0, Or.inl (gt_of 241 (by decide +kernel) rfl)⟩
theorem fl_X0_37 : FL RX0 37 0 8 := ⟨RX0, TX0, 17, rfl, by decide, gc_X0, Or.inl (gt_of 243 (by decide +kernel) rfl)⟩
theorem fl_X0_40 : FL RX0 40 0 9 := ⟨RX0, TX0, 17, rfl, by decide, gc_X0, Or.inl (gt_of 245 (by decide +kernel) rfl)⟩
theorem fl_X0_43 : FL RX0 43 0 10 := ⟨RX0, TX0, 17, rfl, by decide, gc_X0, Or.inl (gt_of 247 (by decide +kernel) rfl)⟩
theorem fl_X0_46 : FL RX0 46 0 11 := ⟨RX0, TX0, 17, rfl, by decide, gc_X0, Or.inl (gt_of 249 (by decide +kernel) rfl)⟩
theorem fl_X0_49 : FL RX0 49 0 1 := ⟨RX0, TX0, 17, rfl, by decide, gc_X0, Or.inl (gt_of 233 (by decide +kernel) rfl)⟩
theorem fl_X0_53 : FL RX0 53 4 5 := ⟨RX5, TX5, 7, rfl, by decide, gc_X5, Or.inr ⟨"BeforeItGoes", nw_of 130 (by decide +kernel) rfl⟩⟩
theorem fp_X0_53 : FP RX0 53 4 5 .int := ⟨RX5, TX5, 7, tyX5, rfl, by decide, gc_X5, Or.inr ⟨"BeforeItGoes", nw_of 130 (by decide +kernel) rfl⟩, tyX5_ok, nmX5, rfl, by decide +kernel⟩
theorem fl_X0_57 : FL RX0 57 4 1 := ⟨RX5, TX5, 7, rfl, by decide, gc_X5, Or.inr ⟨"BeforeItGoes", nw_of 118 (by decide +kernel) rfl⟩⟩
theorem fl_X0_60 : FL RX0 60 4 2 := ⟨RX5, TX5, 7, rfl, by decide, gc_X5, Or.inr ⟨"BeforeItGoes", nw_of 121 (by decide +kernel) rfl⟩⟩
theorem fl_X0_63 : FL RX0 63 4 4 := ⟨RX5, TX5, 7, rfl, by decide, gc_X5, Or.inr ⟨"BeforeItGoes", nw_of 127 (by decide +kernel) rfl⟩⟩
theorem fl_X0_78 : FL RX0 78 4 3 := ⟨RX5, TX5, 7, rfl, by decide, gc_X5, Or.inr ⟨"BeforeItGoes", nw_of 124 (by decide +kernel) rfl⟩⟩
theorem fl_X0_83 : FL RX0 83 4 6 := ⟨RX5, TX5, 7, rfl, by decide, gc_X5, Or.inr ⟨"BeforeItGoes", nw_of 133 (by decide +kernel) rfl⟩⟩
theorem fp_X0_83 : FP RX0 83 4 6 .int := ⟨RX5, TX5, 7, tyX5, rfl, by decide, gc_X5, Or.inr ⟨"BeforeItGoes", nw_of 133 (by decide +kernel) rfl⟩, tyX5_ok, nmX5, rfl, by decide +kernel⟩
theorem fl_X0_86 : FL RX0 86 4 0 := ⟨RX5, TX5, 7, rfl, by decide, gc_X5, Or.inr ⟨"BeforeItGoes", nw_of 115 (by decide +kernel) rfl⟩⟩
theorem fl_X0_112 : FL RX0 112 0 13 := ⟨RX0, TX0, 17, rfl, by decide, gc_X0, Or.inl (gt_of 252 (by decide +kernel) rfl)⟩
theorem fp_X0_112 : FP RX0 112 0 13 .int := ⟨RX0, TX0, 17, tyX0, rfl, by decide, gc_X0, Or.inl (gt_of 252 (by decide +kernel) rfl), tyX0_ok, nmX0, rfl, by decide +kernel⟩
theorem fl_X0_115 : FL RX0 115 0 14 := ⟨RX0, TX0, 17, rfl, by decide, gc_X0, Or.inl (gt_of 253 (by decide +kernel) rfl)⟩
theorem fp_X0_115 : FP RX0 115 0 14 .int := ⟨RX0, TX0, 17, tyX0, rfl, by decide, gc_X0, Or.inl (gt_of 253 (by decide +kernel) rfl), tyX0_ok, nmX0, rfl, by decide +kernel⟩
theorem fl_X0_130 : FL RX0 130 0 12 := ⟨RX0, TX0, 17, rfl, by decide, gc_X0, Or.inl (gt_of 251 (by decide +kernel) rfl)⟩
theorem fp_X0_130 : FP RX0 130 0 12 .int := ⟨RX0, TX0, 17, tyX0, rfl, by decide, gc_X0, Or.inl (gt_of 251 (by decide +kernel) rfl), tyX0_ok, nmX0, rfl, by decide +kernel⟩
theorem fl_X0_139 : FL RX0 139 0 15 := ⟨RX0, TX0, 17, rfl, by decide, gc_X0, Or.inl (gt_of 255 (by decide +kernel) rfl)⟩
theorem fp_X0_139 : FP RX0 139 0 15 .int := ⟨RX0, TX0, 17, tyX0, rfl, by decide, gc_X0, Or.inl (gt_of 255 (by decide +kernel) rfl), tyX0_ok, nmX0, rfl, by decide +kernel⟩
theorem fl_X0_142 : FL RX0 142 0 16 := ⟨RX0, TX0, 17, rfl, by decide, gc_X0, Or.inl (gt_of 257 (by decide +kernel) rfl)⟩
theorem fp_X0_142 : FP RX0 142 0 16 .int := ⟨RX0, TX0, 17, tyX0, rfl, by decide, gc_X0, Or.inl (gt_of 257 (by decide +kernel) rfl), tyX0_ok, nmX0, rfl, by decide +kernel⟩
theorem fl_X0_148 : FL RX0 148 3 0 := ⟨RX4, TX4, 3, rfl, by decide, gc_X4, Or.inr ⟨"BeforeItGoes", nw_of 326 (by decide +kernel) rfl⟩⟩
theorem fl_X2_7 : FL RX2 7 1 0 := ⟨RX2, TX2, 4, rfl, by decide, gc_X2, Or.inl (gt_of 300 (by decide +kernel) rfl)⟩
theorem fp_X2_7 : FP RX2 7 1 0 .boolean := ⟨RX2, TX2, 4, tyX2, rfl, by decide, gc_X2, Or.inl (gt_of 300 (by decide +kernel) rfl), tyX2_ok, nmX2, rfl, by decide +kernel⟩
theorem fl_X2_13 : FL RX2 13 1 2 := ⟨RX2, TX2, 4, rfl, by decide, gc_X2, Or.inl (gt_of 303 (by decide +kernel) rfl)⟩
theorem fp_X2_13 : FP RX2 13 1 2 .int := ⟨RX2, TX2, 4, tyX2, rfl, by decide, gc_X2, Or.inl (gt_of 303 (by decide +kernel) rfl), tyX2_ok, nmX2, rfl, by decide +kernel⟩
theorem fl_X2_17 : FL RX2 17 1 3 := ⟨RX2, TX2, 4, rfl, by decide, gc_X2, Or.inl (gt_of 305 (by decide +kernel) rfl)⟩
theorem fp_X2_17 : FP RX2 17 1 3 .int := ⟨RX2, TX2, 4, tyX2, rfl, by decide, gc_X2, Or.inl (gt_of 305 (by decide +kernel) rfl), tyX2_ok, nmX2, rfl, by decide +kernel⟩
theorem fl_X2_20 : FL RX2 20 1 1 := ⟨RX2, TX2, 4, rfl, by decide, gc_X2, Or.inl (gt_of 301 (by decide +kernel) rfl)⟩
theorem fp_X2_20 : FP RX2 20 1 1 .int := ⟨RX2, TX2, 4, tyX2, rfl, by decide, gc_X2, Or.inl (gt_of 301 (by decide +kernel) rfl), tyX2_ok, nmX2, rfl, by decide +kernel⟩
theorem fl_X3_12 : FL RX3 12 2 1 := ⟨RX3, TX3, 5, rfl, by decide, gc_X3, Or.inl (gt_of 205 (by decide +kernel) rfl)⟩
theorem fl_X3_18 : FL RX3 18 2 0 := ⟨RX3, TX3, 5, rfl, by decide, gc_X3, Or.inl (gt_of 204 (by decide +kernel) rfl)⟩
theorem fl_X3_22 : FL RX3 22 2 3 := ⟨RX3, TX3, 5, rfl, by decide, gc_X3, Or.inl (gt_of 208 (by decide +kernel) rfl)⟩
theorem fp_X3_22 : FP RX3 22 2 3 .int := ⟨RX3, TX3, 5, tyX3, rfl, by decide, gc_X3, Or.inl (gt_of 208 (by decide +kernel) rfl), tyX3_ok, nmX3, rfl, by decide +kernel⟩
theorem fl_X3_26 : FL RX3 26 2 4 := ⟨RX3, TX3, 5, rfl, by decide, gc_X3, Or.inl (gt_of 209 (by decide +kernel) rfl)⟩
theorem fp_X3_26 : FP RX3 26 2 4 .int := ⟨RX3, TX3, 5, tyX3, rfl, by decide, gc_X3, Or.inl (gt_of 209 (by decide +kernel) rfl), tyX3_ok, nmX3, rfl, by decide +kernel⟩
theorem fl_X3_32 : FL RX3 32 2 2 := ⟨RX3, TX3, 5, rfl, by decide, gc_X3, Or.inl (gt_of 207 (by decide +kernel) rfl)⟩
theorem fp_X3_32 : FP RX3 32 2 2 .int := ⟨RX3, TX3, 5, tyX3, rfl, by decide, gc_X3, Or.inl (gt_of 207 (by decide +kernel) rfl), tyX3_ok, nmX3, rfl, by decide +kernel⟩
theorem fl_X3_54 : FL RX3 54 5 2 := ⟨RX6, TX6, 6, rfl, by decide, gc_X6, Or.inr ⟨"BeforeItGoes", nw_of 162 (by decide +kernel) rfl⟩⟩
theorem fl_X3_58 : FL RX3 58 5 5 := ⟨RX6, TX6, 6, rfl, by decide, gc_X6, Or.inr ⟨"BeforeItGoes", nw_of 168 (by decide +kernel) rfl⟩⟩
theorem fp_X3_58 : FP RX3 58 5 5 .int := ⟨RX6, TX6, 6, tyX6, rfl, by decide, gc_X6, Or.inr ⟨"BeforeItGoes", nw_of 168 (by decide +kernel) rfl⟩, tyX6_ok, nmX6, rfl, by decide +kernel⟩
theorem fl_X3_61 : FL RX3 61 5 3 := ⟨RX6, TX6, 6, rfl, by decide, gc_X6, Or.inr ⟨"BeforeItGoes", nw_of 164 (by decide +kernel) rfl⟩⟩
theorem fl_X3_64 : FL RX3 64 5 1 := ⟨RX6, TX6, 6, rfl, by decide, gc_X6, Or.inr ⟨"BeforeItGoes", nw_of 159 (by decide +kernel) rfl⟩⟩
theorem fp_X3_64 : FP RX3 64 5 1 .int := ⟨RX6, TX6, 6, tyX6, rfl, by decide, gc_X6, Or.inr ⟨"BeforeItGoes", nw_of 159 (by decide +kernel) rfl⟩, tyX6_ok, nmX6, rfl, by decide +kernel⟩
theorem fl_X3_111 : FL RX3 111 5 4 := ⟨RX6, TX6, 6, rfl, by decide, gc_X6, Or.inr ⟨"BeforeItGoes", nw_of 166 (by decide +kernel) rfl⟩⟩
theorem fl_X4_9 : FL RX4 9 3 0 := ⟨RX4, TX4, 3, rfl, by decide, gc_X4, Or.inl (gt_of 324 (by decide +kernel) rfl)⟩
theorem fl_X4_15 : FL RX4 15 3 1 := ⟨RX4, TX4, 3, rfl, by decide, gc_X4, Or.inl (gt_of 327 (by decide +kernel) rfl)⟩
theorem fp_X4_15 : FP RX4 15 3 1 .int := ⟨RX4, TX4, 3, tyX4, rfl, by decide, gc_X4, Or.inl (gt_of 327 (by decide +kernel) rfl), tyX4_ok, nmX4, rfl, by decide +kernel⟩
theorem fl_X4_19 : FL RX4 19 3 2 := ⟨RX4, TX4, 3, rfl, by decide, gc_X4, Or.inl (gt_of 329 (by decide +kernel) rfl)⟩
theorem fp_X4_19 : FP RX4 19 3 2 .int := ⟨RX4, TX4, 3, tyX4, rfl, by decide, gc_X4, Or.inl (gt_of 329 (by decide +kernel) rfl), tyX4_ok, nmX4, rfl, by decide +kernel⟩
theorem fl_X5_9 : FL RX5 9 4 0 := ⟨RX5, TX5, 7, rfl, by decide, gc_X5, Or.inl (gt_of 114 (by decide +kernel) rfl)⟩
theorem fl_X5_15 : FL RX5 15 4 1 := ⟨RX5, TX5, 7, rfl, by decide, gc_X5, Or.inl (gt_of 117 (by decide +kernel) rfl)⟩
theorem fl_X5_18 : FL RX5 18 4 2 := ⟨RX5, TX5, 7, rfl, by decide, gc_X5, Or.inl (gt_of 120 (by decide +kernel) rfl)⟩
theorem fl_X5_21 : FL RX5 21 4 3 := ⟨RX5, TX5, 7, rfl, by decide, gc_X5, Or.inl (gt_of 123 (by decide +kernel) rfl)⟩
theorem fl_X5_24 : FL RX5 24 4 4 := ⟨RX5, TX5, 7, rfl, by decide, gc_X5, Or.inl (gt_of 126 (by decide +kernel) rfl)⟩
theorem fl_X5_27 : FL RX5 27 4 5 := ⟨RX5, TX5, 7, rfl, by decide, gc_X5, Or.inl (gt_of 129 (by decide +kernel) rfl)⟩
theorem fp_X5_27 : FP RX5 27 4 5 .int := ⟨RX5, TX5, 7, tyX5, rfl, by decide, gc_X5, Or.inl (gt_of 129 (by decide +kernel) rfl), tyX5_ok, nmX5, rfl, by decide +kernel⟩
theorem fl_X5_31 : FL RX5 31 4 6 := ⟨RX5, TX5, 7, rfl, by decide, gc_X5, Or.inl (gt_of 132 (by decide +kernel) rfl)⟩
theorem fp_X5_31 : FP RX5 31 4 6 .int := ⟨RX5, TX5, 7, tyX5, rfl, by decide, gc_X5, Or.inl (gt_of 132 (by decide +kernel) rfl), tyX5_ok, nmX5, rfl, by decide +kernel⟩
theorem fl_X6_9 : FL RX6 9 5 0 := ⟨RX6, TX6, 6, rfl, by decide, gc_X6, Or.inl (gt_of 157 (by decide +kernel) rfl)⟩
theorem fl_X6_15 : FL RX6 15 5 1 := ⟨RX6, TX6, 6, rfl, by decide, gc_X6, Or.inl (gt_of 158 (by decide +kernel) rfl)⟩
theorem fp_X6_15 : FP RX6 15 5 1 .int := ⟨RX6, TX6, 6, tyX6, rfl, by decide, gc_X6, Or.inl (gt_of 158 (by decide +kernel) rfl), tyX6_ok, nmX6, rfl, by decide +kernel⟩
theorem fl_X6_19 : FL RX6 19 5 2 := ⟨RX6, TX6, 6, rfl, by decide, gc_X6, Or.inl (gt_of 161 (by decide +kernel) rfl)⟩
theorem fl_X6_22 : FL RX6 22 5 3 := ⟨RX6, TX6, 6, rfl, by decide, gc_X6, Or.inl (gt_of 163 (by decide +kernel) rfl)⟩
theorem fl_X6_25 : FL RX6 25 5 4 := ⟨RX6, TX6, 6, rfl, by decide, gc_X6, Or.inl (gt_of 165 (by decide +kernel) rfl)⟩
theorem fl_X6_28 : FL RX6 28 5 5 := ⟨RX6, TX6, 6, rfl, by decide, gc_X6, Or.inl (gt_of 167 (by decide +kernel) rfl)⟩
theorem fp_X6_28 : FP RX6 28 5 5 .int := ⟨RX6, TX6, 6, tyX6, rfl, by decide, gc_X6, Or.inl (gt_of 167 (by decide +kernel) rfl), tyX6_ok, nmX6, rfl, by decide +kernel⟩
theorem fl_X7_9 : FL RX7 9 6 0 := ⟨RX7, TX7, 3, rfl, by decide, gc_X7, Or.inl (gt_of 194 (by decide +kernel) rfl)⟩
theorem fl_X7_15 : FL RX7 15 6 1 := ⟨RX7, TX7, 3, rfl, by decide, gc_X7, Or.inl (gt_of 195 (by decide +kernel) rfl)⟩
theorem fl_X7_18 : FL RX7 18 6 2 := ⟨RX7, TX7, 3, rfl, by decide, gc_X7, Or.inl (gt_of 196 (by decide +kernel) rfl)⟩
theorem fp_X7_18 : FP RX7 18 6 2 .int := ⟨RX7, TX7, 3, tyX7, rfl, by decide, gc_X7, Or.inl (gt_of 196 (by decide +kernel) rfl), tyX7_ok, nmX7, rfl, by decide +kernel⟩
theorem fl_X9_13 : FL RX9 13 8 1 := ⟨RX9, TX9, 53, rfl, by decide, gc_X9, Or.inl (gt_of 962 (by decide +kernel) rfl)⟩
theorem fl_X9_17 : FL RX9 17 8 2 := ⟨RX9, TX9, 53, rfl, by decide, gc_X9, Or.inl (gt_of 963 (by decide +kernel) rfl)⟩
theorem fl_X9_20 : FL RX9 20 8 5 := ⟨RX9, TX9, 53, rfl, by decide, gc_X9, Or.inl (gt_of 966 (by decide +kernel) rfl)⟩
theorem fl_X9_23 : FL RX9 23 8 7 := ⟨RX9, TX9, 53, rfl, by decide, gc_X9, Or.inl (gt_of 968 (by decide +kernel) rfl)⟩
theorem fl_X9_26 : FL RX9 26 8 8 := ⟨RX9, TX9, 53, rfl, by decide, gc_X9, Or.inl (gt_of 969 (by decide +kernel) rfl)⟩
theorem fl_X9_29 : FL RX9 29 8 9 := ⟨RX9, TX9, 53, rfl, by decide, gc_X9, Or.inl (gt_of 970 (by decide +kernel) rfl)⟩
theorem fl_X9_32 : FL RX9 32 8 10 := ⟨RX9, TX9, 53, rfl, by decide, gc_X9, Or.inl (gt_of 971 (by decide +kernel) rfl)⟩
theorem fl_X9_35 : FL RX9 35 8 11 := ⟨RX9, TX9, 53, rfl, by decide, gc_X9, Or.inl (gt_of 972 (by decide +kernel) rfl)⟩
theorem fl_X9_38 : FL RX9 38 8 28 := ⟨RX9, TX9, 53, rfl, by decide, gc_X9, Or.inl (gt_of 989 (by decide +kernel) rfl)⟩
theorem fl_X9_41 : FL RX9 41 8 30 := ⟨RX9, TX9, 53, rfl, by decide, gc_X9, Or.inl (gt_of 991 (by decide +kernel) rfl)⟩
theorem fl_X9_44 : FL RX9 44 8 31 := ⟨RX9, TX9, 53, rfl, by decide, gc_X9, Or.inl (gt_of 992 (by decide +kernel) rfl)⟩
theorem fl_X9_47 : FL RX9 47 8 32 := ⟨RX9, TX9, 53, rfl, by decide, gc_X9, Or.inl (gt_of 993 (by decide +kernel) rfl)⟩
theorem fl_X9_50 : FL RX9 50 8 33 := ⟨RX9, TX9, 53, rfl, by decide, gc_X9, Or.inl (gt_of 994 (by decide +kernel) rfl)⟩
theorem fl_X9_53 : FL RX9 53 8 34 := ⟨RX9, TX9, 53, rfl, by decide, gc_X9, Or.inl (gt_of 995 (by decide +kernel) rfl)⟩
theorem fl_X9_56 : FL RX9 56 8 35 := ⟨RX9, TX9, 53, rfl, by decide, gc_X9, Or.inl (gt_of 996 (by decide +kernel) rfl)⟩
theorem fl_X9_59 : FL RX9 59 8 36 := ⟨RX9, TX9, 53, rfl, by decide, gc_X9, Or.inl (gt_of 997 (by decide +kernel) rfl)⟩
theorem fl_X9_62 : FL RX9 62 8 45 := ⟨RX9, TX9, 53, rfl, by decide, gc_X9, Or.inl (gt_of 1006 (by decide +kernel) rfl)⟩
theorem fl_X9_65 : FL RX9 65 8 46 := ⟨RX9, TX9, 53, rfl, by decide, gc_X9, Or.inl (gt_of 1007 (by decide +kernel) rfl)⟩
theorem fl_X9_68 : FL RX9 68 8 47 := ⟨RX9, TX9, 53, rfl, by decide, gc_X9, Or.inl (gt_of 1008 (by decide +kernel) rfl)⟩
theorem fp_X9_68 : FP RX9 68 8 47 .int := ⟨RX9, TX9, 53, tyX9, rfl, by decide, gc_X9, Or.inl (gt_of 1008 (by decide +kernel) rfl), tyX9_ok, nmX9, rfl, by decide +kernel⟩
theorem fl_X9_71 : FL RX9 71 8 49 := ⟨RX9, TX9, 53, rfl, by decide, gc_X9, Or.inl (gt_of 1010 (by decide +kernel) rfl)⟩
theorem fl_X9_75 : FL RX9 75 8 50 := ⟨RX9, TX9, 53, rfl, by decide, gc_X9, Or.inl (gt_of 1011 (by decide +kernel) rfl)⟩
theorem fl_X9_78 : FL RX9 78 8 51 := ⟨RX9, TX9, 53, rfl, by decide, gc_X9, Or.inl (gt_of 1012 (by decide +kernel) rfl)⟩
theorem fl_X9_81 : FL RX9 81 8 52 := ⟨RX9, TX9, 53, rfl, by decide, gc_X9, Or.inl (gt_of 1013 (by decide +kernel) rfl)⟩
theorem fl_X9_88 : FL RX9 88 8 3 := ⟨RX9, TX9, 53, rfl, by decide, gc_X9, Or.inl (gt_of 964 (by decide +kernel) rfl)⟩
theorem fp_X9_88 : FP RX9 88 8 3 .int := ⟨RX9, TX9, 53, tyX9, rfl, by decide, gc_X9, Or.inl (gt_of 964 (by decide +kernel) rfl), tyX9_ok, nmX9, rfl, by decide +kernel⟩
theorem fl_X9_91 : FL RX9 91 8 12 := ⟨RX9, TX9, 53, rfl, by decide, gc_X9, Or.inl (gt_of 973 (by decide +kernel) rfl)⟩
theorem fp_X9_91 : FP RX9 91 8 12 .int := ⟨RX9, TX9, 53, tyX9, rfl, by decide, gc_X9, Or.inl (gt_of 973 (by decide +kernel) rfl), tyX9_ok, nmX9, rfl, by decide +kernel⟩
theorem fl_X9_124 : FL RX9 124 8 6 := ⟨RX9, TX9, 53, rfl, by decide, gc_X9, Or.inl (gt_of 967 (by decide +kernel) rfl)⟩
theorem fp_X9_124 : FP RX9 124 8 6 .int := ⟨RX9, TX9, 53, tyX9, rfl, by decide, gc_X9, Or.inl (gt_of 967 (by decide +kernel) rfl), tyX9_ok, nmX9, rfl, by decide +kernel⟩
theorem fl_X9_127 : FL RX9 127 8 20 := ⟨RX9, TX9, 53, rfl, by decide, gc_X9, Or.inl (gt_of 981 (by decide +kernel) rfl)⟩
theorem fp_X9_127 : FP RX9 127 8 20 .int := ⟨RX9, TX9, 53, tyX9, rfl, by decide, gc_X9, Or.inl (gt_of 981 (by decide +kernel) rfl), tyX9_ok, nmX9, rfl, by decide +kernel⟩
theorem fl_X9_130 : FL RX9 130 8 19 := ⟨RX9, TX9, 53, rfl, by decide, gc_X9, Or.inl (gt_of 980 (by decide +kernel) rfl)⟩
theorem fp_X9_130 : FP RX9 130 8 19 .int := ⟨RX9, TX9, 53, tyX9, rfl, by decide, gc_X9, Or.inl (gt_of 980 (by decide +kernel) rfl), tyX9_ok, nmX9, rfl, by decide +kernel⟩
theorem fl_X9_133 : FL RX9 133 8 21 := ⟨RX9, TX9, 53, rfl, by decide, gc_X9, Or.inl (gt_of 982 (by decide +kernel) rfl)⟩
theorem fp_X9_133 : FP RX9 133 8 21 .int := ⟨RX9, TX9, 53, tyX9, rfl, by decide, gc_X9, Or.inl (gt_of 982 (by decide +kernel) rfl), tyX9_ok, nmX9, rfl, by decide +kernel⟩
theorem fl_X9_139 : FL RX9 139 8 23 := ⟨RX9, TX9, 53, rfl, by decide, gc_X9, Or.inl (gt_of 984 (by decide +kernel) rfl)⟩
theorem fp_X9_139 : FP RX9 139 8 23 .int := ⟨RX9, TX9, 53, tyX9, rfl, by decide, gc_X9, Or.inl (gt_of 984 (by decide +kernel) rfl), tyX9_ok, nmX9, rfl, by decide +kernel⟩
theorem fl_X9_142 : FL RX9 142 8 22 := ⟨RX9, TX9, 53, rfl, by decide, gc_X9, Or.inl (gt_of 983 (by decide +kernel) rfl)⟩
theorem fp_X9_142 : FP RX9 142 8 22 .int := ⟨RX9, TX9, 53, tyX9, rfl, by decide, gc_X9, Or.inl (gt_of 983 (by decide +kernel) rfl), tyX9_ok, nmX9, rfl, by decide +kernel⟩
theorem fl_X9_153 : FL RX9 153 8 24 := ⟨RX9, TX9, 53, rfl, by decide, gc_X9, Or.inl (gt_of 985 (by decide +kernel) rfl)⟩
theorem fp_X9_153 : FP RX9 153 8 24 .long := ⟨RX9, TX9, 53, tyX9, rfl, by decide, gc_X9, Or.inl (gt_of 985 (by decide +kernel) rfl), tyX9_ok, nmX9, rfl, by decide +kernel⟩
theorem fl_X9_159 : FL RX9 159 8 26 := ⟨RX9, TX9, 53, rfl, by decide, gc_X9, Or.inl (gt_of 987 (by decide +kernel) rfl)⟩
theorem fp_X9_159 : FP RX9 159 8 26 .boolean := ⟨RX9, TX9, 53, tyX9, rfl, by decide, gc_X9, Or.inl (gt_of 987 (by decide +kernel) rfl), tyX9_ok, nmX9, rfl, by decide +kernel⟩
theorem fl_X9_163 : FL RX9 163 8 27 := ⟨RX9, TX9, 53, rfl, by decide, gc_X9, Or.inl (gt_of 988 (by decide +kernel) rfl)⟩
theorem fp_X9_163 : FP RX9 163 8 27 .int := ⟨RX9, TX9, 53, tyX9, rfl, by decide, gc_X9, Or.inl (gt_of 988 (by decide +kernel) rfl), tyX9_ok, nmX9, rfl, by decide +kernel⟩
theorem fl_X9_170 : FL RX9 170 8 25 := ⟨RX9, TX9, 53, rfl, by decide, gc_X9, Or.inl (gt_of 986 (by decide +kernel) rfl)⟩
theorem fp_X9_170 : FP RX9 170 8 25 .int := ⟨RX9, TX9, 53, tyX9, rfl, by decide, gc_X9, Or.inl (gt_of 986 (by decide +kernel) rfl), tyX9_ok, nmX9, rfl, by decide +kernel⟩
theorem fl_X9_183 : FL RX9 183 8 13 := ⟨RX9, TX9, 53, rfl, by decide, gc_X9, Or.inl (gt_of 974 (by decide +kernel) rfl)⟩
theorem fp_X9_183 : FP RX9 183 8 13 .int := ⟨RX9, TX9, 53, tyX9, rfl, by decide, gc_X9, Or.inl (gt_of 974 (by decide +kernel) rfl), tyX9_ok, nmX9, rfl, by decide +kernel⟩
theorem fl_X9_186 : FL RX9 186 8 14 := ⟨RX9, TX9, 53, rfl, by decide, gc_X9, Or.inl (gt_of 975 (by decide +kernel) rfl)⟩
theorem fp_X9_186 : FP RX9 186 8 14 .int := ⟨RX9, TX9, 53, tyX9, rfl, by decide, gc_X9, Or.inl (gt_of 975 (by decide +kernel) rfl), tyX9_ok, nmX9, rfl, by decide +kernel⟩
theorem fl_X9_189 : FL RX9 189 8 15 := ⟨RX9, TX9, 53, rfl, by decide, gc_X9, Or.inl (gt_of 976 (by decide +kernel) rfl)⟩
theorem fp_X9_189 : FP RX9 189 8 15 .int := ⟨RX9, TX9, 53, tyX9, rfl, by decide, gc_X9, Or.inl (gt_of 976 (by decide +kernel) rfl), tyX9_ok, nmX9, rfl, by decide +kernel⟩
theorem fl_X9_192 : FL RX9 192 8 16 := ⟨RX9, TX9, 53, rfl, by decide, gc_X9, Or.inl (gt_of 977 (by decide +kernel) rfl)⟩
theorem fp_X9_192 : FP RX9 192 8 16 .int := ⟨RX9, TX9, 53, tyX9, rfl, by decide, gc_X9, Or.inl (gt_of 977 (by decide +kernel) rfl), tyX9_ok, nmX9, rfl, by decide +kernel⟩
theorem fl_X9_195 : FL RX9 195 8 17 := ⟨RX9, TX9, 53, rfl, by decide, gc_X9, Or.inl (gt_of 978 (by decide +kernel) rfl)⟩
theorem fp_X9_195 : FP RX9 195 8 17 .int := ⟨RX9, TX9, 53, tyX9, rfl, by decide, gc_X9, Or.inl (gt_of 978 (by decide +kernel) rfl), tyX9_ok, nmX9, rfl, by decide +kernel⟩
theorem fl_X9_198 : FL RX9 198 8 18 := ⟨RX9, TX9, 53, rfl, by decide, gc_X9, Or.inl (gt_of 979 (by decide +kernel) rfl)⟩
theorem fp_X9_198 : FP RX9 198 8 18 .int := ⟨RX9, TX9, 53, tyX9, rfl, by decide, gc_X9, Or.inl (gt_of 979 (by decide +kernel) rfl), tyX9_ok, nmX9, rfl, by decide +kernel⟩
theorem fl_X9_242 : FL RX9 242 8 4 := ⟨RX9, TX9, 53, rfl, by decide, gc_X9, Or.inl (gt_of 965 (by decide +kernel) rfl)⟩
theorem fp_X9_242 : FP RX9 242 8 4 .int := ⟨RX9, TX9, 53, tyX9, rfl, by decide, gc_X9, Or.inl (gt_of 965 (by decide +kernel) rfl), tyX9_ok, nmX9, rfl, by decide +kernel⟩
theorem fl_X9_253 : FL RX9 253 8 38 := ⟨RX9, TX9, 53, rfl, by decide, gc_X9, Or.inl (gt_of 999 (by decide +kernel) rfl)⟩
theorem fp_X9_253 : FP RX9 253 8 38 .int := ⟨RX9, TX9, 53, tyX9, rfl, by decide, gc_X9, Or.inl (gt_of 999 (by decide +kernel) rfl), tyX9_ok, nmX9, rfl, by decide +kernel⟩
theorem fl_X9_255 : FL RX9 255 8 37 := ⟨RX9, TX9, 53, rfl, by decide, gc_X9, Or.inl (gt_of 998 (by decide +kernel) rfl)⟩
theorem fp_X9_255 : FP RX9 255 8 37 .int := ⟨RX9, TX9, 53, tyX9, rfl, by decide, gc_X9, Or.inl (gt_of 998 (by decide +kernel) rfl), tyX9_ok, nmX9, rfl, by decide +kernel⟩
theorem fl_X9_258 : FL RX9 258 8 41 := ⟨RX9, TX9, 53, rfl, by decide, gc_X9, Or.inl (gt_of 1002 (by decide +kernel) rfl)⟩
theorem fp_X9_258 : FP RX9 258 8 41 .int := ⟨RX9, TX9, 53, tyX9, rfl, by decide, gc_X9, Or.inl (gt_of 1002 (by decide +kernel) rfl), tyX9_ok, nmX9, rfl, by decide +kernel⟩
theorem fl_X9_261 : FL RX9 261 8 39 := ⟨RX9, TX9, 53, rfl, by decide, gc_X9, Or.inl (gt_of 1000 (by decide +kernel) rfl)⟩
theorem fp_X9_261 : FP RX9 261 8 39 .int := ⟨RX9, TX9, 53, tyX9, rfl, by decide, gc_X9, Or.inl (gt_of 1000 (by decide +kernel) rfl), tyX9_ok, nmX9, rfl, by decide +kernel⟩
theorem fl_X9_264 : FL RX9 264 8 40 := ⟨RX9, TX9, 53, rfl, by decide, gc_X9, Or.inl (gt_of 1001 (by decide +kernel) rfl)⟩
theorem fp_X9_264 : FP RX9 264 8 40 .int := ⟨RX9, TX9, 53, tyX9, rfl, by decide, gc_X9, Or.inl (gt_of 1001 (by decide +kernel) rfl), tyX9_ok, nmX9, rfl, by decide +kernel⟩
theorem fl_X9_267 : FL RX9 267 8 29 := ⟨RX9, TX9, 53, rfl, by decide, gc_X9, Or.inl (gt_of 990 (by decide +kernel) rfl)⟩
theorem fp_X9_267 : FP RX9 267 8 29 .int := ⟨RX9, TX9, 53, tyX9, rfl, by decide, gc_X9, Or.inl (gt_of 990 (by decide +kernel) rfl), tyX9_ok, nmX9, rfl, by decide +kernel⟩
theorem fl_X9_309 : FL RX9 309 8 44 := ⟨RX9, TX9, 53, rfl, by decide, gc_X9, Or.inl (gt_of 1005 (by decide +kernel) rfl)⟩
theorem fp_X9_309 : FP RX9 309 8 44 .int := ⟨RX9, TX9, 53, tyX9, rfl, by decide, gc_X9, Or.inl (gt_of 1005 (by decide +kernel) rfl), tyX9_ok, nmX9, rfl, by decide +kernel⟩
theorem fl_X9_312 : FL RX9 312 8 42 := ⟨RX9, TX9, 53, rfl, by decide, gc_X9, Or.inl (gt_of 1003 (by decide +kernel) rfl)⟩
theorem fp_X9_312 : FP RX9 312 8 42 .int := ⟨RX9, TX9, 53, tyX9, rfl, by decide, gc_X9, Or.inl (gt_of 1003 (by decide +kernel) rfl), tyX9_ok, nmX9, rfl, by decide +kernel⟩
theorem fl_X9_315 : FL RX9 315 8 43 := ⟨RX9, TX9, 53, rfl, by decide, gc_X9, Or.inl (gt_of 1004 (by decide +kernel) rfl)⟩
theorem fp_X9_315 : FP RX9 315 8 43 .int := ⟨RX9, TX9, 53, tyX9, rfl, by decide, gc_X9, Or.inl (gt_of 1004 (by decide +kernel) rfl), tyX9_ok, nmX9, rfl, by decide +kernel⟩
theorem fl_X9_359 : FL RX9 359 8 48 := ⟨RX9, TX9, 53, rfl, by decide, gc_X9, Or.inl (gt_of 1009 (by decide +kernel) rfl)⟩
theorem fp_X9_359 : FP RX9 359 8 48 .int := ⟨RX9, TX9, 53, tyX9, rfl, by decide, gc_X9, Or.inl (gt_of 1009 (by decide +kernel) rfl), tyX9_ok, nmX9, rfl, by decide +kernel⟩
theorem fs_X8_92 : Cond.fieldLink RX8 92 "BeforeItGoes" (tnm 0) "[I" ∈ gt ∨ ∃ host : String, Cond.fieldLinkNest RX8 92 "BeforeItGoes" (tnm 0) "[I" host ∈ nw := Or.inl (gt_of 622 (by decide +kernel) rfl)
theorem fs_X8_96 : Cond.fieldLink RX8 96 "BeforeItGoes" (tnm 1) "[I" ∈ gt ∨ ∃ host : String, Cond.fieldLinkNest RX8 96 "BeforeItGoes" (tnm 1) "[I" host ∈ nw := Or.inl (gt_of 624 (by decide +kernel) rfl)
theorem fs_X0_95 : Cond.fieldLink RX0 95 "BeforeItGoes" (tnm 2) "[I" ∈ gt ∨ ∃ host : String, Cond.fieldLinkNest RX0 95 "BeforeItGoes" (tnm 2) "[I" host ∈ nw := Or.inr ⟨"BeforeItGoes", nw_of 681 (by decide +kernel) rfl⟩
theorem fs_X0_98 : Cond.fieldLink RX0 98 "BeforeItGoes" (tnm 3) "[I" ∈ gt ∨ ∃ host : String, Cond.fieldLinkNest RX0 98 "BeforeItGoes" (tnm 3) "[I" host ∈ nw := Or.inr ⟨"BeforeItGoes", nw_of 683 (by decide +kernel) rfl⟩
theorem fs_J0_9 : Cond.fieldLink RJ0 9 "java/lang/String" "value" "[B" ∈ gt := gt_of 1427 (by decide +kernel) rfl
theorem fs_J0_15 : Cond.fieldLink RJ0 15 "java/lang/String" "coder" "B" ∈ gt := gt_of 1428 (by decide +kernel) rfl
theorem fs_J0_38 : Cond.fieldLink RJ0 38 "java/lang/String" "COMPACT_STRINGS" "Z" ∈ gt := gt_of 347 (by decide +kernel) rfl
theorem fs_J0_1053 : Cond.fieldLink RJ0 1053 "jdk/internal/util/Preconditions" "SIOOBE_FORMATTER" "Ljava/util/function/BiFunction;" ∈ gt := gt_of 363 (by decide +kernel) rfl
theorem cn_X8_164 : Cond.constant RX8 164 (-100000) ∈ gt := gt_of 717 (by decide +kernel) rfl
theorem cn_X8_292 : Cond.constant RX8 292 (1103515245) ∈ gt := gt_of 900 (by decide +kernel) rfl
theorem cn_X9_296 : Cond.constant RX9 296 (-100000) ∈ gt := gt_of 1259 (by decide +kernel) rfl
theorem cn_X9_355 : Cond.constant RX9 355 (1103515245) ∈ gt := gt_of 1389 (by decide +kernel) rfl
theorem cn_J11_76 : Cond.constant RJ11 76 (56320) ∈ gt := gt_of 480 (by decide +kernel) rfl
theorem cn_J11_110 : Cond.constant RJ11 110 (55232) ∈ gt := gt_of 476 (by decide +kernel) rfl
theorem cn_J6_265 : Cond.constant RJ6 265 (1431655765) ∈ gt := gt_of 829 (by decide +kernel) rfl
theorem cn_J6_266 : Cond.constant RJ6 266 (858993459) ∈ gt := gt_of 830 (by decide +kernel) rfl
theorem cn_J6_267 : Cond.constant RJ6 267 (252645135) ∈ gt := gt_of 831 (by decide +kernel) rfl
theorem cn_J2_227 : Cond.constant RJ2 227 (65536) ∈ gt := gt_of 451 (by decide +kernel) rfl
theorem cl_X8_276 : Cond.constantLong RX8 276 (-4611686018427387904) ∈ gt := gt_of 876 (by decide +kernel) rfl
theorem cl_X9_98 : Cond.constantLong RX9 98 (8) ∈ gt := gt_of 1126 (by decide +kernel) rfl
theorem cl_X9_104 : Cond.constantLong RX9 104 (5) ∈ gt := gt_of 1138 (by decide +kernel) rfl
theorem cl_X9_106 : Cond.constantLong RX9 106 (9) ∈ gt := gt_of 1139 (by decide +kernel) rfl
theorem cl_X9_108 : Cond.constantLong RX9 108 (20) ∈ gt := gt_of 1140 (by decide +kernel) rfl
theorem cl_X9_110 : Cond.constantLong RX9 110 (6) ∈ gt := gt_of 1145 (by decide +kernel) rfl
theorem cl_X9_122 : Cond.constantLong RX9 122 (255) ∈ gt := gt_of 1240 (by decide +kernel) rfl
theorem cl_X9_145 : Cond.constantLong RX9 145 (97) ∈ gt := gt_of 1166 (by decide +kernel) rfl
theorem cl_X9_147 : Cond.constantLong RX9 147 (122) ∈ gt := gt_of 1167 (by decide +kernel) rfl
theorem cl_X9_149 : Cond.constantLong RX9 149 (48) ∈ gt := gt_of 1168 (by decide +kernel) rfl
theorem cl_X9_151 : Cond.constantLong RX9 151 (57) ∈ gt := gt_of 1169 (by decide +kernel) rfl
theorem cl_X9_157 : Cond.constantLong RX9 157 (10) ∈ gt := gt_of 1170 (by decide +kernel) rfl
theorem cl_X9_221 : Cond.constantLong RX9 221 (43) ∈ gt := gt_of 1223 (by decide +kernel) rfl
theorem cl_X9_229 : Cond.constantLong RX9 229 (60) ∈ gt := gt_of 1224 (by decide +kernel) rfl
theorem cl_X9_286 : Cond.constantLong RX9 286 (4) ∈ gt := gt_of 1257 (by decide +kernel) rfl
theorem cl_X9_288 : Cond.constantLong RX9 288 (49) ∈ gt := gt_of 1258 (by decide +kernel) rfl
theorem cl_X9_322 : Cond.constantLong RX9 322 (2) ∈ gt := gt_of 1308 (by decide +kernel) rfl
theorem cl_X9_324 : Cond.constantLong RX9 324 (99) ∈ gt := gt_of 1321 (by decide +kernel) rfl
theorem cl_X9_335 : Cond.constantLong RX9 335 (40) ∈ gt := gt_of 1349 (by decide +kernel) rfl
theorem cl_X9_337 : Cond.constantLong RX9 337 (3) ∈ gt := gt_of 1299 (by decide +kernel) rfl
theorem cl_X9_339 : Cond.constantLong RX9 339 (15) ∈ gt := gt_of 1354 (by decide +kernel) rfl
theorem cl_X9_350 : Cond.constantLong RX9 350 (-4611686018427387904) ∈ gt := gt_of 1371 (by decide +kernel) rfl
theorem cl_X9_362 : Cond.constantLong RX9 362 (-1) ∈ gt := gt_of 1380 (by decide +kernel) rfl
set_option maxRecDepth 100000 in
theorem co_J0_length_8abf5 : Cond.code yJ0_length_8abf5 cJ0_length_8abf5 1 (some .int) ∈ gt := gt_of 342 rfl rfl
theorem ins_J0_length_8abf5 : Cond.instanceMethod yJ0_length_8abf5 ∈ gt := gt_of 340 (by decide +kernel) rfl
theorem sel_J0_length_8abf5 : Cond.selects (yJ0_length_8abf5).cls yJ0_length_8abf5 yJ0_length_8abf5 ∈ gt := gt_of 341 (by decide +kernel) rfl
theorem ini_J0 : Cond.initialized RJ0 ∈ gt := gt_of 90 (by decide +kernel) rfl
theorem mv_X8_75 : MV RX8 75 yJ0_length_8abf5 cJ0_length_8abf5 1 (some .int) 0 := ⟨Or.inl (gt_of 339 (by decide +kernel) rfl), ins_J0_length_8abf5, sel_J0_length_8abf5, ini_J0, co_J0_length_8abf5, ⟨by decide +kernel, by decide +kernel, by decide +kernel⟩, by decide⟩
set_option maxRecDepth 100000 in
theorem co_J0_charAt_5068e : Cond.code yJ0_charAt_5068e cJ0_charAt_5068e 2 (some .char) ∈ gt := gt_of 352 rfl rfl
theorem ins_J0_charAt_5068e : Cond.instanceMethod yJ0_charAt_5068e ∈ gt := gt_of 350 (by decide +kernel) rfl
theorem sel_J0_charAt_5068e : Cond.selects (yJ0_charAt_5068e).cls yJ0_charAt_5068e yJ0_charAt_5068e ∈ gt := gt_of 351 (by decide +kernel) rfl
theorem mv_X8_81 : MV RX8 81 yJ0_charAt_5068e cJ0_charAt_5068e 2 (some .char) 1 := ⟨Or.inl (gt_of 349 (by decide +kernel) rfl), ins_J0_charAt_5068e, sel_J0_charAt_5068e, ini_J0, co_J0_charAt_5068e, ⟨by decide +kernel, by decide +kernel, by decide +kernel⟩, by decide⟩
set_option maxRecDepth 100000 in
theorem co_X6_add : Cond.code yX6_add cX6_add 2 (some .int) ∈ gt := gt_of 390 rfl rfl
theorem ins_X6_add : Cond.instanceMethod yX6_add ∈ gt := gt_of 388 (by decide +kernel) rfl
theorem sel_X6_add : Cond.selects (yX6_add).cls yX6_add yX6_add ∈ gt := gt_of 389 (by decide +kernel) rfl
theorem ini_X6 : Cond.initialized RX6 ∈ gt := gt_of 84 (by decide +kernel) rfl
theorem mv_X8_85 : MV RX8 85 yX6_add cX6_add 2 (some .int) 1 := ⟨Or.inl (gt_of 387 (by decide +kernel) rfl), ins_X6_add, sel_X6_add, ini_X6, co_X6_add, ⟨by decide +kernel, by decide +kernel, by decide +kernel⟩, by decide⟩
set_option maxRecDepth 100000 in
theorem co_X8_learn : Cond.code yX8_learn cX8_learn 2 (some .int) ∈ gt := gt_of 394 rfl rfl
theorem ins_X8_learn : Cond.instanceMethod yX8_learn ∈ gt := gt_of 393 (by decide +kernel) rfl
theorem sel_X8_learn : Cond.selects (yX8_learn).cls yX8_learn yX8_learn ∈ gt := gt_of 0 (by decide +kernel) rfl
theorem ini_X8 : Cond.initialized RX8 ∈ gt := gt_of 82 (by decide +kernel) rfl
theorem mv_X8_89 : MV RX8 89 yX8_learn cX8_learn 2 (some .int) 0 := ⟨Or.inl (gt_of 391 (by decide +kernel) rfl), ins_X8_learn, sel_X8_learn, ini_X8, co_X8_learn, ⟨by decide +kernel, by decide +kernel, by decide +kernel⟩, by decide⟩
set_option maxRecDepth 100000 in
theorem co_X5_has : Cond.code yX5_has cX5_has 2 (some .boolean) ∈ gt := gt_of 629 rfl rfl
theorem ins_X5_has : Cond.instanceMethod yX5_has ∈ gt := gt_of 627 (by decide +kernel) rfl
theorem sel_X5_has : Cond.selects (yX5_has).cls yX5_has yX5_has ∈ gt := gt_of 628 (by decide +kernel) rfl
theorem ini_X5 : Cond.initialized RX5 ∈ gt := gt_of 83 (by decide +kernel) rfl
theorem mv_X8_99 : MV RX8 99 yX5_has cX5_has 2 (some .boolean) 1 := ⟨Or.inl (gt_of 626 (by decide +kernel) rfl), ins_X5_has, sel_X5_has, ini_X5, co_X5_has, ⟨by decide +kernel, by decide +kernel, by decide +kernel⟩, by decide⟩
set_option maxRecDepth 100000 in
theorem co_X5_rowOf : Cond.code yX5_rowOf cX5_rowOf 2 (some (.array .int)) ∈ gt := gt_of 633 rfl rfl
theorem ins_X5_rowOf : Cond.instanceMethod yX5_rowOf ∈ gt := gt_of 631 (by decide +kernel) rfl
theorem sel_X5_rowOf : Cond.selects (yX5_rowOf).cls yX5_rowOf yX5_rowOf ∈ gt := gt_of 632 (by decide +kernel) rfl
theorem mv_X8_103 : MV RX8 103 yX5_rowOf cX5_rowOf 2 (some (.array .int)) 1 := ⟨Or.inl (gt_of 630 (by decide +kernel) rfl), ins_X5_rowOf, sel_X5_rowOf, ini_X5, co_X5_rowOf, ⟨by decide +kernel, by decide +kernel, by decide +kernel⟩, by decide⟩
set_option maxRecDepth 100000 in
theorem co_X8_isKind : Cond.code yX8_isKind cX8_isKind 1 (some .boolean) ∈ gt := gt_of 640 rfl rfl
theorem sta_X8_isKind : Cond.static yX8_isKind ∈ gt := gt_of 639 (by decide +kernel) rfl
theorem ms_X8_107 : MS RX8 107 yX8_isKind cX8_isKind 1 (some .boolean) 1 := ⟨Or.inl (gt_of 638 (by decide +kernel) rfl), sta_X8_isKind, ini_X8, co_X8_isKind, ⟨by decide +kernel, by decide +kernel, by decide +kernel⟩, by decide⟩
set_option maxRecDepth 100000 in
theorem co_X5_add : Cond.code yX5_add cX5_add 4 (some .int) ∈ gt := gt_of 644 rfl rfl
theorem ins_X5_add : Cond.instanceMethod yX5_add ∈ gt := gt_of 642 (by decide +kernel) rfl
theorem sel_X5_add : Cond.selects (yX5_add).cls yX5_add yX5_add ∈ gt := gt_of 643 (by decide +kernel) rfl
theorem mv_X8_110 : MV RX8 110 yX5_add cX5_add 4 (some .int) 3 := ⟨Or.inl (gt_of 641 (by decide +kernel) rfl), ins_X5_add, sel_X5_add, ini_X5, co_X5_add, ⟨by decide +kernel, by decide +kernel, by decide +kernel⟩, by decide⟩
set_option maxRecDepth 100000 in
theorem co_X8_reckoned : Cond.code yX8_reckoned cX8_reckoned 3 (some .int) ∈ gt := gt_of 652 rfl rfl
theorem ins_X8_reckoned : Cond.instanceMethod yX8_reckoned ∈ gt := gt_of 651 (by decide +kernel) rfl
theorem sel_X8_reckoned : Cond.selects (yX8_reckoned).cls yX8_reckoned yX8_reckoned ∈ gt := gt_of 21 (by decide +kernel) rfl
theorem mv_X8_125 : MV RX8 125 yX8_reckoned cX8_reckoned 3 (some .int) 2 := ⟨Or.inl (gt_of 649 (by decide +kernel) rfl), ins_X8_reckoned, sel_X8_reckoned, ini_X8, co_X8_reckoned, ⟨by decide +kernel, by decide +kernel, by decide +kernel⟩, by decide⟩
set_option maxRecDepth 100000 in
theorem co_X8_startTrial : Cond.code yX8_startTrial cX8_startTrial 2 none ∈ gt := gt_of 656 rfl rfl
theorem ins_X8_startTrial : Cond.instanceMethod yX8_startTrial ∈ gt := gt_of 655 (by decide +kernel) rfl
theorem sel_X8_startTrial : Cond.selects (yX8_startTrial).cls yX8_startTrial yX8_startTrial ∈ gt := gt_of 22 (by decide +kernel) rfl
theorem mv_X8_129 : MV RX8 129 yX8_startTrial cX8_startTrial 2 none 0 := ⟨Or.inl (gt_of 653 (by decide +kernel) rfl), ins_X8_startTrial, sel_X8_startTrial, ini_X8, co_X8_startTrial, ⟨by decide +kernel, by decide +kernel, by decide +kernel⟩, by decide⟩
set_option maxRecDepth 100000 in
theorem co_X0_reckon : Cond.code yX0_reckon cX0_reckon 4 none ∈ gt := gt_of 668 rfl rfl
theorem ins_X0_reckon : Cond.instanceMethod yX0_reckon ∈ gt := gt_of 666 (by decide +kernel) rfl
theorem sel_X0_reckon : Cond.selects (yX0_reckon).cls yX0_reckon yX0_reckon ∈ gt := gt_of 667 (by decide +kernel) rfl
theorem ini_X0 : Cond.initialized RX0 ∈ gt := gt_of 87 (by decide +kernel) rfl
theorem mv_X8_132 : MV RX8 132 yX0_reckon cX0_reckon 4 none 0 := ⟨Or.inl (gt_of 665 (by decide +kernel) rfl), ins_X0_reckon, sel_X0_reckon, ini_X0, co_X0_reckon, ⟨by decide +kernel, by decide +kernel, by decide +kernel⟩, by decide⟩
set_option maxRecDepth 100000 in
theorem co_X3_read : Cond.code yX3_read cX3_read 2 (some .int) ∈ gt := gt_of 398 rfl rfl
theorem ins_X3_read : Cond.instanceMethod yX3_read ∈ gt := gt_of 396 (by decide +kernel) rfl
theorem sel_X3_read : Cond.selects (yX3_read).cls yX3_read yX3_read ∈ gt := gt_of 397 (by decide +kernel) rfl
theorem ini_X3 : Cond.initialized RX3 ∈ gt := gt_of 85 (by decide +kernel) rfl
theorem mv_X8_144 : MV RX8 144 yX3_read cX3_read 2 (some .int) 0 := ⟨Or.inl (gt_of 395 (by decide +kernel) rfl), ins_X3_read, sel_X3_read, ini_X3, co_X3_read, ⟨by decide +kernel, by decide +kernel, by decide +kernel⟩, by decide⟩
set_option maxRecDepth 100000 in
theorem co_X6_clear : Cond.code yX6_clear cX6_clear 1 none ∈ gt := gt_of 581 rfl rfl
theorem ins_X6_clear : Cond.instanceMethod yX6_clear ∈ gt := gt_of 579 (by decide +kernel) rfl
theorem sel_X6_clear : Cond.selects (yX6_clear).cls yX6_clear yX6_clear ∈ gt := gt_of 580 (by decide +kernel) rfl
theorem mv_X8_147 : MV RX8 147 yX6_clear cX6_clear 1 none 0 := ⟨Or.inl (gt_of 578 (by decide +kernel) rfl), ins_X6_clear, sel_X6_clear, ini_X6, co_X6_clear, ⟨by decide +kernel, by decide +kernel, by decide +kernel⟩, by decide⟩
set_option maxRecDepth 100000 in
theorem co_X7_become : Cond.code yX7_become cX7_become 3 none ∈ gt := gt_of 585 rfl rfl
theorem ins_X7_become : Cond.instanceMethod yX7_become ∈ gt := gt_of 583 (by decide +kernel) rfl
theorem sel_X7_become : Cond.selects (yX7_become).cls yX7_become yX7_become ∈ gt := gt_of 584 (by decide +kernel) rfl
theorem ini_X7 : Cond.initialized RX7 ∈ gt := gt_of 86 (by decide +kernel) rfl
theorem mv_X8_154 : MV RX8 154 yX7_become cX7_become 3 none 1 := ⟨Or.inl (gt_of 582 (by decide +kernel) rfl), ins_X7_become, sel_X7_become, ini_X7, co_X7_become, ⟨by decide +kernel, by decide +kernel, by decide +kernel⟩, by decide⟩
set_option maxRecDepth 100000 in
theorem co_X8_isOfDay : Cond.code yX8_isOfDay cX8_isOfDay 2 (some .boolean) ∈ gt := gt_of 716 rfl rfl
theorem ins_X8_isOfDay : Cond.instanceMethod yX8_isOfDay ∈ gt := gt_of 715 (by decide +kernel) rfl
theorem sel_X8_isOfDay : Cond.selects (yX8_isOfDay).cls yX8_isOfDay yX8_isOfDay ∈ gt := gt_of 24 (by decide +kernel) rfl
theorem mv_X8_161 : MV RX8 161 yX8_isOfDay cX8_isOfDay 2 (some .boolean) 1 := ⟨Or.inl (gt_of 713 (by decide +kernel) rfl), ins_X8_isOfDay, sel_X8_isOfDay, ini_X8, co_X8_isOfDay, ⟨by decide +kernel, by decide +kernel, by decide +kernel⟩, by decide⟩
set_option maxRecDepth 100000 in
theorem co_X0_live : Cond.code yX0_live cX0_live 3 none ∈ gt := gt_of 721 rfl rfl
theorem ins_X0_live : Cond.instanceMethod yX0_live ∈ gt := gt_of 719 (by decide +kernel) rfl
theorem sel_X0_live : Cond.selects (yX0_live).cls yX0_live yX0_live ∈ gt := gt_of 720 (by decide +kernel) rfl
theorem mv_X8_165 : MV RX8 165 yX0_live cX0_live 3 none 0 := ⟨Or.inl (gt_of 718 (by decide +kernel) rfl), ins_X0_live, sel_X0_live, ini_X0, co_X0_live, ⟨by decide +kernel, by decide +kernel, by decide +kernel⟩, by decide⟩
set_option maxRecDepth 100000 in
theorem co_X8_ofDay : Cond.code yX8_ofDay cX8_ofDay 2 (some .int) ∈ gt := gt_of 753 rfl rfl
theorem ins_X8_ofDay : Cond.instanceMethod yX8_ofDay ∈ gt := gt_of 752 (by decide +kernel) rfl
theorem sel_X8_ofDay : Cond.selects (yX8_ofDay).cls yX8_ofDay yX8_ofDay ∈ gt := gt_of 32 (by decide +kernel) rfl
theorem mv_X8_168 : MV RX8 168 yX8_ofDay cX8_ofDay 2 (some .int) 1 := ⟨Or.inl (gt_of 750 (by decide +kernel) rfl), ins_X8_ofDay, sel_X8_ofDay, ini_X8, co_X8_ofDay, ⟨by decide +kernel, by decide +kernel, by decide +kernel⟩, by decide⟩
set_option maxRecDepth 100000 in
theorem co_X8_sheetAt : Cond.code yX8_sheetAt cX8_sheetAt 2 (some (.object "BeforeItGoes$Sheet")) ∈ gt := gt_of 773 rfl rfl
theorem ins_X8_sheetAt : Cond.instanceMethod yX8_sheetAt ∈ gt := gt_of 772 (by decide +kernel) rfl
theorem sel_X8_sheetAt : Cond.selects (yX8_sheetAt).cls yX8_sheetAt yX8_sheetAt ∈ gt := gt_of 34 (by decide +kernel) rfl
theorem mv_X8_171 : MV RX8 171 yX8_sheetAt cX8_sheetAt 2 (some (.object "BeforeItGoes$Sheet")) 1 := ⟨Or.inl (gt_of 770 (by decide +kernel) rfl), ins_X8_sheetAt, sel_X8_sheetAt, ini_X8, co_X8_sheetAt, ⟨by decide +kernel, by decide +kernel, by decide +kernel⟩, by decide⟩
set_option maxRecDepth 100000 in
theorem co_X8_startOrder : Cond.code yX8_startOrder cX8_startOrder 5 (some .boolean) ∈ gt := gt_of 777 rfl rfl
theorem ins_X8_startOrder : Cond.instanceMethod yX8_startOrder ∈ gt := gt_of 776 (by decide +kernel) rfl
theorem sel_X8_startOrder : Cond.selects (yX8_startOrder).cls yX8_startOrder yX8_startOrder ∈ gt := gt_of 35 (by decide +kernel) rfl
theorem mv_X8_175 : MV RX8 175 yX8_startOrder cX8_startOrder 5 (some .boolean) 1 := ⟨Or.inl (gt_of 774 (by decide +kernel) rfl), ins_X8_startOrder, sel_X8_startOrder, ini_X8, co_X8_startOrder, ⟨by decide +kernel, by decide +kernel, by decide +kernel⟩, by decide⟩
set_option maxRecDepth 100000 in
theorem co_X4_isMissing : Cond.code yX4_isMissing cX4_isMissing 1 (some .boolean) ∈ gt := gt_of 781 rfl rfl
theorem ins_X4_isMissing : Cond.instanceMethod yX4_isMissing ∈ gt := gt_of 779 (by decide +kernel) rfl
theorem sel_X4_isMissing : Cond.selects (yX4_isMissing).cls yX4_isMissing yX4_isMissing ∈ gt := gt_of 780 (by decide +kernel) rfl
theorem ini_X4 : Cond.initialized RX4 ∈ gt := gt_of 89 (by decide +kernel) rfl
theorem mv_X8_179 : MV RX8 179 yX4_isMissing cX4_isMissing 1 (some .boolean) 0 := ⟨Or.inl (gt_of 778 (by decide +kernel) rfl), ins_X4_isMissing, sel_X4_isMissing, ini_X4, co_X4_isMissing, ⟨by decide +kernel, by decide +kernel, by decide +kernel⟩, by decide⟩
set_option maxRecDepth 100000 in
theorem co_X0_place : Cond.code yX0_place cX0_place 3 none ∈ gt := gt_of 664 rfl rfl
theorem ins_X0_place : Cond.instanceMethod yX0_place ∈ gt := gt_of 662 (by decide +kernel) rfl
theorem sel_X0_place : Cond.selects (yX0_place).cls yX0_place yX0_place ∈ gt := gt_of 663 (by decide +kernel) rfl
theorem mv_X8_190 : MV RX8 190 yX0_place cX0_place 3 none 2 := ⟨Or.inl (gt_of 661 (by decide +kernel) rfl), ins_X0_place, sel_X0_place, ini_X0, co_X0_place, ⟨by decide +kernel, by decide +kernel, by decide +kernel⟩, by decide⟩
set_option maxRecDepth 100000 in
theorem co_X0_late : Cond.code yX0_late cX0_late 3 (some .int) ∈ gt := gt_of 757 rfl rfl
theorem ins_X0_late : Cond.instanceMethod yX0_late ∈ gt := gt_of 755 (by decide +kernel) rfl
theorem sel_X0_late : Cond.selects (yX0_late).cls yX0_late yX0_late ∈ gt := gt_of 756 (by decide +kernel) rfl
theorem mv_X8_203 : MV RX8 203 yX0_late cX0_late 3 (some .int) 0 := ⟨Or.inl (gt_of 754 (by decide +kernel) rfl), ins_X0_late, sel_X0_late, ini_X0, co_X0_late, ⟨by decide +kernel, by decide +kernel, by decide +kernel⟩, by decide⟩
set_option maxRecDepth 100000 in
theorem co_X0_early : Cond.code yX0_early cX0_early 3 (some .int) ∈ gt := gt_of 761 rfl rfl
theorem ins_X0_early : Cond.instanceMethod yX0_early ∈ gt := gt_of 759 (by decide +kernel) rfl
theorem sel_X0_early : Cond.selects (yX0_early).cls yX0_early yX0_early ∈ gt := gt_of 760 (by decide +kernel) rfl
theorem mv_X8_206 : MV RX8 206 yX0_early cX0_early 3 (some .int) 0 := ⟨Or.inl (gt_of 758 (by decide +kernel) rfl), ins_X0_early, sel_X0_early, ini_X0, co_X0_early, ⟨by decide +kernel, by decide +kernel, by decide +kernel⟩, by decide⟩
set_option maxRecDepth 100000 in
theorem co_X8_ofWallsDay : Cond.code yX8_ofWallsDay cX8_ofWallsDay 3 (some .int) ∈ gt := gt_of 765 rfl rfl
theorem ins_X8_ofWallsDay : Cond.instanceMethod yX8_ofWallsDay ∈ gt := gt_of 764 (by decide +kernel) rfl
theorem sel_X8_ofWallsDay : Cond.selects (yX8_ofWallsDay).cls yX8_ofWallsDay yX8_ofWallsDay ∈ gt := gt_of 33 (by decide +kernel) rfl
theorem mv_X8_209 : MV RX8 209 yX8_ofWallsDay cX8_ofWallsDay 3 (some .int) 2 := ⟨Or.inl (gt_of 762 (by decide +kernel) rfl), ins_X8_ofWallsDay, sel_X8_ofWallsDay, ini_X8, co_X8_ofWallsDay, ⟨by decide +kernel, by decide +kernel, by decide +kernel⟩, by decide⟩
set_option maxRecDepth 100000 in
theorem co_X5_become : Cond.code yX5_become cX5_become 3 none ∈ gt := gt_of 660 rfl rfl
theorem ins_X5_become : Cond.instanceMethod yX5_become ∈ gt := gt_of 658 (by decide +kernel) rfl
theorem sel_X5_become : Cond.selects (yX5_become).cls yX5_become yX5_become ∈ gt := gt_of 659 (by decide +kernel) rfl
theorem mv_X8_225 : MV RX8 225 yX5_become cX5_become 3 none 1 := ⟨Or.inl (gt_of 657 (by decide +kernel) rfl), ins_X5_become, sel_X5_become, ini_X5, co_X5_become, ⟨by decide +kernel, by decide +kernel, by decide +kernel⟩, by decide⟩
set_option maxRecDepth 100000 in
theorem co_X5_turn : Cond.code yX5_turn cX5_turn 3 none ∈ gt := gt_of 817 rfl rfl
theorem ins_X5_turn : Cond.instanceMethod yX5_turn ∈ gt := gt_of 815 (by decide +kernel) rfl
theorem sel_X5_turn : Cond.selects (yX5_turn).cls yX5_turn yX5_turn ∈ gt := gt_of 816 (by decide +kernel) rfl
theorem mv_X8_228 : MV RX8 228 yX5_turn cX5_turn 3 none 2 := ⟨Or.inl (gt_of 814 (by decide +kernel) rfl), ins_X5_turn, sel_X5_turn, ini_X5, co_X5_turn, ⟨by decide +kernel, by decide +kernel, by decide +kernel⟩, by decide⟩
set_option maxRecDepth 100000 in
theorem co_X2_clear : Cond.code yX2_clear cX2_clear 1 none ∈ gt := gt_of 789 rfl rfl
theorem ins_X2_clear : Cond.instanceMethod yX2_clear ∈ gt := gt_of 787 (by decide +kernel) rfl
theorem sel_X2_clear : Cond.selects (yX2_clear).cls yX2_clear yX2_clear ∈ gt := gt_of 788 (by decide +kernel) rfl
theorem ini_X2 : Cond.initialized RX2 ∈ gt := gt_of 88 (by decide +kernel) rfl
theorem mv_X8_231 : MV RX8 231 yX2_clear cX2_clear 1 none 0 := ⟨Or.inl (gt_of 786 (by decide +kernel) rfl), ins_X2_clear, sel_X2_clear, ini_X2, co_X2_clear, ⟨by decide +kernel, by decide +kernel, by decide +kernel⟩, by decide⟩
set_option maxRecDepth 100000 in
theorem co_X0_rowAsDigits : Cond.code yX0_rowAsDigits cX0_rowAsDigits 3 (some .int) ∈ gt := gt_of 793 rfl rfl
theorem ins_X0_rowAsDigits : Cond.instanceMethod yX0_rowAsDigits ∈ gt := gt_of 791 (by decide +kernel) rfl
theorem sel_X0_rowAsDigits : Cond.selects (yX0_rowAsDigits).cls yX0_rowAsDigits yX0_rowAsDigits ∈ gt := gt_of 792 (by decide +kernel) rfl
theorem mv_X8_232 : MV RX8 232 yX0_rowAsDigits cX0_rowAsDigits 3 (some .int) 0 := ⟨Or.inl (gt_of 790 (by decide +kernel) rfl), ins_X0_rowAsDigits, sel_X0_rowAsDigits, ini_X0, co_X0_rowAsDigits, ⟨by decide +kernel, by decide +kernel, by decide +kernel⟩, by decide⟩
set_option maxRecDepth 100000 in
theorem co_X2_offer : Cond.code yX2_offer cX2_offer 4 none ∈ gt := gt_of 797 rfl rfl
theorem ins_X2_offer : Cond.instanceMethod yX2_offer ∈ gt := gt_of 795 (by decide +kernel) rfl
theorem sel_X2_offer : Cond.selects (yX2_offer).cls yX2_offer yX2_offer ∈ gt := gt_of 796 (by decide +kernel) rfl
theorem mv_X8_235 : MV RX8 235 yX2_offer cX2_offer 4 none 3 := ⟨Or.inl (gt_of 794 (by decide +kernel) rfl), ins_X2_offer, sel_X2_offer, ini_X2, co_X2_offer, ⟨by decide +kernel, by decide +kernel, by decide +kernel⟩, by decide⟩
set_option maxRecDepth 100000 in
theorem co_X0_nextRow : Cond.code yX0_nextRow cX0_nextRow 6 (some .boolean) ∈ gt := gt_of 801 rfl rfl
theorem ins_X0_nextRow : Cond.instanceMethod yX0_nextRow ∈ gt := gt_of 799 (by decide +kernel) rfl
theorem sel_X0_nextRow : Cond.selects (yX0_nextRow).cls yX0_nextRow yX0_nextRow ∈ gt := gt_of 800 (by decide +kernel) rfl
theorem mv_X8_239 : MV RX8 239 yX0_nextRow cX0_nextRow 6 (some .boolean) 0 := ⟨Or.inl (gt_of 798 (by decide +kernel) rfl), ins_X0_nextRow, sel_X0_nextRow, ini_X0, co_X0_nextRow, ⟨by decide +kernel, by decide +kernel, by decide +kernel⟩, by decide⟩
set_option maxRecDepth 100000 in
theorem co_X8_liveWith : Cond.code yX8_liveWith cX8_liveWith 3 none ∈ gt := gt_of 813 rfl rfl
theorem ins_X8_liveWith : Cond.instanceMethod yX8_liveWith ∈ gt := gt_of 812 (by decide +kernel) rfl
theorem sel_X8_liveWith : Cond.selects (yX8_liveWith).cls yX8_liveWith yX8_liveWith ∈ gt := gt_of 37 (by decide +kernel) rfl
theorem mv_X8_249 : MV RX8 249 yX8_liveWith cX8_liveWith 3 none 2 := ⟨Or.inl (gt_of 810 (by decide +kernel) rfl), ins_X8_liveWith, sel_X8_liveWith, ini_X8, co_X8_liveWith, ⟨by decide +kernel, by decide +kernel, by decide +kernel⟩, by decide⟩
set_option maxRecDepth 100000 in
theorem co_X5_wetJust : Cond.code yX5_wetJust cX5_wetJust 3 none ∈ gt := gt_of 825 rfl rfl
theorem ins_X5_wetJust : Cond.instanceMethod yX5_wetJust ∈ gt := gt_of 823 (by decide +kernel) rfl
theorem sel_X5_wetJust : Cond.selects (yX5_wetJust).cls yX5_wetJust yX5_wetJust ∈ gt := gt_of 824 (by decide +kernel) rfl
theorem mv_X8_252 : MV RX8 252 yX5_wetJust cX5_wetJust 3 none 1 := ⟨Or.inl (gt_of 822 (by decide +kernel) rfl), ins_X5_wetJust, sel_X5_wetJust, ini_X5, co_X5_wetJust, ⟨by decide +kernel, by decide +kernel, by decide +kernel⟩, by decide⟩
set_option maxRecDepth 100000 in
theorem co_J6_bitCount_0f7a4 : Cond.code yJ6_bitCount_0f7a4 cJ6_bitCount_0f7a4 1 (some .int) ∈ gt := gt_of 828 rfl rfl
theorem sta_J6_bitCount_0f7a4 : Cond.static yJ6_bitCount_0f7a4 ∈ gt := gt_of 827 (by decide +kernel) rfl
theorem ini_J6 : Cond.initialized RJ6 ∈ gt := gt_of 98 (by decide +kernel) rfl
theorem ms_X8_256 : MS RX8 256 yJ6_bitCount_0f7a4 cJ6_bitCount_0f7a4 1 (some .int) 1 := ⟨Or.inl (gt_of 826 (by decide +kernel) rfl), sta_J6_bitCount_0f7a4, ini_J6, co_J6_bitCount_0f7a4, ⟨by decide +kernel, by decide +kernel, by decide +kernel⟩, by decide⟩
set_option maxRecDepth 100000 in
theorem co_X8_notSo : Cond.code yX8_notSo cX8_notSo 2 (some .int) ∈ gt := gt_of 855 rfl rfl
theorem ins_X8_notSo : Cond.instanceMethod yX8_notSo ∈ gt := gt_of 854 (by decide +kernel) rfl
theorem sel_X8_notSo : Cond.selects (yX8_notSo).cls yX8_notSo yX8_notSo ∈ gt := gt_of 38 (by decide +kernel) rfl
theorem mv_X8_261 : MV RX8 261 yX8_notSo cX8_notSo 2 (some .int) 1 := ⟨Or.inl (gt_of 852 (by decide +kernel) rfl), ins_X8_notSo, sel_X8_notSo, ini_X8, co_X8_notSo, ⟨by decide +kernel, by decide +kernel, by decide +kernel⟩, by decide⟩
set_option maxRecDepth 100000 in
theorem co_X8_dialsOf : Cond.code yX8_dialsOf cX8_dialsOf 6 (some .long) ∈ gt := gt_of 863 rfl rfl
theorem ins_X8_dialsOf : Cond.instanceMethod yX8_dialsOf ∈ gt := gt_of 862 (by decide +kernel) rfl
theorem sel_X8_dialsOf : Cond.selects (yX8_dialsOf).cls yX8_dialsOf yX8_dialsOf ∈ gt := gt_of 39 (by decide +kernel) rfl
theorem mv_X8_265 : MV RX8 265 yX8_dialsOf cX8_dialsOf 6 (some .long) 2 := ⟨Or.inl (gt_of 860 (by decide +kernel) rfl), ins_X8_dialsOf, sel_X8_dialsOf, ini_X8, co_X8_dialsOf, ⟨by decide +kernel, by decide +kernel, by decide +kernel⟩, by decide⟩
set_option maxRecDepth 100000 in
theorem co_X8_textsOf : Cond.code yX8_textsOf cX8_textsOf 4 (some .int) ∈ gt := gt_of 867 rfl rfl
theorem ins_X8_textsOf : Cond.instanceMethod yX8_textsOf ∈ gt := gt_of 866 (by decide +kernel) rfl
theorem sel_X8_textsOf : Cond.selects (yX8_textsOf).cls yX8_textsOf yX8_textsOf ∈ gt := gt_of 40 (by decide +kernel) rfl
theorem mv_X8_269 : MV RX8 269 yX8_textsOf cX8_textsOf 4 (some .int) 1 := ⟨Or.inl (gt_of 864 (by decide +kernel) rfl), ins_X8_textsOf, sel_X8_textsOf, ini_X8, co_X8_textsOf, ⟨by decide +kernel, by decide +kernel, by decide +kernel⟩, by decide⟩
set_option maxRecDepth 100000 in
theorem co_X8_kindsOf : Cond.code yX8_kindsOf cX8_kindsOf 5 (some .int) ∈ gt := gt_of 871 rfl rfl
theorem ins_X8_kindsOf : Cond.instanceMethod yX8_kindsOf ∈ gt := gt_of 870 (by decide +kernel) rfl
theorem sel_X8_kindsOf : Cond.selects (yX8_kindsOf).cls yX8_kindsOf yX8_kindsOf ∈ gt := gt_of 41 (by decide +kernel) rfl
theorem mv_X8_272 : MV RX8 272 yX8_kindsOf cX8_kindsOf 5 (some .int) 2 := ⟨Or.inl (gt_of 868 (by decide +kernel) rfl), ins_X8_kindsOf, sel_X8_kindsOf, ini_X8, co_X8_kindsOf, ⟨by decide +kernel, by decide +kernel, by decide +kernel⟩, by decide⟩
set_option maxRecDepth 100000 in
theorem co_X0_unlike : Cond.code yX0_unlike cX0_unlike 4 (some .int) ∈ gt := gt_of 859 rfl rfl
theorem ins_X0_unlike : Cond.instanceMethod yX0_unlike ∈ gt := gt_of 857 (by decide +kernel) rfl
theorem sel_X0_unlike : Cond.selects (yX0_unlike).cls yX0_unlike yX0_unlike ∈ gt := gt_of 858 (by decide +kernel) rfl
theorem mv_X8_278 : MV RX8 278 yX0_unlike cX0_unlike 4 (some .int) 1 := ⟨Or.inl (gt_of 856 (by decide +kernel) rfl), ins_X0_unlike, sel_X0_unlike, ini_X0, co_X0_unlike, ⟨by decide +kernel, by decide +kernel, by decide +kernel⟩, by decide⟩
set_option maxRecDepth 100000 in
theorem co_X4_become : Cond.code yX4_become cX4_become 4 none ∈ gt := gt_of 884 rfl rfl
theorem ins_X4_become : Cond.instanceMethod yX4_become ∈ gt := gt_of 882 (by decide +kernel) rfl
theorem sel_X4_become : Cond.selects (yX4_become).cls yX4_become yX4_become ∈ gt := gt_of 883 (by decide +kernel) rfl
theorem mv_X8_281 : MV RX8 281 yX4_become cX4_become 4 none 2 := ⟨Or.inl (gt_of 881 (by decide +kernel) rfl), ins_X4_become, sel_X4_become, ini_X4, co_X4_become, ⟨by decide +kernel, by decide +kernel, by decide +kernel⟩, by decide⟩
set_option maxRecDepth 100000 in
theorem co_X4_put : Cond.code yX4_put cX4_put 3 none ∈ gt := gt_of 888 rfl rfl
theorem ins_X4_put : Cond.instanceMethod yX4_put ∈ gt := gt_of 886 (by decide +kernel) rfl
theorem sel_X4_put : Cond.selects (yX4_put).cls yX4_put yX4_put ∈ gt := gt_of 887 (by decide +kernel) rfl
theorem mv_X8_283 : MV RX8 283 yX4_put cX4_put 3 none 2 := ⟨Or.inl (gt_of 885 (by decide +kernel) rfl), ins_X4_put, sel_X4_put, ini_X4, co_X4_put, ⟨by decide +kernel, by decide +kernel, by decide +kernel⟩, by decide⟩
set_option maxRecDepth 100000 in
theorem co_X8_warmOf : Cond.code yX8_warmOf cX8_warmOf 2 (some .int) ∈ gt := gt_of 899 rfl rfl
theorem sta_X8_warmOf : Cond.static yX8_warmOf ∈ gt := gt_of 898 (by decide +kernel) rfl
theorem ms_X8_286 : MS RX8 286 yX8_warmOf cX8_warmOf 2 (some .int) 1 := ⟨Or.inl (gt_of 897 (by decide +kernel) rfl), sta_X8_warmOf, ini_X8, co_X8_warmOf, ⟨by decide +kernel, by decide +kernel, by decide +kernel⟩, by decide⟩
set_option maxRecDepth 100000 in
theorem co_X8_commonDivisor : Cond.code yX8_commonDivisor cX8_commonDivisor 3 (some .int) ∈ gt := gt_of 907 rfl rfl
theorem sta_X8_commonDivisor : Cond.static yX8_commonDivisor ∈ gt := gt_of 906 (by decide +kernel) rfl
theorem ms_X8_289 : MS RX8 289 yX8_commonDivisor cX8_commonDivisor 3 (some .int) 2 := ⟨Or.inl (gt_of 905 (by decide +kernel) rfl), sta_X8_commonDivisor, ini_X8, co_X8_commonDivisor, ⟨by decide +kernel, by decide +kernel, by decide +kernel⟩, by decide⟩
set_option maxRecDepth 100000 in
theorem co_X4_has : Cond.code yX4_has cX4_has 2 (some .boolean) ∈ gt := gt_of 892 rfl rfl
theorem ins_X4_has : Cond.instanceMethod yX4_has ∈ gt := gt_of 890 (by decide +kernel) rfl
theorem sel_X4_has : Cond.selects (yX4_has).cls yX4_has yX4_has ∈ gt := gt_of 891 (by decide +kernel) rfl
theorem mv_X8_297 : MV RX8 297 yX4_has cX4_has 2 (some .boolean) 1 := ⟨Or.inl (gt_of 928 (by decide +kernel) rfl), ins_X4_has, sel_X4_has, ini_X4, co_X4_has, ⟨by decide +kernel, by decide +kernel, by decide +kernel⟩, by decide⟩
set_option maxRecDepth 100000 in
theorem co_X4_hasRun : Cond.code yX4_hasRun cX4_hasRun 3 (some .boolean) ∈ gt := gt_of 936 rfl rfl
theorem ins_X4_hasRun : Cond.instanceMethod yX4_hasRun ∈ gt := gt_of 934 (by decide +kernel) rfl
theorem sel_X4_hasRun : Cond.selects (yX4_hasRun).cls yX4_hasRun yX4_hasRun ∈ gt := gt_of 935 (by decide +kernel) rfl
theorem mv_X8_301 : MV RX8 301 yX4_hasRun cX4_hasRun 3 (some .boolean) 2 := ⟨Or.inl (gt_of 933 (by decide +kernel) rfl), ins_X4_hasRun, sel_X4_hasRun, ini_X4, co_X4_hasRun, ⟨by decide +kernel, by decide +kernel, by decide +kernel⟩, by decide⟩
set_option maxRecDepth 100000 in
theorem co_X8_wall : Cond.code yX8_wall cX8_wall 4 (some .int) ∈ gt := gt_of 637 rfl rfl
theorem ins_X8_wall : Cond.instanceMethod yX8_wall ∈ gt := gt_of 635 (by decide +kernel) rfl
theorem sel_X8_wall : Cond.selects (yX8_wall).cls yX8_wall yX8_wall ∈ gt := gt_of 636 (by decide +kernel) rfl
theorem mv_X8_311 : MV RX8 311 yX8_wall cX8_wall 4 (some .int) 3 := ⟨Or.inl (gt_of 944 (by decide +kernel) rfl), ins_X8_wall, sel_X8_wall, ini_X8, co_X8_wall, ⟨by decide +kernel, by decide +kernel, by decide +kernel⟩, by decide⟩
set_option maxRecDepth 100000 in
theorem co_X1_isUnder : Cond.code yX1_isUnder cX1_isUnder 2 (some .boolean) ∈ gt := gt_of 951 rfl rfl
theorem sta_X1_isUnder : Cond.static yX1_isUnder ∈ gt := gt_of 950 (by decide +kernel) rfl
theorem ini_X1 : Cond.initialized RX1 ∈ gt := gt_of 97 (by decide +kernel) rfl
theorem ms_X8_314 : MS RX8 314 yX1_isUnder cX1_isUnder 2 (some .boolean) 2 := ⟨Or.inl (gt_of 949 (by decide +kernel) rfl), sta_X1_isUnder, ini_X1, co_X1_isUnder, ⟨by decide +kernel, by decide +kernel, by decide +kernel⟩, by decide⟩
set_option maxRecDepth 100000 in
theorem co_X0_tells : Cond.code yX0_tells cX0_tells 6 (some .int) ∈ gt := gt_of 672 rfl rfl
theorem ins_X0_tells : Cond.instanceMethod yX0_tells ∈ gt := gt_of 671 (by decide +kernel) rfl
theorem sel_X0_tells : Cond.selects (yX0_tells).cls yX0_tells yX0_tells ∈ gt := gt_of 23 (by decide +kernel) rfl
theorem mv_X0_66 : MV RX0 66 yX0_tells cX0_tells 6 (some .int) 3 := ⟨Or.inl (gt_of 669 (by decide +kernel) rfl), ins_X0_tells, sel_X0_tells, ini_X0, co_X0_tells, ⟨by decide +kernel, by decide +kernel, by decide +kernel⟩, by decide⟩
set_option maxRecDepth 100000 in
theorem co_X1_ripens : Cond.code yX1_ripens cX1_ripens 5 (some .int) ∈ gt := gt_of 689 rfl rfl
theorem sta_X1_ripens : Cond.static yX1_ripens ∈ gt := gt_of 688 (by decide +kernel) rfl
theorem ms_X0_70 : MS RX0 70 yX1_ripens cX1_ripens 5 (some .int) 4 := ⟨Or.inl (gt_of 687 (by decide +kernel) rfl), sta_X1_ripens, ini_X1, co_X1_ripens, ⟨by decide +kernel, by decide +kernel, by decide +kernel⟩, by decide⟩
set_option maxRecDepth 100000 in
theorem co_X1_lasts : Cond.code yX1_lasts cX1_lasts 2 (some .int) ∈ gt := gt_of 693 rfl rfl
theorem sta_X1_lasts : Cond.static yX1_lasts ∈ gt := gt_of 692 (by decide +kernel) rfl
theorem ms_X0_75 : MS RX0 75 yX1_lasts cX1_lasts 2 (some .int) 2 := ⟨Or.inl (gt_of 691 (by decide +kernel) rfl), sta_X1_lasts, ini_X1, co_X1_lasts, ⟨by decide +kernel, by decide +kernel, by decide +kernel⟩, by decide⟩
set_option maxRecDepth 100000 in
theorem co_X1_takes : Cond.code yX1_takes cX1_takes 3 (some .int) ∈ gt := gt_of 696 rfl rfl
theorem sta_X1_takes : Cond.static yX1_takes ∈ gt := gt_of 695 (by decide +kernel) rfl
theorem ms_X0_81 : MS RX0 81 yX1_takes cX1_takes 3 (some .int) 3 := ⟨Or.inl (gt_of 694 (by decide +kernel) rfl), sta_X1_takes, ini_X1, co_X1_takes, ⟨by decide +kernel, by decide +kernel, by decide +kernel⟩, by decide⟩
set_option maxRecDepth 100000 in
theorem co_X7_value : Cond.code yX7_value cX7_value 8 (some .int) ∈ gt := gt_of 676 rfl rfl
theorem ins_X7_value : Cond.instanceMethod yX7_value ∈ gt := gt_of 674 (by decide +kernel) rfl
theorem sel_X7_value : Cond.selects (yX7_value).cls yX7_value yX7_value ∈ gt := gt_of 675 (by decide +kernel) rfl
theorem mv_X0_89 : MV RX0 89 yX7_value cX7_value 8 (some .int) 3 := ⟨Or.inl (gt_of 673 (by decide +kernel) rfl), ins_X7_value, sel_X7_value, ini_X7, co_X7_value, ⟨by decide +kernel, by decide +kernel, by decide +kernel⟩, by decide⟩
set_option maxRecDepth 100000 in
theorem co_J9_min_7cf53 : Cond.code yJ9_min_7cf53 cJ9_min_7cf53 2 (some .int) ∈ gt := gt_of 442 rfl rfl
theorem sta_J9_min_7cf53 : Cond.static yJ9_min_7cf53 ∈ gt := gt_of 441 (by decide +kernel) rfl
theorem ini_J9 : Cond.initialized RJ9 ∈ gt := gt_of 94 (by decide +kernel) rfl
theorem ms_X0_101 : MS RX0 101 yJ9_min_7cf53 cJ9_min_7cf53 2 (some .int) 2 := ⟨Or.inl (gt_of 685 (by decide +kernel) rfl), sta_J9_min_7cf53, ini_J9, co_J9_min_7cf53, ⟨by decide +kernel, by decide +kernel, by decide +kernel⟩, by decide⟩
set_option maxRecDepth 100000 in
theorem co_J9_max_7cf53 : Cond.code yJ9_max_7cf53 cJ9_max_7cf53 2 (some .int) ∈ gt := gt_of 439 rfl rfl
theorem sta_J9_max_7cf53 : Cond.static yJ9_max_7cf53 ∈ gt := gt_of 438 (by decide +kernel) rfl
theorem ms_X0_106 : MS RX0 106 yJ9_max_7cf53 cJ9_max_7cf53 2 (some .int) 2 := ⟨Or.inl (gt_of 686 (by decide +kernel) rfl), sta_J9_max_7cf53, ini_J9, co_J9_max_7cf53, ⟨by decide +kernel, by decide +kernel, by decide +kernel⟩, by decide⟩
set_option maxRecDepth 100000 in
theorem co_X0_dawn : Cond.code yX0_dawn cX0_dawn 2 none ∈ gt := gt_of 725 rfl rfl
theorem ins_X0_dawn : Cond.instanceMethod yX0_dawn ∈ gt := gt_of 724 (by decide +kernel) rfl
theorem sel_X0_dawn : Cond.selects (yX0_dawn).cls yX0_dawn yX0_dawn ∈ gt := gt_of 25 (by decide +kernel) rfl
theorem mv_X0_109 : MV RX0 109 yX0_dawn cX0_dawn 2 none 0 := ⟨Or.inl (gt_of 722 (by decide +kernel) rfl), ins_X0_dawn, sel_X0_dawn, ini_X0, co_X0_dawn, ⟨by decide +kernel, by decide +kernel, by decide +kernel⟩, by decide⟩
set_option maxRecDepth 100000 in
theorem co_X0_firstRipe : Cond.code yX0_firstRipe cX0_firstRipe 4 (some .int) ∈ gt := gt_of 729 rfl rfl
theorem ins_X0_firstRipe : Cond.instanceMethod yX0_firstRipe ∈ gt := gt_of 728 (by decide +kernel) rfl
theorem sel_X0_firstRipe : Cond.selects (yX0_firstRipe).cls yX0_firstRipe yX0_firstRipe ∈ gt := gt_of 26 (by decide +kernel) rfl
theorem mv_X0_118 : MV RX0 118 yX0_firstRipe cX0_firstRipe 4 (some .int) 0 := ⟨Or.inl (gt_of 726 (by decide +kernel) rfl), ins_X0_firstRipe, sel_X0_firstRipe, ini_X0, co_X0_firstRipe, ⟨by decide +kernel, by decide +kernel, by decide +kernel⟩, by decide⟩
set_option maxRecDepth 100000 in
theorem co_X0_trowel : Cond.code yX0_trowel cX0_trowel 4 none ∈ gt := gt_of 733 rfl rfl
theorem ins_X0_trowel : Cond.instanceMethod yX0_trowel ∈ gt := gt_of 732 (by decide +kernel) rfl
theorem sel_X0_trowel : Cond.selects (yX0_trowel).cls yX0_trowel yX0_trowel ∈ gt := gt_of 27 (by decide +kernel) rfl
theorem mv_X0_122 : MV RX0 122 yX0_trowel cX0_trowel 4 none 1 := ⟨Or.inl (gt_of 730 (by decide +kernel) rfl), ins_X0_trowel, sel_X0_trowel, ini_X0, co_X0_trowel, ⟨by decide +kernel, by decide +kernel, by decide +kernel⟩, by decide⟩
set_option maxRecDepth 100000 in
theorem co_X0_mayBegin : Cond.code yX0_mayBegin cX0_mayBegin 1 (some .boolean) ∈ gt := gt_of 737 rfl rfl
theorem ins_X0_mayBegin : Cond.instanceMethod yX0_mayBegin ∈ gt := gt_of 736 (by decide +kernel) rfl
theorem sel_X0_mayBegin : Cond.selects (yX0_mayBegin).cls yX0_mayBegin yX0_mayBegin ∈ gt := gt_of 28 (by decide +kernel) rfl
theorem mv_X0_126 : MV RX0 126 yX0_mayBegin cX0_mayBegin 1 (some .boolean) 0 := ⟨Or.inl (gt_of 734 (by decide +kernel) rfl), ins_X0_mayBegin, sel_X0_mayBegin, ini_X0, co_X0_mayBegin, ⟨by decide +kernel, by decide +kernel, by decide +kernel⟩, by decide⟩
set_option maxRecDepth 100000 in
theorem co_X0_begin : Cond.code yX0_begin cX0_begin 3 none ∈ gt := gt_of 745 rfl rfl
theorem ins_X0_begin : Cond.instanceMethod yX0_begin ∈ gt := gt_of 744 (by decide +kernel) rfl
theorem sel_X0_begin : Cond.selects (yX0_begin).cls yX0_begin yX0_begin ∈ gt := gt_of 30 (by decide +kernel) rfl
theorem mv_X0_133 : MV RX0 133 yX0_begin cX0_begin 3 none 1 := ⟨Or.inl (gt_of 742 (by decide +kernel) rfl), ins_X0_begin, sel_X0_begin, ini_X0, co_X0_begin, ⟨by decide +kernel, by decide +kernel, by decide +kernel⟩, by decide⟩
set_option maxRecDepth 100000 in
theorem co_X0_waitOn : Cond.code yX0_waitOn cX0_waitOn 4 none ∈ gt := gt_of 749 rfl rfl
theorem ins_X0_waitOn : Cond.instanceMethod yX0_waitOn ∈ gt := gt_of 748 (by decide +kernel) rfl
theorem sel_X0_waitOn : Cond.selects (yX0_waitOn).cls yX0_waitOn yX0_waitOn ∈ gt := gt_of 31 (by decide +kernel) rfl
theorem mv_X0_136 : MV RX0 136 yX0_waitOn cX0_waitOn 4 none 0 := ⟨Or.inl (gt_of 746 (by decide +kernel) rfl), ins_X0_waitOn, sel_X0_waitOn, ini_X0, co_X0_waitOn, ⟨by decide +kernel, by decide +kernel, by decide +kernel⟩, by decide⟩
set_option maxRecDepth 100000 in
theorem co_X0_nextBegins : Cond.code yX0_nextBegins cX0_nextBegins 1 (some .int) ∈ gt := gt_of 741 rfl rfl
theorem ins_X0_nextBegins : Cond.instanceMethod yX0_nextBegins ∈ gt := gt_of 740 (by decide +kernel) rfl
theorem sel_X0_nextBegins : Cond.selects (yX0_nextBegins).cls yX0_nextBegins yX0_nextBegins ∈ gt := gt_of 29 (by decide +kernel) rfl
theorem mv_X0_145 : MV RX0 145 yX0_nextBegins cX0_nextBegins 1 (some .int) 0 := ⟨Or.inl (gt_of 738 (by decide +kernel) rfl), ins_X0_nextBegins, sel_X0_nextBegins, ini_X0, co_X0_nextBegins, ⟨by decide +kernel, by decide +kernel, by decide +kernel⟩, by decide⟩
set_option maxRecDepth 100000 in
theorem co_X0_swap : Cond.code yX0_swap cX0_swap 4 none ∈ gt := gt_of 805 rfl rfl
theorem ins_X0_swap : Cond.instanceMethod yX0_swap ∈ gt := gt_of 804 (by decide +kernel) rfl
theorem sel_X0_swap : Cond.selects (yX0_swap).cls yX0_swap yX0_swap ∈ gt := gt_of 36 (by decide +kernel) rfl
theorem mv_X0_153 : MV RX0 153 yX0_swap cX0_swap 4 none 2 := ⟨Or.inl (gt_of 802 (by decide +kernel) rfl), ins_X0_swap, sel_X0_swap, ini_X0, co_X0_swap, ⟨by decide +kernel, by decide +kernel, by decide +kernel⟩, by decide⟩
theorem ms_X1_9 : MS RX1 9 yJ9_max_7cf53 cJ9_max_7cf53 2 (some .int) 2 := ⟨Or.inl (gt_of 690 (by decide +kernel) rfl), sta_J9_max_7cf53, ini_J9, co_J9_max_7cf53, ⟨by decide +kernel, by decide +kernel, by decide +kernel⟩, by decide⟩
set_option maxRecDepth 100000 in
theorem co_X7_clear : Cond.code yX7_clear cX7_clear 1 none ∈ gt := gt_of 402 rfl rfl
theorem ins_X7_clear : Cond.instanceMethod yX7_clear ∈ gt := gt_of 400 (by decide +kernel) rfl
theorem sel_X7_clear : Cond.selects (yX7_clear).cls yX7_clear yX7_clear ∈ gt := gt_of 401 (by decide +kernel) rfl
theorem mv_X3_29 : MV RX3 29 yX7_clear cX7_clear 1 none 0 := ⟨Or.inl (gt_of 399 (by decide +kernel) rfl), ins_X7_clear, sel_X7_clear, ini_X7, co_X7_clear, ⟨by decide +kernel, by decide +kernel, by decide +kernel⟩, by decide⟩
set_option maxRecDepth 100000 in
theorem co_X6_cut : Cond.code yX6_cut cX6_cut 4 none ∈ gt := gt_of 406 rfl rfl
theorem ins_X6_cut : Cond.instanceMethod yX6_cut ∈ gt := gt_of 404 (by decide +kernel) rfl
theorem sel_X6_cut : Cond.selects (yX6_cut).cls yX6_cut yX6_cut ∈ gt := gt_of 405 (by decide +kernel) rfl
theorem mv_X3_35 : MV RX3 35 yX6_cut cX6_cut 4 none 0 := ⟨Or.inl (gt_of 403 (by decide +kernel) rfl), ins_X6_cut, sel_X6_cut, ini_X6, co_X6_cut, ⟨by decide +kernel, by decide +kernel, by decide +kernel⟩, by decide⟩
set_option maxRecDepth 100000 in
theorem co_X3_expect : Cond.code yX3_expect cX3_expect 2 none ∈ gt := gt_of 509 rfl rfl
theorem ins_X3_expect : Cond.instanceMethod yX3_expect ∈ gt := gt_of 508 (by decide +kernel) rfl
theorem sel_X3_expect : Cond.selects (yX3_expect).cls yX3_expect yX3_expect ∈ gt := gt_of 5 (by decide +kernel) rfl
theorem mv_X3_40 : MV RX3 40 yX3_expect cX3_expect 2 none 1 := ⟨Or.inl (gt_of 506 (by decide +kernel) rfl), ins_X3_expect, sel_X3_expect, ini_X3, co_X3_expect, ⟨by decide +kernel, by decide +kernel, by decide +kernel⟩, by decide⟩
set_option maxRecDepth 100000 in
theorem co_X3_readE : Cond.code yX3_readE cX3_readE 2 none ∈ gt := gt_of 529 rfl rfl
theorem ins_X3_readE : Cond.instanceMethod yX3_readE ∈ gt := gt_of 528 (by decide +kernel) rfl
theorem sel_X3_readE : Cond.selects (yX3_readE).cls yX3_readE yX3_readE ∈ gt := gt_of 10 (by decide +kernel) rfl
theorem mv_X3_44 : MV RX3 44 yX3_readE cX3_readE 2 none 0 := ⟨Or.inl (gt_of 526 (by decide +kernel) rfl), ins_X3_readE, sel_X3_readE, ini_X3, co_X3_readE, ⟨by decide +kernel, by decide +kernel, by decide +kernel⟩, by decide⟩
set_option maxRecDepth 100000 in
theorem co_X7_endPart : Cond.code yX7_endPart cX7_endPart 2 none ∈ gt := gt_of 577 rfl rfl
theorem ins_X7_endPart : Cond.instanceMethod yX7_endPart ∈ gt := gt_of 575 (by decide +kernel) rfl
theorem sel_X7_endPart : Cond.selects (yX7_endPart).cls yX7_endPart yX7_endPart ∈ gt := gt_of 576 (by decide +kernel) rfl
theorem mv_X3_47 : MV RX3 47 yX7_endPart cX7_endPart 2 none 1 := ⟨Or.inl (gt_of 574 (by decide +kernel) rfl), ins_X7_endPart, sel_X7_endPart, ini_X7, co_X7_endPart, ⟨by decide +kernel, by decide +kernel, by decide +kernel⟩, by decide⟩
set_option maxRecDepth 100000 in
theorem co_X3_token : Cond.code yX3_token cX3_token 1 (some .int) ∈ gt := gt_of 517 rfl rfl
theorem ins_X3_token : Cond.instanceMethod yX3_token ∈ gt := gt_of 516 (by decide +kernel) rfl
theorem sel_X3_token : Cond.selects (yX3_token).cls yX3_token yX3_token ∈ gt := gt_of 7 (by decide +kernel) rfl
theorem mv_X3_50 : MV RX3 50 yX3_token cX3_token 1 (some .int) 0 := ⟨Or.inl (gt_of 514 (by decide +kernel) rfl), ins_X3_token, sel_X3_token, ini_X3, co_X3_token, ⟨by decide +kernel, by decide +kernel, by decide +kernel⟩, by decide⟩
set_option maxRecDepth 100000 in
theorem co_X3_is : Cond.code yX3_is cX3_is 2 (some .boolean) ∈ gt := gt_of 513 rfl rfl
theorem ins_X3_is : Cond.instanceMethod yX3_is ∈ gt := gt_of 512 (by decide +kernel) rfl
theorem sel_X3_is : Cond.selects (yX3_is).cls yX3_is yX3_is ∈ gt := gt_of 6 (by decide +kernel) rfl
theorem mv_X3_67 : MV RX3 67 yX3_is cX3_is 2 (some .boolean) 1 := ⟨Or.inl (gt_of 510 (by decide +kernel) rfl), ins_X3_is, sel_X3_is, ini_X3, co_X3_is, ⟨by decide +kernel, by decide +kernel, by decide +kernel⟩, by decide⟩
set_option maxRecDepth 100000 in
theorem co_X3_next : Cond.code yX3_next cX3_next 1 none ∈ gt := gt_of 521 rfl rfl
theorem ins_X3_next : Cond.instanceMethod yX3_next ∈ gt := gt_of 520 (by decide +kernel) rfl
theorem sel_X3_next : Cond.selects (yX3_next).cls yX3_next yX3_next ∈ gt := gt_of 8 (by decide +kernel) rfl
theorem mv_X3_71 : MV RX3 71 yX3_next cX3_next 1 none 0 := ⟨Or.inl (gt_of 518 (by decide +kernel) rfl), ins_X3_next, sel_X3_next, ini_X3, co_X3_next, ⟨by decide +kernel, by decide +kernel, by decide +kernel⟩, by decide⟩
set_option maxRecDepth 100000 in
theorem co_X3_fail : Cond.code yX3_fail cX3_fail 1 none ∈ gt := gt_of 525 rfl rfl
theorem ins_X3_fail : Cond.instanceMethod yX3_fail ∈ gt := gt_of 524 (by decide +kernel) rfl
theorem sel_X3_fail : Cond.selects (yX3_fail).cls yX3_fail yX3_fail ∈ gt := gt_of 9 (by decide +kernel) rfl
theorem mv_X3_74 : MV RX3 74 yX3_fail cX3_fail 1 none 0 := ⟨Or.inl (gt_of 522 (by decide +kernel) rfl), ins_X3_fail, sel_X3_fail, ini_X3, co_X3_fail, ⟨by decide +kernel, by decide +kernel, by decide +kernel⟩, by decide⟩
set_option maxRecDepth 100000 in
theorem co_X3_readAnd : Cond.code yX3_readAnd cX3_readAnd 2 none ∈ gt := gt_of 533 rfl rfl
theorem ins_X3_readAnd : Cond.instanceMethod yX3_readAnd ∈ gt := gt_of 532 (by decide +kernel) rfl
theorem sel_X3_readAnd : Cond.selects (yX3_readAnd).cls yX3_readAnd yX3_readAnd ∈ gt := gt_of 11 (by decide +kernel) rfl
theorem mv_X3_77 : MV RX3 77 yX3_readAnd cX3_readAnd 2 none 0 := ⟨Or.inl (gt_of 530 (by decide +kernel) rfl), ins_X3_readAnd, sel_X3_readAnd, ini_X3, co_X3_readAnd, ⟨by decide +kernel, by decide +kernel, by decide +kernel⟩, by decide⟩
set_option maxRecDepth 100000 in
theorem co_X7_add : Cond.code yX7_add cX7_add 2 none ∈ gt := gt_of 561 rfl rfl
theorem ins_X7_add : Cond.instanceMethod yX7_add ∈ gt := gt_of 559 (by decide +kernel) rfl
theorem sel_X7_add : Cond.selects (yX7_add).cls yX7_add yX7_add ∈ gt := gt_of 560 (by decide +kernel) rfl
theorem mv_X3_80 : MV RX3 80 yX7_add cX7_add 2 none 1 := ⟨Or.inl (gt_of 558 (by decide +kernel) rfl), ins_X7_add, sel_X7_add, ini_X7, co_X7_add, ⟨by decide +kernel, by decide +kernel, by decide +kernel⟩, by decide⟩
set_option maxRecDepth 100000 in
theorem co_X3_readNot : Cond.code yX3_readNot cX3_readNot 1 none ∈ gt := gt_of 537 rfl rfl
theorem ins_X3_readNot : Cond.instanceMethod yX3_readNot ∈ gt := gt_of 536 (by decide +kernel) rfl
theorem sel_X3_readNot : Cond.selects (yX3_readNot).cls yX3_readNot yX3_readNot ∈ gt := gt_of 12 (by decide +kernel) rfl
theorem mv_X3_83 : MV RX3 83 yX3_readNot cX3_readNot 1 none 0 := ⟨Or.inl (gt_of 534 (by decide +kernel) rfl), ins_X3_readNot, sel_X3_readNot, ini_X3, co_X3_readNot, ⟨by decide +kernel, by decide +kernel, by decide +kernel⟩, by decide⟩
set_option maxRecDepth 100000 in
theorem co_X3_readCompared : Cond.code yX3_readCompared cX3_readCompared 2 none ∈ gt := gt_of 541 rfl rfl
theorem ins_X3_readCompared : Cond.instanceMethod yX3_readCompared ∈ gt := gt_of 540 (by decide +kernel) rfl
theorem sel_X3_readCompared : Cond.selects (yX3_readCompared).cls yX3_readCompared yX3_readCompared ∈ gt := gt_of 13 (by decide +kernel) rfl
theorem mv_X3_86 : MV RX3 86 yX3_readCompared cX3_readCompared 2 none 0 := ⟨Or.inl (gt_of 538 (by decide +kernel) rfl), ins_X3_readCompared, sel_X3_readCompared, ini_X3, co_X3_readCompared, ⟨by decide +kernel, by decide +kernel, by decide +kernel⟩, by decide⟩
set_option maxRecDepth 100000 in
theorem co_X3_opens : Cond.code yX3_opens cX3_opens 1 (some .boolean) ∈ gt := gt_of 569 rfl rfl
theorem ins_X3_opens : Cond.instanceMethod yX3_opens ∈ gt := gt_of 568 (by decide +kernel) rfl
theorem sel_X3_opens : Cond.selects (yX3_opens).cls yX3_opens yX3_opens ∈ gt := gt_of 19 (by decide +kernel) rfl
theorem mv_X3_89 : MV RX3 89 yX3_opens cX3_opens 1 (some .boolean) 0 := ⟨Or.inl (gt_of 566 (by decide +kernel) rfl), ins_X3_opens, sel_X3_opens, ini_X3, co_X3_opens, ⟨by decide +kernel, by decide +kernel, by decide +kernel⟩, by decide⟩
set_option maxRecDepth 100000 in
theorem co_X3_readSum : Cond.code yX3_readSum cX3_readSum 3 none ∈ gt := gt_of 545 rfl rfl
theorem ins_X3_readSum : Cond.instanceMethod yX3_readSum ∈ gt := gt_of 544 (by decide +kernel) rfl
theorem sel_X3_readSum : Cond.selects (yX3_readSum).cls yX3_readSum yX3_readSum ∈ gt := gt_of 14 (by decide +kernel) rfl
theorem mv_X3_93 : MV RX3 93 yX3_readSum cX3_readSum 3 none 0 := ⟨Or.inl (gt_of 542 (by decide +kernel) rfl), ins_X3_readSum, sel_X3_readSum, ini_X3, co_X3_readSum, ⟨by decide +kernel, by decide +kernel, by decide +kernel⟩, by decide⟩
set_option maxRecDepth 100000 in
theorem co_X3_readTerm : Cond.code yX3_readTerm cX3_readTerm 2 none ∈ gt := gt_of 549 rfl rfl
theorem ins_X3_readTerm : Cond.instanceMethod yX3_readTerm ∈ gt := gt_of 548 (by decide +kernel) rfl
theorem sel_X3_readTerm : Cond.selects (yX3_readTerm).cls yX3_readTerm yX3_readTerm ∈ gt := gt_of 15 (by decide +kernel) rfl
theorem mv_X3_96 : MV RX3 96 yX3_readTerm cX3_readTerm 2 none 0 := ⟨Or.inl (gt_of 546 (by decide +kernel) rfl), ins_X3_readTerm, sel_X3_readTerm, ini_X3, co_X3_readTerm, ⟨by decide +kernel, by decide +kernel, by decide +kernel⟩, by decide⟩
set_option maxRecDepth 100000 in
theorem co_X3_readOne : Cond.code yX3_readOne cX3_readOne 2 none ∈ gt := gt_of 553 rfl rfl
theorem ins_X3_readOne : Cond.instanceMethod yX3_readOne ∈ gt := gt_of 552 (by decide +kernel) rfl
theorem sel_X3_readOne : Cond.selects (yX3_readOne).cls yX3_readOne yX3_readOne ∈ gt := gt_of 16 (by decide +kernel) rfl
theorem mv_X3_99 : MV RX3 99 yX3_readOne cX3_readOne 2 none 0 := ⟨Or.inl (gt_of 550 (by decide +kernel) rfl), ins_X3_readOne, sel_X3_readOne, ini_X3, co_X3_readOne, ⟨by decide +kernel, by decide +kernel, by decide +kernel⟩, by decide⟩
set_option maxRecDepth 100000 in
theorem co_X3_number : Cond.code yX3_number cX3_number 1 (some .int) ∈ gt := gt_of 557 rfl rfl
theorem ins_X3_number : Cond.instanceMethod yX3_number ∈ gt := gt_of 556 (by decide +kernel) rfl
theorem sel_X3_number : Cond.selects (yX3_number).cls yX3_number yX3_number ∈ gt := gt_of 17 (by decide +kernel) rfl
theorem mv_X3_102 : MV RX3 102 yX3_number cX3_number 1 (some .int) 0 := ⟨Or.inl (gt_of 554 (by decide +kernel) rfl), ins_X3_number, sel_X3_number, ini_X3, co_X3_number, ⟨by decide +kernel, by decide +kernel, by decide +kernel⟩, by decide⟩
set_option maxRecDepth 100000 in
theorem co_X3_readMinus : Cond.code yX3_readMinus cX3_readMinus 1 none ∈ gt := gt_of 565 rfl rfl
theorem ins_X3_readMinus : Cond.instanceMethod yX3_readMinus ∈ gt := gt_of 564 (by decide +kernel) rfl
theorem sel_X3_readMinus : Cond.selects (yX3_readMinus).cls yX3_readMinus yX3_readMinus ∈ gt := gt_of 18 (by decide +kernel) rfl
theorem mv_X3_105 : MV RX3 105 yX3_readMinus cX3_readMinus 1 none 0 := ⟨Or.inl (gt_of 562 (by decide +kernel) rfl), ins_X3_readMinus, sel_X3_readMinus, ini_X3, co_X3_readMinus, ⟨by decide +kernel, by decide +kernel, by decide +kernel⟩, by decide⟩
set_option maxRecDepth 100000 in
theorem co_X3_readBracket : Cond.code yX3_readBracket cX3_readBracket 1 none ∈ gt := gt_of 573 rfl rfl
theorem ins_X3_readBracket : Cond.instanceMethod yX3_readBracket ∈ gt := gt_of 572 (by decide +kernel) rfl
theorem sel_X3_readBracket : Cond.selects (yX3_readBracket).cls yX3_readBracket yX3_readBracket ∈ gt := gt_of 20 (by decide +kernel) rfl
theorem mv_X3_108 : MV RX3 108 yX3_readBracket cX3_readBracket 1 none 0 := ⟨Or.inl (gt_of 570 (by decide +kernel) rfl), ins_X3_readBracket, sel_X3_readBracket, ini_X3, co_X3_readBracket, ⟨by decide +kernel, by decide +kernel, by decide +kernel⟩, by decide⟩
theorem mv_X4_22 : MV RX4 22 yX4_has cX4_has 2 (some .boolean) 1 := ⟨Or.inl (gt_of 889 (by decide +kernel) rfl), ins_X4_has, sel_X4_has, ini_X4, co_X4_has, ⟨by decide +kernel, by decide +kernel, by decide +kernel⟩, by decide⟩
set_option maxRecDepth 100000 in
theorem co_X6_endOf : Cond.code yX6_endOf cX6_endOf 5 (some .int) ∈ gt := gt_of 410 rfl rfl
theorem ins_X6_endOf : Cond.instanceMethod yX6_endOf ∈ gt := gt_of 409 (by decide +kernel) rfl
theorem sel_X6_endOf : Cond.selects (yX6_endOf).cls yX6_endOf yX6_endOf ∈ gt := gt_of 1 (by decide +kernel) rfl
theorem mv_X6_31 : MV RX6 31 yX6_endOf cX6_endOf 5 (some .int) 1 := ⟨Or.inl (gt_of 407 (by decide +kernel) rfl), ins_X6_endOf, sel_X6_endOf, ini_X6, co_X6_endOf, ⟨by decide +kernel, by decide +kernel, by decide +kernel⟩, by decide⟩
set_option maxRecDepth 100000 in
theorem co_X6_tokenOf : Cond.code yX6_tokenOf cX6_tokenOf 5 (some .int) ∈ gt := gt_of 420 rfl rfl
theorem ins_X6_tokenOf : Cond.instanceMethod yX6_tokenOf ∈ gt := gt_of 419 (by decide +kernel) rfl
theorem sel_X6_tokenOf : Cond.selects (yX6_tokenOf).cls yX6_tokenOf yX6_tokenOf ∈ gt := gt_of 2 (by decide +kernel) rfl
theorem mv_X6_35 : MV RX6 35 yX6_tokenOf cX6_tokenOf 5 (some .int) 2 := ⟨Or.inl (gt_of 417 (by decide +kernel) rfl), ins_X6_tokenOf, sel_X6_tokenOf, ini_X6, co_X6_tokenOf, ⟨by decide +kernel, by decide +kernel, by decide +kernel⟩, by decide⟩
set_option maxRecDepth 100000 in
theorem co_X6_numberOf : Cond.code yX6_numberOf cX6_numberOf 5 (some .int) ∈ gt := gt_of 505 rfl rfl
theorem ins_X6_numberOf : Cond.instanceMethod yX6_numberOf ∈ gt := gt_of 504 (by decide +kernel) rfl
theorem sel_X6_numberOf : Cond.selects (yX6_numberOf).cls yX6_numberOf yX6_numberOf ∈ gt := gt_of 4 (by decide +kernel) rfl
theorem mv_X6_39 : MV RX6 39 yX6_numberOf cX6_numberOf 5 (some .int) 2 := ⟨Or.inl (gt_of 502 (by decide +kernel) rfl), ins_X6_numberOf, sel_X6_numberOf, ini_X6, co_X6_numberOf, ⟨by decide +kernel, by decide +kernel, by decide +kernel⟩, by decide⟩
set_option maxRecDepth 100000 in
theorem co_X6_isLetter : Cond.code yX6_isLetter cX6_isLetter 1 (some .boolean) ∈ gt := gt_of 413 rfl rfl
theorem sta_X6_isLetter : Cond.static yX6_isLetter ∈ gt := gt_of 412 (by decide +kernel) rfl
theorem ms_X6_42 : MS RX6 42 yX6_isLetter cX6_isLetter 1 (some .boolean) 1 := ⟨Or.inl (gt_of 411 (by decide +kernel) rfl), sta_X6_isLetter, ini_X6, co_X6_isLetter, ⟨by decide +kernel, by decide +kernel, by decide +kernel⟩, by decide⟩
set_option maxRecDepth 100000 in
theorem co_X6_isDigit : Cond.code yX6_isDigit cX6_isDigit 1 (some .boolean) ∈ gt := gt_of 416 rfl rfl
theorem sta_X6_isDigit : Cond.static yX6_isDigit ∈ gt := gt_of 415 (by decide +kernel) rfl
theorem ms_X6_46 : MS RX6 46 yX6_isDigit cX6_isDigit 1 (some .boolean) 1 := ⟨Or.inl (gt_of 414 (by decide +kernel) rfl), sta_X6_isDigit, ini_X6, co_X6_isDigit, ⟨by decide +kernel, by decide +kernel, by decide +kernel⟩, by decide⟩
set_option maxRecDepth 100000 in
theorem co_J0_indexOf_0f7a4 : Cond.code yJ0_indexOf_0f7a4 cJ0_indexOf_0f7a4 2 (some .int) ∈ gt := gt_of 425 rfl rfl
theorem ins_J0_indexOf_0f7a4 : Cond.instanceMethod yJ0_indexOf_0f7a4 ∈ gt := gt_of 423 (by decide +kernel) rfl
theorem sel_J0_indexOf_0f7a4 : Cond.selects (yJ0_indexOf_0f7a4).cls yJ0_indexOf_0f7a4 yJ0_indexOf_0f7a4 ∈ gt := gt_of 424 (by decide +kernel) rfl
theorem mv_X6_51 : MV RX6 51 yJ0_indexOf_0f7a4 cJ0_indexOf_0f7a4 2 (some .int) 1 := ⟨Or.inl (gt_of 422 (by decide +kernel) rfl), ins_J0_indexOf_0f7a4, sel_J0_indexOf_0f7a4, ini_J0, co_J0_indexOf_0f7a4, ⟨by decide +kernel, by decide +kernel, by decide +kernel⟩, by decide⟩
set_option maxRecDepth 100000 in
theorem co_X6_wordOf : Cond.code yX6_wordOf cX6_wordOf 1 (some (.object "java/lang/String")) ∈ gt := gt_of 483 rfl rfl
theorem sta_X6_wordOf : Cond.static yX6_wordOf ∈ gt := gt_of 482 (by decide +kernel) rfl
theorem ms_X6_56 : MS RX6 56 yX6_wordOf cX6_wordOf 1 (some (.object "java/lang/String")) 1 := ⟨Or.inl (gt_of 481 (by decide +kernel) rfl), sta_X6_wordOf, ini_X6, co_X6_wordOf, ⟨by decide +kernel, by decide +kernel, by decide +kernel⟩, by decide⟩
set_option maxRecDepth 100000 in
theorem co_X6_spells : Cond.code yX6_spells cX6_spells 5 (some .boolean) ∈ gt := gt_of 499 rfl rfl
theorem ins_X6_spells : Cond.instanceMethod yX6_spells ∈ gt := gt_of 498 (by decide +kernel) rfl
theorem sel_X6_spells : Cond.selects (yX6_spells).cls yX6_spells yX6_spells ∈ gt := gt_of 3 (by decide +kernel) rfl
theorem mv_X6_60 : MV RX6 60 yX6_spells cX6_spells 5 (some .boolean) 3 := ⟨Or.inl (gt_of 496 (by decide +kernel) rfl), ins_X6_spells, sel_X6_spells, ini_X6, co_X6_spells, ⟨by decide +kernel, by decide +kernel, by decide +kernel⟩, by decide⟩
theorem mv_X6_64 : MV RX6 64 yJ0_length_8abf5 cJ0_length_8abf5 1 (some .int) 0 := ⟨Or.inl (gt_of 500 (by decide +kernel) rfl), ins_J0_length_8abf5, sel_J0_length_8abf5, ini_J0, co_J0_length_8abf5, ⟨by decide +kernel, by decide +kernel, by decide +kernel⟩, by decide⟩
theorem mv_X6_68 : MV RX6 68 yJ0_charAt_5068e cJ0_charAt_5068e 2 (some .char) 1 := ⟨Or.inl (gt_of 501 (by decide +kernel) rfl), ins_J0_charAt_5068e, sel_J0_charAt_5068e, ini_J0, co_J0_charAt_5068e, ⟨by decide +kernel, by decide +kernel, by decide +kernel⟩, by decide⟩
theorem ms_X7_22 : MS RX7 22 yJ9_max_7cf53 cJ9_max_7cf53 2 (some .int) 2 := ⟨Or.inl (gt_of 677 (by decide +kernel) rfl), sta_J9_max_7cf53, ini_J9, co_J9_max_7cf53, ⟨by decide +kernel, by decide +kernel, by decide +kernel⟩, by decide⟩
set_option maxRecDepth 100000 in
theorem co_X7_joined : Cond.code yX7_joined cX7_joined 3 (some .int) ∈ gt := gt_of 680 rfl rfl
theorem sta_X7_joined : Cond.static yX7_joined ∈ gt := gt_of 679 (by decide +kernel) rfl
theorem ms_X7_28 : MS RX7 28 yX7_joined cX7_joined 3 (some .int) 3 := ⟨Or.inl (gt_of 678 (by decide +kernel) rfl), sta_X7_joined, ini_X7, co_X7_joined, ⟨by decide +kernel, by decide +kernel, by decide +kernel⟩, by decide⟩
set_option maxRecDepth 100000 in
theorem co_X8_set : Cond.code yX8_set cX8_set 8 (some .int) ∈ gt := gt_of 621 rfl rfl
theorem ins_X8_set : Cond.instanceMethod yX8_set ∈ gt := gt_of 619 (by decide +kernel) rfl
theorem sel_X8_set : Cond.selects (yX8_set).cls yX8_set yX8_set ∈ gt := gt_of 620 (by decide +kernel) rfl
theorem mv_L_13 : MV RL 13 yX8_set cX8_set 8 (some .int) 3 := ⟨Or.inl (gt_of 618 (by decide +kernel) rfl), ins_X8_set, sel_X8_set, ini_X8, co_X8_set, ⟨by decide +kernel, by decide +kernel, by decide +kernel⟩, by decide⟩
set_option maxRecDepth 100000 in
theorem co_X9_set : Cond.code yX9_set cX9_set 6 (some .int) ∈ gt := gt_of 1125 rfl rfl
theorem ins_X9_set : Cond.instanceMethod yX9_set ∈ gt := gt_of 1123 (by decide +kernel) rfl
theorem sel_X9_set : Cond.selects (yX9_set).cls yX9_set yX9_set ∈ gt := gt_of 1124 (by decide +kernel) rfl
theorem ini_X9 : Cond.initialized RX9 ∈ gt := gt_of 96 (by decide +kernel) rfl
theorem mv_L_17 : MV RL 17 yX9_set cX9_set 6 (some .int) 3 := ⟨Or.inl (gt_of 1122 (by decide +kernel) rfl), ins_X9_set, sel_X9_set, ini_X9, co_X9_set, ⟨by decide +kernel, by decide +kernel, by decide +kernel⟩, by decide⟩
theorem mv_L_18 : MV RL 18 yX8_wall cX8_wall 4 (some .int) 3 := ⟨Or.inl (gt_of 634 (by decide +kernel) rfl), ins_X8_wall, sel_X8_wall, ini_X8, co_X8_wall, ⟨by decide +kernel, by decide +kernel, by decide +kernel⟩, by decide⟩
set_option maxRecDepth 100000 in
theorem co_X9_wall : Cond.code yX9_wall cX9_wall 4 (some .int) ∈ gt := gt_of 1137 rfl rfl
theorem ins_X9_wall : Cond.instanceMethod yX9_wall ∈ gt := gt_of 1135 (by decide +kernel) rfl
theorem sel_X9_wall : Cond.selects (yX9_wall).cls yX9_wall yX9_wall ∈ gt := gt_of 1136 (by decide +kernel) rfl
theorem mv_L_21 : MV RL 21 yX9_wall cX9_wall 4 (some .int) 3 := ⟨Or.inl (gt_of 1134 (by decide +kernel) rfl), ins_X9_wall, sel_X9_wall, ini_X9, co_X9_wall, ⟨by decide +kernel, by decide +kernel, by decide +kernel⟩, by decide⟩
set_option maxRecDepth 100000 in
theorem co_X8_told : Cond.code yX8_told cX8_told 3 (some .int) ∈ gt := gt_of 648 rfl rfl
theorem ins_X8_told : Cond.instanceMethod yX8_told ∈ gt := gt_of 646 (by decide +kernel) rfl
theorem sel_X8_told : Cond.selects (yX8_told).cls yX8_told yX8_told ∈ gt := gt_of 647 (by decide +kernel) rfl
theorem mv_L_22 : MV RL 22 yX8_told cX8_told 3 (some .int) 2 := ⟨Or.inl (gt_of 645 (by decide +kernel) rfl), ins_X8_told, sel_X8_told, ini_X8, co_X8_told, ⟨by decide +kernel, by decide +kernel, by decide +kernel⟩, by decide⟩
set_option maxRecDepth 100000 in
theorem co_X9_told : Cond.code yX9_told cX9_told 3 (some .int) ∈ gt := gt_of 1144 rfl rfl
theorem ins_X9_told : Cond.instanceMethod yX9_told ∈ gt := gt_of 1142 (by decide +kernel) rfl
theorem sel_X9_told : Cond.selects (yX9_told).cls yX9_told yX9_told ∈ gt := gt_of 1143 (by decide +kernel) rfl
theorem mv_L_26 : MV RL 26 yX9_told cX9_told 3 (some .int) 2 := ⟨Or.inl (gt_of 1141 (by decide +kernel) rfl), ins_X9_told, sel_X9_told, ini_X9, co_X9_told, ⟨by decide +kernel, by decide +kernel, by decide +kernel⟩, by decide⟩
set_option maxRecDepth 100000 in
theorem co_X8_feed : Cond.code yX8_feed cX8_feed 2 (some .int) ∈ gt := gt_of 700 rfl rfl
theorem ins_X8_feed : Cond.instanceMethod yX8_feed ∈ gt := gt_of 698 (by decide +kernel) rfl
theorem sel_X8_feed : Cond.selects (yX8_feed).cls yX8_feed yX8_feed ∈ gt := gt_of 699 (by decide +kernel) rfl
theorem mv_L_27 : MV RL 27 yX8_feed cX8_feed 2 (some .int) 1 := ⟨Or.inl (gt_of 697 (by decide +kernel) rfl), ins_X8_feed, sel_X8_feed, ini_X8, co_X8_feed, ⟨by decide +kernel, by decide +kernel, by decide +kernel⟩, by decide⟩
set_option maxRecDepth 100000 in
theorem co_X9_feed : Cond.code yX9_feed cX9_feed 2 (some .int) ∈ gt := gt_of 1239 rfl rfl
theorem ins_X9_feed : Cond.instanceMethod yX9_feed ∈ gt := gt_of 1237 (by decide +kernel) rfl
theorem sel_X9_feed : Cond.selects (yX9_feed).cls yX9_feed yX9_feed ∈ gt := gt_of 1238 (by decide +kernel) rfl
theorem mv_L_31 : MV RL 31 yX9_feed cX9_feed 2 (some .int) 1 := ⟨Or.inl (gt_of 1236 (by decide +kernel) rfl), ins_X9_feed, sel_X9_feed, ini_X9, co_X9_feed, ⟨by decide +kernel, by decide +kernel, by decide +kernel⟩, by decide⟩
set_option maxRecDepth 100000 in
theorem co_X8_text : Cond.code yX8_text cX8_text 1 (some .int) ∈ gt := gt_of 704 rfl rfl
theorem ins_X8_text : Cond.instanceMethod yX8_text ∈ gt := gt_of 702 (by decide +kernel) rfl
theorem sel_X8_text : Cond.selects (yX8_text).cls yX8_text yX8_text ∈ gt := gt_of 703 (by decide +kernel) rfl
theorem mv_L_32 : MV RL 32 yX8_text cX8_text 1 (some .int) 0 := ⟨Or.inl (gt_of 701 (by decide +kernel) rfl), ins_X8_text, sel_X8_text, ini_X8, co_X8_text, ⟨by decide +kernel, by decide +kernel, by decide +kernel⟩, by decide⟩
set_option maxRecDepth 100000 in
theorem co_X9_text : Cond.code yX9_text cX9_text 2 (some .int) ∈ gt := gt_of 1244 rfl rfl
theorem ins_X9_text : Cond.instanceMethod yX9_text ∈ gt := gt_of 1242 (by decide +kernel) rfl
theorem sel_X9_text : Cond.selects (yX9_text).cls yX9_text yX9_text ∈ gt := gt_of 1243 (by decide +kernel) rfl
theorem mv_L_36 : MV RL 36 yX9_text cX9_text 2 (some .int) 0 := ⟨Or.inl (gt_of 1241 (by decide +kernel) rfl), ins_X9_text, sel_X9_text, ini_X9, co_X9_text, ⟨by decide +kernel, by decide +kernel, by decide +kernel⟩, by decide⟩
set_option maxRecDepth 100000 in
theorem co_X8_force : Cond.code yX8_force cX8_force 3 (some .int) ∈ gt := gt_of 708 rfl rfl
theorem ins_X8_force : Cond.instanceMethod yX8_force ∈ gt := gt_of 706 (by decide +kernel) rfl
theorem sel_X8_force : Cond.selects (yX8_force).cls yX8_force yX8_force ∈ gt := gt_of 707 (by decide +kernel) rfl
theorem mv_L_37 : MV RL 37 yX8_force cX8_force 3 (some .int) 1 := ⟨Or.inl (gt_of 705 (by decide +kernel) rfl), ins_X8_force, sel_X8_force, ini_X8, co_X8_force, ⟨by decide +kernel, by decide +kernel, by decide +kernel⟩, by decide⟩
set_option maxRecDepth 100000 in
theorem co_X9_force : Cond.code yX9_force cX9_force 3 (some .int) ∈ gt := gt_of 1248 rfl rfl
theorem ins_X9_force : Cond.instanceMethod yX9_force ∈ gt := gt_of 1246 (by decide +kernel) rfl
theorem sel_X9_force : Cond.selects (yX9_force).cls yX9_force yX9_force ∈ gt := gt_of 1247 (by decide +kernel) rfl
theorem mv_L_40 : MV RL 40 yX9_force cX9_force 3 (some .int) 1 := ⟨Or.inl (gt_of 1245 (by decide +kernel) rfl), ins_X9_force, sel_X9_force, ini_X9, co_X9_force, ⟨by decide +kernel, by decide +kernel, by decide +kernel⟩, by decide⟩
set_option maxRecDepth 100000 in
theorem co_X8_day : Cond.code yX8_day cX8_day 2 (some .int) ∈ gt := gt_of 712 rfl rfl
theorem ins_X8_day : Cond.instanceMethod yX8_day ∈ gt := gt_of 710 (by decide +kernel) rfl
theorem sel_X8_day : Cond.selects (yX8_day).cls yX8_day yX8_day ∈ gt := gt_of 711 (by decide +kernel) rfl
theorem mv_L_41 : MV RL 41 yX8_day cX8_day 2 (some .int) 1 := ⟨Or.inl (gt_of 709 (by decide +kernel) rfl), ins_X8_day, sel_X8_day, ini_X8, co_X8_day, ⟨by decide +kernel, by decide +kernel, by decide +kernel⟩, by decide⟩
set_option maxRecDepth 100000 in
theorem co_X9_day : Cond.code yX9_day cX9_day 2 (some .int) ∈ gt := gt_of 1252 rfl rfl
theorem ins_X9_day : Cond.instanceMethod yX9_day ∈ gt := gt_of 1250 (by decide +kernel) rfl
theorem sel_X9_day : Cond.selects (yX9_day).cls yX9_day yX9_day ∈ gt := gt_of 1251 (by decide +kernel) rfl
theorem mv_L_44 : MV RL 44 yX9_day cX9_day 2 (some .int) 1 := ⟨Or.inl (gt_of 1249 (by decide +kernel) rfl), ins_X9_day, sel_X9_day, ini_X9, co_X9_day, ⟨by decide +kernel, by decide +kernel, by decide +kernel⟩, by decide⟩
set_option maxRecDepth 100000 in
theorem co_X8_order : Cond.code yX8_order cX8_order 4 (some .int) ∈ gt := gt_of 769 rfl rfl
theorem ins_X8_order : Cond.instanceMethod yX8_order ∈ gt := gt_of 767 (by decide +kernel) rfl
theorem sel_X8_order : Cond.selects (yX8_order).cls yX8_order yX8_order ∈ gt := gt_of 768 (by decide +kernel) rfl
theorem mv_L_45 : MV RL 45 yX8_order cX8_order 4 (some .int) 2 := ⟨Or.inl (gt_of 766 (by decide +kernel) rfl), ins_X8_order, sel_X8_order, ini_X8, co_X8_order, ⟨by decide +kernel, by decide +kernel, by decide +kernel⟩, by decide⟩
set_option maxRecDepth 100000 in
theorem co_X9_order : Cond.code yX9_order cX9_order 3 (some .int) ∈ gt := gt_of 1295 rfl rfl
theorem ins_X9_order : Cond.instanceMethod yX9_order ∈ gt := gt_of 1293 (by decide +kernel) rfl
theorem sel_X9_order : Cond.selects (yX9_order).cls yX9_order yX9_order ∈ gt := gt_of 1294 (by decide +kernel) rfl
theorem mv_L_48 : MV RL 48 yX9_order cX9_order 3 (some .int) 2 := ⟨Or.inl (gt_of 1292 (by decide +kernel) rfl), ins_X9_order, sel_X9_order, ini_X9, co_X9_order, ⟨by decide +kernel, by decide +kernel, by decide +kernel⟩, by decide⟩
set_option maxRecDepth 100000 in
theorem co_X8_best : Cond.code yX8_best cX8_best 4 (some .int) ∈ gt := gt_of 785 rfl rfl
theorem ins_X8_best : Cond.instanceMethod yX8_best ∈ gt := gt_of 783 (by decide +kernel) rfl
theorem sel_X8_best : Cond.selects (yX8_best).cls yX8_best yX8_best ∈ gt := gt_of 784 (by decide +kernel) rfl
theorem mv_L_49 : MV RL 49 yX8_best cX8_best 4 (some .int) 1 := ⟨Or.inl (gt_of 782 (by decide +kernel) rfl), ins_X8_best, sel_X8_best, ini_X8, co_X8_best, ⟨by decide +kernel, by decide +kernel, by decide +kernel⟩, by decide⟩
set_option maxRecDepth 100000 in
theorem co_X9_best : Cond.code yX9_best cX9_best 2 (some .int) ∈ gt := gt_of 1307 rfl rfl
theorem ins_X9_best : Cond.instanceMethod yX9_best ∈ gt := gt_of 1305 (by decide +kernel) rfl
theorem sel_X9_best : Cond.selects (yX9_best).cls yX9_best yX9_best ∈ gt := gt_of 1306 (by decide +kernel) rfl
theorem mv_L_52 : MV RL 52 yX9_best cX9_best 2 (some .int) 1 := ⟨Or.inl (gt_of 1304 (by decide +kernel) rfl), ins_X9_best, sel_X9_best, ini_X9, co_X9_best, ⟨by decide +kernel, by decide +kernel, by decide +kernel⟩, by decide⟩
set_option maxRecDepth 100000 in
theorem co_X8_good : Cond.code yX8_good cX8_good 5 (some .int) ∈ gt := gt_of 809 rfl rfl
theorem ins_X8_good : Cond.instanceMethod yX8_good ∈ gt := gt_of 807 (by decide +kernel) rfl
theorem sel_X8_good : Cond.selects (yX8_good).cls yX8_good yX8_good ∈ gt := gt_of 808 (by decide +kernel) rfl
theorem mv_L_53 : MV RL 53 yX8_good cX8_good 5 (some .int) 2 := ⟨Or.inl (gt_of 806 (by decide +kernel) rfl), ins_X8_good, sel_X8_good, ini_X8, co_X8_good, ⟨by decide +kernel, by decide +kernel, by decide +kernel⟩, by decide⟩
set_option maxRecDepth 100000 in
theorem co_X9_good : Cond.code yX9_good cX9_good 8 (some .int) ∈ gt := gt_of 1316 rfl rfl
theorem ins_X9_good : Cond.instanceMethod yX9_good ∈ gt := gt_of 1314 (by decide +kernel) rfl
theorem sel_X9_good : Cond.selects (yX9_good).cls yX9_good yX9_good ∈ gt := gt_of 1315 (by decide +kernel) rfl
theorem mv_L_56 : MV RL 56 yX9_good cX9_good 8 (some .int) 2 := ⟨Or.inl (gt_of 1313 (by decide +kernel) rfl), ins_X9_good, sel_X9_good, ini_X9, co_X9_good, ⟨by decide +kernel, by decide +kernel, by decide +kernel⟩, by decide⟩
set_option maxRecDepth 100000 in
theorem co_X8_wetting : Cond.code yX8_wetting cX8_wetting 4 (some .int) ∈ gt := gt_of 821 rfl rfl
theorem ins_X8_wetting : Cond.instanceMethod yX8_wetting ∈ gt := gt_of 819 (by decide +kernel) rfl
theorem sel_X8_wetting : Cond.selects (yX8_wetting).cls yX8_wetting yX8_wetting ∈ gt := gt_of 820 (by decide +kernel) rfl
theorem mv_L_57 : MV RL 57 yX8_wetting cX8_wetting 4 (some .int) 2 := ⟨Or.inl (gt_of 818 (by decide +kernel) rfl), ins_X8_wetting, sel_X8_wetting, ini_X8, co_X8_wetting, ⟨by decide +kernel, by decide +kernel, by decide +kernel⟩, by decide⟩
set_option maxRecDepth 100000 in
theorem co_X9_wetting : Cond.code yX9_wetting cX9_wetting 8 (some .int) ∈ gt := gt_of 1320 rfl rfl
theorem ins_X9_wetting : Cond.instanceMethod yX9_wetting ∈ gt := gt_of 1318 (by decide +kernel) rfl
theorem sel_X9_wetting : Cond.selects (yX9_wetting).cls yX9_wetting yX9_wetting ∈ gt := gt_of 1319 (by decide +kernel) rfl
theorem mv_L_60 : MV RL 60 yX9_wetting cX9_wetting 8 (some .int) 2 := ⟨Or.inl (gt_of 1317 (by decide +kernel) rfl), ins_X9_wetting, sel_X9_wetting, ini_X9, co_X9_wetting, ⟨by decide +kernel, by decide +kernel, by decide +kernel⟩, by decide⟩
set_option maxRecDepth 100000 in
theorem co_X8_alone : Cond.code yX8_alone cX8_alone 2 (some .int) ∈ gt := gt_of 835 rfl rfl
theorem ins_X8_alone : Cond.instanceMethod yX8_alone ∈ gt := gt_of 833 (by decide +kernel) rfl
theorem sel_X8_alone : Cond.selects (yX8_alone).cls yX8_alone yX8_alone ∈ gt := gt_of 834 (by decide +kernel) rfl
theorem mv_L_61 : MV RL 61 yX8_alone cX8_alone 2 (some .int) 0 := ⟨Or.inl (gt_of 832 (by decide +kernel) rfl), ins_X8_alone, sel_X8_alone, ini_X8, co_X8_alone, ⟨by decide +kernel, by decide +kernel, by decide +kernel⟩, by decide⟩
set_option maxRecDepth 100000 in
theorem co_X9_alone : Cond.code yX9_alone cX9_alone 3 (some .int) ∈ gt := gt_of 1332 rfl rfl
theorem ins_X9_alone : Cond.instanceMethod yX9_alone ∈ gt := gt_of 1330 (by decide +kernel) rfl
theorem sel_X9_alone : Cond.selects (yX9_alone).cls yX9_alone yX9_alone ∈ gt := gt_of 1331 (by decide +kernel) rfl
theorem mv_L_64 : MV RL 64 yX9_alone cX9_alone 3 (some .int) 0 := ⟨Or.inl (gt_of 1329 (by decide +kernel) rfl), ins_X9_alone, sel_X9_alone, ini_X9, co_X9_alone, ⟨by decide +kernel, by decide +kernel, by decide +kernel⟩, by decide⟩
set_option maxRecDepth 100000 in
theorem co_X8_tooWarm : Cond.code yX8_tooWarm cX8_tooWarm 3 (some .int) ∈ gt := gt_of 839 rfl rfl
theorem ins_X8_tooWarm : Cond.instanceMethod yX8_tooWarm ∈ gt := gt_of 837 (by decide +kernel) rfl
theorem sel_X8_tooWarm : Cond.selects (yX8_tooWarm).cls yX8_tooWarm yX8_tooWarm ∈ gt := gt_of 838 (by decide +kernel) rfl
theorem mv_L_65 : MV RL 65 yX8_tooWarm cX8_tooWarm 3 (some .int) 0 := ⟨Or.inl (gt_of 836 (by decide +kernel) rfl), ins_X8_tooWarm, sel_X8_tooWarm, ini_X8, co_X8_tooWarm, ⟨by decide +kernel, by decide +kernel, by decide +kernel⟩, by decide⟩
set_option maxRecDepth 100000 in
theorem co_X9_tooWarm : Cond.code yX9_tooWarm cX9_tooWarm 3 (some .int) ∈ gt := gt_of 1336 rfl rfl
theorem ins_X9_tooWarm : Cond.instanceMethod yX9_tooWarm ∈ gt := gt_of 1334 (by decide +kernel) rfl
theorem sel_X9_tooWarm : Cond.selects (yX9_tooWarm).cls yX9_tooWarm yX9_tooWarm ∈ gt := gt_of 1335 (by decide +kernel) rfl
theorem mv_L_68 : MV RL 68 yX9_tooWarm cX9_tooWarm 3 (some .int) 0 := ⟨Or.inl (gt_of 1333 (by decide +kernel) rfl), ins_X9_tooWarm, sel_X9_tooWarm, ini_X9, co_X9_tooWarm, ⟨by decide +kernel, by decide +kernel, by decide +kernel⟩, by decide⟩
set_option maxRecDepth 100000 in
theorem co_X8_gains : Cond.code yX8_gains cX8_gains 4 (some .int) ∈ gt := gt_of 843 rfl rfl
theorem ins_X8_gains : Cond.instanceMethod yX8_gains ∈ gt := gt_of 841 (by decide +kernel) rfl
theorem sel_X8_gains : Cond.selects (yX8_gains).cls yX8_gains yX8_gains ∈ gt := gt_of 842 (by decide +kernel) rfl
theorem mv_L_69 : MV RL 69 yX8_gains cX8_gains 4 (some .int) 1 := ⟨Or.inl (gt_of 840 (by decide +kernel) rfl), ins_X8_gains, sel_X8_gains, ini_X8, co_X8_gains, ⟨by decide +kernel, by decide +kernel, by decide +kernel⟩, by decide⟩
set_option maxRecDepth 100000 in
theorem co_X9_gains : Cond.code yX9_gains cX9_gains 3 (some .int) ∈ gt := gt_of 1344 rfl rfl
theorem ins_X9_gains : Cond.instanceMethod yX9_gains ∈ gt := gt_of 1342 (by decide +kernel) rfl
theorem sel_X9_gains : Cond.selects (yX9_gains).cls yX9_gains yX9_gains ∈ gt := gt_of 1343 (by decide +kernel) rfl
theorem mv_L_72 : MV RL 72 yX9_gains cX9_gains 3 (some .int) 1 := ⟨Or.inl (gt_of 1341 (by decide +kernel) rfl), ins_X9_gains, sel_X9_gains, ini_X9, co_X9_gains, ⟨by decide +kernel, by decide +kernel, by decide +kernel⟩, by decide⟩
set_option maxRecDepth 100000 in
theorem co_X8_buckets : Cond.code yX8_buckets cX8_buckets 11 (some .int) ∈ gt := gt_of 847 rfl rfl
theorem ins_X8_buckets : Cond.instanceMethod yX8_buckets ∈ gt := gt_of 845 (by decide +kernel) rfl
theorem sel_X8_buckets : Cond.selects (yX8_buckets).cls yX8_buckets yX8_buckets ∈ gt := gt_of 846 (by decide +kernel) rfl
theorem mv_L_73 : MV RL 73 yX8_buckets cX8_buckets 11 (some .int) 2 := ⟨Or.inl (gt_of 844 (by decide +kernel) rfl), ins_X8_buckets, sel_X8_buckets, ini_X8, co_X8_buckets, ⟨by decide +kernel, by decide +kernel, by decide +kernel⟩, by decide⟩
set_option maxRecDepth 100000 in
theorem co_X9_buckets : Cond.code yX9_buckets cX9_buckets 9 (some .int) ∈ gt := gt_of 1348 rfl rfl
theorem ins_X9_buckets : Cond.instanceMethod yX9_buckets ∈ gt := gt_of 1346 (by decide +kernel) rfl
theorem sel_X9_buckets : Cond.selects (yX9_buckets).cls yX9_buckets yX9_buckets ∈ gt := gt_of 1347 (by decide +kernel) rfl
theorem mv_L_76 : MV RL 76 yX9_buckets cX9_buckets 9 (some .int) 2 := ⟨Or.inl (gt_of 1345 (by decide +kernel) rfl), ins_X9_buckets, sel_X9_buckets, ini_X9, co_X9_buckets, ⟨by decide +kernel, by decide +kernel, by decide +kernel⟩, by decide⟩
set_option maxRecDepth 100000 in
theorem co_X8_books : Cond.code yX8_books cX8_books 4 (some .int) ∈ gt := gt_of 851 rfl rfl
theorem ins_X8_books : Cond.instanceMethod yX8_books ∈ gt := gt_of 849 (by decide +kernel) rfl
theorem sel_X8_books : Cond.selects (yX8_books).cls yX8_books yX8_books ∈ gt := gt_of 850 (by decide +kernel) rfl
theorem mv_L_77 : MV RL 77 yX8_books cX8_books 4 (some .int) 2 := ⟨Or.inl (gt_of 848 (by decide +kernel) rfl), ins_X8_books, sel_X8_books, ini_X8, co_X8_books, ⟨by decide +kernel, by decide +kernel, by decide +kernel⟩, by decide⟩
set_option maxRecDepth 100000 in
theorem co_X9_books : Cond.code yX9_books cX9_books 7 (some .int) ∈ gt := gt_of 1353 rfl rfl
theorem ins_X9_books : Cond.instanceMethod yX9_books ∈ gt := gt_of 1351 (by decide +kernel) rfl
theorem sel_X9_books : Cond.selects (yX9_books).cls yX9_books yX9_books ∈ gt := gt_of 1352 (by decide +kernel) rfl
theorem mv_L_80 : MV RL 80 yX9_books cX9_books 7 (some .int) 2 := ⟨Or.inl (gt_of 1350 (by decide +kernel) rfl), ins_X9_books, sel_X9_books, ini_X9, co_X9_books, ⟨by decide +kernel, by decide +kernel, by decide +kernel⟩, by decide⟩
set_option maxRecDepth 100000 in
theorem co_X8_warms : Cond.code yX8_warms cX8_warms 3 (some .long) ∈ gt := gt_of 875 rfl rfl
theorem ins_X8_warms : Cond.instanceMethod yX8_warms ∈ gt := gt_of 873 (by decide +kernel) rfl
theorem sel_X8_warms : Cond.selects (yX8_warms).cls yX8_warms yX8_warms ∈ gt := gt_of 874 (by decide +kernel) rfl
theorem mv_L_81 : MV RL 81 yX8_warms cX8_warms 3 (some .long) 1 := ⟨Or.inl (gt_of 872 (by decide +kernel) rfl), ins_X8_warms, sel_X8_warms, ini_X8, co_X8_warms, ⟨by decide +kernel, by decide +kernel, by decide +kernel⟩, by decide⟩
set_option maxRecDepth 100000 in
theorem co_X9_warms : Cond.code yX9_warms cX9_warms 6 (some .long) ∈ gt := gt_of 1370 rfl rfl
theorem ins_X9_warms : Cond.instanceMethod yX9_warms ∈ gt := gt_of 1368 (by decide +kernel) rfl
theorem sel_X9_warms : Cond.selects (yX9_warms).cls yX9_warms yX9_warms ∈ gt := gt_of 1369 (by decide +kernel) rfl
theorem mv_L_85 : MV RL 85 yX9_warms cX9_warms 6 (some .long) 1 := ⟨Or.inl (gt_of 1367 (by decide +kernel) rfl), ins_X9_warms, sel_X9_warms, ini_X9, co_X9_warms, ⟨by decide +kernel, by decide +kernel, by decide +kernel⟩, by decide⟩
set_option maxRecDepth 100000 in
theorem co_X8_film : Cond.code yX8_film cX8_film 4 (some .int) ∈ gt := gt_of 880 rfl rfl
theorem ins_X8_film : Cond.instanceMethod yX8_film ∈ gt := gt_of 878 (by decide +kernel) rfl
theorem sel_X8_film : Cond.selects (yX8_film).cls yX8_film yX8_film ∈ gt := gt_of 879 (by decide +kernel) rfl
theorem mv_L_86 : MV RL 86 yX8_film cX8_film 4 (some .int) 1 := ⟨Or.inl (gt_of 877 (by decide +kernel) rfl), ins_X8_film, sel_X8_film, ini_X8, co_X8_film, ⟨by decide +kernel, by decide +kernel, by decide +kernel⟩, by decide⟩
set_option maxRecDepth 100000 in
theorem co_X9_film : Cond.code yX9_film cX9_film 3 (some .int) ∈ gt := gt_of 1375 rfl rfl
theorem ins_X9_film : Cond.instanceMethod yX9_film ∈ gt := gt_of 1373 (by decide +kernel) rfl
theorem sel_X9_film : Cond.selects (yX9_film).cls yX9_film yX9_film ∈ gt := gt_of 1374 (by decide +kernel) rfl
theorem mv_L_89 : MV RL 89 yX9_film cX9_film 3 (some .int) 1 := ⟨Or.inl (gt_of 1372 (by decide +kernel) rfl), ins_X9_film, sel_X9_film, ini_X9, co_X9_film, ⟨by decide +kernel, by decide +kernel, by decide +kernel⟩, by decide⟩
set_option maxRecDepth 100000 in
theorem co_X8_drawn : Cond.code yX8_drawn cX8_drawn 2 (some .int) ∈ gt := gt_of 896 rfl rfl
theorem ins_X8_drawn : Cond.instanceMethod yX8_drawn ∈ gt := gt_of 894 (by decide +kernel) rfl
theorem sel_X8_drawn : Cond.selects (yX8_drawn).cls yX8_drawn yX8_drawn ∈ gt := gt_of 895 (by decide +kernel) rfl
theorem mv_L_90 : MV RL 90 yX8_drawn cX8_drawn 2 (some .int) 1 := ⟨Or.inl (gt_of 893 (by decide +kernel) rfl), ins_X8_drawn, sel_X8_drawn, ini_X8, co_X8_drawn, ⟨by decide +kernel, by decide +kernel, by decide +kernel⟩, by decide⟩
set_option maxRecDepth 100000 in
theorem co_X9_drawn : Cond.code yX9_drawn cX9_drawn 2 (some .int) ∈ gt := gt_of 1384 rfl rfl
theorem ins_X9_drawn : Cond.instanceMethod yX9_drawn ∈ gt := gt_of 1382 (by decide +kernel) rfl
theorem sel_X9_drawn : Cond.selects (yX9_drawn).cls yX9_drawn yX9_drawn ∈ gt := gt_of 1383 (by decide +kernel) rfl
theorem mv_L_93 : MV RL 93 yX9_drawn cX9_drawn 2 (some .int) 1 := ⟨Or.inl (gt_of 1381 (by decide +kernel) rfl), ins_X9_drawn, sel_X9_drawn, ini_X9, co_X9_drawn, ⟨by decide +kernel, by decide +kernel, by decide +kernel⟩, by decide⟩
set_option maxRecDepth 100000 in
theorem co_X8_chance : Cond.code yX8_chance cX8_chance 6 (some .long) ∈ gt := gt_of 904 rfl rfl
theorem ins_X8_chance : Cond.instanceMethod yX8_chance ∈ gt := gt_of 902 (by decide +kernel) rfl
theorem sel_X8_chance : Cond.selects (yX8_chance).cls yX8_chance yX8_chance ∈ gt := gt_of 903 (by decide +kernel) rfl
theorem mv_L_94 : MV RL 94 yX8_chance cX8_chance 6 (some .long) 3 := ⟨Or.inl (gt_of 901 (by decide +kernel) rfl), ins_X8_chance, sel_X8_chance, ini_X8, co_X8_chance, ⟨by decide +kernel, by decide +kernel, by decide +kernel⟩, by decide⟩
set_option maxRecDepth 100000 in
theorem co_X9_chance : Cond.code yX9_chance cX9_chance 12 (some .long) ∈ gt := gt_of 1393 rfl rfl
theorem ins_X9_chance : Cond.instanceMethod yX9_chance ∈ gt := gt_of 1391 (by decide +kernel) rfl
theorem sel_X9_chance : Cond.selects (yX9_chance).cls yX9_chance yX9_chance ∈ gt := gt_of 1392 (by decide +kernel) rfl
theorem mv_L_98 : MV RL 98 yX9_chance cX9_chance 12 (some .long) 3 := ⟨Or.inl (gt_of 1390 (by decide +kernel) rfl), ins_X9_chance, sel_X9_chance, ini_X9, co_X9_chance, ⟨by decide +kernel, by decide +kernel, by decide +kernel⟩, by decide⟩
set_option maxRecDepth 100000 in
theorem co_X8_image : Cond.code yX8_image cX8_image 1 (some .int) ∈ gt := gt_of 911 rfl rfl
theorem ins_X8_image : Cond.instanceMethod yX8_image ∈ gt := gt_of 909 (by decide +kernel) rfl
theorem sel_X8_image : Cond.selects (yX8_image).cls yX8_image yX8_image ∈ gt := gt_of 910 (by decide +kernel) rfl
theorem mv_L_99 : MV RL 99 yX8_image cX8_image 1 (some .int) 0 := ⟨Or.inl (gt_of 908 (by decide +kernel) rfl), ins_X8_image, sel_X8_image, ini_X8, co_X8_image, ⟨by decide +kernel, by decide +kernel, by decide +kernel⟩, by decide⟩
set_option maxRecDepth 100000 in
theorem co_X9_image : Cond.code yX9_image cX9_image 2 (some .int) ∈ gt := gt_of 1397 rfl rfl
theorem ins_X9_image : Cond.instanceMethod yX9_image ∈ gt := gt_of 1395 (by decide +kernel) rfl
theorem sel_X9_image : Cond.selects (yX9_image).cls yX9_image yX9_image ∈ gt := gt_of 1396 (by decide +kernel) rfl
theorem mv_L_102 : MV RL 102 yX9_image cX9_image 2 (some .int) 0 := ⟨Or.inl (gt_of 1394 (by decide +kernel) rfl), ins_X9_image, sel_X9_image, ini_X9, co_X9_image, ⟨by decide +kernel, by decide +kernel, by decide +kernel⟩, by decide⟩
set_option maxRecDepth 100000 in
theorem co_X8_back : Cond.code yX8_back cX8_back 1 (some .int) ∈ gt := gt_of 915 rfl rfl
theorem ins_X8_back : Cond.instanceMethod yX8_back ∈ gt := gt_of 913 (by decide +kernel) rfl
theorem sel_X8_back : Cond.selects (yX8_back).cls yX8_back yX8_back ∈ gt := gt_of 914 (by decide +kernel) rfl
theorem mv_L_103 : MV RL 103 yX8_back cX8_back 1 (some .int) 0 := ⟨Or.inl (gt_of 912 (by decide +kernel) rfl), ins_X8_back, sel_X8_back, ini_X8, co_X8_back, ⟨by decide +kernel, by decide +kernel, by decide +kernel⟩, by decide⟩
set_option maxRecDepth 100000 in
theorem co_X9_back : Cond.code yX9_back cX9_back 2 (some .int) ∈ gt := gt_of 1401 rfl rfl
theorem ins_X9_back : Cond.instanceMethod yX9_back ∈ gt := gt_of 1399 (by decide +kernel) rfl
theorem sel_X9_back : Cond.selects (yX9_back).cls yX9_back yX9_back ∈ gt := gt_of 1400 (by decide +kernel) rfl
theorem mv_L_106 : MV RL 106 yX9_back cX9_back 2 (some .int) 0 := ⟨Or.inl (gt_of 1398 (by decide +kernel) rfl), ins_X9_back, sel_X9_back, ini_X9, co_X9_back, ⟨by decide +kernel, by decide +kernel, by decide +kernel⟩, by decide⟩
set_option maxRecDepth 100000 in
theorem co_X8_count : Cond.code yX8_count cX8_count 2 (some .int) ∈ gt := gt_of 919 rfl rfl
theorem ins_X8_count : Cond.instanceMethod yX8_count ∈ gt := gt_of 917 (by decide +kernel) rfl
theorem sel_X8_count : Cond.selects (yX8_count).cls yX8_count yX8_count ∈ gt := gt_of 918 (by decide +kernel) rfl
theorem mv_L_107 : MV RL 107 yX8_count cX8_count 2 (some .int) 1 := ⟨Or.inl (gt_of 916 (by decide +kernel) rfl), ins_X8_count, sel_X8_count, ini_X8, co_X8_count, ⟨by decide +kernel, by decide +kernel, by decide +kernel⟩, by decide⟩
set_option maxRecDepth 100000 in
theorem co_X9_count : Cond.code yX9_count cX9_count 2 (some .int) ∈ gt := gt_of 1405 rfl rfl
theorem ins_X9_count : Cond.instanceMethod yX9_count ∈ gt := gt_of 1403 (by decide +kernel) rfl
theorem sel_X9_count : Cond.selects (yX9_count).cls yX9_count yX9_count ∈ gt := gt_of 1404 (by decide +kernel) rfl
theorem mv_L_110 : MV RL 110 yX9_count cX9_count 2 (some .int) 1 := ⟨Or.inl (gt_of 1402 (by decide +kernel) rfl), ins_X9_count, sel_X9_count, ini_X9, co_X9_count, ⟨by decide +kernel, by decide +kernel, by decide +kernel⟩, by decide⟩
set_option maxRecDepth 100000 in
theorem co_X8_sheet : Cond.code yX8_sheet cX8_sheet 5 (some .int) ∈ gt := gt_of 923 rfl rfl
theorem ins_X8_sheet : Cond.instanceMethod yX8_sheet ∈ gt := gt_of 921 (by decide +kernel) rfl
theorem sel_X8_sheet : Cond.selects (yX8_sheet).cls yX8_sheet yX8_sheet ∈ gt := gt_of 922 (by decide +kernel) rfl
theorem mv_L_111 : MV RL 111 yX8_sheet cX8_sheet 5 (some .int) 3 := ⟨Or.inl (gt_of 920 (by decide +kernel) rfl), ins_X8_sheet, sel_X8_sheet, ini_X8, co_X8_sheet, ⟨by decide +kernel, by decide +kernel, by decide +kernel⟩, by decide⟩
set_option maxRecDepth 100000 in
theorem co_X9_sheet : Cond.code yX9_sheet cX9_sheet 5 (some .int) ∈ gt := gt_of 1379 rfl rfl
theorem ins_X9_sheet : Cond.instanceMethod yX9_sheet ∈ gt := gt_of 1377 (by decide +kernel) rfl
theorem sel_X9_sheet : Cond.selects (yX9_sheet).cls yX9_sheet yX9_sheet ∈ gt := gt_of 1378 (by decide +kernel) rfl
theorem mv_L_114 : MV RL 114 yX9_sheet cX9_sheet 5 (some .int) 3 := ⟨Or.inl (gt_of 1406 (by decide +kernel) rfl), ins_X9_sheet, sel_X9_sheet, ini_X9, co_X9_sheet, ⟨by decide +kernel, by decide +kernel, by decide +kernel⟩, by decide⟩
set_option maxRecDepth 100000 in
theorem co_X8_cell : Cond.code yX8_cell cX8_cell 5 (some .int) ∈ gt := gt_of 927 rfl rfl
theorem ins_X8_cell : Cond.instanceMethod yX8_cell ∈ gt := gt_of 925 (by decide +kernel) rfl
theorem sel_X8_cell : Cond.selects (yX8_cell).cls yX8_cell yX8_cell ∈ gt := gt_of 926 (by decide +kernel) rfl
theorem mv_L_115 : MV RL 115 yX8_cell cX8_cell 5 (some .int) 3 := ⟨Or.inl (gt_of 924 (by decide +kernel) rfl), ins_X8_cell, sel_X8_cell, ini_X8, co_X8_cell, ⟨by decide +kernel, by decide +kernel, by decide +kernel⟩, by decide⟩
set_option maxRecDepth 100000 in
theorem co_X9_cell : Cond.code yX9_cell cX9_cell 4 (some .int) ∈ gt := gt_of 1410 rfl rfl
theorem ins_X9_cell : Cond.instanceMethod yX9_cell ∈ gt := gt_of 1408 (by decide +kernel) rfl
theorem sel_X9_cell : Cond.selects (yX9_cell).cls yX9_cell yX9_cell ∈ gt := gt_of 1409 (by decide +kernel) rfl
theorem mv_L_118 : MV RL 118 yX9_cell cX9_cell 4 (some .int) 3 := ⟨Or.inl (gt_of 1407 (by decide +kernel) rfl), ins_X9_cell, sel_X9_cell, ini_X9, co_X9_cell, ⟨by decide +kernel, by decide +kernel, by decide +kernel⟩, by decide⟩
set_option maxRecDepth 100000 in
theorem co_X8_copy : Cond.code yX8_copy cX8_copy 8 (some .int) ∈ gt := gt_of 932 rfl rfl
theorem ins_X8_copy : Cond.instanceMethod yX8_copy ∈ gt := gt_of 930 (by decide +kernel) rfl
theorem sel_X8_copy : Cond.selects (yX8_copy).cls yX8_copy yX8_copy ∈ gt := gt_of 931 (by decide +kernel) rfl
theorem mv_L_119 : MV RL 119 yX8_copy cX8_copy 8 (some .int) 5 := ⟨Or.inl (gt_of 929 (by decide +kernel) rfl), ins_X8_copy, sel_X8_copy, ini_X8, co_X8_copy, ⟨by decide +kernel, by decide +kernel, by decide +kernel⟩, by decide⟩
set_option maxRecDepth 100000 in
theorem co_X9_copy : Cond.code yX9_copy cX9_copy 9 (some .int) ∈ gt := gt_of 1414 rfl rfl
theorem ins_X9_copy : Cond.instanceMethod yX9_copy ∈ gt := gt_of 1412 (by decide +kernel) rfl
theorem sel_X9_copy : Cond.selects (yX9_copy).cls yX9_copy yX9_copy ∈ gt := gt_of 1413 (by decide +kernel) rfl
theorem mv_L_123 : MV RL 123 yX9_copy cX9_copy 9 (some .int) 5 := ⟨Or.inl (gt_of 1411 (by decide +kernel) rfl), ins_X9_copy, sel_X9_copy, ini_X9, co_X9_copy, ⟨by decide +kernel, by decide +kernel, by decide +kernel⟩, by decide⟩
set_option maxRecDepth 100000 in
theorem co_X8_walls : Cond.code yX8_walls cX8_walls 9 (some .int) ∈ gt := gt_of 943 rfl rfl
theorem ins_X8_walls : Cond.instanceMethod yX8_walls ∈ gt := gt_of 941 (by decide +kernel) rfl
theorem sel_X8_walls : Cond.selects (yX8_walls).cls yX8_walls yX8_walls ∈ gt := gt_of 942 (by decide +kernel) rfl
theorem mv_L_124 : MV RL 124 yX8_walls cX8_walls 9 (some .int) 4 := ⟨Or.inl (gt_of 940 (by decide +kernel) rfl), ins_X8_walls, sel_X8_walls, ini_X8, co_X8_walls, ⟨by decide +kernel, by decide +kernel, by decide +kernel⟩, by decide⟩
set_option maxRecDepth 100000 in
theorem co_X9_walls : Cond.code yX9_walls cX9_walls 8 (some .int) ∈ gt := gt_of 1418 rfl rfl
theorem ins_X9_walls : Cond.instanceMethod yX9_walls ∈ gt := gt_of 1416 (by decide +kernel) rfl
theorem sel_X9_walls : Cond.selects (yX9_walls).cls yX9_walls yX9_walls ∈ gt := gt_of 1417 (by decide +kernel) rfl
theorem mv_L_128 : MV RL 128 yX9_walls cX9_walls 8 (some .int) 4 := ⟨Or.inl (gt_of 1415 (by decide +kernel) rfl), ins_X9_walls, sel_X9_walls, ini_X9, co_X9_walls, ⟨by decide +kernel, by decide +kernel, by decide +kernel⟩, by decide⟩
set_option maxRecDepth 100000 in
theorem co_X8_taken : Cond.code yX8_taken cX8_taken 3 (some .int) ∈ gt := gt_of 948 rfl rfl
theorem ins_X8_taken : Cond.instanceMethod yX8_taken ∈ gt := gt_of 946 (by decide +kernel) rfl
theorem sel_X8_taken : Cond.selects (yX8_taken).cls yX8_taken yX8_taken ∈ gt := gt_of 947 (by decide +kernel) rfl
theorem mv_L_129 : MV RL 129 yX8_taken cX8_taken 3 (some .int) 2 := ⟨Or.inl (gt_of 945 (by decide +kernel) rfl), ins_X8_taken, sel_X8_taken, ini_X8, co_X8_taken, ⟨by decide +kernel, by decide +kernel, by decide +kernel⟩, by decide⟩
set_option maxRecDepth 100000 in
theorem co_X9_taken : Cond.code yX9_taken cX9_taken 4 (some .int) ∈ gt := gt_of 1423 rfl rfl
theorem ins_X9_taken : Cond.instanceMethod yX9_taken ∈ gt := gt_of 1421 (by decide +kernel) rfl
theorem sel_X9_taken : Cond.selects (yX9_taken).cls yX9_taken yX9_taken ∈ gt := gt_of 1422 (by decide +kernel) rfl
theorem mv_L_132 : MV RL 132 yX9_taken cX9_taken 4 (some .int) 2 := ⟨Or.inl (gt_of 1420 (by decide +kernel) rfl), ins_X9_taken, sel_X9_taken, ini_X9, co_X9_taken, ⟨by decide +kernel, by decide +kernel, by decide +kernel⟩, by decide⟩
set_option maxRecDepth 100000 in
theorem co_X9_spell : Cond.code yX9_spell cX9_spell 10 none ∈ gt := gt_of 961 rfl rfl
theorem ins_X9_spell : Cond.instanceMethod yX9_spell ∈ gt := gt_of 960 (by decide +kernel) rfl
theorem sel_X9_spell : Cond.selects (yX9_spell).cls yX9_spell yX9_spell ∈ gt := gt_of 42 (by decide +kernel) rfl
theorem mv_X9_84 : MV RX9 84 yX9_spell cX9_spell 10 none 9 := ⟨Or.inl (gt_of 958 (by decide +kernel) rfl), ins_X9_spell, sel_X9_spell, ini_X9, co_X9_spell, ⟨by decide +kernel, by decide +kernel, by decide +kernel⟩, by decide⟩
set_option maxRecDepth 100000 in
theorem co_X9_in : Cond.code yX9_in cX9_in 6 (some .boolean) ∈ gt := gt_of 1129 rfl rfl
theorem sta_X9_in : Cond.static yX9_in ∈ gt := gt_of 1128 (by decide +kernel) rfl
theorem ms_X9_94 : MS RX9 94 yX9_in cX9_in 6 (some .boolean) 3 := ⟨Or.inl (gt_of 1127 (by decide +kernel) rfl), sta_X9_in, ini_X9, co_X9_in, ⟨by decide +kernel, by decide +kernel, by decide +kernel⟩, by decide⟩
set_option maxRecDepth 100000 in
theorem co_X9_isWall : Cond.code yX9_isWall cX9_isWall 2 (some .boolean) ∈ gt := gt_of 1133 rfl rfl
theorem ins_X9_isWall : Cond.instanceMethod yX9_isWall ∈ gt := gt_of 1132 (by decide +kernel) rfl
theorem sel_X9_isWall : Cond.selects (yX9_isWall).cls yX9_isWall yX9_isWall ∈ gt := gt_of 43 (by decide +kernel) rfl
theorem mv_X9_100 : MV RX9 100 yX9_isWall cX9_isWall 2 (some .boolean) 1 := ⟨Or.inl (gt_of 1130 (by decide +kernel) rfl), ins_X9_isWall, sel_X9_isWall, ini_X9, co_X9_isWall, ⟨by decide +kernel, by decide +kernel, by decide +kernel⟩, by decide⟩
set_option maxRecDepth 100000 in
theorem co_X9_ripensOf : Cond.code yX9_ripensOf cX9_ripensOf 6 (some .int) ∈ gt := gt_of 1149 rfl rfl
theorem ins_X9_ripensOf : Cond.instanceMethod yX9_ripensOf ∈ gt := gt_of 1148 (by decide +kernel) rfl
theorem sel_X9_ripensOf : Cond.selects (yX9_ripensOf).cls yX9_ripensOf yX9_ripensOf ∈ gt := gt_of 44 (by decide +kernel) rfl
theorem mv_X9_112 : MV RX9 112 yX9_ripensOf cX9_ripensOf 6 (some .int) 1 := ⟨Or.inl (gt_of 1146 (by decide +kernel) rfl), ins_X9_ripensOf, sel_X9_ripensOf, ini_X9, co_X9_ripensOf, ⟨by decide +kernel, by decide +kernel, by decide +kernel⟩, by decide⟩
set_option maxRecDepth 100000 in
theorem co_X9_lastsOf : Cond.code yX9_lastsOf cX9_lastsOf 5 (some .int) ∈ gt := gt_of 1231 rfl rfl
theorem ins_X9_lastsOf : Cond.instanceMethod yX9_lastsOf ∈ gt := gt_of 1230 (by decide +kernel) rfl
theorem sel_X9_lastsOf : Cond.selects (yX9_lastsOf).cls yX9_lastsOf yX9_lastsOf ∈ gt := gt_of 62 (by decide +kernel) rfl
theorem mv_X9_116 : MV RX9 116 yX9_lastsOf cX9_lastsOf 5 (some .int) 1 := ⟨Or.inl (gt_of 1228 (by decide +kernel) rfl), ins_X9_lastsOf, sel_X9_lastsOf, ini_X9, co_X9_lastsOf, ⟨by decide +kernel, by decide +kernel, by decide +kernel⟩, by decide⟩
set_option maxRecDepth 100000 in
theorem co_X9_takesOf : Cond.code yX9_takesOf cX9_takesOf 5 (some .int) ∈ gt := gt_of 1235 rfl rfl
theorem ins_X9_takesOf : Cond.instanceMethod yX9_takesOf ∈ gt := gt_of 1234 (by decide +kernel) rfl
theorem sel_X9_takesOf : Cond.selects (yX9_takesOf).cls yX9_takesOf yX9_takesOf ∈ gt := gt_of 63 (by decide +kernel) rfl
theorem mv_X9_119 : MV RX9 119 yX9_takesOf cX9_takesOf 5 (some .int) 1 := ⟨Or.inl (gt_of 1232 (by decide +kernel) rfl), ins_X9_takesOf, sel_X9_takesOf, ini_X9, co_X9_takesOf, ⟨by decide +kernel, by decide +kernel, by decide +kernel⟩, by decide⟩
set_option maxRecDepth 100000 in
theorem co_X9_byteAt : Cond.code yX9_byteAt cX9_byteAt 2 (some .int) ∈ gt := gt_of 1165 rfl rfl
theorem ins_X9_byteAt : Cond.instanceMethod yX9_byteAt ∈ gt := gt_of 1164 (by decide +kernel) rfl
theorem sel_X9_byteAt : Cond.selects (yX9_byteAt).cls yX9_byteAt yX9_byteAt ∈ gt := gt_of 48 (by decide +kernel) rfl
theorem mv_X9_136 : MV RX9 136 yX9_byteAt cX9_byteAt 2 (some .int) 1 := ⟨Or.inl (gt_of 1162 (by decide +kernel) rfl), ins_X9_byteAt, sel_X9_byteAt, ini_X9, co_X9_byteAt, ⟨by decide +kernel, by decide +kernel, by decide +kernel⟩, by decide⟩
set_option maxRecDepth 100000 in
theorem co_X9_isLetter : Cond.code yX9_isLetter cX9_isLetter 3 (some .boolean) ∈ gt := gt_of 1178 rfl rfl
theorem ins_X9_isLetter : Cond.instanceMethod yX9_isLetter ∈ gt := gt_of 1177 (by decide +kernel) rfl
theorem sel_X9_isLetter : Cond.selects (yX9_isLetter).cls yX9_isLetter yX9_isLetter ∈ gt := gt_of 50 (by decide +kernel) rfl
theorem mv_X9_166 : MV RX9 166 yX9_isLetter cX9_isLetter 3 (some .boolean) 2 := ⟨Or.inl (gt_of 1175 (by decide +kernel) rfl), ins_X9_isLetter, sel_X9_isLetter, ini_X9, co_X9_isLetter, ⟨by decide +kernel, by decide +kernel, by decide +kernel⟩, by decide⟩
set_option maxRecDepth 100000 in
theorem co_X9_fail : Cond.code yX9_fail cX9_fail 1 none ∈ gt := gt_of 1186 rfl rfl
theorem ins_X9_fail : Cond.instanceMethod yX9_fail ∈ gt := gt_of 1185 (by decide +kernel) rfl
theorem sel_X9_fail : Cond.selects (yX9_fail).cls yX9_fail yX9_fail ∈ gt := gt_of 52 (by decide +kernel) rfl
theorem mv_X9_173 : MV RX9 173 yX9_fail cX9_fail 1 none 0 := ⟨Or.inl (gt_of 1183 (by decide +kernel) rfl), ins_X9_fail, sel_X9_fail, ini_X9, co_X9_fail, ⟨by decide +kernel, by decide +kernel, by decide +kernel⟩, by decide⟩
set_option maxRecDepth 100000 in
theorem co_X9_next : Cond.code yX9_next cX9_next 3 none ∈ gt := gt_of 1161 rfl rfl
theorem ins_X9_next : Cond.instanceMethod yX9_next ∈ gt := gt_of 1160 (by decide +kernel) rfl
theorem sel_X9_next : Cond.selects (yX9_next).cls yX9_next yX9_next ∈ gt := gt_of 47 (by decide +kernel) rfl
theorem mv_X9_176 : MV RX9 176 yX9_next cX9_next 3 none 0 := ⟨Or.inl (gt_of 1158 (by decide +kernel) rfl), ins_X9_next, sel_X9_next, ini_X9, co_X9_next, ⟨by decide +kernel, by decide +kernel, by decide +kernel⟩, by decide⟩
set_option maxRecDepth 100000 in
theorem co_X9_isWord : Cond.code yX9_isWord cX9_isWord 9 (some .boolean) ∈ gt := gt_of 1174 rfl rfl
theorem ins_X9_isWord : Cond.instanceMethod yX9_isWord ∈ gt := gt_of 1173 (by decide +kernel) rfl
theorem sel_X9_isWord : Cond.selects (yX9_isWord).cls yX9_isWord yX9_isWord ∈ gt := gt_of 49 (by decide +kernel) rfl
theorem mv_X9_179 : MV RX9 179 yX9_isWord cX9_isWord 9 (some .boolean) 8 := ⟨Or.inl (gt_of 1171 (by decide +kernel) rfl), ins_X9_isWord, sel_X9_isWord, ini_X9, co_X9_isWord, ⟨by decide +kernel, by decide +kernel, by decide +kernel⟩, by decide⟩
set_option maxRecDepth 100000 in
theorem co_X9_isSign : Cond.code yX9_isSign cX9_isSign 2 (some .boolean) ∈ gt := gt_of 1218 rfl rfl
theorem ins_X9_isSign : Cond.instanceMethod yX9_isSign ∈ gt := gt_of 1217 (by decide +kernel) rfl
theorem sel_X9_isSign : Cond.selects (yX9_isSign).cls yX9_isSign yX9_isSign ∈ gt := gt_of 60 (by decide +kernel) rfl
theorem mv_X9_201 : MV RX9 201 yX9_isSign cX9_isSign 2 (some .boolean) 1 := ⟨Or.inl (gt_of 1215 (by decide +kernel) rfl), ins_X9_isSign, sel_X9_isSign, ini_X9, co_X9_isSign, ⟨by decide +kernel, by decide +kernel, by decide +kernel⟩, by decide⟩
set_option maxRecDepth 100000 in
theorem co_X9_opens : Cond.code yX9_opens cX9_opens 1 (some .boolean) ∈ gt := gt_of 1202 rfl rfl
theorem ins_X9_opens : Cond.instanceMethod yX9_opens ∈ gt := gt_of 1201 (by decide +kernel) rfl
theorem sel_X9_opens : Cond.selects (yX9_opens).cls yX9_opens yX9_opens ∈ gt := gt_of 56 (by decide +kernel) rfl
theorem mv_X9_204 : MV RX9 204 yX9_opens cX9_opens 1 (some .boolean) 0 := ⟨Or.inl (gt_of 1199 (by decide +kernel) rfl), ins_X9_opens, sel_X9_opens, ini_X9, co_X9_opens, ⟨by decide +kernel, by decide +kernel, by decide +kernel⟩, by decide⟩
set_option maxRecDepth 100000 in
theorem co_X9_atom : Cond.code yX9_atom cX9_atom 2 (some .int) ∈ gt := gt_of 1214 rfl rfl
theorem ins_X9_atom : Cond.instanceMethod yX9_atom ∈ gt := gt_of 1213 (by decide +kernel) rfl
theorem sel_X9_atom : Cond.selects (yX9_atom).cls yX9_atom yX9_atom ∈ gt := gt_of 59 (by decide +kernel) rfl
theorem mv_X9_208 : MV RX9 208 yX9_atom cX9_atom 2 (some .int) 0 := ⟨Or.inl (gt_of 1211 (by decide +kernel) rfl), ins_X9_atom, sel_X9_atom, ini_X9, co_X9_atom, ⟨by decide +kernel, by decide +kernel, by decide +kernel⟩, by decide⟩
set_option maxRecDepth 100000 in
theorem co_X9_either : Cond.code yX9_either cX9_either 3 (some .int) ∈ gt := gt_of 1190 rfl rfl
theorem ins_X9_either : Cond.instanceMethod yX9_either ∈ gt := gt_of 1189 (by decide +kernel) rfl
theorem sel_X9_either : Cond.selects (yX9_either).cls yX9_either yX9_either ∈ gt := gt_of 53 (by decide +kernel) rfl
theorem mv_X9_212 : MV RX9 212 yX9_either cX9_either 3 (some .int) 0 := ⟨Or.inl (gt_of 1187 (by decide +kernel) rfl), ins_X9_either, sel_X9_either, ini_X9, co_X9_either, ⟨by decide +kernel, by decide +kernel, by decide +kernel⟩, by decide⟩
set_option maxRecDepth 100000 in
theorem co_X9_name : Cond.code yX9_name cX9_name 1 (some .int) ∈ gt := gt_of 1222 rfl rfl
theorem ins_X9_name : Cond.instanceMethod yX9_name ∈ gt := gt_of 1221 (by decide +kernel) rfl
theorem sel_X9_name : Cond.selects (yX9_name).cls yX9_name yX9_name ∈ gt := gt_of 61 (by decide +kernel) rfl
theorem mv_X9_215 : MV RX9 215 yX9_name cX9_name 1 (some .int) 0 := ⟨Or.inl (gt_of 1219 (by decide +kernel) rfl), ins_X9_name, sel_X9_name, ini_X9, co_X9_name, ⟨by decide +kernel, by decide +kernel, by decide +kernel⟩, by decide⟩
set_option maxRecDepth 100000 in
theorem co_X9_term : Cond.code yX9_term cX9_term 2 (some .int) ∈ gt := gt_of 1210 rfl rfl
theorem ins_X9_term : Cond.instanceMethod yX9_term ∈ gt := gt_of 1209 (by decide +kernel) rfl
theorem sel_X9_term : Cond.selects (yX9_term).cls yX9_term yX9_term ∈ gt := gt_of 58 (by decide +kernel) rfl
theorem mv_X9_218 : MV RX9 218 yX9_term cX9_term 2 (some .int) 0 := ⟨Or.inl (gt_of 1207 (by decide +kernel) rfl), ins_X9_term, sel_X9_term, ini_X9, co_X9_term, ⟨by decide +kernel, by decide +kernel, by decide +kernel⟩, by decide⟩
set_option maxRecDepth 100000 in
theorem co_X9_not : Cond.code yX9_not cX9_not 4 (some .int) ∈ gt := gt_of 1198 rfl rfl
theorem ins_X9_not : Cond.instanceMethod yX9_not ∈ gt := gt_of 1197 (by decide +kernel) rfl
theorem sel_X9_not : Cond.selects (yX9_not).cls yX9_not yX9_not ∈ gt := gt_of 55 (by decide +kernel) rfl
theorem mv_X9_223 : MV RX9 223 yX9_not cX9_not 4 (some .int) 0 := ⟨Or.inl (gt_of 1195 (by decide +kernel) rfl), ins_X9_not, sel_X9_not, ini_X9, co_X9_not, ⟨by decide +kernel, by decide +kernel, by decide +kernel⟩, by decide⟩
set_option maxRecDepth 100000 in
theorem co_X9_added : Cond.code yX9_added cX9_added 4 (some .int) ∈ gt := gt_of 1206 rfl rfl
theorem ins_X9_added : Cond.instanceMethod yX9_added ∈ gt := gt_of 1205 (by decide +kernel) rfl
theorem sel_X9_added : Cond.selects (yX9_added).cls yX9_added yX9_added ∈ gt := gt_of 57 (by decide +kernel) rfl
theorem mv_X9_226 : MV RX9 226 yX9_added cX9_added 4 (some .int) 0 := ⟨Or.inl (gt_of 1203 (by decide +kernel) rfl), ins_X9_added, sel_X9_added, ini_X9, co_X9_added, ⟨by decide +kernel, by decide +kernel, by decide +kernel⟩, by decide⟩
set_option maxRecDepth 100000 in
theorem co_X9_both : Cond.code yX9_both cX9_both 3 (some .int) ∈ gt := gt_of 1194 rfl rfl
theorem ins_X9_both : Cond.instanceMethod yX9_both ∈ gt := gt_of 1193 (by decide +kernel) rfl
theorem sel_X9_both : Cond.selects (yX9_both).cls yX9_both yX9_both ∈ gt := gt_of 54 (by decide +kernel) rfl
theorem mv_X9_231 : MV RX9 231 yX9_both cX9_both 3 (some .int) 0 := ⟨Or.inl (gt_of 1191 (by decide +kernel) rfl), ins_X9_both, sel_X9_both, ini_X9, co_X9_both, ⟨by decide +kernel, by decide +kernel, by decide +kernel⟩, by decide⟩
set_option maxRecDepth 100000 in
theorem co_X9_part : Cond.code yX9_part cX9_part 3 (some .int) ∈ gt := gt_of 1182 rfl rfl
theorem ins_X9_part : Cond.instanceMethod yX9_part ∈ gt := gt_of 1181 (by decide +kernel) rfl
theorem sel_X9_part : Cond.selects (yX9_part).cls yX9_part yX9_part ∈ gt := gt_of 51 (by decide +kernel) rfl
theorem mv_X9_234 : MV RX9 234 yX9_part cX9_part 3 (some .int) 1 := ⟨Or.inl (gt_of 1179 (by decide +kernel) rfl), ins_X9_part, sel_X9_part, ini_X9, co_X9_part, ⟨by decide +kernel, by decide +kernel, by decide +kernel⟩, by decide⟩
set_option maxRecDepth 100000 in
theorem co_X9_read : Cond.code yX9_read cX9_read 6 (some .int) ∈ gt := gt_of 1157 rfl rfl
theorem ins_X9_read : Cond.instanceMethod yX9_read ∈ gt := gt_of 1156 (by decide +kernel) rfl
theorem sel_X9_read : Cond.selects (yX9_read).cls yX9_read yX9_read ∈ gt := gt_of 46 (by decide +kernel) rfl
theorem mv_X9_238 : MV RX9 238 yX9_read cX9_read 6 (some .int) 2 := ⟨Or.inl (gt_of 1154 (by decide +kernel) rfl), ins_X9_read, sel_X9_read, ini_X9, co_X9_read, ⟨by decide +kernel, by decide +kernel, by decide +kernel⟩, by decide⟩
set_option maxRecDepth 100000 in
theorem co_X9_within : Cond.code yX9_within cX9_within 3 (some .int) ∈ gt := gt_of 1227 rfl rfl
theorem sta_X9_within : Cond.static yX9_within ∈ gt := gt_of 1226 (by decide +kernel) rfl
theorem ms_X9_245 : MS RX9 245 yX9_within cX9_within 3 (some .int) 3 := ⟨Or.inl (gt_of 1225 (by decide +kernel) rfl), sta_X9_within, ini_X9, co_X9_within, ⟨by decide +kernel, by decide +kernel, by decide +kernel⟩, by decide⟩
set_option maxRecDepth 100000 in
theorem co_X9_says : Cond.code yX9_says cX9_says 6 (some .int) ∈ gt := gt_of 1153 rfl rfl
theorem ins_X9_says : Cond.instanceMethod yX9_says ∈ gt := gt_of 1152 (by decide +kernel) rfl
theorem sel_X9_says : Cond.selects (yX9_says).cls yX9_says yX9_says ∈ gt := gt_of 45 (by decide +kernel) rfl
theorem mv_X9_249 : MV RX9 249 yX9_says cX9_says 6 (some .int) 5 := ⟨Or.inl (gt_of 1150 (by decide +kernel) rfl), ins_X9_says, sel_X9_says, ini_X9, co_X9_says, ⟨by decide +kernel, by decide +kernel, by decide +kernel⟩, by decide⟩
set_option maxRecDepth 100000 in
theorem co_X9_toTrowel : Cond.code yX9_toTrowel cX9_toTrowel 5 (some .int) ∈ gt := gt_of 1275 rfl rfl
theorem ins_X9_toTrowel : Cond.instanceMethod yX9_toTrowel ∈ gt := gt_of 1274 (by decide +kernel) rfl
theorem sel_X9_toTrowel : Cond.selects (yX9_toTrowel).cls yX9_toTrowel yX9_toTrowel ∈ gt := gt_of 68 (by decide +kernel) rfl
theorem mv_X9_270 : MV RX9 270 yX9_toTrowel cX9_toTrowel 5 (some .int) 0 := ⟨Or.inl (gt_of 1272 (by decide +kernel) rfl), ins_X9_toTrowel, sel_X9_toTrowel, ini_X9, co_X9_toTrowel, ⟨by decide +kernel, by decide +kernel, by decide +kernel⟩, by decide⟩
set_option maxRecDepth 100000 in
theorem co_X9_trowels : Cond.code yX9_trowels cX9_trowels 4 none ∈ gt := gt_of 1279 rfl rfl
theorem ins_X9_trowels : Cond.instanceMethod yX9_trowels ∈ gt := gt_of 1278 (by decide +kernel) rfl
theorem sel_X9_trowels : Cond.selects (yX9_trowels).cls yX9_trowels yX9_trowels ∈ gt := gt_of 69 (by decide +kernel) rfl
theorem mv_X9_273 : MV RX9 273 yX9_trowels cX9_trowels 4 none 1 := ⟨Or.inl (gt_of 1276 (by decide +kernel) rfl), ins_X9_trowels, sel_X9_trowels, ini_X9, co_X9_trowels, ⟨by decide +kernel, by decide +kernel, by decide +kernel⟩, by decide⟩
set_option maxRecDepth 100000 in
theorem co_X9_begins : Cond.code yX9_begins cX9_begins 2 none ∈ gt := gt_of 1283 rfl rfl
theorem ins_X9_begins : Cond.instanceMethod yX9_begins ∈ gt := gt_of 1282 (by decide +kernel) rfl
theorem sel_X9_begins : Cond.selects (yX9_begins).cls yX9_begins yX9_begins ∈ gt := gt_of 70 (by decide +kernel) rfl
theorem mv_X9_277 : MV RX9 277 yX9_begins cX9_begins 2 none 1 := ⟨Or.inl (gt_of 1280 (by decide +kernel) rfl), ins_X9_begins, sel_X9_begins, ini_X9, co_X9_begins, ⟨by decide +kernel, by decide +kernel, by decide +kernel⟩, by decide⟩
set_option maxRecDepth 100000 in
theorem co_X9_gathers : Cond.code yX9_gathers cX9_gathers 3 none ∈ gt := gt_of 1267 rfl rfl
theorem ins_X9_gathers : Cond.instanceMethod yX9_gathers ∈ gt := gt_of 1266 (by decide +kernel) rfl
theorem sel_X9_gathers : Cond.selects (yX9_gathers).cls yX9_gathers yX9_gathers ∈ gt := gt_of 66 (by decide +kernel) rfl
theorem mv_X9_280 : MV RX9 280 yX9_gathers cX9_gathers 3 none 0 := ⟨Or.inl (gt_of 1264 (by decide +kernel) rfl), ins_X9_gathers, sel_X9_gathers, ini_X9, co_X9_gathers, ⟨by decide +kernel, by decide +kernel, by decide +kernel⟩, by decide⟩
set_option maxRecDepth 100000 in
theorem co_X9_lives : Cond.code yX9_lives cX9_lives 3 none ∈ gt := gt_of 1271 rfl rfl
theorem ins_X9_lives : Cond.instanceMethod yX9_lives ∈ gt := gt_of 1270 (by decide +kernel) rfl
theorem sel_X9_lives : Cond.selects (yX9_lives).cls yX9_lives yX9_lives ∈ gt := gt_of 67 (by decide +kernel) rfl
theorem mv_X9_283 : MV RX9 283 yX9_lives cX9_lives 3 none 0 := ⟨Or.inl (gt_of 1268 (by decide +kernel) rfl), ins_X9_lives, sel_X9_lives, ini_X9, co_X9_lives, ⟨by decide +kernel, by decide +kernel, by decide +kernel⟩, by decide⟩
set_option maxRecDepth 100000 in
theorem co_X9_setOf : Cond.code yX9_setOf cX9_setOf 4 (some .int) ∈ gt := gt_of 1291 rfl rfl
theorem ins_X9_setOf : Cond.instanceMethod yX9_setOf ∈ gt := gt_of 1290 (by decide +kernel) rfl
theorem sel_X9_setOf : Cond.selects (yX9_setOf).cls yX9_setOf yX9_setOf ∈ gt := gt_of 72 (by decide +kernel) rfl
theorem mv_X9_290 : MV RX9 290 yX9_setOf cX9_setOf 4 (some .int) 1 := ⟨Or.inl (gt_of 1288 (by decide +kernel) rfl), ins_X9_setOf, sel_X9_setOf, ini_X9, co_X9_setOf, ⟨by decide +kernel, by decide +kernel, by decide +kernel⟩, by decide⟩
set_option maxRecDepth 100000 in
theorem co_X9_isTells : Cond.code yX9_isTells cX9_isTells 2 (some .boolean) ∈ gt := gt_of 1256 rfl rfl
theorem ins_X9_isTells : Cond.instanceMethod yX9_isTells ∈ gt := gt_of 1255 (by decide +kernel) rfl
theorem sel_X9_isTells : Cond.selects (yX9_isTells).cls yX9_isTells yX9_isTells ∈ gt := gt_of 64 (by decide +kernel) rfl
theorem mv_X9_293 : MV RX9 293 yX9_isTells cX9_isTells 2 (some .boolean) 1 := ⟨Or.inl (gt_of 1253 (by decide +kernel) rfl), ins_X9_isTells, sel_X9_isTells, ini_X9, co_X9_isTells, ⟨by decide +kernel, by decide +kernel, by decide +kernel⟩, by decide⟩
set_option maxRecDepth 100000 in
theorem co_X9_livesPlain : Cond.code yX9_livesPlain cX9_livesPlain 3 none ∈ gt := gt_of 1263 rfl rfl
theorem ins_X9_livesPlain : Cond.instanceMethod yX9_livesPlain ∈ gt := gt_of 1262 (by decide +kernel) rfl
theorem sel_X9_livesPlain : Cond.selects (yX9_livesPlain).cls yX9_livesPlain yX9_livesPlain ∈ gt := gt_of 65 (by decide +kernel) rfl
theorem mv_X9_297 : MV RX9 297 yX9_livesPlain cX9_livesPlain 3 none 1 := ⟨Or.inl (gt_of 1260 (by decide +kernel) rfl), ins_X9_livesPlain, sel_X9_livesPlain, ini_X9, co_X9_livesPlain, ⟨by decide +kernel, by decide +kernel, by decide +kernel⟩, by decide⟩
set_option maxRecDepth 100000 in
theorem co_X9_tells : Cond.code yX9_tells cX9_tells 3 (some .int) ∈ gt := gt_of 1287 rfl rfl
theorem ins_X9_tells : Cond.instanceMethod yX9_tells ∈ gt := gt_of 1286 (by decide +kernel) rfl
theorem sel_X9_tells : Cond.selects (yX9_tells).cls yX9_tells yX9_tells ∈ gt := gt_of 71 (by decide +kernel) rfl
theorem mv_X9_300 : MV RX9 300 yX9_tells cX9_tells 3 (some .int) 1 := ⟨Or.inl (gt_of 1284 (by decide +kernel) rfl), ins_X9_tells, sel_X9_tells, ini_X9, co_X9_tells, ⟨by decide +kernel, by decide +kernel, by decide +kernel⟩, by decide⟩
set_option maxRecDepth 100000 in
theorem co_X9_isSheet : Cond.code yX9_isSheet cX9_isSheet 1 (some .boolean) ∈ gt := gt_of 1298 rfl rfl
theorem sta_X9_isSheet : Cond.static yX9_isSheet ∈ gt := gt_of 1297 (by decide +kernel) rfl
theorem ms_X9_303 : MS RX9 303 yX9_isSheet cX9_isSheet 1 (some .boolean) 1 := ⟨Or.inl (gt_of 1296 (by decide +kernel) rfl), sta_X9_isSheet, ini_X9, co_X9_isSheet, ⟨by decide +kernel, by decide +kernel, by decide +kernel⟩, by decide⟩
set_option maxRecDepth 100000 in
theorem co_X9_laysOrder : Cond.code yX9_laysOrder cX9_laysOrder 5 (some .boolean) ∈ gt := gt_of 1303 rfl rfl
theorem ins_X9_laysOrder : Cond.instanceMethod yX9_laysOrder ∈ gt := gt_of 1302 (by decide +kernel) rfl
theorem sel_X9_laysOrder : Cond.selects (yX9_laysOrder).cls yX9_laysOrder yX9_laysOrder ∈ gt := gt_of 73 (by decide +kernel) rfl
theorem mv_X9_306 : MV RX9 306 yX9_laysOrder cX9_laysOrder 5 (some .boolean) 1 := ⟨Or.inl (gt_of 1300 (by decide +kernel) rfl), ins_X9_laysOrder, sel_X9_laysOrder, ini_X9, co_X9_laysOrder, ⟨by decide +kernel, by decide +kernel, by decide +kernel⟩, by decide⟩
set_option maxRecDepth 100000 in
theorem co_X9_triesFrom : Cond.code yX9_triesFrom cX9_triesFrom 4 none ∈ gt := gt_of 1312 rfl rfl
theorem ins_X9_triesFrom : Cond.instanceMethod yX9_triesFrom ∈ gt := gt_of 1311 (by decide +kernel) rfl
theorem sel_X9_triesFrom : Cond.selects (yX9_triesFrom).cls yX9_triesFrom yX9_triesFrom ∈ gt := gt_of 74 (by decide +kernel) rfl
theorem mv_X9_318 : MV RX9 318 yX9_triesFrom cX9_triesFrom 4 none 2 := ⟨Or.inl (gt_of 1309 (by decide +kernel) rfl), ins_X9_triesFrom, sel_X9_triesFrom, ini_X9, co_X9_triesFrom, ⟨by decide +kernel, by decide +kernel, by decide +kernel⟩, by decide⟩
set_option maxRecDepth 100000 in
theorem co_X9_wet : Cond.code yX9_wet cX9_wet 3 none ∈ gt := gt_of 1325 rfl rfl
theorem ins_X9_wet : Cond.instanceMethod yX9_wet ∈ gt := gt_of 1324 (by decide +kernel) rfl
theorem sel_X9_wet : Cond.selects (yX9_wet).cls yX9_wet yX9_wet ∈ gt := gt_of 75 (by decide +kernel) rfl
theorem mv_X9_326 : MV RX9 326 yX9_wet cX9_wet 3 none 1 := ⟨Or.inl (gt_of 1322 (by decide +kernel) rfl), ins_X9_wet, sel_X9_wet, ini_X9, co_X9_wet, ⟨by decide +kernel, by decide +kernel, by decide +kernel⟩, by decide⟩
set_option maxRecDepth 100000 in
theorem co_X9_bitsOf : Cond.code yX9_bitsOf cX9_bitsOf 3 (some .int) ∈ gt := gt_of 1328 rfl rfl
theorem sta_X9_bitsOf : Cond.static yX9_bitsOf ∈ gt := gt_of 1327 (by decide +kernel) rfl
theorem ms_X9_329 : MS RX9 329 yX9_bitsOf cX9_bitsOf 3 (some .int) 1 := ⟨Or.inl (gt_of 1326 (by decide +kernel) rfl), sta_X9_bitsOf, ini_X9, co_X9_bitsOf, ⟨by decide +kernel, by decide +kernel, by decide +kernel⟩, by decide⟩
set_option maxRecDepth 100000 in
theorem co_X9_livesBy : Cond.code yX9_livesBy cX9_livesBy 4 none ∈ gt := gt_of 1340 rfl rfl
theorem ins_X9_livesBy : Cond.instanceMethod yX9_livesBy ∈ gt := gt_of 1339 (by decide +kernel) rfl
theorem sel_X9_livesBy : Cond.selects (yX9_livesBy).cls yX9_livesBy yX9_livesBy ∈ gt := gt_of 76 (by decide +kernel) rfl
theorem mv_X9_332 : MV RX9 332 yX9_livesBy cX9_livesBy 4 none 2 := ⟨Or.inl (gt_of 1337 (by decide +kernel) rfl), ins_X9_livesBy, sel_X9_livesBy, ini_X9, co_X9_livesBy, ⟨by decide +kernel, by decide +kernel, by decide +kernel⟩, by decide⟩
set_option maxRecDepth 100000 in
theorem co_X9_tellsSort : Cond.code yX9_tellsSort cX9_tellsSort 2 (some .int) ∈ gt := gt_of 1358 rfl rfl
theorem ins_X9_tellsSort : Cond.instanceMethod yX9_tellsSort ∈ gt := gt_of 1357 (by decide +kernel) rfl
theorem sel_X9_tellsSort : Cond.selects (yX9_tellsSort).cls yX9_tellsSort yX9_tellsSort ∈ gt := gt_of 77 (by decide +kernel) rfl
theorem mv_X9_341 : MV RX9 341 yX9_tellsSort cX9_tellsSort 2 (some .int) 1 := ⟨Or.inl (gt_of 1355 (by decide +kernel) rfl), ins_X9_tellsSort, sel_X9_tellsSort, ini_X9, co_X9_tellsSort, ⟨by decide +kernel, by decide +kernel, by decide +kernel⟩, by decide⟩
set_option maxRecDepth 100000 in
theorem co_X9_laysSort : Cond.code yX9_laysSort cX9_laysSort 3 none ∈ gt := gt_of 1362 rfl rfl
theorem ins_X9_laysSort : Cond.instanceMethod yX9_laysSort ∈ gt := gt_of 1361 (by decide +kernel) rfl
theorem sel_X9_laysSort : Cond.selects (yX9_laysSort).cls yX9_laysSort yX9_laysSort ∈ gt := gt_of 78 (by decide +kernel) rfl
theorem mv_X9_344 : MV RX9 344 yX9_laysSort cX9_laysSort 3 none 2 := ⟨Or.inl (gt_of 1359 (by decide +kernel) rfl), ins_X9_laysSort, sel_X9_laysSort, ini_X9, co_X9_laysSort, ⟨by decide +kernel, by decide +kernel, by decide +kernel⟩, by decide⟩
set_option maxRecDepth 100000 in
theorem co_X9_isSo : Cond.code yX9_isSo cX9_isSo 3 (some .boolean) ∈ gt := gt_of 1366 rfl rfl
theorem ins_X9_isSo : Cond.instanceMethod yX9_isSo ∈ gt := gt_of 1365 (by decide +kernel) rfl
theorem sel_X9_isSo : Cond.selects (yX9_isSo).cls yX9_isSo yX9_isSo ∈ gt := gt_of 79 (by decide +kernel) rfl
theorem mv_X9_347 : MV RX9 347 yX9_isSo cX9_isSo 3 (some .boolean) 1 := ⟨Or.inl (gt_of 1363 (by decide +kernel) rfl), ins_X9_isSo, sel_X9_isSo, ini_X9, co_X9_isSo, ⟨by decide +kernel, by decide +kernel, by decide +kernel⟩, by decide⟩
theorem mv_X9_352 : MV RX9 352 yX9_sheet cX9_sheet 5 (some .int) 3 := ⟨Or.inl (gt_of 1376 (by decide +kernel) rfl), ins_X9_sheet, sel_X9_sheet, ini_X9, co_X9_sheet, ⟨by decide +kernel, by decide +kernel, by decide +kernel⟩, by decide⟩
set_option maxRecDepth 100000 in
theorem co_X9_draws : Cond.code yX9_draws cX9_draws 2 none ∈ gt := gt_of 1388 rfl rfl
theorem ins_X9_draws : Cond.instanceMethod yX9_draws ∈ gt := gt_of 1387 (by decide +kernel) rfl
theorem sel_X9_draws : Cond.selects (yX9_draws).cls yX9_draws yX9_draws ∈ gt := gt_of 80 (by decide +kernel) rfl
theorem mv_X9_356 : MV RX9 356 yX9_draws cX9_draws 2 none 1 := ⟨Or.inl (gt_of 1385 (by decide +kernel) rfl), ins_X9_draws, sel_X9_draws, ini_X9, co_X9_draws, ⟨by decide +kernel, by decide +kernel, by decide +kernel⟩, by decide⟩
theorem mv_X9_364 : MV RX9 364 yX9_wall cX9_wall 4 (some .int) 3 := ⟨Or.inl (gt_of 1419 (by decide +kernel) rfl), ins_X9_wall, sel_X9_wall, ini_X9, co_X9_wall, ⟨by decide +kernel, by decide +kernel, by decide +kernel⟩, by decide⟩
set_option maxRecDepth 100000 in
theorem co_X9_over : Cond.code yX9_over cX9_over 1 (some .int) ∈ gt := gt_of 1426 rfl rfl
theorem sta_X9_over : Cond.static yX9_over ∈ gt := gt_of 1425 (by decide +kernel) rfl
theorem ms_X9_367 : MS RX9 367 yX9_over cX9_over 1 (some .int) 1 := ⟨Or.inl (gt_of 1424 (by decide +kernel) rfl), sta_X9_over, ini_X9, co_X9_over, ⟨by decide +kernel, by decide +kernel, by decide +kernel⟩, by decide⟩
set_option maxRecDepth 100000 in
theorem co_J0_coder_7d493 : Cond.code yJ0_coder_7d493 cJ0_coder_7d493 1 (some .byte) ∈ gt := gt_of 346 rfl rfl
theorem ins_J0_coder_7d493 : Cond.instanceMethod yJ0_coder_7d493 ∈ gt := gt_of 344 (by decide +kernel) rfl
theorem sel_J0_coder_7d493 : Cond.selects (yJ0_coder_7d493).cls yJ0_coder_7d493 yJ0_coder_7d493 ∈ gt := gt_of 345 (by decide +kernel) rfl
theorem mv_J0_335 : MV RJ0 335 yJ0_coder_7d493 cJ0_coder_7d493 1 (some .byte) 0 := ⟨Or.inl (gt_of 343 (by decide +kernel) rfl), ins_J0_coder_7d493, sel_J0_coder_7d493, ini_J0, co_J0_coder_7d493, ⟨by decide +kernel, by decide +kernel, by decide +kernel⟩, by decide⟩
set_option maxRecDepth 100000 in
theorem co_J0_isLatin1_aae02 : Cond.code yJ0_isLatin1_aae02 cJ0_isLatin1_aae02 1 (some .boolean) ∈ gt := gt_of 356 rfl rfl
theorem ins_J0_isLatin1_aae02 : Cond.instanceMethod yJ0_isLatin1_aae02 ∈ gt := gt_of 354 (by decide +kernel) rfl
theorem sel_J0_isLatin1_aae02 : Cond.selects (yJ0_isLatin1_aae02).cls yJ0_isLatin1_aae02 yJ0_isLatin1_aae02 ∈ gt := gt_of 355 (by decide +kernel) rfl
theorem mv_J0_492 : MV RJ0 492 yJ0_isLatin1_aae02 cJ0_isLatin1_aae02 1 (some .boolean) 0 := ⟨Or.inl (gt_of 353 (by decide +kernel) rfl), ins_J0_isLatin1_aae02, sel_J0_isLatin1_aae02, ini_J0, co_J0_isLatin1_aae02, ⟨by decide +kernel, by decide +kernel, by decide +kernel⟩, by decide⟩
set_option maxRecDepth 100000 in
theorem co_J1_charAt_3b067 : Cond.code yJ1_charAt_3b067 cJ1_charAt_3b067 2 (some .char) ∈ gt := gt_of 359 rfl rfl
theorem sta_J1_charAt_3b067 : Cond.static yJ1_charAt_3b067 ∈ gt := gt_of 358 (by decide +kernel) rfl
theorem ini_J1 : Cond.initialized RJ1 ∈ gt := gt_of 91 (by decide +kernel) rfl
theorem ms_J0_495 : MS RJ0 495 yJ1_charAt_3b067 cJ1_charAt_3b067 2 (some .char) 2 := ⟨Or.inl (gt_of 357 (by decide +kernel) rfl), sta_J1_charAt_3b067, ini_J1, co_J1_charAt_3b067, ⟨by decide +kernel, by decide +kernel, by decide +kernel⟩, by decide⟩
set_option maxRecDepth 100000 in
theorem co_J2_charAt_3b067 : Cond.code yJ2_charAt_3b067 cJ2_charAt_3b067 2 (some .char) ∈ gt := gt_of 370 rfl rfl
theorem sta_J2_charAt_3b067 : Cond.static yJ2_charAt_3b067 ∈ gt := gt_of 369 (by decide +kernel) rfl
theorem ini_J2 : Cond.initialized RJ2 ∈ gt := gt_of 93 (by decide +kernel) rfl
theorem ms_J0_498 : MS RJ0 498 yJ2_charAt_3b067 cJ2_charAt_3b067 2 (some .char) 2 := ⟨Or.inl (gt_of 368 (by decide +kernel) rfl), sta_J2_charAt_3b067, ini_J2, co_J2_charAt_3b067, ⟨by decide +kernel, by decide +kernel, by decide +kernel⟩, by decide⟩
theorem mv_J0_505 : MV RJ0 505 yJ0_length_8abf5 cJ0_length_8abf5 1 (some .int) 0 := ⟨Or.inl (gt_of 430 (by decide +kernel) rfl), ins_J0_length_8abf5, sel_J0_length_8abf5, ini_J0, co_J0_length_8abf5, ⟨by decide +kernel, by decide +kernel, by decide +kernel⟩, by decide⟩
set_option maxRecDepth 100000 in
theorem co_J0_indexOf_7cf53 : Cond.code yJ0_indexOf_7cf53 cJ0_indexOf_7cf53 3 (some .int) ∈ gt := gt_of 429 rfl rfl
theorem ins_J0_indexOf_7cf53 : Cond.instanceMethod yJ0_indexOf_7cf53 ∈ gt := gt_of 427 (by decide +kernel) rfl
theorem sel_J0_indexOf_7cf53 : Cond.selects (yJ0_indexOf_7cf53).cls yJ0_indexOf_7cf53 yJ0_indexOf_7cf53 ∈ gt := gt_of 428 (by decide +kernel) rfl
theorem mv_J0_633 : MV RJ0 633 yJ0_indexOf_7cf53 cJ0_indexOf_7cf53 3 (some .int) 2 := ⟨Or.inl (gt_of 426 (by decide +kernel) rfl), ins_J0_indexOf_7cf53, sel_J0_indexOf_7cf53, ini_J0, co_J0_indexOf_7cf53, ⟨by decide +kernel, by decide +kernel, by decide +kernel⟩, by decide⟩
set_option maxRecDepth 100000 in
theorem co_J1_indexOf_4cfef : Cond.code yJ1_indexOf_4cfef cJ1_indexOf_4cfef 4 (some .int) ∈ gt := gt_of 433 rfl rfl
theorem sta_J1_indexOf_4cfef : Cond.static yJ1_indexOf_4cfef ∈ gt := gt_of 432 (by decide +kernel) rfl
theorem ms_J0_637 : MS RJ0 637 yJ1_indexOf_4cfef cJ1_indexOf_4cfef 4 (some .int) 4 := ⟨Or.inl (gt_of 431 (by decide +kernel) rfl), sta_J1_indexOf_4cfef, ini_J1, co_J1_indexOf_4cfef, ⟨by decide +kernel, by decide +kernel, by decide +kernel⟩, by decide⟩
set_option maxRecDepth 100000 in
theorem co_J2_indexOf_4cfef : Cond.code yJ2_indexOf_4cfef cJ2_indexOf_4cfef 4 (some .int) ∈ gt := gt_of 448 rfl rfl
theorem sta_J2_indexOf_4cfef : Cond.static yJ2_indexOf_4cfef ∈ gt := gt_of 447 (by decide +kernel) rfl
theorem ms_J0_640 : MS RJ0 640 yJ2_indexOf_4cfef cJ2_indexOf_4cfef 4 (some .int) 4 := ⟨Or.inl (gt_of 446 (by decide +kernel) rfl), sta_J2_indexOf_4cfef, ini_J2, co_J2_indexOf_4cfef, ⟨by decide +kernel, by decide +kernel, by decide +kernel⟩, by decide⟩
set_option maxRecDepth 100000 in
theorem co_J3_checkIndex_8e157 : Cond.code yJ3_checkIndex_8e157 cJ3_checkIndex_8e157 3 (some .int) ∈ gt := gt_of 367 rfl rfl
theorem sta_J3_checkIndex_8e157 : Cond.static yJ3_checkIndex_8e157 ∈ gt := gt_of 366 (by decide +kernel) rfl
theorem ini_J3 : Cond.initialized RJ3 ∈ gt := gt_of 92 (by decide +kernel) rfl
theorem ms_J0_1059 : MS RJ0 1059 yJ3_checkIndex_8e157 cJ3_checkIndex_8e157 3 (some .int) 3 := ⟨Or.inl (gt_of 365 (by decide +kernel) rfl), sta_J3_checkIndex_8e157, ini_J3, co_J3_checkIndex_8e157, ⟨by decide +kernel, by decide +kernel, by decide +kernel⟩, by decide⟩
set_option maxRecDepth 100000 in
theorem co_J3_checkFromToIndex_8c36e : Cond.code yJ3_checkFromToIndex_8c36e cJ3_checkFromToIndex_8c36e 4 (some .int) ∈ gt := gt_of 463 rfl rfl
theorem sta_J3_checkFromToIndex_8c36e : Cond.static yJ3_checkFromToIndex_8c36e ∈ gt := gt_of 462 (by decide +kernel) rfl
theorem ms_J0_1062 : MS RJ0 1062 yJ3_checkFromToIndex_8c36e cJ3_checkFromToIndex_8c36e 4 (some .int) 4 := ⟨Or.inl (gt_of 461 (by decide +kernel) rfl), sta_J3_checkFromToIndex_8c36e, ini_J3, co_J3_checkFromToIndex_8c36e, ⟨by decide +kernel, by decide +kernel, by decide +kernel⟩, by decide⟩
set_option maxRecDepth 100000 in
theorem co_J0_checkIndex_df160 : Cond.code yJ0_checkIndex_df160 cJ0_checkIndex_df160 2 none ∈ gt := gt_of 362 rfl rfl
theorem sta_J0_checkIndex_df160 : Cond.static yJ0_checkIndex_df160 ∈ gt := gt_of 361 (by decide +kernel) rfl
theorem ms_J1_9 : MS RJ1 9 yJ0_checkIndex_df160 cJ0_checkIndex_df160 2 none 2 := ⟨Or.inl (gt_of 360 (by decide +kernel) rfl), sta_J0_checkIndex_df160, ini_J0, co_J0_checkIndex_df160, ⟨by decide +kernel, by decide +kernel, by decide +kernel⟩, by decide⟩
theorem ms_J1_38 : MS RJ1 38 yJ9_min_7cf53 cJ9_min_7cf53 2 (some .int) 2 := ⟨Or.inl (gt_of 440 (by decide +kernel) rfl), sta_J9_min_7cf53, ini_J9, co_J9_min_7cf53, ⟨by decide +kernel, by decide +kernel, by decide +kernel⟩, by decide⟩
set_option maxRecDepth 100000 in
theorem co_J1_canEncode_9a6ad : Cond.code yJ1_canEncode_9a6ad cJ1_canEncode_9a6ad 1 (some .boolean) ∈ gt := gt_of 436 rfl rfl
theorem sta_J1_canEncode_9a6ad : Cond.static yJ1_canEncode_9a6ad ∈ gt := gt_of 435 (by decide +kernel) rfl
theorem ms_J1_88 : MS RJ1 88 yJ1_canEncode_9a6ad cJ1_canEncode_9a6ad 1 (some .boolean) 1 := ⟨Or.inl (gt_of 434 (by decide +kernel) rfl), sta_J1_canEncode_9a6ad, ini_J1, co_J1_canEncode_9a6ad, ⟨by decide +kernel, by decide +kernel, by decide +kernel⟩, by decide⟩
theorem ms_J1_92 : MS RJ1 92 yJ9_max_7cf53 cJ9_max_7cf53 2 (some .int) 2 := ⟨Or.inl (gt_of 437 (by decide +kernel) rfl), sta_J9_max_7cf53, ini_J9, co_J9_max_7cf53, ⟨by decide +kernel, by decide +kernel, by decide +kernel⟩, by decide⟩
set_option maxRecDepth 100000 in
theorem co_J1_indexOfChar_4cfef : Cond.code yJ1_indexOfChar_4cfef cJ1_indexOfChar_4cfef 6 (some .int) ∈ gt := gt_of 445 rfl rfl
theorem sta_J1_indexOfChar_4cfef : Cond.static yJ1_indexOfChar_4cfef ∈ gt := gt_of 444 (by decide +kernel) rfl
theorem ms_J1_95 : MS RJ1 95 yJ1_indexOfChar_4cfef cJ1_indexOfChar_4cfef 6 (some .int) 4 := ⟨Or.inl (gt_of 443 (by decide +kernel) rfl), sta_J1_indexOfChar_4cfef, ini_J1, co_J1_indexOfChar_4cfef, ⟨by decide +kernel, by decide +kernel, by decide +kernel⟩, by decide⟩
set_option maxRecDepth 100000 in
theorem co_J2_length_9d52b : Cond.code yJ2_length_9d52b cJ2_length_9d52b 1 (some .int) ∈ gt := gt_of 376 rfl rfl
theorem sta_J2_length_9d52b : Cond.static yJ2_length_9d52b ∈ gt := gt_of 375 (by decide +kernel) rfl
theorem ms_J2_48 : MS RJ2 48 yJ2_length_9d52b cJ2_length_9d52b 1 (some .int) 1 := ⟨Or.inl (gt_of 374 (by decide +kernel) rfl), sta_J2_length_9d52b, ini_J2, co_J2_length_9d52b, ⟨by decide +kernel, by decide +kernel, by decide +kernel⟩, by decide⟩
set_option maxRecDepth 100000 in
theorem co_J2_checkIndex_2214a : Cond.code yJ2_checkIndex_2214a cJ2_checkIndex_2214a 2 none ∈ gt := gt_of 373 rfl rfl
theorem sta_J2_checkIndex_2214a : Cond.static yJ2_checkIndex_2214a ∈ gt := gt_of 372 (by decide +kernel) rfl
theorem ms_J2_67 : MS RJ2 67 yJ2_checkIndex_2214a cJ2_checkIndex_2214a 2 none 2 := ⟨Or.inl (gt_of 371 (by decide +kernel) rfl), sta_J2_checkIndex_2214a, ini_J2, co_J2_checkIndex_2214a, ⟨by decide +kernel, by decide +kernel, by decide +kernel⟩, by decide⟩
set_option maxRecDepth 100000 in
theorem co_J2_getChar_3b067 : Cond.code yJ2_getChar_3b067 cJ2_getChar_3b067 2 (some .char) ∈ gt := gt_of 380 rfl rfl
theorem sta_J2_getChar_3b067 : Cond.static yJ2_getChar_3b067 ∈ gt := gt_of 379 (by decide +kernel) rfl
theorem ms_J2_71 : MS RJ2 71 yJ2_getChar_3b067 cJ2_getChar_3b067 2 (some .char) 2 := ⟨Or.inl (gt_of 378 (by decide +kernel) rfl), sta_J2_getChar_3b067, ini_J2, co_J2_getChar_3b067, ⟨by decide +kernel, by decide +kernel, by decide +kernel⟩, by decide⟩
set_option maxRecDepth 100000 in
theorem co_J2_checkBoundsBeginEnd_d044e : Cond.code yJ2_checkBoundsBeginEnd_d044e cJ2_checkBoundsBeginEnd_d044e 3 none ∈ gt := gt_of 457 rfl rfl
theorem sta_J2_checkBoundsBeginEnd_d044e : Cond.static yJ2_checkBoundsBeginEnd_d044e ∈ gt := gt_of 456 (by decide +kernel) rfl
theorem ms_J2_96 : MS RJ2 96 yJ2_checkBoundsBeginEnd_d044e cJ2_checkBoundsBeginEnd_d044e 3 none 3 := ⟨Or.inl (gt_of 455 (by decide +kernel) rfl), sta_J2_checkBoundsBeginEnd_d044e, ini_J2, co_J2_checkBoundsBeginEnd_d044e, ⟨by decide +kernel, by decide +kernel, by decide +kernel⟩, by decide⟩
set_option maxRecDepth 100000 in
theorem co_J11_highSurrogate_5068e : Cond.code yJ11_highSurrogate_5068e cJ11_highSurrogate_5068e 1 (some .char) ∈ gt := gt_of 475 rfl rfl
theorem sta_J11_highSurrogate_5068e : Cond.static yJ11_highSurrogate_5068e ∈ gt := gt_of 474 (by decide +kernel) rfl
theorem ini_J11 : Cond.initialized RJ11 ∈ gt := gt_of 95 (by decide +kernel) rfl
theorem ms_J2_157 : MS RJ2 157 yJ11_highSurrogate_5068e cJ11_highSurrogate_5068e 1 (some .char) 1 := ⟨Or.inl (gt_of 473 (by decide +kernel) rfl), sta_J11_highSurrogate_5068e, ini_J11, co_J11_highSurrogate_5068e, ⟨by decide +kernel, by decide +kernel, by decide +kernel⟩, by decide⟩
set_option maxRecDepth 100000 in
theorem co_J11_lowSurrogate_5068e : Cond.code yJ11_lowSurrogate_5068e cJ11_lowSurrogate_5068e 1 (some .char) ∈ gt := gt_of 479 rfl rfl
theorem sta_J11_lowSurrogate_5068e : Cond.static yJ11_lowSurrogate_5068e ∈ gt := gt_of 478 (by decide +kernel) rfl
theorem ms_J2_161 : MS RJ2 161 yJ11_lowSurrogate_5068e cJ11_lowSurrogate_5068e 1 (some .char) 1 := ⟨Or.inl (gt_of 477 (by decide +kernel) rfl), sta_J11_lowSurrogate_5068e, ini_J11, co_J11_lowSurrogate_5068e, ⟨by decide +kernel, by decide +kernel, by decide +kernel⟩, by decide⟩
set_option maxRecDepth 100000 in
theorem co_J11_isValidCodePoint_9a6ad : Cond.code yJ11_isValidCodePoint_9a6ad cJ11_isValidCodePoint_9a6ad 2 (some .boolean) ∈ gt := gt_of 472 rfl rfl
theorem sta_J11_isValidCodePoint_9a6ad : Cond.static yJ11_isValidCodePoint_9a6ad ∈ gt := gt_of 471 (by decide +kernel) rfl
theorem ms_J2_164 : MS RJ2 164 yJ11_isValidCodePoint_9a6ad cJ11_isValidCodePoint_9a6ad 2 (some .boolean) 1 := ⟨Or.inl (gt_of 470 (by decide +kernel) rfl), sta_J11_isValidCodePoint_9a6ad, ini_J11, co_J11_isValidCodePoint_9a6ad, ⟨by decide +kernel, by decide +kernel, by decide +kernel⟩, by decide⟩
theorem ms_J2_183 : MS RJ2 183 yJ9_min_7cf53 cJ9_min_7cf53 2 (some .int) 2 := ⟨Or.inl (gt_of 450 (by decide +kernel) rfl), sta_J9_min_7cf53, ini_J9, co_J9_min_7cf53, ⟨by decide +kernel, by decide +kernel, by decide +kernel⟩, by decide⟩
theorem ms_J2_224 : MS RJ2 224 yJ9_max_7cf53 cJ9_max_7cf53 2 (some .int) 2 := ⟨Or.inl (gt_of 449 (by decide +kernel) rfl), sta_J9_max_7cf53, ini_J9, co_J9_max_7cf53, ⟨by decide +kernel, by decide +kernel, by decide +kernel⟩, by decide⟩
set_option maxRecDepth 100000 in
theorem co_J2_indexOfChar_4cfef : Cond.code yJ2_indexOfChar_4cfef cJ2_indexOfChar_4cfef 4 (some .int) ∈ gt := gt_of 454 rfl rfl
theorem sta_J2_indexOfChar_4cfef : Cond.static yJ2_indexOfChar_4cfef ∈ gt := gt_of 453 (by decide +kernel) rfl
theorem ms_J2_228 : MS RJ2 228 yJ2_indexOfChar_4cfef cJ2_indexOfChar_4cfef 4 (some .int) 4 := ⟨Or.inl (gt_of 452 (by decide +kernel) rfl), sta_J2_indexOfChar_4cfef, ini_J2, co_J2_indexOfChar_4cfef, ⟨by decide +kernel, by decide +kernel, by decide +kernel⟩, by decide⟩
set_option maxRecDepth 100000 in
theorem co_J2_indexOfSupplementary_4cfef : Cond.code yJ2_indexOfSupplementary_4cfef cJ2_indexOfSupplementary_4cfef 7 (some .int) ∈ gt := gt_of 469 rfl rfl
theorem sta_J2_indexOfSupplementary_4cfef : Cond.static yJ2_indexOfSupplementary_4cfef ∈ gt := gt_of 468 (by decide +kernel) rfl
theorem ms_J2_232 : MS RJ2 232 yJ2_indexOfSupplementary_4cfef cJ2_indexOfSupplementary_4cfef 7 (some .int) 4 := ⟨Or.inl (gt_of 467 (by decide +kernel) rfl), sta_J2_indexOfSupplementary_4cfef, ini_J2, co_J2_indexOfSupplementary_4cfef, ⟨by decide +kernel, by decide +kernel, by decide +kernel⟩, by decide⟩
set_option maxRecDepth 100000 in
theorem co_J0_checkBoundsBeginEnd_23922 : Cond.code yJ0_checkBoundsBeginEnd_23922 cJ0_checkBoundsBeginEnd_23922 3 none ∈ gt := gt_of 460 rfl rfl
theorem sta_J0_checkBoundsBeginEnd_23922 : Cond.static yJ0_checkBoundsBeginEnd_23922 ∈ gt := gt_of 459 (by decide +kernel) rfl
theorem ms_J2_241 : MS RJ2 241 yJ0_checkBoundsBeginEnd_23922 cJ0_checkBoundsBeginEnd_23922 3 none 3 := ⟨Or.inl (gt_of 458 (by decide +kernel) rfl), sta_J0_checkBoundsBeginEnd_23922, ini_J0, co_J0_checkBoundsBeginEnd_23922, ⟨by decide +kernel, by decide +kernel, by decide +kernel⟩, by decide⟩
set_option maxRecDepth 100000 in
theorem co_J2_indexOfCharUnsafe_4cfef : Cond.code yJ2_indexOfCharUnsafe_4cfef cJ2_indexOfCharUnsafe_4cfef 5 (some .int) ∈ gt := gt_of 466 rfl rfl
theorem sta_J2_indexOfCharUnsafe_4cfef : Cond.static yJ2_indexOfCharUnsafe_4cfef ∈ gt := gt_of 465 (by decide +kernel) rfl
theorem ms_J2_244 : MS RJ2 244 yJ2_indexOfCharUnsafe_4cfef cJ2_indexOfCharUnsafe_4cfef 5 (some .int) 4 := ⟨Or.inl (gt_of 464 (by decide +kernel) rfl), sta_J2_indexOfCharUnsafe_4cfef, ini_J2, co_J2_indexOfCharUnsafe_4cfef, ⟨by decide +kernel, by decide +kernel, by decide +kernel⟩, by decide⟩
theorem ms_J2_414 : MS RJ2 414 yJ0_checkIndex_df160 cJ0_checkIndex_df160 2 none 2 := ⟨Or.inl (gt_of 377 (by decide +kernel) rfl), sta_J0_checkIndex_df160, ini_J0, co_J0_checkIndex_df160, ⟨by decide +kernel, by decide +kernel, by decide +kernel⟩, by decide⟩
theorem ac_X8_305 : Cond.methodLink RX8 305 arraycopyName ∈ gt := gt_of 937 (by decide +kernel) rfl
theorem ac_n : Cond.native arraycopyName ∈ gt := gt_of 939 (by decide +kernel) rfl
theorem ac_s : Cond.static arraycopyName ∈ gt := gt_of 938 (by decide +kernel) rfl
theorem ac_i : Cond.initialized "java/lang/System" ∈ gt := gt_of 99 (by decide +kernel) rfl
theorem mm_X0_101 : Cond.methodLink RX0 101 Lib.Math.min.name ∈ gt := gt_of 685 (by decide +kernel) rfl
theorem mm_X0_106 : Cond.methodLink RX0 106 Lib.Math.max.name ∈ gt := gt_of 686 (by decide +kernel) rfl
theorem mm_X1_9 : Cond.methodLink RX1 9 Lib.Math.max.name ∈ gt := gt_of 690 (by decide +kernel) rfl
theorem mm_X7_22 : Cond.methodLink RX7 22 Lib.Math.max.name ∈ gt := gt_of 677 (by decide +kernel) rfl
theorem mm_J1_38 : Cond.methodLink RJ1 38 Lib.Math.min.name ∈ gt := gt_of 440 (by decide +kernel) rfl
theorem mm_J1_92 : Cond.methodLink RJ1 92 Lib.Math.max.name ∈ gt := gt_of 437 (by decide +kernel) rfl
theorem mm_J2_183 : Cond.methodLink RJ2 183 Lib.Math.min.name ∈ gt := gt_of 450 (by decide +kernel) rfl
theorem mm_J2_224 : Cond.methodLink RJ2 224 Lib.Math.max.name ∈ gt := gt_of 449 (by decide +kernel) rfl
theorem mm_max_s : Cond.static Lib.Math.max.name ∈ gt := gt_of 438 (by decide +kernel) rfl
theorem mm_max_c : Cond.code Lib.Math.max.name Lib.Math.max.code 2 (some .int) ∈ gt := gt_of 439 (by decide +kernel) rfl
theorem mm_min_s : Cond.static Lib.Math.min.name ∈ gt := gt_of 441 (by decide +kernel) rfl
theorem mm_min_c : Cond.code Lib.Math.min.name Lib.Math.min.code 2 (some .int) ∈ gt := gt_of 442 (by decide +kernel) rfl
theorem mm_i : Cond.initialized "java/lang/Math" ∈ gt := gt_of 94 (by decide +kernel) rfl
