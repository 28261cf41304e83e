/-! THE MATHEMATICS OF BOTH SIDES. Numbers: every Int32 that is not below 0 is some nI n; NN is -1 -/
theorem lit_0 : (0 : Int32) = nI 0 := rfl
theorem lit_1 : (1 : Int32) = nI 1 := rfl
theorem lit_2 : (2 : Int32) = nI 2 := rfl
theorem lit_3 : (3 : Int32) = nI 3 := rfl
theorem lit_4 : (4 : Int32) = nI 4 := rfl
theorem lit_5 : (5 : Int32) = nI 5 := rfl
theorem lit_6 : (6 : Int32) = nI 6 := rfl
theorem lit_7 : (7 : Int32) = nI 7 := rfl
theorem lit_8 : (8 : Int32) = nI 8 := rfl
theorem lit_9 : (9 : Int32) = nI 9 := rfl
theorem lit_10 : (10 : Int32) = nI 10 := rfl
theorem lit_12 : (12 : Int32) = nI 12 := rfl
theorem lit_13 : (13 : Int32) = nI 13 := rfl
theorem lit_20 : (20 : Int32) = nI 20 := rfl
theorem lit_31 : (31 : Int32) = nI 31 := rfl
theorem lit_33 : (33 : Int32) = nI 33 := rfl
theorem lit_35 : (35 : Int32) = nI 35 := rfl
theorem lit_40 : (40 : Int32) = nI 40 := rfl
theorem lit_41 : (41 : Int32) = nI 41 := rfl
theorem lit_48 : (48 : Int32) = nI 48 := rfl
theorem lit_50 : (50 : Int32) = nI 50 := rfl
theorem lit_52 : (52 : Int32) = nI 52 := rfl
theorem lit_57 : (57 : Int32) = nI 57 := rfl
theorem lit_60 : (60 : Int32) = nI 60 := rfl
theorem lit_63 : (63 : Int32) = nI 63 := rfl
theorem lit_97 : (97 : Int32) = nI 97 := rfl
theorem lit_100 : (100 : Int32) = nI 100 := rfl
theorem lit_126 : (126 : Int32) = nI 126 := rfl
theorem lit_160 : (160 : Int32) = nI 160 := rfl
theorem lit_239 : (239 : Int32) = nI 239 := rfl
theorem lit_240 : (240 : Int32) = nI 240 := rfl
theorem lit_253 : (253 : Int32) = nI 253 := rfl
theorem lit_400 : (400 : Int32) = nI 400 := rfl
theorem lit_540 : (540 : Int32) = nI 540 := rfl
theorem lit_600 : (600 : Int32) = nI 600 := rfl
theorem lit_1000 : (1000 : Int32) = nI 1000 := rfl
theorem lit_1265 : (1265 : Int32) = nI 1265 := rfl
theorem lit_1518 : (1518 : Int32) = nI 1518 := rfl
def NN : Int32 := -1
theorem NN_def : -(nI 1) = NN := rfl
theorem NN_raw : (-1 : Int32) = NN := rfl
theorem NN_toInt : NN.toInt = -1 := rfl
theorem NN_lt_nI {k : Nat} (h : k < 2 ^ 31) : (NN < nI k) = True := by
  rw [eq_iff_iff, Int32.lt_iff_toInt_lt, NN_toInt, nI_toInt h]; constructor <;> intro <;> first | trivial | omega
theorem NN_le_nI {k : Nat} (h : k < 2 ^ 31) : (NN ≤ nI k) = True := by
  rw [eq_iff_iff, Int32.le_iff_toInt_le, NN_toInt, nI_toInt h]; constructor <;> intro <;> first | trivial | omega
theorem nI_le_NN {k : Nat} (h : k < 2 ^ 31) : (nI k ≤ NN) = False := by
  rw [eq_iff_iff, Int32.le_iff_toInt_le, NN_toInt, nI_toInt h]; constructor <;> intro <;> first | contradiction | omega
theorem nI_lt_NN {k : Nat} (h : k < 2 ^ 31) : (nI k < NN) = False := by
  rw [eq_iff_iff, Int32.lt_iff_toInt_lt, NN_toInt, nI_toInt h]; constructor <;> intro <;> first | contradiction | omega
theorem nI_ne_NN {k : Nat} (h : k < 2 ^ 31) : (nI k = NN) = False := by
  rw [eq_iff_iff, ← Int32.toInt_inj, NN_toInt, nI_toInt h]; constructor <;> intro <;> first | contradiction | omega
theorem NN_ne_nI {k : Nat} (h : k < 2 ^ 31) : (NN = nI k) = False := by
  rw [eq_iff_iff, ← Int32.toInt_inj, NN_toInt, nI_toInt h]; constructor <;> intro <;> first | contradiction | omega
theorem FU_eq : FU = 2000 := rfl
theorem upd_at (f : Nat → Int32) (k j : Nat) (x : Int32) : upd f k x j = if j = k then x else f j := rfl
/-- ranges of arguments that may be anything -/
theorem m_isWithin (a b c : Int32) : fX5_isWithin a b c = some (if b ≤ a ∧ a ≤ c then 1 else 0) := by
  unfold fX5_isWithin
  by_cases h1 : a < b
  · rw [if_pos h1, if_neg (fun q => absurd q.1 (Int32.not_le.mpr h1))]
  · rw [if_neg h1]
    by_cases h2 : c < a
    · rw [if_pos h2, if_neg (fun q => absurd q.2 (Int32.not_le.mpr h2))]
    · rw [if_neg h2, if_pos ⟨Int32.not_lt.mp h1, Int32.not_lt.mp h2⟩]
theorem m_in (a b c : Int32) : fX6_in a b c = some (if b ≤ a ∧ a ≤ c then 1 else 0) := by
  unfold fX6_in
  by_cases h1 : a < b
  · rw [if_pos h1, if_neg (fun q => absurd q.1 (Int32.not_le.mpr h1))]
  · rw [if_neg h1]
    by_cases h2 : c < a
    · rw [if_pos h2, if_neg (fun q => absurd q.2 (Int32.not_le.mpr h2))]
    · rw [if_neg h2, if_pos ⟨Int32.not_lt.mp h1, Int32.not_lt.mp h2⟩]
/-! cells of arrays -/
theorem e_cellAt {f : Nat → Int32} {n i : Nat} (hi : i < n) (hn : n < 2 ^ 31) : fX5_cellAt f n (nI i) = some (f i) := by
  unfold fX5_cellAt
  simp (disch := omega) only [lit_0, lit_1, lit_2, lit_3, lit_4, lit_5, lit_6, lit_7, lit_8, lit_9, lit_10, lit_12, lit_13, lit_20, lit_31, lit_33, lit_35, lit_40, lit_41, lit_48, lit_50, lit_52, lit_57, lit_60, lit_63, lit_97, lit_100, lit_126, lit_160, lit_239, lit_240, lit_253, lit_400, lit_540, lit_600, lit_1000, lit_1265, lit_1518, NN_def, nI_add, pk_mul, nI_clamp, nI_leI, nI_ltI, nI_eq, nI_ne_NN, NN_ne_nI, NN_lt_nI, nI_le_NN, nI_lt_NN, NN_le_nI, oob, Option.bind_some, if_true, if_false, if_pos, if_neg]
theorem e_lay {f : Nat → Int32} {n i : Nat} {x : Int32} (hi : i < n) (hn : n < 2 ^ 31) : fX5_lay f n (nI i) x = some (upd f i x) := by
  unfold fX5_lay
  simp (disch := omega) only [lit_0, lit_1, lit_2, lit_3, lit_4, lit_5, lit_6, lit_7, lit_8, lit_9, lit_10, lit_12, lit_13, lit_20, lit_31, lit_33, lit_35, lit_40, lit_41, lit_48, lit_50, lit_52, lit_57, lit_60, lit_63, lit_97, lit_100, lit_126, lit_160, lit_239, lit_240, lit_253, lit_400, lit_540, lit_600, lit_1000, lit_1265, lit_1518, NN_def, nI_add, pk_mul, nI_clamp, nI_leI, nI_ltI, nI_eq, nI_ne_NN, NN_ne_nI, NN_lt_nI, nI_le_NN, nI_lt_NN, NN_le_nI, oob, Option.bind_some, if_true, if_false, if_pos, if_neg]
theorem e_tenthsAt {f : Nat → Int32} {i : Nat} (hi : i < 4) : fX2_tenthsAt f (nI i) = some (f i) := by
  unfold fX2_tenthsAt
  rw [e_cellAt hi (by omega)]
  rfl
theorem e_phaseAt {f : Nat → Int32} {i : Nat} (hi : i < 4) : fX2_phaseAt f (nI i) = some (f i) := by
  unfold fX2_phaseAt
  rw [e_cellAt hi (by omega)]
  rfl
theorem e_set0 (a b c : Int32) : fX2_settingAt a b c (nI 0) = some a := by
  unfold fX2_settingAt
  rw [if_pos (show nI 0 = 0 from rfl)]
theorem e_set1 (a b c : Int32) : fX2_settingAt a b c (nI 1) = some b := by
  unfold fX2_settingAt
  rw [if_neg (show ¬ nI 1 = 0 by decide), if_pos (show nI 1 = 1 from rfl)]
theorem e_set2 (a b c : Int32) : fX2_settingAt a b c (nI 2) = some c := by
  unfold fX2_settingAt
  rw [if_neg (show ¬ nI 2 = 0 by decide), if_neg (show ¬ nI 2 = 1 by decide)]
/-! the window -/
def wst (w0 w1 : Nat) : Nat := if w1 = 0 then 0 else w0
def wpl (N w0 w1 : Nat) : Nat := if w1 = 0 then N else min w1 (N - w0)
theorem wst_le {w0 w1 : Nat} (h : w0 ≤ 239) : wst w0 w1 ≤ 239 := by unfold wst; split <;> omega
theorem wpl_le {N w0 w1 : Nat} (hN : N ≤ 240) (h1 : w1 ≤ 240) : wpl N w0 w1 ≤ 240 := by unfold wpl; split <;> omega
theorem w_in {N w0 w1 : Nat} : wpl N w0 w1 = 0 ∨ wst w0 w1 + wpl N w0 w1 ≤ N := by
  unfold wst wpl; split <;> omega
theorem w_inN {N w0 w1 i : Nat} (h : i < wst w0 w1 + wpl N w0 w1) (h2 : wst w0 w1 ≤ i) : i < N := by
  rcases w_in (N := N) (w0 := w0) (w1 := w1) with q | q <;> omega
theorem e_windowStart {wfi wmo : Int32} {w0 w1 : Nat} (h0 : wfi = nI w0) (b0 : w0 ≤ 239) (h1 : wmo = nI w1) (b1 : w1 ≤ 240) : fX2_windowStart wfi wmo = some (nI (wst w0 w1)) := by
  unfold fX2_windowStart wst
  rw [h0, h1, lit_0]
  by_cases hz : w1 = 0
  · rw [if_pos ((nI_leI (by omega) (by omega)).mpr (by omega)), if_pos hz]
  · rw [if_neg (fun q => hz (by have := (nI_leI (by omega) (by omega)).mp q; omega)), if_neg hz]
theorem e_windowPlaces {wfi wmo : Int32} {N w0 w1 : Nat} (h0 : wfi = nI w0) (b0 : w0 ≤ 239) (h1 : wmo = nI w1) (b1 : w1 ≤ 240) (hN : N ≤ 240) : fX2_windowPlaces (nI N) wfi wmo = some (nI (wpl N w0 w1)) := by
  unfold fX2_windowPlaces wpl
  rw [h0, h1, lit_0]
  by_cases hz : w1 = 0
  · rw [if_pos (show nI w1 = nI 0 by rw [hz]), if_pos hz]
  · rw [if_neg hz, if_neg (fun q => hz ((nI_eq (by omega) (by omega)).mp q))]
    by_cases hw : w0 ≤ N
    · rw [pk_sub hw]
      by_cases hm : N - w0 < w1
      · rw [show min w1 (N - w0) = N - w0 by omega]
        simp (disch := omega) only [lit_0, lit_1, lit_2, lit_3, lit_4, lit_5, lit_6, lit_7, lit_8, lit_9, lit_10, lit_12, lit_13, lit_20, lit_31, lit_33, lit_35, lit_40, lit_41, lit_48, lit_50, lit_52, lit_57, lit_60, lit_63, lit_97, lit_100, lit_126, lit_160, lit_239, lit_240, lit_253, lit_400, lit_540, lit_600, lit_1000, lit_1265, lit_1518, NN_def, nI_add, pk_mul, nI_clamp, nI_leI, nI_ltI, nI_eq, nI_ne_NN, NN_ne_nI, NN_lt_nI, nI_le_NN, nI_lt_NN, NN_le_nI, oob, Option.bind_some, if_true, if_false, if_pos, if_neg]
        by_cases hp : N - w0 = 0
        · simp (disch := omega) only [lit_0, lit_1, lit_2, lit_3, lit_4, lit_5, lit_6, lit_7, lit_8, lit_9, lit_10, lit_12, lit_13, lit_20, lit_31, lit_33, lit_35, lit_40, lit_41, lit_48, lit_50, lit_52, lit_57, lit_60, lit_63, lit_97, lit_100, lit_126, lit_160, lit_239, lit_240, lit_253, lit_400, lit_540, lit_600, lit_1000, lit_1265, lit_1518, NN_def, nI_add, pk_mul, nI_clamp, nI_leI, nI_ltI, nI_eq, nI_ne_NN, NN_ne_nI, NN_lt_nI, nI_le_NN, nI_lt_NN, NN_le_nI, oob, Option.bind_some, if_true, if_false, if_pos, if_neg, hp]
        · simp (disch := omega) only [lit_0, lit_1, lit_2, lit_3, lit_4, lit_5, lit_6, lit_7, lit_8, lit_9, lit_10, lit_12, lit_13, lit_20, lit_31, lit_33, lit_35, lit_40, lit_41, lit_48, lit_50, lit_52, lit_57, lit_60, lit_63, lit_97, lit_100, lit_126, lit_160, lit_239, lit_240, lit_253, lit_400, lit_540, lit_600, lit_1000, lit_1265, lit_1518, NN_def, nI_add, pk_mul, nI_clamp, nI_leI, nI_ltI, nI_eq, nI_ne_NN, NN_ne_nI, NN_lt_nI, nI_le_NN, nI_lt_NN, NN_le_nI, oob, Option.bind_some, if_true, if_false, if_pos, if_neg]
      · rw [show min w1 (N - w0) = w1 by omega]
        simp (disch := omega) only [lit_0, lit_1, lit_2, lit_3, lit_4, lit_5, lit_6, lit_7, lit_8, lit_9, lit_10, lit_12, lit_13, lit_20, lit_31, lit_33, lit_35, lit_40, lit_41, lit_48, lit_50, lit_52, lit_57, lit_60, lit_63, lit_97, lit_100, lit_126, lit_160, lit_239, lit_240, lit_253, lit_400, lit_540, lit_600, lit_1000, lit_1265, lit_1518, NN_def, nI_add, pk_mul, nI_clamp, nI_leI, nI_ltI, nI_eq, nI_ne_NN, NN_ne_nI, NN_lt_nI, nI_le_NN, nI_lt_NN, NN_le_nI, oob, Option.bind_some, if_true, if_false, if_pos, if_neg]
    · have hn : nI N - nI w0 < nI 0 := pk_sneg (by omega) (by omega)
      have hn2 : nI N - nI w0 < nI w1 := by
        have := nI_le (a := 0) (b := w1) (by omega) (by omega)
        exact Int32.lt_of_lt_of_le hn this
      rw [show min w1 (N - w0) = 0 by omega, if_pos hn2, if_neg (Int32.not_lt.mpr (Int32.le_of_lt hn))]
theorem e_windowEnd {wfi wmo : Int32} {N w0 w1 : Nat} (h0 : wfi = nI w0) (b0 : w0 ≤ 239) (h1 : wmo = nI w1) (b1 : w1 ≤ 240) (hN : N ≤ 240) : fX2_windowEnd (nI N) wfi wmo = some (nI (wst w0 w1 + wpl N w0 w1)) := by
  unfold fX2_windowEnd
  rw [e_windowStart h0 b0 h1 b1, Option.bind_some, e_windowPlaces h0 b0 h1 b1 hN, Option.bind_some, nI_add]
