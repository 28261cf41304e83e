/-! COUNTS BY REMAINDERS -/
def cnt (r : Nat → Nat) (t p g s a : Nat) : Nat → Nat
  | 0 => 0
  | n + 1 => cnt r t p g s a n + (if (10 * (a + n) + p) % t / 10 = g ∧ r (a + n) = s then 1 else 0)
theorem cnt_le (r : Nat → Nat) (t p g s a : Nat) : ∀ n, cnt r t p g s a n ≤ n
  | 0 => Nat.le_refl 0
  | n + 1 => by
    have h := cnt_le r t p g s a n
    unfold cnt
    split <;> omega
theorem cls_lt {x t : Nat} (ht : 10 ≤ t) (ht2 : t ≤ 400) : x % t / 10 < 40 := by
  have := Nat.mod_lt x (show 0 < t by omega)
  omega
theorem cls_ncl {x t : Nat} (ht : 10 ≤ t) : x % t / 10 < (t + 9) / 10 := by
  have := Nat.mod_lt x (show 0 < t by omega)
  omega
theorem e_classOf {i t p : Nat} (hi : i ≤ 480) (ht : 10 ≤ t) (ht2 : t ≤ 400) (hp : p < t) : fX5_classOf (nI i) (nI t) (nI p) = some (nI ((10 * i + p) % t / 10)) := by
  unfold fX5_classOf
  simp (disch := omega) only [lit_0, lit_1, lit_2, lit_3, lit_4, lit_5, lit_6, lit_7, lit_8, lit_9, lit_10, lit_12, lit_13, lit_20, lit_31, lit_33, lit_35, lit_40, lit_41, lit_48, lit_50, lit_52, lit_57, lit_60, lit_63, lit_97, lit_100, lit_126, lit_160, lit_239, lit_240, lit_253, lit_400, lit_540, lit_600, lit_1000, lit_1265, lit_1518, NN_def, nI_add, pk_mul, nI_clamp, nI_leI, nI_ltI, nI_eq, nI_ne_NN, NN_ne_nI, NN_lt_nI, nI_le_NN, nI_lt_NN, NN_le_nI, oob, Option.bind_some, if_true, if_false, if_pos, if_neg]
  rw [pk_rem (by omega) (by omega) (by omega), pk_div (by have := Nat.mod_lt (10 * i + p) (show 0 < t by omega); omega) (by omega) (by omega)]
theorem e_classOf6 {i t p : Nat} (hi : i ≤ 480) (ht : 10 ≤ t) (ht2 : t ≤ 400) (hp : p < t) : fX6_classOf (nI i) (nI t) (nI p) = some (nI ((10 * i + p) % t / 10)) := by
  unfold fX6_classOf
  simp (disch := omega) only [lit_0, lit_1, lit_2, lit_3, lit_4, lit_5, lit_6, lit_7, lit_8, lit_9, lit_10, lit_12, lit_13, lit_20, lit_31, lit_33, lit_35, lit_40, lit_41, lit_48, lit_50, lit_52, lit_57, lit_60, lit_63, lit_97, lit_100, lit_126, lit_160, lit_239, lit_240, lit_253, lit_400, lit_540, lit_600, lit_1000, lit_1265, lit_1518, NN_def, nI_add, pk_mul, nI_clamp, nI_leI, nI_ltI, nI_eq, nI_ne_NN, NN_ne_nI, NN_lt_nI, nI_le_NN, nI_lt_NN, NN_le_nI, oob, Option.bind_some, if_true, if_false, if_pos, if_neg]
  rw [pk_rem (by omega) (by omega) (by omega), pk_div (by have := Nat.mod_lt (10 * i + p) (show 0 < t by omega); omega) (by omega) (by omega)]
theorem e_classesOf {t : Nat} (ht2 : t ≤ 400) : fX5_classesOf (nI t) = some (nI ((t + 9) / 10)) := by
  unfold fX5_classesOf
  simp (disch := omega) only [lit_0, lit_1, lit_2, lit_3, lit_4, lit_5, lit_6, lit_7, lit_8, lit_9, lit_10, lit_12, lit_13, lit_20, lit_31, lit_33, lit_35, lit_40, lit_41, lit_48, lit_50, lit_52, lit_57, lit_60, lit_63, lit_97, lit_100, lit_126, lit_160, lit_239, lit_240, lit_253, lit_400, lit_540, lit_600, lit_1000, lit_1265, lit_1518, NN_def, nI_add, pk_mul, nI_clamp, nI_leI, nI_ltI, nI_eq, nI_ne_NN, NN_ne_nI, NN_lt_nI, nI_le_NN, nI_lt_NN, NN_le_nI, oob, Option.bind_some, if_true, if_false, if_pos, if_neg]
  rw [pk_sub (by omega), pk_div (by omega) (by omega) (by omega)]
  rfl
theorem e_classesOf6 {t : Nat} (ht2 : t ≤ 400) : fX6_classesOf (nI t) = some (nI ((t + 9) / 10)) := by
  unfold fX6_classesOf
  simp (disch := omega) only [lit_0, lit_1, lit_2, lit_3, lit_4, lit_5, lit_6, lit_7, lit_8, lit_9, lit_10, lit_12, lit_13, lit_20, lit_31, lit_33, lit_35, lit_40, lit_41, lit_48, lit_50, lit_52, lit_57, lit_60, lit_63, lit_97, lit_100, lit_126, lit_160, lit_239, lit_240, lit_253, lit_400, lit_540, lit_600, lit_1000, lit_1265, lit_1518, NN_def, nI_add, pk_mul, nI_clamp, nI_leI, nI_ltI, nI_eq, nI_ne_NN, NN_ne_nI, NN_lt_nI, nI_le_NN, nI_lt_NN, NN_le_nI, oob, Option.bind_some, if_true, if_false, if_pos, if_neg]
  rw [pk_div (by omega) (by omega) (by omega)]
theorem e_signAt {row : Nat → Int32} {N i : Nat} (hN : N ≤ 240) (hi : i < N) : fX2_signAt row (nI N) (nI i) = some (row i) := by
  unfold fX2_signAt
  simp (disch := omega) only [lit_0, lit_1, lit_2, lit_3, lit_4, lit_5, lit_6, lit_7, lit_8, lit_9, lit_10, lit_12, lit_13, lit_20, lit_31, lit_33, lit_35, lit_40, lit_41, lit_48, lit_50, lit_52, lit_57, lit_60, lit_63, lit_97, lit_100, lit_126, lit_160, lit_239, lit_240, lit_253, lit_400, lit_540, lit_600, lit_1000, lit_1265, lit_1518, NN_def, nI_add, pk_mul, nI_clamp, nI_leI, nI_ltI, nI_eq, nI_ne_NN, NN_ne_nI, NN_lt_nI, nI_le_NN, nI_lt_NN, NN_le_nI, oob, Option.bind_some, if_true, if_false, if_pos, if_neg]
theorem l_fillv {m : Nat} (hm : m < 2 ^ 30) (v : Int32) : ∀ (n i : Nat) (f : Nat → Int32), i ≤ m → m < n + i → (∀ j, j < i → f j = v) → ∃ f', fJ7_fill_53178_L5 m v (nI m) n (nI i) f = some f' ∧ ∀ j, j < m → f' j = v
  | 0, i, f, h1, h2, _ => absurd h2 (by omega)
  | n + 1, i, f, h1, h2, hf => by
    rw [fJ7_fill_53178_L5]
    by_cases h : i = m
    · rw [if_pos ((nI_leI (by omega) (by omega)).mpr (by omega))]
      exact ⟨f, rfl, fun j hj => hf j (by omega)⟩
    · simp (disch := omega) only [lit_0, lit_1, lit_2, lit_3, lit_4, lit_5, lit_6, lit_7, lit_8, lit_9, lit_10, lit_12, lit_13, lit_20, lit_31, lit_33, lit_35, lit_40, lit_41, lit_48, lit_50, lit_52, lit_57, lit_60, lit_63, lit_97, lit_100, lit_126, lit_160, lit_239, lit_240, lit_253, lit_400, lit_540, lit_600, lit_1000, lit_1265, lit_1518, NN_def, nI_add, pk_mul, nI_clamp, nI_leI, nI_ltI, nI_eq, nI_ne_NN, NN_ne_nI, NN_lt_nI, nI_le_NN, nI_lt_NN, NN_le_nI, oob, Option.bind_some, if_true, if_false, if_pos, if_neg]
      exact l_fillv hm v n (i + 1) _ (by omega) (by omega) (fun j hj => by
        rw [upd_at]
        by_cases q : j = i
        · rw [if_pos q]
        · rw [if_neg q]; exact hf j (by omega))
theorem e_fillv {m : Nat} (hm : m ≤ 1000) (v : Int32) (f : Nat → Int32) : ∃ f', fJ7_fill_53178 f m v = some f' ∧ ∀ j, j < m → f' j = v := by
  unfold fJ7_fill_53178
  rw [lit_0]
  obtain ⟨f', h1, h2⟩ := l_fillv (m := m) (by omega) v FU 0 f (by omega) (by rw [FU_eq]; omega) (fun j hj => absurd hj (by omega))
  exact ⟨f', by rw [h1]; rfl, h2⟩
theorem e_fill (cel : Nat → Int32) : ∃ f', fJ7_fill_53178 cel 160 0 = some f' ∧ ∀ j, j < 160 → f' j = nI 0 := e_fillv (by omega) 0 cel
/-- the counts of a stretch stand in the cells -/
def isCnt (cel : Nat → Int32) (r : Nat → Nat) (t p a n : Nat) : Prop := ∀ g s, g < 40 → s < 4 → cel (4 * g + s) = nI (cnt r t p g s a n)
theorem isCnt_step {cel : Nat → Int32} {r : Nat → Nat} {t p a d : Nat} (h : isCnt cel r t p a d) (ht : 10 ≤ t) (ht2 : t ≤ 400) (hr : r (a + d) < 4) : isCnt (upd cel (4 * ((10 * (a + d) + p) % t / 10) + r (a + d)) (cel (4 * ((10 * (a + d) + p) % t / 10) + r (a + d)) + nI 1)) r t p a (d + 1) := by
  intro g s hg hs
  have hc := cls_lt (x := 10 * (a + d) + p) ht ht2
  rw [upd_at, h _ _ hc hr]
  rw [cnt]
  by_cases q : 4 * g + s = 4 * ((10 * (a + d) + p) % t / 10) + r (a + d)
  · have q1 : (10 * (a + d) + p) % t / 10 = g := by omega
    have q2 : r (a + d) = s := by omega
    rw [if_pos q, if_pos ⟨q1, q2⟩, nI_add, q1, q2]
  · rw [if_neg q, if_neg (fun z => q (by omega))]
    exact h g s hg hs
theorem l_stretch {row : Nat → Int32} {r : Nat → Nat} {N t p a m : Nat} (hN : N ≤ 240) (ht : 10 ≤ t) (ht2 : t ≤ 400) (hp : p < t) (hr : ∀ i, i < N → row i = nI (r i) ∧ r i < 4) (hm : a + m ≤ N ∨ m = 0) (ha : a ≤ 240) :
    ∀ (n d : Nat) (cel : Nat → Int32), d ≤ m → m < n + d → isCnt cel r t p a d → ∃ cel', fX0_takeStretch_L27 row (nI N) (nI t) (nI p) (nI (a + m)) n (nI (a + d)) cel = some cel' ∧ isCnt cel' r t p a m
  | 0, d, cel, h1, h2, _ => absurd h2 (by omega)
  | n + 1, d, cel, h1, h2, hc => by
    rw [fX0_takeStretch_L27]
    by_cases h : d = m
    · subst h
      simp (disch := omega) only [lit_0, lit_1, lit_2, lit_3, lit_4, lit_5, lit_6, lit_7, lit_8, lit_9, lit_10, lit_12, lit_13, lit_20, lit_31, lit_33, lit_35, lit_40, lit_41, lit_48, lit_50, lit_52, lit_57, lit_60, lit_63, lit_97, lit_100, lit_126, lit_160, lit_239, lit_240, lit_253, lit_400, lit_540, lit_600, lit_1000, lit_1265, lit_1518, NN_def, nI_add, pk_mul, nI_clamp, nI_leI, nI_ltI, nI_eq, nI_ne_NN, NN_ne_nI, NN_lt_nI, nI_le_NN, nI_lt_NN, NN_le_nI, oob, Option.bind_some, if_true, if_false, if_pos, if_neg]
      exact ⟨cel, rfl, hc⟩
    · obtain ⟨q1, q2⟩ := hr (a + d) (by omega)
      have hcl := cls_lt (x := 10 * (a + d) + p) ht ht2
      rw [e_classOf (by omega) ht ht2 hp, e_signAt hN (by omega), q1]
      simp (disch := omega) only [lit_0, lit_1, lit_2, lit_3, lit_4, lit_5, lit_6, lit_7, lit_8, lit_9, lit_10, lit_12, lit_13, lit_20, lit_31, lit_33, lit_35, lit_40, lit_41, lit_48, lit_50, lit_52, lit_57, lit_60, lit_63, lit_97, lit_100, lit_126, lit_160, lit_239, lit_240, lit_253, lit_400, lit_540, lit_600, lit_1000, lit_1265, lit_1518, NN_def, nI_add, pk_mul, nI_clamp, nI_leI, nI_ltI, nI_eq, nI_ne_NN, NN_ne_nI, NN_lt_nI, nI_le_NN, nI_lt_NN, NN_le_nI, oob, Option.bind_some, if_true, if_false, if_pos, if_neg]
      rw [show (10 * (a + d) + p) % t / 10 * 4 = 4 * ((10 * (a + d) + p) % t / 10) from Nat.mul_comm _ _]
      exact l_stretch hN ht ht2 hp hr hm ha n (d + 1) _ (by omega) (by omega) (isCnt_step hc ht ht2 q2)
theorem e_stretch {row : Nat → Int32} {r : Nat → Nat} {N t p a m : Nat} (cel : Nat → Int32) (hN : N ≤ 240) (ht : 10 ≤ t) (ht2 : t ≤ 400) (hp : p < t) (hr : ∀ i, i < N → row i = nI (r i) ∧ r i < 4) (hm : a + m ≤ N ∨ m = 0) (ha : a ≤ 240) :
    ∃ cel', fX0_takeStretch cel row (nI N) (nI t) (nI p) (nI a) (nI m) = some (cel', nI ((t + 9) / 10)) ∧ isCnt cel' r t p a m := by
  unfold fX0_takeStretch
  obtain ⟨f', h1, h2⟩ := e_fill cel
  obtain ⟨c', h3, h4⟩ := l_stretch (row := row) (r := r) (N := N) (t := t) (p := p) (a := a) (m := m) hN ht ht2 hp hr hm ha FU 0 f' (by omega) (by rw [FU_eq]; omega) (fun g s hg hs => by rw [h2 _ (by omega)]; rfl)
  rw [h1, e_classesOf ht2]
  simp (disch := omega) only [lit_0, lit_1, lit_2, lit_3, lit_4, lit_5, lit_6, lit_7, lit_8, lit_9, lit_10, lit_12, lit_13, lit_20, lit_31, lit_33, lit_35, lit_40, lit_41, lit_48, lit_50, lit_52, lit_57, lit_60, lit_63, lit_97, lit_100, lit_126, lit_160, lit_239, lit_240, lit_253, lit_400, lit_540, lit_600, lit_1000, lit_1265, lit_1518, NN_def, nI_add, pk_mul, nI_clamp, nI_leI, nI_ltI, nI_eq, nI_ne_NN, NN_ne_nI, NN_lt_nI, nI_le_NN, nI_lt_NN, NN_le_nI, oob, Option.bind_some, if_true, if_false, if_pos, if_neg]
  rw [Nat.add_zero] at h3
  rw [h3]
  exact ⟨c', rfl, h4⟩
/-! the sign of a class: the first of the greatest -/
def bst (c : Nat → Nat) : Nat → Int32 × Nat
  | 0 => (NN, 0)
  | k + 1 => if (bst c k).2 < c k then (nI k, c k) else bst c k
def mx (c : Nat → Nat) : Nat := (bst c 4).2
def sg (c : Nat → Nat) : Int32 := (bst c 4).1
def pl4 (c : Nat → Nat) : Nat := c 0 + c 1 + c 2 + c 3
theorem bst_le (c : Nat → Nat) (B : Nat) : ∀ k, (∀ j, j < k → c j ≤ B) → (bst c k).2 ≤ B
  | 0, _ => Nat.zero_le _
  | k + 1, h => by
    have h1 := bst_le c B k (fun j hj => h j (by omega))
    have h2 := h k (by omega)
    unfold bst
    split
    · exact h2
    · exact h1
theorem bst_cases (c : Nat → Nat) : ∀ k, ((bst c k).1 = NN ∧ (bst c k).2 = 0) ∨ ∃ b, b < k ∧ (bst c k).1 = nI b ∧ c b = (bst c k).2 ∧ 0 < (bst c k).2
  | 0 => Or.inl ⟨rfl, rfl⟩
  | k + 1 => by
    unfold bst
    split
    · rename_i h
      exact Or.inr ⟨k, by omega, rfl, rfl, by show 0 < c k; omega⟩
    · rcases bst_cases c k with q | ⟨b, q1, q2⟩
      · exact Or.inl q
      · exact Or.inr ⟨b, by omega, q2⟩
theorem e_countOf {cel : Nat → Int32} {g s : Nat} (hg : g < 40) (hs : s < 4) : fX0_countOf cel (nI g) (nI s) = some (cel (4 * g + s)) := by
  unfold fX0_countOf
  simp (disch := omega) only [lit_0, lit_1, lit_2, lit_3, lit_4, lit_5, lit_6, lit_7, lit_8, lit_9, lit_10, lit_12, lit_13, lit_20, lit_31, lit_33, lit_35, lit_40, lit_41, lit_48, lit_50, lit_52, lit_57, lit_60, lit_63, lit_97, lit_100, lit_126, lit_160, lit_239, lit_240, lit_253, lit_400, lit_540, lit_600, lit_1000, lit_1265, lit_1518, NN_def, nI_add, pk_mul, nI_clamp, nI_leI, nI_ltI, nI_eq, nI_ne_NN, NN_ne_nI, NN_lt_nI, nI_le_NN, nI_lt_NN, NN_le_nI, oob, Option.bind_some, if_true, if_false, if_pos, if_neg]
  rw [Nat.mul_comm]
/-- the four counts of a class -/
def has4 (cel : Nat → Int32) (g : Nat) (c : Nat → Nat) : Prop := ∀ s, s < 4 → cel (4 * g + s) = nI (c s) ∧ c s ≤ 240
theorem l_signOf {cel : Nat → Int32} {g : Nat} {c : Nat → Nat} (hg : g < 40) (hc : has4 cel g c) : ∀ (n k : Nat), k ≤ 4 → 4 < n + k → fX0_signOf_L7 cel (nI g) n (bst c k).1 (nI (bst c k).2) (nI k) = some (sg c)
  | 0, k, h1, h2 => absurd h2 (by omega)
  | n + 1, k, h1, h2 => by
    rw [fX0_signOf_L7]
    by_cases h : k = 4
    · subst h
      simp (disch := omega) only [lit_0, lit_1, lit_2, lit_3, lit_4, lit_5, lit_6, lit_7, lit_8, lit_9, lit_10, lit_12, lit_13, lit_20, lit_31, lit_33, lit_35, lit_40, lit_41, lit_48, lit_50, lit_52, lit_57, lit_60, lit_63, lit_97, lit_100, lit_126, lit_160, lit_239, lit_240, lit_253, lit_400, lit_540, lit_600, lit_1000, lit_1265, lit_1518, NN_def, nI_add, pk_mul, nI_clamp, nI_leI, nI_ltI, nI_eq, nI_ne_NN, NN_ne_nI, NN_lt_nI, nI_le_NN, nI_lt_NN, NN_le_nI, oob, Option.bind_some, if_true, if_false, if_pos, if_neg]
      rfl
    · obtain ⟨q1, q2⟩ := hc k (by omega)
      have hb := bst_le c 240 k (fun j hj => (hc j (by omega)).2)
      rw [e_countOf hg (by omega), q1]
      have ih := l_signOf hg hc n (k + 1) (by omega) (by omega)
      by_cases hk : (bst c k).2 < c k
      · have e1 : bst c (k + 1) = (nI k, c k) := by rw [bst, if_pos hk]
        rw [e1] at ih
        simp (disch := omega) only [lit_0, lit_1, lit_2, lit_3, lit_4, lit_5, lit_6, lit_7, lit_8, lit_9, lit_10, lit_12, lit_13, lit_20, lit_31, lit_33, lit_35, lit_40, lit_41, lit_48, lit_50, lit_52, lit_57, lit_60, lit_63, lit_97, lit_100, lit_126, lit_160, lit_239, lit_240, lit_253, lit_400, lit_540, lit_600, lit_1000, lit_1265, lit_1518, NN_def, nI_add, pk_mul, nI_clamp, nI_leI, nI_ltI, nI_eq, nI_ne_NN, NN_ne_nI, NN_lt_nI, nI_le_NN, nI_lt_NN, NN_le_nI, oob, Option.bind_some, if_true, if_false, if_pos, if_neg]
        exact ih
      · have e1 : bst c (k + 1) = bst c k := by rw [bst, if_neg hk]
        rw [e1] at ih
        simp (disch := omega) only [lit_0, lit_1, lit_2, lit_3, lit_4, lit_5, lit_6, lit_7, lit_8, lit_9, lit_10, lit_12, lit_13, lit_20, lit_31, lit_33, lit_35, lit_40, lit_41, lit_48, lit_50, lit_52, lit_57, lit_60, lit_63, lit_97, lit_100, lit_126, lit_160, lit_239, lit_240, lit_253, lit_400, lit_540, lit_600, lit_1000, lit_1265, lit_1518, NN_def, nI_add, pk_mul, nI_clamp, nI_leI, nI_ltI, nI_eq, nI_ne_NN, NN_ne_nI, NN_lt_nI, nI_le_NN, nI_lt_NN, NN_le_nI, oob, Option.bind_some, if_true, if_false, if_pos, if_neg]
        exact ih
theorem e_signOf {cel : Nat → Int32} {g : Nat} {c : Nat → Nat} (hg : g < 40) (hc : has4 cel g c) : fX0_signOf cel (nI g) = some (sg c) := by
  unfold fX0_signOf
  have h := l_signOf hg hc FU 0 (by omega) (by rw [FU_eq]; omega)
  rw [show ((-1 : Int32)) = NN from rfl, lit_0]
  rw [show fX0_signOf_L7 cel (nI g) FU NN (nI 0) (nI 0) = some (sg c) from h]
  rfl
theorem l_greatestOf {cel : Nat → Int32} {g : Nat} {c : Nat → Nat} (hg : g < 40) (hc : has4 cel g c) : ∀ (n k : Nat), k ≤ 4 → 4 < n + k → fX0_greatestOf_L4 cel (nI g) n (nI (bst c k).2) (nI k) = some (nI (mx c))
  | 0, k, h1, h2 => absurd h2 (by omega)
  | n + 1, k, h1, h2 => by
    rw [fX0_greatestOf_L4]
    by_cases h : k = 4
    · subst h
      simp (disch := omega) only [lit_0, lit_1, lit_2, lit_3, lit_4, lit_5, lit_6, lit_7, lit_8, lit_9, lit_10, lit_12, lit_13, lit_20, lit_31, lit_33, lit_35, lit_40, lit_41, lit_48, lit_50, lit_52, lit_57, lit_60, lit_63, lit_97, lit_100, lit_126, lit_160, lit_239, lit_240, lit_253, lit_400, lit_540, lit_600, lit_1000, lit_1265, lit_1518, NN_def, nI_add, pk_mul, nI_clamp, nI_leI, nI_ltI, nI_eq, nI_ne_NN, NN_ne_nI, NN_lt_nI, nI_le_NN, nI_lt_NN, NN_le_nI, oob, Option.bind_some, if_true, if_false, if_pos, if_neg]
      rfl
    · obtain ⟨q1, q2⟩ := hc k (by omega)
      have hb := bst_le c 240 k (fun j hj => (hc j (by omega)).2)
      rw [e_countOf hg (by omega), q1]
      have ih := l_greatestOf hg hc n (k + 1) (by omega) (by omega)
      by_cases hk : (bst c k).2 < c k
      · have e1 : bst c (k + 1) = (nI k, c k) := by rw [bst, if_pos hk]
        rw [e1] at ih
        simp (disch := omega) only [lit_0, lit_1, lit_2, lit_3, lit_4, lit_5, lit_6, lit_7, lit_8, lit_9, lit_10, lit_12, lit_13, lit_20, lit_31, lit_33, lit_35, lit_40, lit_41, lit_48, lit_50, lit_52, lit_57, lit_60, lit_63, lit_97, lit_100, lit_126, lit_160, lit_239, lit_240, lit_253, lit_400, lit_540, lit_600, lit_1000, lit_1265, lit_1518, NN_def, nI_add, pk_mul, nI_clamp, nI_leI, nI_ltI, nI_eq, nI_ne_NN, NN_ne_nI, NN_lt_nI, nI_le_NN, nI_lt_NN, NN_le_nI, oob, Option.bind_some, if_true, if_false, if_pos, if_neg]
        exact ih
      · have e1 : bst c (k + 1) = bst c k := by rw [bst, if_neg hk]
        rw [e1] at ih
        simp (disch := omega) only [lit_0, lit_1, lit_2, lit_3, lit_4, lit_5, lit_6, lit_7, lit_8, lit_9, lit_10, lit_12, lit_13, lit_20, lit_31, lit_33, lit_35, lit_40, lit_41, lit_48, lit_50, lit_52, lit_57, lit_60, lit_63, lit_97, lit_100, lit_126, lit_160, lit_239, lit_240, lit_253, lit_400, lit_540, lit_600, lit_1000, lit_1265, lit_1518, NN_def, nI_add, pk_mul, nI_clamp, nI_leI, nI_ltI, nI_eq, nI_ne_NN, NN_ne_nI, NN_lt_nI, nI_le_NN, nI_lt_NN, NN_le_nI, oob, Option.bind_some, if_true, if_false, if_pos, if_neg]
        exact ih
theorem e_greatestOf {cel : Nat → Int32} {g : Nat} {c : Nat → Nat} (hg : g < 40) (hc : has4 cel g c) : fX0_greatestOf cel (nI g) = some (nI (mx c)) := by
  unfold fX0_greatestOf
  have h := l_greatestOf hg hc FU 0 (by omega) (by rw [FU_eq]; omega)
  rw [lit_0]
  rw [show fX0_greatestOf_L4 cel (nI g) FU (nI 0) (nI 0) = some (nI (mx c)) from h]
  rfl
def sum4 (c : Nat → Nat) : Nat → Nat
  | 0 => 0
  | k + 1 => sum4 c k + c k
theorem sum4_le (c : Nat → Nat) (B : Nat) : ∀ k, (∀ j, j < k → c j ≤ B) → sum4 c k ≤ k * B
  | 0, _ => Nat.zero_le _
  | k + 1, h => by
    have h1 := sum4_le c B k (fun j hj => h j (by omega))
    have h2 := h k (by omega)
    rw [sum4, Nat.add_mul]
    omega
theorem l_placesOf {cel : Nat → Int32} {g : Nat} {c : Nat → Nat} (hg : g < 40) (hc : has4 cel g c) : ∀ (n k : Nat), k ≤ 4 → 4 < n + k → fX0_placesOf_L4 cel (nI g) n (nI (sum4 c k)) (nI k) = some (nI (sum4 c 4))
  | 0, k, h1, h2 => absurd h2 (by omega)
  | n + 1, k, h1, h2 => by
    rw [fX0_placesOf_L4]
    by_cases h : k = 4
    · subst h
      simp (disch := omega) only [lit_0, lit_1, lit_2, lit_3, lit_4, lit_5, lit_6, lit_7, lit_8, lit_9, lit_10, lit_12, lit_13, lit_20, lit_31, lit_33, lit_35, lit_40, lit_41, lit_48, lit_50, lit_52, lit_57, lit_60, lit_63, lit_97, lit_100, lit_126, lit_160, lit_239, lit_240, lit_253, lit_400, lit_540, lit_600, lit_1000, lit_1265, lit_1518, NN_def, nI_add, pk_mul, nI_clamp, nI_leI, nI_ltI, nI_eq, nI_ne_NN, NN_ne_nI, NN_lt_nI, nI_le_NN, nI_lt_NN, NN_le_nI, oob, Option.bind_some, if_true, if_false, if_pos, if_neg]
    · obtain ⟨q1, q2⟩ := hc k (by omega)
      rw [e_countOf hg (by omega), q1]
      have ih := l_placesOf hg hc n (k + 1) (by omega) (by omega)
      simp (disch := omega) only [lit_0, lit_1, lit_2, lit_3, lit_4, lit_5, lit_6, lit_7, lit_8, lit_9, lit_10, lit_12, lit_13, lit_20, lit_31, lit_33, lit_35, lit_40, lit_41, lit_48, lit_50, lit_52, lit_57, lit_60, lit_63, lit_97, lit_100, lit_126, lit_160, lit_239, lit_240, lit_253, lit_400, lit_540, lit_600, lit_1000, lit_1265, lit_1518, NN_def, nI_add, pk_mul, nI_clamp, nI_leI, nI_ltI, nI_eq, nI_ne_NN, NN_ne_nI, NN_lt_nI, nI_le_NN, nI_lt_NN, NN_le_nI, oob, Option.bind_some, if_true, if_false, if_pos, if_neg]
      exact ih
theorem e_placesOf {cel : Nat → Int32} {g : Nat} {c : Nat → Nat} (hg : g < 40) (hc : has4 cel g c) : fX0_placesOf cel (nI g) = some (nI (sum4 c 4)) := by
  unfold fX0_placesOf
  have h := l_placesOf hg hc FU 0 (by omega) (by rw [FU_eq]; omega)
  rw [lit_0]
  rw [show fX0_placesOf_L4 cel (nI g) FU (nI 0) (nI 0) = some (nI (sum4 c 4)) from h]
  rfl
/-- the sign of a class, if it is strong -/
def ss (c : Nat → Nat) (q : Nat) : Int32 := if q * sum4 c 4 ≤ 100 * mx c then sg c else NN
theorem mx_le {c : Nat → Nat} {B : Nat} (h : ∀ s, s < 4 → c s ≤ B) : mx c ≤ B := bst_le c B 4 h
theorem e_strongSignOf {cel : Nat → Int32} {g q : Nat} {c : Nat → Nat} (hg : g < 40) (hc : has4 cel g c) (hq : q ≤ 100) : fX0_strongSignOf cel (nI g) (nI q) = some (ss c q) := by
  unfold fX0_strongSignOf ss
  rw [e_greatestOf hg hc, e_placesOf hg hc, e_signOf hg hc]
  have h1 := mx_le (fun s hs => (hc s hs).2)
  have h2 := sum4_le c 240 4 (fun j hj => (hc j (by omega)).2)
  have h3 : q * sum4 c 4 ≤ 100 * (4 * 240) := Nat.mul_le_mul hq h2
  by_cases hk : q * sum4 c 4 ≤ 100 * mx c
  · simp (disch := omega) only [lit_0, lit_1, lit_2, lit_3, lit_4, lit_5, lit_6, lit_7, lit_8, lit_9, lit_10, lit_12, lit_13, lit_20, lit_31, lit_33, lit_35, lit_40, lit_41, lit_48, lit_50, lit_52, lit_57, lit_60, lit_63, lit_97, lit_100, lit_126, lit_160, lit_239, lit_240, lit_253, lit_400, lit_540, lit_600, lit_1000, lit_1265, lit_1518, NN_def, nI_add, pk_mul, nI_clamp, nI_leI, nI_ltI, nI_eq, nI_ne_NN, NN_ne_nI, NN_lt_nI, nI_le_NN, nI_lt_NN, NN_le_nI, oob, Option.bind_some, if_true, if_false, if_pos, if_neg, if_pos hk]
  · simp (disch := omega) only [lit_0, lit_1, lit_2, lit_3, lit_4, lit_5, lit_6, lit_7, lit_8, lit_9, lit_10, lit_12, lit_13, lit_20, lit_31, lit_33, lit_35, lit_40, lit_41, lit_48, lit_50, lit_52, lit_57, lit_60, lit_63, lit_97, lit_100, lit_126, lit_160, lit_239, lit_240, lit_253, lit_400, lit_540, lit_600, lit_1000, lit_1265, lit_1518, NN_def, nI_add, pk_mul, nI_clamp, nI_leI, nI_ltI, nI_eq, nI_ne_NN, NN_ne_nI, NN_lt_nI, nI_le_NN, nI_lt_NN, NN_le_nI, oob, Option.bind_some, if_true, if_false, if_pos, if_neg, if_neg hk]
