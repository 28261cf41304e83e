/-! THE SAME COUNTS, AS THE REFERENCE LAYS THEM -/
def AB (N K w0 w1 w2 : Nat) (r tn ph : Nat → Nat) : Prop := N ≤ 240 ∧ K ≤ 4 ∧ w0 ≤ 239 ∧ w1 ≤ 240 ∧ 1 ≤ w2 ∧ w2 ≤ 100 ∧ (∀ i, i < N → r i < 4) ∧ ∀ i, i < K → 10 ≤ tn i ∧ tn i ≤ 400 ∧ ph i < tn i
def CI (row ten pha : Nat → Int32) (len kep wfi wmo hun : Int32) (N K w0 w1 w2 : Nat) (r tn ph : Nat → Nat) : Prop := len = nI N ∧ kep = nI K ∧ wfi = nI w0 ∧ wmo = nI w1 ∧ hun = nI w2 ∧ (∀ i, i < N → row i = nI (r i)) ∧ ∀ i, i < K → ten i = nI (tn i) ∧ pha i = nI (ph i)
def MI (ms : Nat → Int32) (N K w0 w1 w2 : Nat) (r tn ph : Nat → Nat) : Prop := ms 0 = nI N ∧ ms 1 = nI w0 ∧ ms 2 = nI w1 ∧ ms 3 = nI w2 ∧ ms 4 = nI K ∧ (∀ i, i < K → ms (5 + 2 * i) = nI (tn i) ∧ ms (5 + 2 * i + 1) = nI (ph i)) ∧ ∀ i, i < N → ms (13 + i) = nI (r i)
section M6
variable {ms : Nat → Int32} {N K w0 w1 w2 : Nat} {r tn ph : Nat → Nat}
theorem e_first6 (hA : AB N K w0 w1 w2 r tn ph) (hM : MI ms N K w0 w1 w2 r tn ph) : fX6_firstPlace ms = some (nI (wst w0 w1)) := by
  obtain ⟨a1, a2, a3, a4, a5, a6, a7, a8⟩ := hA
  obtain ⟨m0, m1, m2, m3, m4, m5, m6⟩ := hM
  unfold fX6_firstPlace wst
  simp (disch := omega) only [lit_0, lit_1, lit_2, lit_3, lit_4, lit_5, lit_6, lit_7, lit_8, lit_9, lit_10, lit_12, lit_13, lit_20, lit_31, lit_33, lit_35, lit_40, lit_41, lit_48, lit_50, lit_52, lit_57, lit_60, lit_63, lit_97, lit_100, lit_126, lit_160, lit_239, lit_240, lit_253, lit_400, lit_540, lit_600, lit_1000, lit_1265, lit_1518, NN_def, nI_add, pk_mul, nI_clamp, nI_leI, nI_ltI, nI_eq, nI_ne_NN, NN_ne_nI, NN_lt_nI, nI_le_NN, nI_lt_NN, NN_le_nI, oob, Option.bind_some, if_true, if_false, if_pos, if_neg, m0, m1, m2]
  by_cases hz : w1 = 0
  · rw [if_pos hz, if_pos hz]
  · rw [if_neg hz, if_neg hz]
theorem e_last6 (hA : AB N K w0 w1 w2 r tn ph) (hM : MI ms N K w0 w1 w2 r tn ph) : fX6_lastPlace ms = some (nI (wst w0 w1 + wpl N w0 w1)) := by
  have hf := e_first6 hA hM
  obtain ⟨a1, a2, a3, a4, a5, a6, a7, a8⟩ := hA
  obtain ⟨m0, m1, m2, m3, m4, m5, m6⟩ := hM
  unfold fX6_lastPlace
  rw [hf]
  unfold wst wpl
  simp (disch := omega) only [lit_0, lit_1, lit_2, lit_3, lit_4, lit_5, lit_6, lit_7, lit_8, lit_9, lit_10, lit_12, lit_13, lit_20, lit_31, lit_33, lit_35, lit_40, lit_41, lit_48, lit_50, lit_52, lit_57, lit_60, lit_63, lit_97, lit_100, lit_126, lit_160, lit_239, lit_240, lit_253, lit_400, lit_540, lit_600, lit_1000, lit_1265, lit_1518, NN_def, nI_add, pk_mul, nI_clamp, nI_leI, nI_ltI, nI_eq, nI_ne_NN, NN_ne_nI, NN_lt_nI, nI_le_NN, nI_lt_NN, NN_le_nI, oob, Option.bind_some, if_true, if_false, if_pos, if_neg, m0, m1, m2]
  by_cases hz : w1 = 0
  · simp (disch := omega) only [lit_0, lit_1, lit_2, lit_3, lit_4, lit_5, lit_6, lit_7, lit_8, lit_9, lit_10, lit_12, lit_13, lit_20, lit_31, lit_33, lit_35, lit_40, lit_41, lit_48, lit_50, lit_52, lit_57, lit_60, lit_63, lit_97, lit_100, lit_126, lit_160, lit_239, lit_240, lit_253, lit_400, lit_540, lit_600, lit_1000, lit_1265, lit_1518, NN_def, nI_add, pk_mul, nI_clamp, nI_leI, nI_ltI, nI_eq, nI_ne_NN, NN_ne_nI, NN_lt_nI, nI_le_NN, nI_lt_NN, NN_le_nI, oob, Option.bind_some, if_true, if_false, if_pos, if_neg, hz, if_true, Nat.zero_add]
  · simp (disch := omega) only [lit_0, lit_1, lit_2, lit_3, lit_4, lit_5, lit_6, lit_7, lit_8, lit_9, lit_10, lit_12, lit_13, lit_20, lit_31, lit_33, lit_35, lit_40, lit_41, lit_48, lit_50, lit_52, lit_57, lit_60, lit_63, lit_97, lit_100, lit_126, lit_160, lit_239, lit_240, lit_253, lit_400, lit_540, lit_600, lit_1000, lit_1265, lit_1518, NN_def, nI_add, pk_mul, nI_clamp, nI_leI, nI_ltI, nI_eq, nI_ne_NN, NN_ne_nI, NN_lt_nI, nI_le_NN, nI_lt_NN, NN_le_nI, oob, Option.bind_some, if_true, if_false, if_pos, if_neg, hz, if_false]
    by_cases h1 : N ≤ w0 + w1
    · simp (disch := omega) only [lit_0, lit_1, lit_2, lit_3, lit_4, lit_5, lit_6, lit_7, lit_8, lit_9, lit_10, lit_12, lit_13, lit_20, lit_31, lit_33, lit_35, lit_40, lit_41, lit_48, lit_50, lit_52, lit_57, lit_60, lit_63, lit_97, lit_100, lit_126, lit_160, lit_239, lit_240, lit_253, lit_400, lit_540, lit_600, lit_1000, lit_1265, lit_1518, NN_def, nI_add, pk_mul, nI_clamp, nI_leI, nI_ltI, nI_eq, nI_ne_NN, NN_ne_nI, NN_lt_nI, nI_le_NN, nI_lt_NN, NN_le_nI, oob, Option.bind_some, if_true, if_false, if_pos, if_neg]
      by_cases h2 : w0 ≤ N
      · simp (disch := omega) only [lit_0, lit_1, lit_2, lit_3, lit_4, lit_5, lit_6, lit_7, lit_8, lit_9, lit_10, lit_12, lit_13, lit_20, lit_31, lit_33, lit_35, lit_40, lit_41, lit_48, lit_50, lit_52, lit_57, lit_60, lit_63, lit_97, lit_100, lit_126, lit_160, lit_239, lit_240, lit_253, lit_400, lit_540, lit_600, lit_1000, lit_1265, lit_1518, NN_def, nI_add, pk_mul, nI_clamp, nI_leI, nI_ltI, nI_eq, nI_ne_NN, NN_ne_nI, NN_lt_nI, nI_le_NN, nI_lt_NN, NN_le_nI, oob, Option.bind_some, if_true, if_false, if_pos, if_neg]
        rw [show w0 + min w1 (N - w0) = N by omega]
      · simp (disch := omega) only [lit_0, lit_1, lit_2, lit_3, lit_4, lit_5, lit_6, lit_7, lit_8, lit_9, lit_10, lit_12, lit_13, lit_20, lit_31, lit_33, lit_35, lit_40, lit_41, lit_48, lit_50, lit_52, lit_57, lit_60, lit_63, lit_97, lit_100, lit_126, lit_160, lit_239, lit_240, lit_253, lit_400, lit_540, lit_600, lit_1000, lit_1265, lit_1518, NN_def, nI_add, pk_mul, nI_clamp, nI_leI, nI_ltI, nI_eq, nI_ne_NN, NN_ne_nI, NN_lt_nI, nI_le_NN, nI_lt_NN, NN_le_nI, oob, Option.bind_some, if_true, if_false, if_pos, if_neg]
        rw [show w0 + min w1 (N - w0) = w0 by omega]
    · simp (disch := omega) only [lit_0, lit_1, lit_2, lit_3, lit_4, lit_5, lit_6, lit_7, lit_8, lit_9, lit_10, lit_12, lit_13, lit_20, lit_31, lit_33, lit_35, lit_40, lit_41, lit_48, lit_50, lit_52, lit_57, lit_60, lit_63, lit_97, lit_100, lit_126, lit_160, lit_239, lit_240, lit_253, lit_400, lit_540, lit_600, lit_1000, lit_1265, lit_1518, NN_def, nI_add, pk_mul, nI_clamp, nI_leI, nI_ltI, nI_eq, nI_ne_NN, NN_ne_nI, NN_lt_nI, nI_le_NN, nI_lt_NN, NN_le_nI, oob, Option.bind_some, if_true, if_false, if_pos, if_neg]
      rw [show w0 + min w1 (N - w0) = w0 + w1 by omega]
/-- the counts of a stretch, as far as the period's classes go -/
def isCnt6 (mc : Nat → Int32) (r : Nat → Nat) (t p a n : Nat) : Prop := ∀ g s, g < (t + 9) / 10 → s < 4 → mc (4 * g + s) = nI (cnt r t p g s a n)
theorem l_lays3 {t : Nat} (ht2 : t ≤ 400) : ∀ (n i : Nat) (f : Nat → Int32), i ≤ 4 * ((t + 9) / 10) → 4 * ((t + 9) / 10) < n + i → (∀ j, j < i → f j = nI 0) → ∃ f', fX6_lays_L3 (nI t) n (nI i) f = some f' ∧ ∀ j, j < 4 * ((t + 9) / 10) → f' j = nI 0
  | 0, i, f, h1, h2, _ => absurd h2 (by omega)
  | n + 1, i, f, h1, h2, hf => by
    rw [fX6_lays_L3, e_classesOf6 ht2]
    by_cases h : i = 4 * ((t + 9) / 10)
    · simp (disch := omega) only [lit_0, lit_1, lit_2, lit_3, lit_4, lit_5, lit_6, lit_7, lit_8, lit_9, lit_10, lit_12, lit_13, lit_20, lit_31, lit_33, lit_35, lit_40, lit_41, lit_48, lit_50, lit_52, lit_57, lit_60, lit_63, lit_97, lit_100, lit_126, lit_160, lit_239, lit_240, lit_253, lit_400, lit_540, lit_600, lit_1000, lit_1265, lit_1518, NN_def, nI_add, pk_mul, nI_clamp, nI_leI, nI_ltI, nI_eq, nI_ne_NN, NN_ne_nI, NN_lt_nI, nI_le_NN, nI_lt_NN, NN_le_nI, oob, Option.bind_some, if_true, if_false, if_pos, if_neg]
      exact ⟨f, rfl, fun j hj => hf j (by omega)⟩
    · simp (disch := omega) only [lit_0, lit_1, lit_2, lit_3, lit_4, lit_5, lit_6, lit_7, lit_8, lit_9, lit_10, lit_12, lit_13, lit_20, lit_31, lit_33, lit_35, lit_40, lit_41, lit_48, lit_50, lit_52, lit_57, lit_60, lit_63, lit_97, lit_100, lit_126, lit_160, lit_239, lit_240, lit_253, lit_400, lit_540, lit_600, lit_1000, lit_1265, lit_1518, NN_def, nI_add, pk_mul, nI_clamp, nI_leI, nI_ltI, nI_eq, nI_ne_NN, NN_ne_nI, NN_lt_nI, nI_le_NN, nI_lt_NN, NN_le_nI, oob, Option.bind_some, if_true, if_false, if_pos, if_neg]
      exact l_lays3 ht2 n (i + 1) _ (by omega) (by omega) (fun j hj => by
        rw [upd_at]
        by_cases q : j = i
        · rw [if_pos q]
        · rw [if_neg q]; exact hf j (by omega))
theorem isCnt6_step {mc : Nat → Int32} {t p a d : Nat} (h : isCnt6 mc r t p a d) (ht : 10 ≤ t) (hr : r (a + d) < 4) : isCnt6 (upd mc (4 * ((10 * (a + d) + p) % t / 10) + r (a + d)) (mc (4 * ((10 * (a + d) + p) % t / 10) + r (a + d)) + nI 1)) r t p a (d + 1) := by
  intro g s hg hs
  have hc := cls_ncl (x := 10 * (a + d) + p) ht
  rw [upd_at, h _ _ hc hr]
  rw [cnt]
  by_cases q : 4 * g + s = 4 * ((10 * (a + d) + p) % t / 10) + r (a + d)
  · have q1 : (10 * (a + d) + p) % t / 10 = g := by omega
    have q2 : r (a + d) = s := by omega
    rw [if_pos q, if_pos ⟨q1, q2⟩, nI_add, q1, q2]
  · rw [if_neg q, if_neg (fun z => q (by omega))]
    exact h g s hg hs
theorem l_lays31 (hA : AB N K w0 w1 w2 r tn ph) (hM : MI ms N K w0 w1 w2 r tn ph) {t p a m : Nat} (ht : 10 ≤ t) (ht2 : t ≤ 400) (hp : p < t) (hm : a + m ≤ N ∨ m = 0) (ha : a ≤ 240) :
    ∀ (n d : Nat) (mc : Nat → Int32), d ≤ m → m < n + d → isCnt6 mc r t p a d → ∃ mc', fX6_lays_L31 ms (nI t) (nI p) (nI (a + m)) n (nI (a + d)) mc = some mc' ∧ isCnt6 mc' r t p a m
  | 0, d, mc, h1, h2, _ => absurd h2 (by omega)
  | n + 1, d, mc, h1, h2, hc => by
    have hA0 := hA
    have hM0 := hM
    obtain ⟨a1, a2, a3, a4, a5, a6, a7, a8⟩ := hA
    obtain ⟨m0, m1, m2, m3, m4, m5, m6⟩ := hM
    rw [fX6_lays_L31]
    by_cases h : d = m
    · subst h
      simp (disch := omega) only [lit_0, lit_1, lit_2, lit_3, lit_4, lit_5, lit_6, lit_7, lit_8, lit_9, lit_10, lit_12, lit_13, lit_20, lit_31, lit_33, lit_35, lit_40, lit_41, lit_48, lit_50, lit_52, lit_57, lit_60, lit_63, lit_97, lit_100, lit_126, lit_160, lit_239, lit_240, lit_253, lit_400, lit_540, lit_600, lit_1000, lit_1265, lit_1518, NN_def, nI_add, pk_mul, nI_clamp, nI_leI, nI_ltI, nI_eq, nI_ne_NN, NN_ne_nI, NN_lt_nI, nI_le_NN, nI_lt_NN, NN_le_nI, oob, Option.bind_some, if_true, if_false, if_pos, if_neg]
      exact ⟨mc, rfl, hc⟩
    · have q1 := m6 (a + d) (by omega)
      have q2 := a7 (a + d) (by omega)
      have hcl := cls_lt (x := 10 * (a + d) + p) ht ht2
      rw [e_classOf6 (by omega) ht ht2 hp]
      simp (disch := omega) only [lit_0, lit_1, lit_2, lit_3, lit_4, lit_5, lit_6, lit_7, lit_8, lit_9, lit_10, lit_12, lit_13, lit_20, lit_31, lit_33, lit_35, lit_40, lit_41, lit_48, lit_50, lit_52, lit_57, lit_60, lit_63, lit_97, lit_100, lit_126, lit_160, lit_239, lit_240, lit_253, lit_400, lit_540, lit_600, lit_1000, lit_1265, lit_1518, NN_def, nI_add, pk_mul, nI_clamp, nI_leI, nI_ltI, nI_eq, nI_ne_NN, NN_ne_nI, NN_lt_nI, nI_le_NN, nI_lt_NN, NN_le_nI, oob, Option.bind_some, if_true, if_false, if_pos, if_neg, q1]
      exact l_lays31 hA0 hM0 ht ht2 hp hm ha n (d + 1) _ (by omega) (by omega) (isCnt6_step hc ht q2)
theorem e_lays (hA : AB N K w0 w1 w2 r tn ph) (hM : MI ms N K w0 w1 w2 r tn ph) {t p a m : Nat} (mc : Nat → Int32) (ht : 10 ≤ t) (ht2 : t ≤ 400) (hp : p < t) (hm : a + m ≤ N ∨ m = 0) (ha : a ≤ 240) :
    ∃ mc', fX6_lays ms mc (nI t) (nI p) (nI a) (nI (a + m)) = some mc' ∧ isCnt6 mc' r t p a m := by
  unfold fX6_lays
  rw [lit_0]
  obtain ⟨f', h1, h2⟩ := l_lays3 (t := t) ht2 FU 0 mc (by omega) (by rw [FU_eq]; omega) (fun j hj => absurd hj (by omega))
  obtain ⟨c', h3, h4⟩ := l_lays31 hA hM (t := t) (p := p) (a := a) (m := m) ht ht2 hp hm ha FU 0 f' (by omega) (by rw [FU_eq]; rcases hm with q | q <;> have := hA.1 <;> omega) (fun g s hg hs => by rw [h2 _ (by omega)]; rfl)
  rw [Nat.add_zero] at h3
  rw [h1, Option.bind_some, h3]
  exact ⟨c', rfl, h4⟩
theorem l_signOf6 {mc : Nat → Int32} {g : Nat} {c : Nat → Nat} (hg : g < 40) (hc : has4 mc g c) : ∀ (n k : Nat), k ≤ 4 → 4 < n + k → fX6_signOf_L4 mc (nI g) n (bst c k).1 (nI k) = some (sg c)
  | 0, k, h1, h2 => absurd h2 (by omega)
  | n + 1, k, h1, h2 => by
    rw [fX6_signOf_L4]
    by_cases h : k = 4
    · subst h
      simp (disch := omega) only [lit_0, lit_1, lit_2, lit_3, lit_4, lit_5, lit_6, lit_7, lit_8, lit_9, lit_10, lit_12, lit_13, lit_20, lit_31, lit_33, lit_35, lit_40, lit_41, lit_48, lit_50, lit_52, lit_57, lit_60, lit_63, lit_97, lit_100, lit_126, lit_160, lit_239, lit_240, lit_253, lit_400, lit_540, lit_600, lit_1000, lit_1265, lit_1518, NN_def, nI_add, pk_mul, nI_clamp, nI_leI, nI_ltI, nI_eq, nI_ne_NN, NN_ne_nI, NN_lt_nI, nI_le_NN, nI_lt_NN, NN_le_nI, oob, Option.bind_some, if_true, if_false, if_pos, if_neg]
      rfl
    · obtain ⟨q1, q2⟩ := hc k (by omega)
      have hb := bst_le c 240 k (fun j hj => (hc j (by omega)).2)
      have ih := l_signOf6 hg hc n (k + 1) (by omega) (by omega)
      by_cases hz : c k = 0
      · have e1 : bst c (k + 1) = bst c k := by rw [bst, if_neg (by omega)]
        rw [e1] at ih
        simp (disch := omega) only [lit_0, lit_1, lit_2, lit_3, lit_4, lit_5, lit_6, lit_7, lit_8, lit_9, lit_10, lit_12, lit_13, lit_20, lit_31, lit_33, lit_35, lit_40, lit_41, lit_48, lit_50, lit_52, lit_57, lit_60, lit_63, lit_97, lit_100, lit_126, lit_160, lit_239, lit_240, lit_253, lit_400, lit_540, lit_600, lit_1000, lit_1265, lit_1518, NN_def, nI_add, pk_mul, nI_clamp, nI_leI, nI_ltI, nI_eq, nI_ne_NN, NN_ne_nI, NN_lt_nI, nI_le_NN, nI_lt_NN, NN_le_nI, oob, Option.bind_some, if_true, if_false, if_pos, if_neg, q1]
        exact ih
      · rcases bst_cases c k with ⟨b1, b2⟩ | ⟨b, b0, b1, b2, b3⟩
        · have e1 : bst c (k + 1) = (nI k, c k) := by rw [bst, if_pos (by omega)]
          rw [e1] at ih
          simp (disch := omega) only [lit_0, lit_1, lit_2, lit_3, lit_4, lit_5, lit_6, lit_7, lit_8, lit_9, lit_10, lit_12, lit_13, lit_20, lit_31, lit_33, lit_35, lit_40, lit_41, lit_48, lit_50, lit_52, lit_57, lit_60, lit_63, lit_97, lit_100, lit_126, lit_160, lit_239, lit_240, lit_253, lit_400, lit_540, lit_600, lit_1000, lit_1265, lit_1518, NN_def, nI_add, pk_mul, nI_clamp, nI_leI, nI_ltI, nI_eq, nI_ne_NN, NN_ne_nI, NN_lt_nI, nI_le_NN, nI_lt_NN, NN_le_nI, oob, Option.bind_some, if_true, if_false, if_pos, if_neg, q1, b1]
          exact ih
        · obtain ⟨q3, q4⟩ := hc b (by omega)
          by_cases hk : (bst c k).2 < c k
          · have e1 : bst c (k + 1) = (nI k, c k) := by rw [bst, if_pos hk]
            rw [e1] at ih
            simp (disch := omega) only [lit_0, lit_1, lit_2, lit_3, lit_4, lit_5, lit_6, lit_7, lit_8, lit_9, lit_10, lit_12, lit_13, lit_20, lit_31, lit_33, lit_35, lit_40, lit_41, lit_48, lit_50, lit_52, lit_57, lit_60, lit_63, lit_97, lit_100, lit_126, lit_160, lit_239, lit_240, lit_253, lit_400, lit_540, lit_600, lit_1000, lit_1265, lit_1518, NN_def, nI_add, pk_mul, nI_clamp, nI_leI, nI_ltI, nI_eq, nI_ne_NN, NN_ne_nI, NN_lt_nI, nI_le_NN, nI_lt_NN, NN_le_nI, oob, Option.bind_some, if_true, if_false, if_pos, if_neg, q1, b1, q3]
            exact ih
          · have e1 : bst c (k + 1) = bst c k := by rw [bst, if_neg hk]
            rw [e1, b1] at ih
            simp (disch := omega) only [lit_0, lit_1, lit_2, lit_3, lit_4, lit_5, lit_6, lit_7, lit_8, lit_9, lit_10, lit_12, lit_13, lit_20, lit_31, lit_33, lit_35, lit_40, lit_41, lit_48, lit_50, lit_52, lit_57, lit_60, lit_63, lit_97, lit_100, lit_126, lit_160, lit_239, lit_240, lit_253, lit_400, lit_540, lit_600, lit_1000, lit_1265, lit_1518, NN_def, nI_add, pk_mul, nI_clamp, nI_leI, nI_ltI, nI_eq, nI_ne_NN, NN_ne_nI, NN_lt_nI, nI_le_NN, nI_lt_NN, NN_le_nI, oob, Option.bind_some, if_true, if_false, if_pos, if_neg, q1, b1, q3]
            exact ih
theorem e_signOf6 {mc : Nat → Int32} {g : Nat} {c : Nat → Nat} (hg : g < 40) (hc : has4 mc g c) : fX6_signOf mc (nI g) = some (sg c) := by
  unfold fX6_signOf
  have h := l_signOf6 hg hc FU 0 (by omega) (by rw [FU_eq]; omega)
  rw [show ((-1 : Int32)) = NN from rfl, lit_0]
  rw [show fX6_signOf_L4 mc (nI g) FU NN (nI 0) = some (sg c) from h]
  rfl
theorem l_placesOf6 {mc : Nat → Int32} {g : Nat} {c : Nat → Nat} (hg : g < 40) (hc : has4 mc g c) : ∀ (n k : Nat), k ≤ 4 → 4 < n + k → fX6_placesOf_L4 mc (nI g) n (nI (sum4 c k)) (nI k) = some (nI (sum4 c 4))
  | 0, k, h1, h2 => absurd h2 (by omega)
  | n + 1, k, h1, h2 => by
    rw [fX6_placesOf_L4]
    by_cases h : k = 4
    · subst h
      simp (disch := omega) only [lit_0, lit_1, lit_2, lit_3, lit_4, lit_5, lit_6, lit_7, lit_8, lit_9, lit_10, lit_12, lit_13, lit_20, lit_31, lit_33, lit_35, lit_40, lit_41, lit_48, lit_50, lit_52, lit_57, lit_60, lit_63, lit_97, lit_100, lit_126, lit_160, lit_239, lit_240, lit_253, lit_400, lit_540, lit_600, lit_1000, lit_1265, lit_1518, NN_def, nI_add, pk_mul, nI_clamp, nI_leI, nI_ltI, nI_eq, nI_ne_NN, NN_ne_nI, NN_lt_nI, nI_le_NN, nI_lt_NN, NN_le_nI, oob, Option.bind_some, if_true, if_false, if_pos, if_neg]
    · obtain ⟨q1, q2⟩ := hc k (by omega)
      have ih := l_placesOf6 hg hc n (k + 1) (by omega) (by omega)
      simp (disch := omega) only [lit_0, lit_1, lit_2, lit_3, lit_4, lit_5, lit_6, lit_7, lit_8, lit_9, lit_10, lit_12, lit_13, lit_20, lit_31, lit_33, lit_35, lit_40, lit_41, lit_48, lit_50, lit_52, lit_57, lit_60, lit_63, lit_97, lit_100, lit_126, lit_160, lit_239, lit_240, lit_253, lit_400, lit_540, lit_600, lit_1000, lit_1265, lit_1518, NN_def, nI_add, pk_mul, nI_clamp, nI_leI, nI_ltI, nI_eq, nI_ne_NN, NN_ne_nI, NN_lt_nI, nI_le_NN, nI_lt_NN, NN_le_nI, oob, Option.bind_some, if_true, if_false, if_pos, if_neg, q1]
      exact ih
theorem e_placesOf6 {mc : Nat → Int32} {g : Nat} {c : Nat → Nat} (hg : g < 40) (hc : has4 mc g c) : fX6_placesOf mc (nI g) = some (nI (sum4 c 4)) := by
  unfold fX6_placesOf
  have h := l_placesOf6 hg hc FU 0 (by omega) (by rw [FU_eq]; omega)
  rw [lit_0]
  rw [show fX6_placesOf_L4 mc (nI g) FU (nI 0) (nI 0) = some (nI (sum4 c 4)) from h]
  rfl
theorem sg_mx (c : Nat → Nat) : (sg c = NN ∧ mx c = 0) ∨ ∃ b, b < 4 ∧ sg c = nI b ∧ c b = mx c ∧ 0 < mx c := bst_cases c 4
theorem e_isStrong6 (hA : AB N K w0 w1 w2 r tn ph) (hM : MI ms N K w0 w1 w2 r tn ph) {mc : Nat → Int32} {g : Nat} {c : Nat → Nat} (hg : g < 40) (hc : has4 mc g c) : fX6_isStrong ms mc (nI g) = some (if ss c w2 = NN then nI 0 else nI 1) := by
  obtain ⟨a1, a2, a3, a4, a5, a6, a7, a8⟩ := hA
  obtain ⟨m0, m1, m2, m3, m4, m5, m6⟩ := hM
  unfold fX6_isStrong
  rw [e_signOf6 hg hc, e_placesOf6 hg hc]
  have h1 := mx_le (fun s hs => (hc s hs).2)
  have h2 := sum4_le c 240 4 (fun j hj => (hc j (by omega)).2)
  have h3 : w2 * sum4 c 4 ≤ 100 * (4 * 240) := Nat.mul_le_mul a6 h2
  rcases sg_mx c with ⟨b1, b2⟩ | ⟨b, b0, b1, b2, b3⟩
  · have hs : ss c w2 = NN := by unfold ss; split <;> first | exact b1 | rfl
    rw [hs, b1]
    simp (disch := omega) only [lit_0, lit_1, lit_2, lit_3, lit_4, lit_5, lit_6, lit_7, lit_8, lit_9, lit_10, lit_12, lit_13, lit_20, lit_31, lit_33, lit_35, lit_40, lit_41, lit_48, lit_50, lit_52, lit_57, lit_60, lit_63, lit_97, lit_100, lit_126, lit_160, lit_239, lit_240, lit_253, lit_400, lit_540, lit_600, lit_1000, lit_1265, lit_1518, NN_def, nI_add, pk_mul, nI_clamp, nI_leI, nI_ltI, nI_eq, nI_ne_NN, NN_ne_nI, NN_lt_nI, nI_le_NN, nI_lt_NN, NN_le_nI, oob, Option.bind_some, if_true, if_false, if_pos, if_neg, if_true]
  · obtain ⟨q3, q4⟩ := hc b b0
    by_cases hk : w2 * sum4 c 4 ≤ 100 * mx c
    · have hs : ss c w2 = nI b := by unfold ss; rw [if_pos hk, b1]
      rw [hs, b1]
      simp (disch := omega) only [lit_0, lit_1, lit_2, lit_3, lit_4, lit_5, lit_6, lit_7, lit_8, lit_9, lit_10, lit_12, lit_13, lit_20, lit_31, lit_33, lit_35, lit_40, lit_41, lit_48, lit_50, lit_52, lit_57, lit_60, lit_63, lit_97, lit_100, lit_126, lit_160, lit_239, lit_240, lit_253, lit_400, lit_540, lit_600, lit_1000, lit_1265, lit_1518, NN_def, nI_add, pk_mul, nI_clamp, nI_leI, nI_ltI, nI_eq, nI_ne_NN, NN_ne_nI, NN_lt_nI, nI_le_NN, nI_lt_NN, NN_le_nI, oob, Option.bind_some, if_true, if_false, if_pos, if_neg, q3, b2, m3, if_false]
    · have hs : ss c w2 = NN := by unfold ss; rw [if_neg hk]
      rw [hs, b1]
      simp (disch := omega) only [lit_0, lit_1, lit_2, lit_3, lit_4, lit_5, lit_6, lit_7, lit_8, lit_9, lit_10, lit_12, lit_13, lit_20, lit_31, lit_33, lit_35, lit_40, lit_41, lit_48, lit_50, lit_52, lit_57, lit_60, lit_63, lit_97, lit_100, lit_126, lit_160, lit_239, lit_240, lit_253, lit_400, lit_540, lit_600, lit_1000, lit_1265, lit_1518, NN_def, nI_add, pk_mul, nI_clamp, nI_leI, nI_ltI, nI_eq, nI_ne_NN, NN_ne_nI, NN_lt_nI, nI_le_NN, nI_lt_NN, NN_le_nI, oob, Option.bind_some, if_true, if_false, if_pos, if_neg, q3, b2, m3, if_true]
end M6
