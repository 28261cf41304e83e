/-! THE HISTORY: THE RING OF THE CLASS, THE ROW OF THE REFERENCE -/
section HS
variable {ms row ten pha : Nat → Int32} {len kep wfi wmo hun : Int32} {N K w0 w1 w2 : Nat} {r tn ph : Nat → Nat}
theorem e_copy240 (f g : Nat → Int32) : fX5_copyCells f g 240 240 = some (va_cpy f g 0 0 240) := by
  unfold fX5_copyCells
  rw [if_neg (by decide)]
  rfl
theorem e_copy4 (f g : Nat → Int32) : fX5_copyCells f g 4 4 = some (va_cpy f g 0 0 4) := by
  unfold fX5_copyCells
  rw [if_neg (by decide)]
  rfl
theorem cpy_at {f g : Nat → Int32} {n j : Nat} (h : j < n) : va_cpy f g 0 0 n j = f j := by
  rw [pk_cpy_in (Nat.zero_le j) (by omega), Nat.zero_add, Nat.sub_zero]
theorem e_become (row0 ten0 pha0 row ten pha : Nat → Int32) (len kep wfi wmo hun : Int32) : fX2_become row0 ten0 pha0 row ten pha len kep wfi wmo hun = some (va_cpy row row0 0 0 240, va_cpy ten ten0 0 0 4, va_cpy pha pha0 0 0 4, len, kep, wfi, wmo, hun) := by
  unfold fX2_become
  rw [e_copy240, Option.bind_some, e_copy4, Option.bind_some, e_copy4]
  rfl
theorem CI_copy (hA : AB N K w0 w1 w2 r tn ph) (hC : CI row ten pha len kep wfi wmo hun N K w0 w1 w2 r tn ph) (row0 ten0 pha0 : Nat → Int32) : CI (va_cpy row row0 0 0 240) (va_cpy ten ten0 0 0 4) (va_cpy pha pha0 0 0 4) len kep wfi wmo hun N K w0 w1 w2 r tn ph := by
  obtain ⟨h1, h2, h3, h4, h5, h6, h7⟩ := hC
  have hN := hA.1
  have hK := hA.2.1
  refine ⟨h1, h2, h3, h4, h5, fun i hi => by rw [cpy_at (by omega)]; exact h6 i hi, fun i hi => ?_⟩
  rw [cpy_at (by omega), cpy_at (by omega)]
  exact h7 i hi
theorem MI_same {m m' : Nat → Int32} (hA : AB N K w0 w1 w2 r tn ph) (hM : MI m N K w0 w1 w2 r tn ph) (h : ∀ i, i < 253 → m' i = m i) : MI m' N K w0 w1 w2 r tn ph := by
  obtain ⟨h1, h2, h3, h4, h5, h6, h7⟩ := hM
  have hN := hA.1
  have hK := hA.2.1
  refine ⟨by rw [h _ (by omega)]; exact h1, by rw [h _ (by omega)]; exact h2, by rw [h _ (by omega)]; exact h3, by rw [h _ (by omega)]; exact h4, by rw [h _ (by omega)]; exact h5, fun i hi => ?_, fun i hi => by rw [h _ (by omega)]; exact h7 i hi⟩
  rw [h _ (by omega), h _ (by omega)]
  exact h6 i hi
/-- the class's state and the reference's speak of the same -/
def RS (row ten pha : Nat → Int32) (len kep wfi wmo hun : Int32) (ms : Nat → Int32) : Prop := ∃ (N K w0 w1 w2 : Nat) (r tn ph : Nat → Nat), AB N K w0 w1 w2 r tn ph ∧ CI row ten pha len kep wfi wmo hun N K w0 w1 w2 r tn ph ∧ MI ms N K w0 w1 w2 r tn ph
def RV (v : StV) (m : Nat → Int32) : Prop := RS v.1 v.2.1 v.2.2.1 v.2.2.2.1 v.2.2.2.2.1 v.2.2.2.2.2.1 v.2.2.2.2.2.2.1 v.2.2.2.2.2.2.2 m
theorem RV_same {v : StV} {m m' : Nat → Int32} (h : RV v m) (e : ∀ i, i < 253 → m' i = m i) : RV v m' := by
  obtain ⟨N, K, w0, w1, w2, r, tn, ph, h1, h2, h3⟩ := h
  exact ⟨N, K, w0, w1, w2, r, tn, ph, h1, h2, MI_same h1 h3 e⟩
def HI (nex man : Int32) (rg : Nat → StV) (mv : Nat → Int32) (svm : Int32) : Prop := ∃ X M : Nat, X < 6 ∧ M ≤ 6 ∧ nex = nI X ∧ man = nI M ∧ svm = nI M ∧ ∀ j, j < M → RV (rg ((X + 6 - M + j) % 6)) (fun i => mv (253 * j + i))
theorem l_saves52 (b : Nat) (hb : b ≤ 5) : ∀ (n k : Nat) (mv : Nat → Int32), k ≤ 253 → 253 < n + k → ∃ mv', fX6_saves_L52 ms (nI b) n (nI k) mv = some mv' ∧ ∀ q, mv' q = if 253 * b + k ≤ q ∧ q < 253 * b + 253 then ms (q - 253 * b) else mv q
  | 0, k, mv, h1, h2 => absurd h2 (by omega)
  | n + 1, k, mv, h1, h2 => by
    rw [fX6_saves_L52]
    by_cases h : k = 253
    · subst h
      simp (disch := omega) only [lit_0, lit_1, lit_2, lit_3, lit_4, lit_5, lit_6, lit_7, lit_8, lit_9, lit_10, lit_12, lit_13, lit_20, lit_31, lit_33, lit_35, lit_40, lit_41, lit_48, lit_50, lit_52, lit_57, lit_60, lit_63, lit_97, lit_100, lit_126, lit_160, lit_239, lit_240, lit_253, lit_400, lit_540, lit_600, lit_1000, lit_1265, lit_1518, NN_def, nI_add, pk_mul, nI_clamp, nI_leI, nI_ltI, nI_eq, nI_ne_NN, NN_ne_nI, NN_lt_nI, nI_le_NN, nI_lt_NN, NN_le_nI, oob, Option.bind_some, if_true, if_false, if_pos, if_neg]
      exact ⟨mv, rfl, fun q => by first | rfl | rw [if_neg (by omega)]⟩
    · simp (disch := omega) only [lit_0, lit_1, lit_2, lit_3, lit_4, lit_5, lit_6, lit_7, lit_8, lit_9, lit_10, lit_12, lit_13, lit_20, lit_31, lit_33, lit_35, lit_40, lit_41, lit_48, lit_50, lit_52, lit_57, lit_60, lit_63, lit_97, lit_100, lit_126, lit_160, lit_239, lit_240, lit_253, lit_400, lit_540, lit_600, lit_1000, lit_1265, lit_1518, NN_def, nI_add, pk_mul, nI_clamp, nI_leI, nI_ltI, nI_eq, nI_ne_NN, NN_ne_nI, NN_lt_nI, nI_le_NN, nI_lt_NN, NN_le_nI, oob, Option.bind_some, if_true, if_false, if_pos, if_neg]
      obtain ⟨mv', e1, e2⟩ := l_saves52 b hb n (k + 1) (upd mv (253 * b + k) (ms k)) (by omega) (by omega)
      refine ⟨mv', e1, fun q => ?_⟩
      rw [e2 q, upd_at]
      by_cases c1 : q = 253 * b + k
      · rw [if_neg (by omega), if_pos c1, if_pos (by omega)]
        exact congrArg ms (by omega)
      · rw [if_neg c1]
        by_cases c2 : 253 * b + (k + 1) ≤ q ∧ q < 253 * b + 253
        · rw [if_pos c2, if_pos (by omega)]
        · rw [if_neg c2, if_neg (by omega)]
theorem l_saves11 : ∀ (n k : Nat) (mv : Nat → Int32), k ≤ 1265 → 1265 < n + k → ∃ mv', fX6_saves_L11 n (nI k) mv = some mv' ∧ ∀ q, mv' q = if k ≤ q ∧ q < 1265 then mv (q + 253) else mv q
  | 0, k, mv, h1, h2 => absurd h2 (by omega)
  | n + 1, k, mv, h1, h2 => by
    rw [fX6_saves_L11]
    by_cases h : k = 1265
    · subst h
      simp (disch := omega) only [lit_0, lit_1, lit_2, lit_3, lit_4, lit_5, lit_6, lit_7, lit_8, lit_9, lit_10, lit_12, lit_13, lit_20, lit_31, lit_33, lit_35, lit_40, lit_41, lit_48, lit_50, lit_52, lit_57, lit_60, lit_63, lit_97, lit_100, lit_126, lit_160, lit_239, lit_240, lit_253, lit_400, lit_540, lit_600, lit_1000, lit_1265, lit_1518, NN_def, nI_add, pk_mul, nI_clamp, nI_leI, nI_ltI, nI_eq, nI_ne_NN, NN_ne_nI, NN_lt_nI, nI_le_NN, nI_lt_NN, NN_le_nI, oob, Option.bind_some, if_true, if_false, if_pos, if_neg]
      exact ⟨mv, rfl, fun q => by first | rfl | rw [if_neg (by omega)]⟩
    · simp (disch := omega) only [lit_0, lit_1, lit_2, lit_3, lit_4, lit_5, lit_6, lit_7, lit_8, lit_9, lit_10, lit_12, lit_13, lit_20, lit_31, lit_33, lit_35, lit_40, lit_41, lit_48, lit_50, lit_52, lit_57, lit_60, lit_63, lit_97, lit_100, lit_126, lit_160, lit_239, lit_240, lit_253, lit_400, lit_540, lit_600, lit_1000, lit_1265, lit_1518, NN_def, nI_add, pk_mul, nI_clamp, nI_leI, nI_ltI, nI_eq, nI_ne_NN, NN_ne_nI, NN_lt_nI, nI_le_NN, nI_lt_NN, NN_le_nI, oob, Option.bind_some, if_true, if_false, if_pos, if_neg]
      obtain ⟨mv', e1, e2⟩ := l_saves11 n (k + 1) (upd mv k (mv (k + 253))) (by omega) (by omega)
      refine ⟨mv', e1, fun q => ?_⟩
      rw [e2 q]
      by_cases c2 : k + 1 ≤ q ∧ q < 1265
      · rw [if_pos c2, upd_at, if_neg (by omega), if_pos (by omega)]
      · rw [if_neg c2, upd_at]
        by_cases c1 : q = k
        · rw [if_pos c1, if_pos (by omega), c1]
        · rw [if_neg c1, if_neg (by omega)]
theorem e_saves (mv : Nat → Int32) {M : Nat} (hM : M ≤ 6) : ∃ mv', fX6_saves ms mv (nI M) = some (mv', nI (min 6 (M + 1))) ∧ (∀ i, i < 253 → mv' (253 * (min 6 (M + 1) - 1) + i) = ms i) ∧ ∀ j i, j < min 6 (M + 1) - 1 → i < 253 → mv' (253 * j + i) = mv (253 * (if M = 6 then j + 1 else j) + i) := by
  unfold fX6_saves
  by_cases h : M = 6
  · subst h
    obtain ⟨m1, e1, e2⟩ := l_saves11 FU 0 mv (by omega) (by rw [FU_eq]; omega)
    obtain ⟨m2, e3, e4⟩ := l_saves52 (ms := ms) 5 (by omega) FU 0 m1 (by omega) (by rw [FU_eq]; omega)
    refine ⟨m2, ?_, fun i hi => ?_, fun j i hj hi => ?_⟩
    · rw [if_pos (show nI 6 = 6 from rfl), lit_0, e1, Option.bind_some, Option.bind_some]
      show ((fX6_saves_L52 ms (nI 6 - 1) FU (nI 0) m1).bind _) = _
      rw [show nI 6 - 1 = nI 5 from rfl, e3]
      rfl
    · rw [e4, if_pos (by omega)]
      exact congrArg ms (by omega)
    · rw [e4, if_neg (by omega), e2, if_pos (by omega), if_pos rfl]
      exact congrArg mv (by omega)
  · obtain ⟨m2, e3, e4⟩ := l_saves52 (ms := ms) M (by omega) FU 0 mv (by omega) (by rw [FU_eq]; omega)
    refine ⟨m2, ?_, fun i hi => ?_, fun j i hj hi => ?_⟩
    · rw [if_neg (show ¬ nI M = 6 from fun z => h ((nI_eq (b := 6) (by omega) (by omega)).mp z)), Option.bind_some]
      show ((fX6_saves_L52 ms (nI M) FU 0 mv).bind _) = _
      rw [lit_0, e3, Option.bind_some, lit_1, nI_add, show min 6 (M + 1) = M + 1 by omega]
    · rw [show min 6 (M + 1) - 1 = M by omega, e4, if_pos (by omega)]
      exact congrArg ms (by omega)
    · rw [e4, if_neg (by omega), if_neg h]
theorem va_up_at {α : Type} (f : Nat → α) (k : Nat) (x : α) (j : Nat) : va_up f k x j = if j = k then x else f j := rfl
theorem HI_save {nex man : Int32} {rg : Nat → StV} {mv : Nat → Int32} {svm : Int32} (hR : RS row ten pha len kep wfi wmo hun ms) (hH : HI nex man rg mv svm) :
    ∃ nex' man' rg' mv' svm', fX1_save nex man rg row ten pha len kep wfi wmo hun = some (nex', man', rg') ∧ fX6_saves ms mv svm = some (mv', svm') ∧ HI nex' man' rg' mv' svm' := by
  obtain ⟨X, M, hX, hM, rfl, rfl, rfl, hh⟩ := hH
  obtain ⟨mv', s1, s2, s3⟩ := e_saves (ms := ms) mv hM
  obtain ⟨N, K, w0, w1, w2, r, tn, ph, hA, hC, hMI⟩ := hR
  refine ⟨nI ((X + 1) % 6), nI (min 6 (M + 1)), va_up rg X (va_cpy row (rg X).1 0 0 240, va_cpy ten (rg X).2.1 0 0 4, va_cpy pha (rg X).2.2.1 0 0 4, len, kep, wfi, wmo, hun), mv', nI (min 6 (M + 1)), ?_, s1, (X + 1) % 6, min 6 (M + 1), by omega, by omega, rfl, rfl, rfl, fun j hj => ?_⟩
  · unfold fX1_save
    rw [e_become]
    have e6 : (if nI 6 < nI (M + 1) then nI 6 else nI (M + 1)) = nI (min 6 (M + 1)) := by
      by_cases q : M = 6
      · subst q; rfl
      · rw [if_neg (by rw [nI_ltI (by omega) (by omega)]; omega), show min 6 (M + 1) = M + 1 by omega]
    have e7 : (nI X + 1) - (nI X + 1) / 6 * 6 = nI ((X + 1) % 6) := by
      rw [lit_1, nI_add, show ((6 : Int32)) = nI 6 from rfl, pk_rem (by omega) (by omega) (by omega)]
    have ho : ¬ oob (nI X) 6 := by
      intro z
      rcases z with z | z
      · exact absurd z (by rw [lit_0, nI_ltI (by omega) (by omega)]; omega)
      · rw [nI_clamp (by omega)] at z; omega
    rw [if_neg ho, nI_clamp (by omega), Option.bind_some]
    show some ((nI X + 1) - (nI X + 1) / 6 * 6, (if (6 : Int32) < (nI M + 1) then 6 else (nI M + 1)), _) = _
    rw [e7, lit_1, nI_add, show ((6 : Int32)) = nI 6 from rfl, e6]
  · by_cases q : j = min 6 (M + 1) - 1
    · have eX : ((X + 1) % 6 + 6 - min 6 (M + 1) + j) % 6 = X := by omega
      rw [eX, va_up_at, if_pos rfl]
      refine ⟨N, K, w0, w1, w2, r, tn, ph, hA, CI_copy hA hC _ _ _, MI_same hA hMI (fun i hi => ?_)⟩
      rw [q]
      exact s2 i hi
    · have hne : ((X + 1) % 6 + 6 - min 6 (M + 1) + j) % 6 ≠ X := by omega
      rw [va_up_at, if_neg hne]
      by_cases m : M = 6
      · have hj := hh (j + 1) (by omega)
        rw [show (X + 6 - M + (j + 1)) % 6 = ((X + 1) % 6 + 6 - min 6 (M + 1) + j) % 6 by omega] at hj
        refine RV_same hj (fun i hi => ?_)
        have := s3 j i (by omega) hi
        rw [if_pos m] at this
        exact this
      · have hj := hh j (by omega)
        rw [show (X + 6 - M + j) % 6 = ((X + 1) % 6 + 6 - min 6 (M + 1) + j) % 6 by omega] at hj
        refine RV_same hj (fun i hi => ?_)
        have := s3 j i (by omega) hi
        rw [if_neg m] at this
        exact this
theorem l_undo30 (mv : Nat → Int32) (b : Nat) (hb : b ≤ 5) : ∀ (n k : Nat) (ms : Nat → Int32), k ≤ 253 → 253 < n + k → (∀ i, i < k → ms i = mv (253 * b + i)) → ∃ ms', fX6_undo_L30 mv (nI b) n (nI k) ms = some ms' ∧ ∀ i, i < 253 → ms' i = mv (253 * b + i)
  | 0, k, ms, h1, h2, _ => absurd h2 (by omega)
  | n + 1, k, ms, h1, h2, h3 => by
    rw [fX6_undo_L30]
    by_cases h : k = 253
    · subst h
      simp (disch := omega) only [lit_0, lit_1, lit_2, lit_3, lit_4, lit_5, lit_6, lit_7, lit_8, lit_9, lit_10, lit_12, lit_13, lit_20, lit_31, lit_33, lit_35, lit_40, lit_41, lit_48, lit_50, lit_52, lit_57, lit_60, lit_63, lit_97, lit_100, lit_126, lit_160, lit_239, lit_240, lit_253, lit_400, lit_540, lit_600, lit_1000, lit_1265, lit_1518, NN_def, nI_add, pk_mul, nI_clamp, nI_leI, nI_ltI, nI_eq, nI_ne_NN, NN_ne_nI, NN_lt_nI, nI_le_NN, nI_lt_NN, NN_le_nI, oob, Option.bind_some, if_true, if_false, if_pos, if_neg]
      exact ⟨ms, rfl, h3⟩
    · simp (disch := omega) only [lit_0, lit_1, lit_2, lit_3, lit_4, lit_5, lit_6, lit_7, lit_8, lit_9, lit_10, lit_12, lit_13, lit_20, lit_31, lit_33, lit_35, lit_40, lit_41, lit_48, lit_50, lit_52, lit_57, lit_60, lit_63, lit_97, lit_100, lit_126, lit_160, lit_239, lit_240, lit_253, lit_400, lit_540, lit_600, lit_1000, lit_1265, lit_1518, NN_def, nI_add, pk_mul, nI_clamp, nI_leI, nI_ltI, nI_eq, nI_ne_NN, NN_ne_nI, NN_lt_nI, nI_le_NN, nI_lt_NN, NN_le_nI, oob, Option.bind_some, if_true, if_false, if_pos, if_neg]
      refine l_undo30 mv b hb n (k + 1) _ (by omega) (by omega) (fun i hi => ?_)
      rw [upd_at]
      by_cases c : i = k
      · rw [if_pos c, c]
      · rw [if_neg c]
        exact h3 i (by omega)
theorem HI_undo {nex man : Int32} {rg : Nat → StV} {mv : Nat → Int32} {svm : Int32} (row ten pha ms : Nat → Int32) (hH : HI nex man rg mv svm) :
    (man = nI 0 ∧ svm = nI 0) ∨ (man ≠ 0 ∧ svm ≠ 0 ∧ ∃ nex' row' ten' pha' len' kep' wfi' wmo' hun' ms' svm', fX1_restore nex man rg row ten pha = some (nex', svm', row', ten', pha', len', kep', wfi', wmo', hun') ∧ svm - 1 = svm' ∧ fX6_undo_L30 mv (svm - 1) FU 0 ms = some ms' ∧ RS row' ten' pha' len' kep' wfi' wmo' hun' ms' ∧ HI nex' svm' rg mv svm') := by
  obtain ⟨X, M, hX, hM, rfl, rfl, rfl, hh⟩ := hH
  by_cases h : M = 0
  · exact Or.inl ⟨by rw [h], by rw [h]⟩
  · have hz : nI M ≠ 0 := fun z => h ((nI_eq (b := 0) (by omega) (by omega)).mp z)
    have em : nI M - 1 = nI (M - 1) := by rw [lit_1, pk_sub (by omega)]
    have hj := hh (M - 1) (by omega)
    rw [show (X + 6 - M + (M - 1)) % 6 = (X + 5) % 6 by omega] at hj
    obtain ⟨ms', u1, u2⟩ := l_undo30 mv (M - 1) (by omega) FU 0 ms (by omega) (by rw [FU_eq]; omega) (fun i hi => absurd hi (by omega))
    obtain ⟨N, K, w0, w1, w2, r, tn, ph, hA, hC, hMI⟩ := hj
    have e7 : ((nI X + 6) - 1) - ((nI X + 6) - 1) / 6 * 6 = nI ((X + 5) % 6) := by
      rw [lit_1, show ((6 : Int32)) = nI 6 from rfl, nI_add, pk_sub (by omega), pk_rem (by omega) (by omega) (by omega)]
      congr 1
    have ho : ¬ oob (nI ((X + 5) % 6)) 6 := by
      intro z
      rcases z with z | z
      · exact absurd z (by rw [lit_0, nI_ltI (by omega) (by omega)]; omega)
      · rw [nI_clamp (by omega)] at z; omega
    refine Or.inr ⟨hz, hz, nI ((X + 5) % 6), va_cpy (rg ((X + 5) % 6)).1 row 0 0 240, va_cpy (rg ((X + 5) % 6)).2.1 ten 0 0 4, va_cpy (rg ((X + 5) % 6)).2.2.1 pha 0 0 4, (rg ((X + 5) % 6)).2.2.2.1, (rg ((X + 5) % 6)).2.2.2.2.1, (rg ((X + 5) % 6)).2.2.2.2.2.1, (rg ((X + 5) % 6)).2.2.2.2.2.2.1, (rg ((X + 5) % 6)).2.2.2.2.2.2.2, ms', nI (M - 1), ?_, em, by rw [em]; exact u1, ⟨N, K, w0, w1, w2, r, tn, ph, hA, CI_copy hA hC _ _ _, MI_same hA hMI u2⟩, (X + 5) % 6, M - 1, by omega, by omega, rfl, rfl, rfl, fun j hj2 => ?_⟩
    · unfold fX1_restore
      rw [e7, if_neg ho, nI_clamp (by omega), e_become, em]
      rfl
    · have := hh j (by omega)
      rw [show (X + 6 - M + j) % 6 = ((X + 5) % 6 + 6 - (M - 1) + j) % 6 by omega] at this
      exact this
end HS
