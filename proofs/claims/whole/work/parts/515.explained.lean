/-! PLACES THAT A PERIOD EXPLAINS, STRONG CLASSES: BOTH SIDES -/
def cg (r : Nat → Nat) (t p a n g : Nat) : Nat → Nat := fun s => cnt r t p g s a n
def exs (r : Nat → Nat) (t p a n : Nat) : Nat → Nat
  | 0 => 0
  | k + 1 => exs r t p a n k + mx (cg r t p a n k)
def ncl (t : Nat) : Nat := (t + 9) / 10
theorem ncl_le {t : Nat} (h : t ≤ 400) : ncl t ≤ 40 := by unfold ncl; omega
theorem has4_of {cel : Nat → Int32} {r : Nat → Nat} {t p a n g : Nat} (h : isCnt cel r t p a n) (hn : n ≤ 240) (hg : g < 40) : has4 cel g (cg r t p a n g) :=
  fun s hs => ⟨h g s hg hs, Nat.le_trans (cnt_le r t p g s a n) hn⟩
theorem has4_of6 {mc : Nat → Int32} {r : Nat → Nat} {t p a n g : Nat} (h : isCnt6 mc r t p a n) (hn : n ≤ 240) (hg : g < ncl t) : has4 mc g (cg r t p a n g) :=
  fun s hs => ⟨h g s hg hs, Nat.le_trans (cnt_le r t p g s a n) hn⟩
theorem exs_le (r : Nat → Nat) (t p a : Nat) {n : Nat} (hn : n ≤ 240) : ∀ k, exs r t p a n k ≤ 240 * k
  | 0 => Nat.le_refl 0
  | k + 1 => by
    have h1 := exs_le r t p a hn k
    have h2 : mx (cg r t p a n k) ≤ 240 := mx_le (fun s _ => Nat.le_trans (cnt_le r t p k s a n) hn)
    rw [exs]
    omega
theorem l_explained {cel : Nat → Int32} {r : Nat → Nat} {t p a m : Nat} (h : isCnt cel r t p a m) (hm : m ≤ 240) (ht : t ≤ 400) : ∀ (n k : Nat), k ≤ ncl t → ncl t < n + k → fX0_explained_L4 cel (nI (ncl t)) n (nI (exs r t p a m k)) (nI k) = some (nI (exs r t p a m (ncl t)))
  | 0, k, h1, h2 => absurd h2 (by omega)
  | n + 1, k, h1, h2 => by
    rw [fX0_explained_L4]
    have hc := ncl_le ht
    by_cases q : k = ncl t
    · subst q
      simp (disch := omega) only [lit_0, lit_1, lit_2, lit_3, lit_4, lit_5, lit_6, lit_7, lit_8, lit_9, lit_10, lit_12, lit_13, lit_20, lit_31, lit_33, lit_35, lit_40, lit_41, lit_48, lit_50, lit_52, lit_57, lit_60, lit_63, lit_97, lit_100, lit_126, lit_160, lit_239, lit_240, lit_253, lit_400, lit_540, lit_600, lit_1000, lit_1265, lit_1518, NN_def, nI_add, pk_mul, nI_clamp, nI_leI, nI_ltI, nI_eq, nI_ne_NN, NN_ne_nI, NN_lt_nI, nI_le_NN, nI_lt_NN, NN_le_nI, oob, Option.bind_some, if_true, if_false, if_pos, if_neg]
    · rw [e_greatestOf (by omega) (has4_of h hm (by omega))]
      have ih := l_explained h hm ht n (k + 1) (by omega) (by omega)
      simp (disch := omega) only [lit_0, lit_1, lit_2, lit_3, lit_4, lit_5, lit_6, lit_7, lit_8, lit_9, lit_10, lit_12, lit_13, lit_20, lit_31, lit_33, lit_35, lit_40, lit_41, lit_48, lit_50, lit_52, lit_57, lit_60, lit_63, lit_97, lit_100, lit_126, lit_160, lit_239, lit_240, lit_253, lit_400, lit_540, lit_600, lit_1000, lit_1265, lit_1518, NN_def, nI_add, pk_mul, nI_clamp, nI_leI, nI_ltI, nI_eq, nI_ne_NN, NN_ne_nI, NN_lt_nI, nI_le_NN, nI_lt_NN, NN_le_nI, oob, Option.bind_some, if_true, if_false, if_pos, if_neg]
      exact ih
theorem e_explained {cel : Nat → Int32} {r : Nat → Nat} {t p a m : Nat} (h : isCnt cel r t p a m) (hm : m ≤ 240) (ht : t ≤ 400) : fX0_explained cel (nI (ncl t)) = some (nI (exs r t p a m (ncl t))) := by
  unfold fX0_explained
  have hc := ncl_le ht
  have h := l_explained h hm ht FU 0 (by omega) (by rw [FU_eq]; omega)
  rw [lit_0]
  rw [show fX0_explained_L4 cel (nI (ncl t)) FU (nI 0) (nI 0) = some (nI (exs r t p a m (ncl t))) from h]
  rfl
theorem l_explained6 {mc : Nat → Int32} {r : Nat → Nat} {t p a m : Nat} (h : isCnt6 mc r t p a m) (hm : m ≤ 240) (ht : t ≤ 400) (n : Nat) : ∀ (k : Nat), k ≤ ncl t → ncl t < n + k → fX6_explained_L15 (nI t) mc n (nI (exs r t p a m k)) (nI k) = some (nI (exs r t p a m (ncl t))) := by
  induction n with
  | zero => intro k h1 h2; exact absurd h2 (by omega)
  | succ n ih0 =>
    intro k h1 h2
    have ih := ih0 (k + 1)
    clear ih0
    have hc := ncl_le ht
    rw [fX6_explained_L15, e_classesOf6 ht, show (t + 9) / 10 = ncl t from rfl]
    by_cases q : k = ncl t
    · subst q
      simp (disch := omega) only [lit_0, lit_1, lit_2, lit_3, lit_4, lit_5, lit_6, lit_7, lit_8, lit_9, lit_10, lit_12, lit_13, lit_20, lit_31, lit_33, lit_35, lit_40, lit_41, lit_48, lit_50, lit_52, lit_57, lit_60, lit_63, lit_97, lit_100, lit_126, lit_160, lit_239, lit_240, lit_253, lit_400, lit_540, lit_600, lit_1000, lit_1265, lit_1518, NN_def, nI_add, pk_mul, nI_clamp, nI_leI, nI_ltI, nI_eq, nI_ne_NN, NN_ne_nI, NN_lt_nI, nI_le_NN, nI_lt_NN, NN_le_nI, oob, Option.bind_some, if_true, if_false, if_pos, if_neg]
    · have h4 := has4_of6 h hm (show k < ncl t by omega)
      replace ih := ih (by omega) (by omega)
      rw [e_signOf6 (by omega) h4]
      rw [exs] at ih
      rcases sg_mx (cg r t p a m k) with ⟨b1, b2⟩ | ⟨b, b0, b1, b2, b3⟩
      · rw [b2, Nat.add_zero] at ih
        have hlt : ¬ nI (ncl t) ≤ nI k := by rw [nI_leI (by omega) (by omega)]; omega
        rw [b1, Option.bind_some, if_neg hlt, Option.bind_some, if_pos (show NN = -1 from rfl), lit_0, lit_1, nI_add, nI_add, Nat.add_zero]
        exact ih
      · obtain ⟨q3, q4⟩ := h4 b b0
        simp (disch := omega) only [lit_0, lit_1, lit_2, lit_3, lit_4, lit_5, lit_6, lit_7, lit_8, lit_9, lit_10, lit_12, lit_13, lit_20, lit_31, lit_33, lit_35, lit_40, lit_41, lit_48, lit_50, lit_52, lit_57, lit_60, lit_63, lit_97, lit_100, lit_126, lit_160, lit_239, lit_240, lit_253, lit_400, lit_540, lit_600, lit_1000, lit_1265, lit_1518, NN_def, nI_add, pk_mul, nI_clamp, nI_leI, nI_ltI, nI_eq, nI_ne_NN, NN_ne_nI, NN_lt_nI, nI_le_NN, nI_lt_NN, NN_le_nI, oob, Option.bind_some, if_true, if_false, if_pos, if_neg, b1, q3, b2]
        exact ih
theorem e_explained6 {ms : Nat → Int32} {N K w0 w1 w2 : Nat} {r tn ph : Nat → Nat} (hA : AB N K w0 w1 w2 r tn ph) (hM : MI ms N K w0 w1 w2 r tn ph) {t p a m : Nat} (mc : Nat → Int32) (ht : 10 ≤ t) (ht2 : t ≤ 400) (hp : p < t) (hm : a + m ≤ N ∨ m = 0) (ha : a ≤ 240) :
    ∃ mc', fX6_explained ms mc (nI t) (nI p) (nI a) (nI (a + m)) = some (nI (exs r t p a m (ncl t)), mc') := by
  obtain ⟨mc', h1, h2⟩ := e_lays hA hM mc ht ht2 hp hm ha
  have hm2 : m ≤ 240 := by have := hA.1; omega
  have hc := ncl_le ht2
  have h := l_explained6 h2 hm2 ht2 FU 0 (by omega) (by rw [FU_eq]; omega)
  refine ⟨mc', ?_⟩
  unfold fX6_explained
  rw [h1, lit_0, Option.bind_some]
  rw [show fX6_explained_L15 (nI t) mc' FU (nI 0) (nI 0) = _ from h]
  rfl
/-! strong classes -/
def stc (r : Nat → Nat) (t p a n q : Nat) : Nat → Nat
  | 0 => 0
  | k + 1 => stc r t p a n q k + (if ss (cg r t p a n k) q = NN then 0 else 1)
theorem stc_le (r : Nat → Nat) (t p a n q : Nat) : ∀ k, stc r t p a n q k ≤ k
  | 0 => Nat.le_refl 0
  | k + 1 => by have h := stc_le r t p a n q k; rw [stc]; split <;> omega
theorem l_strongClasses {cel : Nat → Int32} {r : Nat → Nat} {t p a m w : Nat} (h : isCnt cel r t p a m) (hm : m ≤ 240) (ht : t ≤ 400) (hw : w ≤ 100) : ∀ (n k : Nat), k ≤ ncl t → ncl t < n + k → fX0_strongClasses_L4 cel (nI (ncl t)) (nI w) n (nI (stc r t p a m w k)) (nI k) = some (nI (stc r t p a m w (ncl t)))
  | 0, k, h1, h2 => absurd h2 (by omega)
  | n + 1, k, h1, h2 => by
    rw [fX0_strongClasses_L4]
    have hc := ncl_le ht
    by_cases q : k = ncl t
    · subst q
      simp (disch := omega) only [lit_0, lit_1, lit_2, lit_3, lit_4, lit_5, lit_6, lit_7, lit_8, lit_9, lit_10, lit_12, lit_13, lit_20, lit_31, lit_33, lit_35, lit_40, lit_41, lit_48, lit_50, lit_52, lit_57, lit_60, lit_63, lit_97, lit_100, lit_126, lit_160, lit_239, lit_240, lit_253, lit_400, lit_540, lit_600, lit_1000, lit_1265, lit_1518, NN_def, nI_add, pk_mul, nI_clamp, nI_leI, nI_ltI, nI_eq, nI_ne_NN, NN_ne_nI, NN_lt_nI, nI_le_NN, nI_lt_NN, NN_le_nI, oob, Option.bind_some, if_true, if_false, if_pos, if_neg]
    · rw [e_strongSignOf (by omega) (has4_of h hm (by omega)) hw]
      have ih := l_strongClasses h hm ht hw n (k + 1) (by omega) (by omega)
      rw [stc] at ih
      simp (disch := omega) only [lit_0, lit_1, lit_2, lit_3, lit_4, lit_5, lit_6, lit_7, lit_8, lit_9, lit_10, lit_12, lit_13, lit_20, lit_31, lit_33, lit_35, lit_40, lit_41, lit_48, lit_50, lit_52, lit_57, lit_60, lit_63, lit_97, lit_100, lit_126, lit_160, lit_239, lit_240, lit_253, lit_400, lit_540, lit_600, lit_1000, lit_1265, lit_1518, NN_def, nI_add, pk_mul, nI_clamp, nI_leI, nI_ltI, nI_eq, nI_ne_NN, NN_ne_nI, NN_lt_nI, nI_le_NN, nI_lt_NN, NN_le_nI, oob, Option.bind_some, if_true, if_false, if_pos, if_neg, NN_raw]
      by_cases z : ss (cg r t p a m k) w = NN
      · rw [if_pos z] at ih ⊢
        exact ih
      · rw [if_neg z] at ih ⊢
        exact ih
theorem e_strongClasses {cel : Nat → Int32} {r : Nat → Nat} {t p a m w : Nat} (h : isCnt cel r t p a m) (hm : m ≤ 240) (ht : t ≤ 400) (hw : w ≤ 100) : fX0_strongClasses cel (nI (ncl t)) (nI w) = some (nI (stc r t p a m w (ncl t))) := by
  unfold fX0_strongClasses
  have hc := ncl_le ht
  have h := l_strongClasses h hm ht hw FU 0 (by omega) (by rw [FU_eq]; omega)
  rw [lit_0]
  rw [show fX0_strongClasses_L4 cel (nI (ncl t)) (nI w) FU (nI 0) (nI 0) = _ from h]
  rfl
section M6
variable {ms : Nat → Int32} {N K w0 w1 w2 : Nat} {r tn ph : Nat → Nat}
theorem e_tenthsOf (hA : AB N K w0 w1 w2 r tn ph) (hM : MI ms N K w0 w1 w2 r tn ph) {j : Nat} (hj : j < K) : fX6_tenthsOf ms (nI j) = some (nI (tn j)) := by
  have hK := hA.2.1
  have h := (hM.2.2.2.2.2.1 j hj).1
  unfold fX6_tenthsOf
  simp (disch := omega) only [lit_0, lit_1, lit_2, lit_3, lit_4, lit_5, lit_6, lit_7, lit_8, lit_9, lit_10, lit_12, lit_13, lit_20, lit_31, lit_33, lit_35, lit_40, lit_41, lit_48, lit_50, lit_52, lit_57, lit_60, lit_63, lit_97, lit_100, lit_126, lit_160, lit_239, lit_240, lit_253, lit_400, lit_540, lit_600, lit_1000, lit_1265, lit_1518, NN_def, nI_add, pk_mul, nI_clamp, nI_leI, nI_ltI, nI_eq, nI_ne_NN, NN_ne_nI, NN_lt_nI, nI_le_NN, nI_lt_NN, NN_le_nI, oob, Option.bind_some, if_true, if_false, if_pos, if_neg, h]
theorem e_phaseOf (hA : AB N K w0 w1 w2 r tn ph) (hM : MI ms N K w0 w1 w2 r tn ph) {j : Nat} (hj : j < K) : fX6_phaseOf ms (nI j) = some (nI (ph j)) := by
  have hK := hA.2.1
  have h := (hM.2.2.2.2.2.1 j hj).2
  unfold fX6_phaseOf
  simp (disch := omega) only [lit_0, lit_1, lit_2, lit_3, lit_4, lit_5, lit_6, lit_7, lit_8, lit_9, lit_10, lit_12, lit_13, lit_20, lit_31, lit_33, lit_35, lit_40, lit_41, lit_48, lit_50, lit_52, lit_57, lit_60, lit_63, lit_97, lit_100, lit_126, lit_160, lit_239, lit_240, lit_253, lit_400, lit_540, lit_600, lit_1000, lit_1265, lit_1518, NN_def, nI_add, pk_mul, nI_clamp, nI_leI, nI_ltI, nI_eq, nI_ne_NN, NN_ne_nI, NN_lt_nI, nI_le_NN, nI_lt_NN, NN_le_nI, oob, Option.bind_some, if_true, if_false, if_pos, if_neg, h]
theorem AB_per (hA : AB N K w0 w1 w2 r tn ph) {j : Nat} (hj : j < K) : 10 ≤ tn j ∧ tn j ≤ 400 ∧ ph j < tn j := hA.2.2.2.2.2.2.2 j hj
theorem AB_wst (hA : AB N K w0 w1 w2 r tn ph) : wst w0 w1 ≤ 239 := wst_le hA.2.2.1
theorem AB_wpl (hA : AB N K w0 w1 w2 r tn ph) : wpl N w0 w1 ≤ 240 := wpl_le hA.1 hA.2.2.2.1
theorem AB_in (hA : AB N K w0 w1 w2 r tn ph) : wst w0 w1 + wpl N w0 w1 ≤ N ∨ wpl N w0 w1 = 0 := (w_in).symm
theorem e_laysPeriod (hA : AB N K w0 w1 w2 r tn ph) (hM : MI ms N K w0 w1 w2 r tn ph) (mc : Nat → Int32) {j : Nat} (hj : j < K) : ∃ mc', fX6_laysPeriod ms mc (nI j) = some mc' ∧ isCnt6 mc' r (tn j) (ph j) (wst w0 w1) (wpl N w0 w1) := by
  obtain ⟨h1, h2, h3⟩ := AB_per hA hj
  obtain ⟨mc', h4, h5⟩ := e_lays hA hM mc h1 h2 h3 (AB_in hA) (by have := AB_wst hA; omega)
  refine ⟨mc', ?_, h5⟩
  unfold fX6_laysPeriod
  rw [e_tenthsOf hA hM hj, e_phaseOf hA hM hj, e_first6 hA hM, e_last6 hA hM]
  simp only [Option.bind_some]
  rw [h4]
  rfl
/-- what a period of t tenths, beginning at p, explains in the window -/
def exw (N w0 w1 : Nat) (r : Nat → Nat) (t p : Nat) : Nat := exs r t p (wst w0 w1) (wpl N w0 w1) (ncl t)
theorem exw_le (hA : AB N K w0 w1 w2 r tn ph) {t p : Nat} (ht : t ≤ 400) : exw N w0 w1 r t p ≤ 9600 := by
  have h := exs_le r t p (wst w0 w1) (AB_wpl hA) (ncl t)
  have h2 := ncl_le ht
  unfold exw
  omega
theorem e_explainedNow (hA : AB N K w0 w1 w2 r tn ph) (hM : MI ms N K w0 w1 w2 r tn ph) (mc : Nat → Int32) {t p : Nat} (ht : 10 ≤ t) (ht2 : t ≤ 400) (hp : p < t) : ∃ mc', fX6_explainedNow ms mc (nI t) (nI p) = some (nI (exw N w0 w1 r t p), mc') := by
  obtain ⟨mc', h4⟩ := e_explained6 hA hM mc ht ht2 hp (AB_in hA) (by have := AB_wst hA; omega)
  refine ⟨mc', ?_⟩
  unfold fX6_explainedNow
  rw [e_first6 hA hM, e_last6 hA hM]
  simp only [Option.bind_some]
  rw [h4]
  rfl
theorem l_strongMany (hA : AB N K w0 w1 w2 r tn ph) (hM : MI ms N K w0 w1 w2 r tn ph) {j : Nat} (hj : j < K) {mc : Nat → Int32} (h : isCnt6 mc r (tn j) (ph j) (wst w0 w1) (wpl N w0 w1)) : ∀ (n k : Nat), k ≤ ncl (tn j) → ncl (tn j) < n + k → fX6_strongMany_L9 ms (nI j) mc n (nI (stc r (tn j) (ph j) (wst w0 w1) (wpl N w0 w1) w2 k)) (nI k) = some (nI (stc r (tn j) (ph j) (wst w0 w1) (wpl N w0 w1) w2 (ncl (tn j))))
  | 0, k, h1, h2 => absurd h2 (by omega)
  | n + 1, k, h1, h2 => by
    obtain ⟨t1, t2, t3⟩ := AB_per hA hj
    have hm := AB_wpl hA
    rw [fX6_strongMany_L9, e_tenthsOf hA hM hj, Option.bind_some, e_classesOf6 t2]
    have hc := ncl_le t2
    have he : (tn j + 9) / 10 = ncl (tn j) := rfl
    rw [he]
    by_cases q : k = ncl (tn j)
    · subst q
      simp (disch := omega) only [lit_0, lit_1, lit_2, lit_3, lit_4, lit_5, lit_6, lit_7, lit_8, lit_9, lit_10, lit_12, lit_13, lit_20, lit_31, lit_33, lit_35, lit_40, lit_41, lit_48, lit_50, lit_52, lit_57, lit_60, lit_63, lit_97, lit_100, lit_126, lit_160, lit_239, lit_240, lit_253, lit_400, lit_540, lit_600, lit_1000, lit_1265, lit_1518, NN_def, nI_add, pk_mul, nI_clamp, nI_leI, nI_ltI, nI_eq, nI_ne_NN, NN_ne_nI, NN_lt_nI, nI_le_NN, nI_lt_NN, NN_le_nI, oob, Option.bind_some, if_true, if_false, if_pos, if_neg]
    · have h4 := has4_of6 h hm (show k < ncl (tn j) by omega)
      rw [e_isStrong6 hA hM (by omega) h4]
      have ih := l_strongMany hA hM hj h n (k + 1) (by omega) (by omega)
      rw [stc] at ih
      by_cases z : ss (cg r (tn j) (ph j) (wst w0 w1) (wpl N w0 w1) k) w2 = NN
      · rw [if_pos z] at ih ⊢
        simp (disch := omega) only [lit_0, lit_1, lit_2, lit_3, lit_4, lit_5, lit_6, lit_7, lit_8, lit_9, lit_10, lit_12, lit_13, lit_20, lit_31, lit_33, lit_35, lit_40, lit_41, lit_48, lit_50, lit_52, lit_57, lit_60, lit_63, lit_97, lit_100, lit_126, lit_160, lit_239, lit_240, lit_253, lit_400, lit_540, lit_600, lit_1000, lit_1265, lit_1518, NN_def, nI_add, pk_mul, nI_clamp, nI_leI, nI_ltI, nI_eq, nI_ne_NN, NN_ne_nI, NN_lt_nI, nI_le_NN, nI_lt_NN, NN_le_nI, oob, Option.bind_some, if_true, if_false, if_pos, if_neg]
        exact ih
      · rw [if_neg z] at ih ⊢
        simp (disch := omega) only [lit_0, lit_1, lit_2, lit_3, lit_4, lit_5, lit_6, lit_7, lit_8, lit_9, lit_10, lit_12, lit_13, lit_20, lit_31, lit_33, lit_35, lit_40, lit_41, lit_48, lit_50, lit_52, lit_57, lit_60, lit_63, lit_97, lit_100, lit_126, lit_160, lit_239, lit_240, lit_253, lit_400, lit_540, lit_600, lit_1000, lit_1265, lit_1518, NN_def, nI_add, pk_mul, nI_clamp, nI_leI, nI_ltI, nI_eq, nI_ne_NN, NN_ne_nI, NN_lt_nI, nI_le_NN, nI_lt_NN, NN_le_nI, oob, Option.bind_some, if_true, if_false, if_pos, if_neg]
        exact ih
theorem e_strongMany (hA : AB N K w0 w1 w2 r tn ph) (hM : MI ms N K w0 w1 w2 r tn ph) (mc : Nat → Int32) {j : Nat} (hj : j < K) : ∃ mc', fX6_strongMany ms mc (nI j) = some (nI (stc r (tn j) (ph j) (wst w0 w1) (wpl N w0 w1) w2 (ncl (tn j))), mc') := by
  obtain ⟨mc', h1, h2⟩ := e_laysPeriod hA hM mc hj
  have hc := ncl_le (AB_per hA hj).2.1
  have h := l_strongMany hA hM hj h2 FU 0 (by omega) (by rw [FU_eq]; omega)
  refine ⟨mc', ?_⟩
  unfold fX6_strongMany
  rw [h1, lit_0, Option.bind_some]
  rw [show fX6_strongMany_L9 ms (nI j) mc' FU (nI 0) (nI 0) = _ from h]
  rfl
end M6
section C5
variable {row ten pha : Nat → Int32} {len kep wfi wmo hun : Int32} {N K w0 w1 w2 : Nat} {r tn ph : Nat → Nat}
theorem c_start (hA : AB N K w0 w1 w2 r tn ph) (hC : CI row ten pha len kep wfi wmo hun N K w0 w1 w2 r tn ph) : fX2_windowStart wfi wmo = some (nI (wst w0 w1)) :=
  e_windowStart hC.2.2.1 hA.2.2.1 hC.2.2.2.1 hA.2.2.2.1
theorem c_places (hA : AB N K w0 w1 w2 r tn ph) (hC : CI row ten pha len kep wfi wmo hun N K w0 w1 w2 r tn ph) : fX2_windowPlaces len wfi wmo = some (nI (wpl N w0 w1)) := by
  rw [hC.1]
  exact e_windowPlaces hC.2.2.1 hA.2.2.1 hC.2.2.2.1 hA.2.2.2.1 hA.1
theorem c_end (hA : AB N K w0 w1 w2 r tn ph) (hC : CI row ten pha len kep wfi wmo hun N K w0 w1 w2 r tn ph) : fX2_windowEnd len wfi wmo = some (nI (wst w0 w1 + wpl N w0 w1)) := by
  rw [hC.1]
  exact e_windowEnd hC.2.2.1 hA.2.2.1 hC.2.2.2.1 hA.2.2.2.1 hA.1
theorem c_row (hA : AB N K w0 w1 w2 r tn ph) (hC : CI row ten pha len kep wfi wmo hun N K w0 w1 w2 r tn ph) : ∀ i, i < N → row i = nI (r i) ∧ r i < 4 :=
  fun i hi => ⟨hC.2.2.2.2.2.1 i hi, hA.2.2.2.2.2.2.1 i hi⟩
theorem c_stretch (hA : AB N K w0 w1 w2 r tn ph) (hC : CI row ten pha len kep wfi wmo hun N K w0 w1 w2 r tn ph) (cel : Nat → Int32) {t p a m : Nat} (ht : 10 ≤ t) (ht2 : t ≤ 400) (hp : p < t) (hm : a + m ≤ N ∨ m = 0) (ha : a ≤ 240) :
    ∃ cel', fX0_takeStretch cel row len (nI t) (nI p) (nI a) (nI m) = some (cel', nI (ncl t)) ∧ isCnt cel' r t p a m := by
  rw [hC.1]
  exact e_stretch cel hA.1 ht ht2 hp (c_row hA hC) hm ha
theorem c_takeWindow (hA : AB N K w0 w1 w2 r tn ph) (hC : CI row ten pha len kep wfi wmo hun N K w0 w1 w2 r tn ph) (cel : Nat → Int32) {t p : Nat} (ht : 10 ≤ t) (ht2 : t ≤ 400) (hp : p < t) :
    ∃ cel', fX0_takeWindow cel row len wfi wmo (nI t) (nI p) = some (cel', nI (ncl t)) ∧ isCnt cel' r t p (wst w0 w1) (wpl N w0 w1) := by
  obtain ⟨cel', h1, h2⟩ := c_stretch hA hC cel ht ht2 hp (AB_in hA) (by have := AB_wst hA; omega)
  refine ⟨cel', ?_, h2⟩
  unfold fX0_takeWindow
  rw [c_start hA hC, c_places hA hC]
  simp only [Option.bind_some]
  rw [h1]
  rfl
theorem c_tenths (hA : AB N K w0 w1 w2 r tn ph) (hC : CI row ten pha len kep wfi wmo hun N K w0 w1 w2 r tn ph) {j : Nat} (hj : j < K) : fX2_tenthsAt ten (nI j) = some (nI (tn j)) := by
  rw [e_tenthsAt (by have := hA.2.1; omega), (hC.2.2.2.2.2.2 j hj).1]
theorem c_phase (hA : AB N K w0 w1 w2 r tn ph) (hC : CI row ten pha len kep wfi wmo hun N K w0 w1 w2 r tn ph) {j : Nat} (hj : j < K) : fX2_phaseAt pha (nI j) = some (nI (ph j)) := by
  rw [e_phaseAt (by have := hA.2.1; omega), (hC.2.2.2.2.2.2 j hj).2]
theorem c_takeKept (hA : AB N K w0 w1 w2 r tn ph) (hC : CI row ten pha len kep wfi wmo hun N K w0 w1 w2 r tn ph) (cel : Nat → Int32) {j : Nat} (hj : j < K) :
    ∃ cel', fX0_takeKept cel row ten pha len wfi wmo (nI j) = some (cel', nI (ncl (tn j))) ∧ isCnt cel' r (tn j) (ph j) (wst w0 w1) (wpl N w0 w1) := by
  obtain ⟨t1, t2, t3⟩ := AB_per hA hj
  obtain ⟨cel', h1, h2⟩ := c_takeWindow hA hC cel t1 t2 t3
  refine ⟨cel', ?_, h2⟩
  unfold fX0_takeKept
  rw [c_tenths hA hC hj, c_phase hA hC hj]
  simp only [Option.bind_some]
  rw [h1]
  rfl
/-- the window's counts and what they explain, in one -/
theorem c_takeEx (hA : AB N K w0 w1 w2 r tn ph) (hC : CI row ten pha len kep wfi wmo hun N K w0 w1 w2 r tn ph) (cel : Nat → Int32) {t p : Nat} (ht : 10 ≤ t) (ht2 : t ≤ 400) (hp : p < t) :
    ∃ cel', fX0_takeWindow cel row len wfi wmo (nI t) (nI p) = some (cel', nI (ncl t)) ∧ fX0_explained cel' (nI (ncl t)) = some (nI (exw N w0 w1 r t p)) := by
  obtain ⟨cel', h1, h2⟩ := c_takeWindow hA hC cel ht ht2 hp
  exact ⟨cel', h1, e_explained h2 (AB_wpl hA) ht2⟩
end C5
