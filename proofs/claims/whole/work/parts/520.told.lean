/-! TOLD SIGNS: BOTH SIDES -/
def tlu (S : Nat → Int32) (K : Nat) : Nat → Int32
  | 0 => NN
  | d + 1 => if S (K - (d + 1)) = NN then tlu S K d else nI (K - (d + 1))
def sgu (S : Nat → Int32) (K : Nat) : Nat → Int32
  | 0 => NN
  | d + 1 => if S (K - (d + 1)) = NN then sgu S K d else S (K - (d + 1))
theorem tlu_cases (S : Nat → Int32) (K : Nat) : ∀ d, d ≤ K → (tlu S K d = NN ∧ sgu S K d = NN) ∨ ∃ v, v < K ∧ tlu S K d = nI v ∧ sgu S K d = S v ∧ S v ≠ NN
  | 0, _ => Or.inl ⟨rfl, rfl⟩
  | d + 1, h => by
    rw [tlu, sgu]
    by_cases q : S (K - (d + 1)) = NN
    · rw [if_pos q, if_pos q]
      exact tlu_cases S K d (by omega)
    · rw [if_neg q, if_neg q]
      exact Or.inr ⟨K - (d + 1), by omega, rfl, rfl, q⟩
def SSg (N w0 w1 w2 : Nat) (r tn ph : Nat → Nat) (j g : Nat) : Int32 := ss (cg r (tn j) (ph j) (wst w0 w1) (wpl N w0 w1) g) w2
def clj (tn ph : Nat → Nat) (j i : Nat) : Nat := (10 * i + ph j) % tn j / 10
abbrev inw (N w0 w1 i : Nat) : Prop := wst w0 w1 ≤ i ∧ i < wst w0 w1 + wpl N w0 w1
def Sj (N w0 w1 w2 : Nat) (r tn ph : Nat → Nat) (i : Nat) : Nat → Int32 := fun j => SSg N w0 w1 w2 r tn ph j (clj tn ph j i)
def tos (N K w0 w1 w2 : Nat) (r tn ph : Nat → Nat) (i : Nat) : Int32 := if inw N w0 w1 i then sgu (Sj N w0 w1 w2 r tn ph i) K K else NN
def tel (N K w0 w1 w2 : Nat) (r tn ph : Nat → Nat) (i : Nat) : Int32 := if inw N w0 w1 i then tlu (Sj N w0 w1 w2 r tn ph i) K K else NN
theorem tel_cases (N K w0 w1 w2 : Nat) (r tn ph : Nat → Nat) (i : Nat) : (tel N K w0 w1 w2 r tn ph i = NN ∧ tos N K w0 w1 w2 r tn ph i = NN) ∨ ∃ v, v < K ∧ tel N K w0 w1 w2 r tn ph i = nI v ∧ tos N K w0 w1 w2 r tn ph i = Sj N w0 w1 w2 r tn ph i v ∧ Sj N w0 w1 w2 r tn ph i v ≠ NN := by
  unfold tel tos
  by_cases h : inw N w0 w1 i
  · rw [if_pos h, if_pos h]
    exact tlu_cases _ K K (Nat.le_refl K)
  · rw [if_neg h, if_neg h]
    exact Or.inl ⟨rfl, rfl⟩
theorem ss_cases (c : Nat → Nat) (q : Nat) : ss c q = NN ∨ ∃ b, b < 4 ∧ ss c q = nI b := by
  unfold ss
  split
  · rcases sg_mx c with ⟨b1, _⟩ | ⟨b, b0, b1, _⟩
    · exact Or.inl b1
    · exact Or.inr ⟨b, b0, b1⟩
  · exact Or.inl rfl
theorem tos_cases (N K w0 w1 w2 : Nat) (r tn ph : Nat → Nat) (i : Nat) : tos N K w0 w1 w2 r tn ph i = NN ∨ ∃ b, b < 4 ∧ tos N K w0 w1 w2 r tn ph i = nI b := by
  rcases tel_cases N K w0 w1 w2 r tn ph i with ⟨_, h⟩ | ⟨v, _, _, h, _⟩
  · exact Or.inl h
  · rw [h]
    exact ss_cases _ _
section T5
variable {row ten pha set : Nat → Int32} {len kep : Int32} {N K w0 w1 w2 : Nat} {r tn ph : Nat → Nat}
def isStr (str : Nat → Int32) (N K w0 w1 w2 : Nat) (r tn ph : Nat → Nat) : Prop := ∀ j g, j < K → g < ncl (tn j) → str (40 * j + g) = SSg N w0 w1 w2 r tn ph j g
theorem e_layI {f : Nat → Int32} {n i : Nat} {x : Int32} (hi : i < n) (hn : n < 2 ^ 31) : fX5_lay f n (nI i) x = some (upd f i x) := e_lay hi hn
theorem l_read28 (hA : AB N K w0 w1 w2 r tn ph) {j : Nat} (hj : j < K) {cel : Nat → Int32} (h : isCnt cel r (tn j) (ph j) (wst w0 w1) (wpl N w0 w1)) (str0 : Nat → Int32) : ∀ (n k : Nat) (str : Nat → Int32), k ≤ ncl (tn j) → ncl (tn j) < n + k → (∀ g, g < k → str (40 * j + g) = SSg N w0 w1 w2 r tn ph j g) → (∀ q, q < 40 * j → str q = str0 q) →
    ∃ str', fX3_read_L28 (nI w2) (nI j) cel (nI (ncl (tn j))) n (nI k) str = some str' ∧ (∀ g, g < ncl (tn j) → str' (40 * j + g) = SSg N w0 w1 w2 r tn ph j g) ∧ ∀ q, q < 40 * j → str' q = str0 q
  | 0, k, str, h1, h2, _, _ => absurd h2 (by omega)
  | n + 1, k, str, h1, h2, h3, h4 => by
    obtain ⟨t1, t2, t3⟩ := AB_per hA hj
    have hK := hA.2.1
    have hw := hA.2.2.2.2.2.1
    have hc := ncl_le t2
    rw [fX3_read_L28]
    by_cases q : k = ncl (tn j)
    · have hq : nI (ncl (tn j)) ≤ nI k := by rw [nI_leI (by omega) (by omega)]; omega
      rw [if_pos hq]
      exact ⟨str, rfl, fun g hg => h3 g (by omega), h4⟩
    · have hq : ¬ nI (ncl (tn j)) ≤ nI k := by rw [nI_leI (by omega) (by omega)]; omega
      rw [if_neg hq, e_strongSignOf (by omega) (has4_of h (AB_wpl hA) (by omega)) hw, Option.bind_some, lit_40, pk_mul, nI_add, e_lay (by omega) (by omega), Option.bind_some, lit_1, nI_add]
      refine l_read28 hA hj h str0 n (k + 1) _ (by omega) (by omega) (fun g hg => ?_) (fun q hq => ?_)
      · rw [upd_at]
        by_cases e : g = k
        · rw [if_pos (by omega), e]
          rfl
        · rw [if_neg (by omega)]
          exact h3 g (by omega)
      · rw [upd_at, if_neg (by omega)]
        exact h4 q hq
theorem l_read9 (hA : AB N K w0 w1 w2 r tn ph) (hC : CI row ten pha set len kep N K w0 w1 w2 r tn ph) : ∀ (n k : Nat) (str cel : Nat → Int32) (cls : Int32), k ≤ K → K < n + k → isStr str N k w0 w1 w2 r tn ph →
    ∃ str' cel' cls', fX3_read_L9 row ten pha set len kep (nI w2) n (nI k) str cel cls = some (str', cel', cls') ∧ isStr str' N K w0 w1 w2 r tn ph
  | 0, k, str, cel, cls, h1, h2, _ => absurd h2 (by omega)
  | n + 1, k, str, cel, cls, h1, h2, h3 => by
    have hK := hA.2.1
    have hkep : kep = nI K := hC.2.1
    rw [fX3_read_L9, hkep]
    by_cases q : k = K
    · have hq : nI K ≤ nI k := by rw [nI_leI (by omega) (by omega)]; omega
      rw [if_pos hq]
      exact ⟨str, cel, cls, rfl, q ▸ h3⟩
    · have hq : ¬ nI K ≤ nI k := by rw [nI_leI (by omega) (by omega)]; omega
      obtain ⟨cel', c1, c2⟩ := c_takeKept hA hC cel (show k < K by omega)
      have hc := ncl_le (AB_per hA (show k < K by omega)).2.1
      obtain ⟨str', s1, s2, s3⟩ := l_read28 hA (show k < K by omega) c2 str FU 0 str (by omega) (by rw [FU_eq]; omega) (fun g hg => absurd hg (by omega)) (fun _ _ => rfl)
      rw [if_neg hq, c1, Option.bind_some]
      simp only []
      rw [lit_0, s1, Option.bind_some, lit_1, nI_add, ← hkep]
      refine l_read9 hA hC n (k + 1) str' cel' _ (by omega) (by omega) (fun j g hj hg => ?_)
      by_cases e : j = k
      · subst e
        exact s2 g hg
      · have := ncl_le (AB_per hA (show j < K by omega)).2.1
        rw [s3 (40 * j + g) (by omega)]
        exact h3 j g (by omega) hg
theorem c_read (hA : AB N K w0 w1 w2 r tn ph) (hC : CI row ten pha set len kep N K w0 w1 w2 r tn ph) (str cel : Nat → Int32) (cls : Int32) :
    ∃ str' cel' cls', fX3_read str row ten pha set len kep cel cls = some (str', cel', cls') ∧ isStr str' N K w0 w1 w2 r tn ph := by
  have hK := hA.2.1
  obtain ⟨str', cel', cls', h1, h2⟩ := l_read9 hA hC FU 0 str cel cls (by omega) (by rw [FU_eq]; omega) (fun j g hj => absurd hj (by omega))
  refine ⟨str', cel', cls', ?_, h2⟩
  unfold fX3_read
  rw [show ((2 : Int32)) = nI 2 from rfl, e_settingAt (by omega), hC.2.2.2.2.1, Option.bind_some, lit_0, h1]
  rfl
theorem clj_lt (hA : AB N K w0 w1 w2 r tn ph) {j : Nat} (hj : j < K) (i : Nat) : clj tn ph j i < ncl (tn j) := cls_ncl (AB_per hA hj).1
theorem c_strongBy (hA : AB N K w0 w1 w2 r tn ph) (hC : CI row ten pha set len kep N K w0 w1 w2 r tn ph) {str : Nat → Int32} (hS : isStr str N K w0 w1 w2 r tn ph) {j i : Nat} (hj : j < K) (hi : i ≤ 480) : fX3_strongSignBy str ten pha (nI j) (nI i) = some (Sj N w0 w1 w2 r tn ph i j) := by
  obtain ⟨t1, t2, t3⟩ := AB_per hA hj
  have hK := hA.2.1
  have hc := ncl_le t2
  have hl := clj_lt hA hj i
  unfold fX3_strongSignBy
  rw [c_tenths hA hC hj, Option.bind_some, c_phase hA hC hj, Option.bind_some, e_classOf hi t1 t2 t3, Option.bind_some, lit_40, pk_mul, nI_add]
  rw [show (10 * i + ph j) % tn j / 10 = clj tn ph j i from rfl, e_cellAt (by omega) (by omega), Nat.mul_comm j 40, hS j _ hj hl]
  rfl
theorem c_inWindow (hA : AB N K w0 w1 w2 r tn ph) (hC : CI row ten pha set len kep N K w0 w1 w2 r tn ph) {i : Nat} (hi : i ≤ 480) : fX2_isInWindow set len (nI i) = some (if inw N w0 w1 i then nI 1 else nI 0) := by
  have h1 := AB_wst hA
  have h2 := AB_wpl hA
  unfold fX2_isInWindow
  rw [c_start hA hC, c_places hA hC]
  by_cases q1 : i < wst w0 w1
  · rw [if_neg (show ¬ inw N w0 w1 i from fun z => by unfold inw at z; omega)]
    simp (disch := omega) only [lit_0, lit_1, lit_2, lit_3, lit_4, lit_5, lit_6, lit_7, lit_8, lit_9, lit_10, lit_12, lit_13, lit_20, lit_31, lit_33, lit_35, lit_40, lit_41, lit_48, lit_50, lit_52, lit_57, lit_60, lit_63, lit_97, lit_100, lit_126, lit_160, lit_239, lit_240, lit_253, lit_400, lit_540, lit_600, lit_1000, lit_1265, lit_1518, NN_def, nI_add, pk_mul, nI_clamp, nI_leI, nI_ltI, nI_eq, nI_ne_NN, NN_ne_nI, NN_lt_nI, nI_le_NN, nI_lt_NN, NN_le_nI, oob, Option.bind_some, if_true, if_false, if_pos, if_neg]
  · by_cases q2 : wst w0 w1 + wpl N w0 w1 ≤ i
    · rw [if_neg (show ¬ inw N w0 w1 i from fun z => by unfold inw at z; omega)]
      simp (disch := omega) only [lit_0, lit_1, lit_2, lit_3, lit_4, lit_5, lit_6, lit_7, lit_8, lit_9, lit_10, lit_12, lit_13, lit_20, lit_31, lit_33, lit_35, lit_40, lit_41, lit_48, lit_50, lit_52, lit_57, lit_60, lit_63, lit_97, lit_100, lit_126, lit_160, lit_239, lit_240, lit_253, lit_400, lit_540, lit_600, lit_1000, lit_1265, lit_1518, NN_def, nI_add, pk_mul, nI_clamp, nI_leI, nI_ltI, nI_eq, nI_ne_NN, NN_ne_nI, NN_lt_nI, nI_le_NN, nI_lt_NN, NN_le_nI, oob, Option.bind_some, if_true, if_false, if_pos, if_neg]
    · rw [if_pos (show inw N w0 w1 i from ⟨by omega, by omega⟩)]
      simp (disch := omega) only [lit_0, lit_1, lit_2, lit_3, lit_4, lit_5, lit_6, lit_7, lit_8, lit_9, lit_10, lit_12, lit_13, lit_20, lit_31, lit_33, lit_35, lit_40, lit_41, lit_48, lit_50, lit_52, lit_57, lit_60, lit_63, lit_97, lit_100, lit_126, lit_160, lit_239, lit_240, lit_253, lit_400, lit_540, lit_600, lit_1000, lit_1265, lit_1518, NN_def, nI_add, pk_mul, nI_clamp, nI_leI, nI_ltI, nI_eq, nI_ne_NN, NN_ne_nI, NN_lt_nI, nI_le_NN, nI_lt_NN, NN_le_nI, oob, Option.bind_some, if_true, if_false, if_pos, if_neg]
theorem l_teller (hA : AB N K w0 w1 w2 r tn ph) (hC : CI row ten pha set len kep N K w0 w1 w2 r tn ph) {str : Nat → Int32} (hS : isStr str N K w0 w1 w2 r tn ph) {i : Nat} (hi : i ≤ 480) : ∀ (n d : Nat), d ≤ K → d < n → fX3_tellerOf_L12 str ten pha kep (nI i) n (nI (K - d)) = some (tlu (Sj N w0 w1 w2 r tn ph i) K d)
  | 0, d, h1, h2 => absurd h2 (by omega)
  | n + 1, 0, h1, h2 => by
    have hK := hA.2.1
    rw [fX3_tellerOf_L12, hC.2.1, if_pos (by rw [nI_leI (by omega) (by omega)]; omega)]
    rfl
  | n + 1, d + 1, h1, h2 => by
    have hK := hA.2.1
    have hq : ¬ nI K ≤ nI (K - (d + 1)) := by rw [nI_leI (by omega) (by omega)]; omega
    have ih := l_teller hA hC hS hi n d (by omega) (by omega)
    rw [fX3_tellerOf_L12, hC.2.1, if_neg hq, c_strongBy hA hC hS (by omega) hi, Option.bind_some, tlu, NN_raw]
    by_cases z : Sj N w0 w1 w2 r tn ph i (K - (d + 1)) = NN
    · rw [if_pos z, if_pos z, lit_1, nI_add, ← hC.2.1, show K - (d + 1) + 1 = K - d by omega]
      exact ih
    · rw [if_neg z, if_neg z]
theorem c_tellerOf (hA : AB N K w0 w1 w2 r tn ph) (hC : CI row ten pha set len kep N K w0 w1 w2 r tn ph) {str : Nat → Int32} (hS : isStr str N K w0 w1 w2 r tn ph) {i : Nat} (hi : i ≤ 480) : fX3_tellerOf str ten pha set len kep (nI i) = some (tel N K w0 w1 w2 r tn ph i) := by
  have hK := hA.2.1
  unfold fX3_tellerOf tel
  rw [c_inWindow hA hC hi, Option.bind_some]
  by_cases h : inw N w0 w1 i
  · have hl := l_teller hA hC hS hi FU K (Nat.le_refl K) (by rw [FU_eq]; omega)
    rw [Nat.sub_self] at hl
    rw [if_pos h, if_pos h, if_neg (show ¬ nI 1 = 0 by decide)]
    exact hl
  · rw [if_neg h, if_neg h, if_pos (show nI 0 = 0 from rfl)]
    rfl
theorem c_signFor (hA : AB N K w0 w1 w2 r tn ph) (hC : CI row ten pha set len kep N K w0 w1 w2 r tn ph) {str : Nat → Int32} (hS : isStr str N K w0 w1 w2 r tn ph) {i : Nat} (hi : i ≤ 480) : fX3_signFor str ten pha set len kep (nI i) = some (tos N K w0 w1 w2 r tn ph i) := by
  have hK := hA.2.1
  unfold fX3_signFor
  rw [c_tellerOf hA hC hS hi, Option.bind_some, NN_raw]
  rcases tel_cases N K w0 w1 w2 r tn ph i with ⟨e1, e2⟩ | ⟨v, hv, e1, e2, e3⟩
  · rw [e1, e2, if_pos rfl]
  · rw [e1, e2, if_neg (by rw [nI_ne_NN (by omega)]; exact id), c_strongBy hA hC hS hv hi]
    rfl
theorem c_signAt (hA : AB N K w0 w1 w2 r tn ph) (hC : CI row ten pha set len kep N K w0 w1 w2 r tn ph) {i : Nat} (hi : i < N) : fX2_signAt row len (nI i) = some (nI (r i)) := by
  rw [hC.1, e_signAt hA.1 hi, (c_row hA hC i hi).1]
def xb (N K w0 w1 w2 : Nat) (r tn ph : Nat → Nat) (i : Nat) : Nat := if tos N K w0 w1 w2 r tn ph i = nI (r i) then 1 else 0
theorem xb_le (i : Nat) : xb N K w0 w1 w2 r tn ph i ≤ 1 := by unfold xb; split <;> omega
theorem c_isExplained (hA : AB N K w0 w1 w2 r tn ph) (hC : CI row ten pha set len kep N K w0 w1 w2 r tn ph) {str : Nat → Int32} (hS : isStr str N K w0 w1 w2 r tn ph) {i : Nat} (hi : i < N) : fX3_isExplained str row ten pha set len kep (nI i) = some (nI (xb N K w0 w1 w2 r tn ph i)) := by
  have hN := hA.1
  have hr := hA.2.2.2.2.2.2.1 i hi
  unfold fX3_isExplained xb
  rw [c_signFor hA hC hS (by omega), Option.bind_some, NN_raw]
  by_cases h : tos N K w0 w1 w2 r tn ph i = NN
  · rw [h, if_pos rfl, if_neg (by rw [NN_ne_nI (by omega)]; exact id)]
    rfl
  · rw [if_neg h, c_signAt hA hC hi, Option.bind_some]
    by_cases q : tos N K w0 w1 w2 r tn ph i = nI (r i)
    · rw [if_pos q, if_pos q]
      rfl
    · rw [if_neg q, if_neg q]
      rfl
end T5
