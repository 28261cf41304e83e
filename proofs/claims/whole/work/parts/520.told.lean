/-! TOLD SIGNS: BOTH SIDES -/
def tlu (S : Nat → Int32) (K : Nat) : Nat → Int32
  | 0 => NN
  | d + 1 => if S (K - (d + 1)) = NN then tlu S K d else nI (K - (d + 1))
def sgu (S : Nat → Int32) (K : Nat) : Nat → Int32
  | 0 => NN
  | d + 1 => if S (K - (d + 1)) = NN then sgu S K d else S (K - (d + 1))
theorem tlu_cases (S : Nat → Int32) (K : Nat) : ∀ d, d ≤ K → (tlu S K d = NN ∧ sgu S K d = NN) ∨ ∃ v, v < K ∧ tlu S K d = nI v ∧ sgu S K d = S v ∧ S v ≠ NN
  | 0, _ => Or.inl ⟨rfl, rfl⟩
  | d + 1, h => by
    rw [tlu, sgu]
    by_cases q : S (K - (d + 1)) = NN
    · rw [if_pos q, if_pos q]
      exact tlu_cases S K d (by omega)
    · rw [if_neg q, if_neg q]
      exact Or.inr ⟨K - (d + 1), by omega, rfl, rfl, q⟩
def SSg (N w0 w1 w2 : Nat) (r tn ph : Nat → Nat) (j g : Nat) : Int32 := ss (cg r (tn j) (ph j) (wst w0 w1) (wpl N w0 w1) g) w2
def clj (tn ph : Nat → Nat) (j i : Nat) : Nat := (10 * i + ph j) % tn j / 10
abbrev inw (N w0 w1 i : Nat) : Prop := wst w0 w1 ≤ i ∧ i < wst w0 w1 + wpl N w0 w1
def Sj (N w0 w1 w2 : Nat) (r tn ph : Nat → Nat) (i : Nat) : Nat → Int32 := fun j => SSg N w0 w1 w2 r tn ph j (clj tn ph j i)
def tos (N K w0 w1 w2 : Nat) (r tn ph : Nat → Nat) (i : Nat) : Int32 := if inw N w0 w1 i then sgu (Sj N w0 w1 w2 r tn ph i) K K else NN
def tel (N K w0 w1 w2 : Nat) (r tn ph : Nat → Nat) (i : Nat) : Int32 := if inw N w0 w1 i then tlu (Sj N w0 w1 w2 r tn ph i) K K else NN
theorem tel_cases (N K w0 w1 w2 : Nat) (r tn ph : Nat → Nat) (i : Nat) : (tel N K w0 w1 w2 r tn ph i = NN ∧ tos N K w0 w1 w2 r tn ph i = NN) ∨ ∃ v, v < K ∧ tel N K w0 w1 w2 r tn ph i = nI v ∧ tos N K w0 w1 w2 r tn ph i = Sj N w0 w1 w2 r tn ph i v ∧ Sj N w0 w1 w2 r tn ph i v ≠ NN := by
  unfold tel tos
  by_cases h : inw N w0 w1 i
  · rw [if_pos h, if_pos h]
    exact tlu_cases _ K K (Nat.le_refl K)
  · rw [if_neg h, if_neg h]
    exact Or.inl ⟨rfl, rfl⟩
theorem ss_cases (c : Nat → Nat) (q : Nat) : ss c q = NN ∨ ∃ b, b < 4 ∧ ss c q = nI b := by
  unfold ss
  split
  · rcases sg_mx c with ⟨b1, _⟩ | ⟨b, b0, b1, _⟩
    · exact Or.inl b1
    · exact Or.inr ⟨b, b0, b1⟩
  · exact Or.inl rfl
theorem tos_cases (N K w0 w1 w2 : Nat) (r tn ph : Nat → Nat) (i : Nat) : tos N K w0 w1 w2 r tn ph i = NN ∨ ∃ b, b < 4 ∧ tos N K w0 w1 w2 r tn ph i = nI b := by
  rcases tel_cases N K w0 w1 w2 r tn ph i with ⟨_, h⟩ | ⟨v, _, _, h, _⟩
  · exact Or.inl h
  · rw [h]
    exact ss_cases _ _
/-! the same from the front: what stands when the first k periods have been read -/
def tlp (S : Nat → Int32) : Nat → Int32
  | 0 => NN
  | k + 1 => if tlp S k = NN then (if S k = NN then NN else nI k) else tlp S k
def sgp (S : Nat → Int32) : Nat → Int32
  | 0 => NN
  | k + 1 => if tlp S k = NN then S k else sgp S k
theorem nI_nN {k : Nat} (h : k < 2 ^ 31) : ¬ nI k = NN := by
  rw [nI_ne_NN h]
  exact id
theorem sgp_N (S : Nat → Int32) : ∀ k, k ≤ 4 → tlp S k = NN → sgp S k = NN
  | 0, _, _ => rfl
  | k + 1, hk, h => by
    rw [tlp] at h
    rw [sgp]
    by_cases q : tlp S k = NN
    · rw [if_pos q] at h
      rw [if_pos q]
      by_cases z : S k = NN
      · exact z
      · rw [if_neg z] at h
        exact absurd h (nI_nN (by omega))
    · rw [if_neg q] at h
      exact absurd h q
theorem tlp_tlu (S : Nat → Int32) {K : Nat} (hK : K ≤ 4) : ∀ d, d ≤ K → tlp S K = (if tlp S (K - d) = NN then tlu S K d else tlp S (K - d)) ∧ sgp S K = (if tlp S (K - d) = NN then sgu S K d else sgp S (K - d))
  | 0, _ => by
    rw [Nat.sub_zero, tlu, sgu]
    by_cases q : tlp S K = NN
    · rw [if_pos q, if_pos q]
      exact ⟨q, sgp_N S K hK q⟩
    · rw [if_neg q, if_neg q]
      exact ⟨rfl, rfl⟩
  | d + 1, h => by
    obtain ⟨i1, i2⟩ := tlp_tlu S hK d (by omega)
    obtain ⟨j, hj⟩ : ∃ j, j = K - (d + 1) := ⟨_, rfl⟩
    rw [show K - d = j + 1 by omega] at i1 i2
    rw [tlu, sgu, ← hj]
    rw [tlp] at i1
    rw [tlp, sgp] at i2
    by_cases q : tlp S j = NN
    · rw [if_pos q] at i1
      rw [if_pos q, if_pos q] at i2
      rw [if_pos q, if_pos q]
      by_cases z : S j = NN
      · rw [if_pos z, if_pos rfl] at i1
        rw [if_pos z, if_pos rfl] at i2
        rw [if_pos z, if_pos z]
        exact ⟨i1, i2⟩
      · rw [if_neg z, if_neg (nI_nN (by omega))] at i1
        rw [if_neg z, if_neg (nI_nN (by omega))] at i2
        rw [if_neg z, if_neg z]
        exact ⟨i1, i2⟩
    · rw [if_neg q, if_neg q] at i1
      rw [if_neg q, if_neg q, if_neg q] at i2
      rw [if_neg q, if_neg q]
      exact ⟨i1, i2⟩
theorem tlp_all (S : Nat → Int32) {K : Nat} (hK : K ≤ 4) : tlp S K = tlu S K K ∧ sgp S K = sgu S K K := by
  have h := tlp_tlu S hK K (Nat.le_refl K)
  rw [Nat.sub_self] at h
  rw [if_pos (show tlp S 0 = NN from rfl), if_pos (show tlp S 0 = NN from rfl)] at h
  exact h
def tlw (N w0 w1 w2 : Nat) (r tn ph : Nat → Nat) (k i : Nat) : Int32 := if inw N w0 w1 i then tlp (Sj N w0 w1 w2 r tn ph i) k else NN
def sgw (N w0 w1 w2 : Nat) (r tn ph : Nat → Nat) (k i : Nat) : Int32 := if inw N w0 w1 i then sgp (Sj N w0 w1 w2 r tn ph i) k else NN
theorem tlw_in {N w0 w1 w2 : Nat} {r tn ph : Nat → Nat} {k i : Nat} (h : inw N w0 w1 i) : tlw N w0 w1 w2 r tn ph k i = tlp (Sj N w0 w1 w2 r tn ph i) k := if_pos h
theorem sgw_in {N w0 w1 w2 : Nat} {r tn ph : Nat → Nat} {k i : Nat} (h : inw N w0 w1 i) : sgw N w0 w1 w2 r tn ph k i = sgp (Sj N w0 w1 w2 r tn ph i) k := if_pos h
theorem tlw_out {N w0 w1 w2 : Nat} {r tn ph : Nat → Nat} {i : Nat} (h : ¬ inw N w0 w1 i) (k : Nat) : tlw N w0 w1 w2 r tn ph k i = NN := if_neg h
theorem sgw_out {N w0 w1 w2 : Nat} {r tn ph : Nat → Nat} {i : Nat} (h : ¬ inw N w0 w1 i) (k : Nat) : sgw N w0 w1 w2 r tn ph k i = NN := if_neg h
theorem tlw_0 (N w0 w1 w2 : Nat) (r tn ph : Nat → Nat) (i : Nat) : tlw N w0 w1 w2 r tn ph 0 i = NN := by
  unfold tlw
  split <;> rfl
theorem sgw_0 (N w0 w1 w2 : Nat) (r tn ph : Nat → Nat) (i : Nat) : sgw N w0 w1 w2 r tn ph 0 i = NN := by
  unfold sgw
  split <;> rfl
def isStr (str : Nat → Int32) (N K w0 w1 w2 : Nat) (r tn ph : Nat → Nat) : Prop := ∀ j g, j < K → g < ncl (tn j) → str (40 * j + g) = SSg N w0 w1 w2 r tn ph j g
def isTold (mt ml : Nat → Int32) (N K w0 w1 w2 : Nat) (r tn ph : Nat → Nat) (n : Nat) : Prop := ∀ i, i < n → mt i = tos N K w0 w1 w2 r tn ph i ∧ ml i = tel N K w0 w1 w2 r tn ph i
section T5
variable {row ten pha : Nat → Int32} {len kep wfi wmo hun : Int32} {N K w0 w1 w2 : Nat} {r tn ph : Nat → Nat}
theorem clj_lt (hA : AB N K w0 w1 w2 r tn ph) {j : Nat} (hj : j < K) (i : Nat) : clj tn ph j i < ncl (tn j) := cls_ncl (AB_per hA hj).1
theorem l_strong9 (hA : AB N K w0 w1 w2 r tn ph) {j : Nat} (hj : j < K) {cel : Nat → Int32} (h : isCnt cel r (tn j) (ph j) (wst w0 w1) (wpl N w0 w1)) : ∀ (n k : Nat) (str : Nat → Int32), k ≤ ncl (tn j) → ncl (tn j) < n + k → (∀ g, g < k → str g = SSg N w0 w1 w2 r tn ph j g) →
    ∃ str', fX3_readStrongSigns_L9 (nI w2) cel (nI (ncl (tn j))) n (nI k) str = some str' ∧ ∀ g, g < ncl (tn j) → str' g = SSg N w0 w1 w2 r tn ph j g
  | 0, k, str, h1, h2, _ => absurd h2 (by omega)
  | n + 1, k, str, h1, h2, h3 => by
    obtain ⟨t1, t2, t3⟩ := AB_per hA hj
    have hK := hA.2.1
    have hw := hA.2.2.2.2.2.1
    have hc := ncl_le t2
    rw [fX3_readStrongSigns_L9]
    by_cases q : k = ncl (tn j)
    · have hq : nI (ncl (tn j)) ≤ nI k := by rw [nI_leI (by omega) (by omega)]; omega
      rw [if_pos hq]
      exact ⟨str, rfl, fun g hg => h3 g (by omega)⟩
    · have hq : ¬ nI (ncl (tn j)) ≤ nI k := by rw [nI_leI (by omega) (by omega)]; omega
      rw [if_neg hq, e_strongSignOf (by omega) (has4_of h (AB_wpl hA) (by omega)) hw, Option.bind_some, e_lay (by omega) (by omega), Option.bind_some, lit_1, nI_add]
      refine l_strong9 hA hj h n (k + 1) _ (by omega) (by omega) (fun g hg => ?_)
      rw [upd_at]
      by_cases e : g = k
      · rw [if_pos e, e]
        rfl
      · rw [if_neg e]
        exact h3 g (by omega)
theorem c_readStrong (hA : AB N K w0 w1 w2 r tn ph) (hC : CI row ten pha len kep wfi wmo hun N K w0 w1 w2 r tn ph) (str cel : Nat → Int32) {j : Nat} (hj : j < K) :
    ∃ str' cel', fX3_readStrongSigns str row ten pha len wfi wmo hun cel (nI j) = some (str', cel', nI (ncl (tn j))) ∧ ∀ g, g < ncl (tn j) → str' g = SSg N w0 w1 w2 r tn ph j g := by
  obtain ⟨cel', c1, c2⟩ := c_takeKept hA hC cel hj
  have hc := ncl_le (AB_per hA hj).2.1
  obtain ⟨str', s1, s2⟩ := l_strong9 hA hj c2 FU 0 str (by omega) (by rw [FU_eq]; omega) (fun g hg => absurd hg (by omega))
  refine ⟨str', cel', ?_, s2⟩
  unfold fX3_readStrongSigns
  rw [c1, Option.bind_some, hC.2.2.2.2.1]
  dsimp only
  rw [lit_0, s1]
  rfl
theorem l_tell25 (hA : AB N K w0 w1 w2 r tn ph) {k : Nat} (hk : k < K) {str : Nat → Int32} (hs : ∀ g, g < ncl (tn k) → str g = SSg N w0 w1 w2 r tn ph k g) : ∀ (n d : Nat) (tlr tsg : Nat → Int32), d ≤ wpl N w0 w1 → wpl N w0 w1 < n + d →
    (∀ i, i < 240 → tlr i = tlw N w0 w1 w2 r tn ph (if i < wst w0 w1 + d then k + 1 else k) i ∧ tsg i = sgw N w0 w1 w2 r tn ph (if i < wst w0 w1 + d then k + 1 else k) i) →
    ∃ tlr' tsg', fX3_tellBy_L25 str (nI k) (nI (tn k)) (nI (ph k)) (nI (wst w0 w1 + wpl N w0 w1)) n (nI (wst w0 w1 + d)) tlr tsg = some (tlr', tsg') ∧ ∀ i, i < 240 → tlr' i = tlw N w0 w1 w2 r tn ph (k + 1) i ∧ tsg' i = sgw N w0 w1 w2 r tn ph (k + 1) i
  | 0, d, tlr, tsg, h1, h2, _ => absurd h2 (by omega)
  | n + 1, d, tlr, tsg, h1, h2, h3 => by
    have hN := hA.1
    have hK := hA.2.1
    have a1 := AB_wst hA
    have a2 := AB_wpl hA
    obtain ⟨t1, t2, t3⟩ := AB_per hA hk
    have hc := ncl_le t2
    rw [fX3_tellBy_L25]
    by_cases q : d = wpl N w0 w1
    · subst q
      rw [if_pos (Int32.le_refl _)]
      refine ⟨tlr, tsg, rfl, fun i hi => ?_⟩
      obtain ⟨b1, b2⟩ := h3 i hi
      by_cases e : i < wst w0 w1 + wpl N w0 w1
      · rw [if_pos e] at b1 b2
        exact ⟨b1, b2⟩
      · have z : ¬ inw N w0 w1 i := fun z => e z.2
        rw [tlw_out z] at b1
        rw [sgw_out z] at b2
        rw [tlw_out z, sgw_out z]
        exact ⟨b1, b2⟩
    · have hi : wst w0 w1 + d < N := by rcases AB_in hA with z | z <;> omega
      have hw : inw N w0 w1 (wst w0 w1 + d) := ⟨by omega, by omega⟩
      have hcl := clj_lt hA hk (wst w0 w1 + d)
      have hS : str (clj tn ph k (wst w0 w1 + d)) = Sj N w0 w1 w2 r tn ph (wst w0 w1 + d) k := hs _ hcl
      obtain ⟨g1, g2⟩ := h3 (wst w0 w1 + d) (by omega)
      rw [if_neg (show ¬ wst w0 w1 + d < wst w0 w1 + d by omega), tlw_in hw] at g1
      rw [if_neg (show ¬ wst w0 w1 + d < wst w0 w1 + d by omega), sgw_in hw] at g2
      rw [if_neg (show ¬ nI (wst w0 w1 + wpl N w0 w1) ≤ nI (wst w0 w1 + d) by rw [nI_leI (by omega) (by omega)]; omega), e_classOf (by omega) t1 t2 t3, Option.bind_some, show (10 * (wst w0 w1 + d) + ph k) % tn k / 10 = clj tn ph k (wst w0 w1 + d) from rfl, e_cellAt (by omega) (by omega), Option.bind_some, hS, NN_raw, lit_1]
      have step : ∀ a b : Nat → Int32, (∀ i, i < 240 → a i = tlw N w0 w1 w2 r tn ph (if i < wst w0 w1 + (d + 1) then k + 1 else k) i ∧ b i = sgw N w0 w1 w2 r tn ph (if i < wst w0 w1 + (d + 1) then k + 1 else k) i) → ∃ tlr' tsg', fX3_tellBy_L25 str (nI k) (nI (tn k)) (nI (ph k)) (nI (wst w0 w1 + wpl N w0 w1)) n (nI (wst w0 w1 + d) + nI 1) a b = some (tlr', tsg') ∧ ∀ i, i < 240 → tlr' i = tlw N w0 w1 w2 r tn ph (k + 1) i ∧ tsg' i = sgw N w0 w1 w2 r tn ph (k + 1) i := by
        intro a b hab
        have ih := l_tell25 hA hk hs n (d + 1) a b (by omega) (by omega) hab
        rw [nI_add, Nat.add_assoc]
        exact ih
      have rest : ∀ i, i < 240 → i ≠ wst w0 w1 + d → tlr i = tlw N w0 w1 w2 r tn ph (if i < wst w0 w1 + (d + 1) then k + 1 else k) i ∧ tsg i = sgw N w0 w1 w2 r tn ph (if i < wst w0 w1 + (d + 1) then k + 1 else k) i := by
        intro i hi2 c
        obtain ⟨b1, b2⟩ := h3 i hi2
        by_cases c2 : i < wst w0 w1 + d
        · rw [if_pos c2] at b1 b2
          rw [if_pos (show i < wst w0 w1 + (d + 1) by omega)]
          exact ⟨b1, b2⟩
        · rw [if_neg c2] at b1 b2
          rw [if_neg (show ¬ i < wst w0 w1 + (d + 1) by omega)]
          exact ⟨b1, b2⟩
      have same : tlp (Sj N w0 w1 w2 r tn ph (wst w0 w1 + d)) (k + 1) = tlp (Sj N w0 w1 w2 r tn ph (wst w0 w1 + d)) k → sgp (Sj N w0 w1 w2 r tn ph (wst w0 w1 + d)) (k + 1) = sgp (Sj N w0 w1 w2 r tn ph (wst w0 w1 + d)) k → ∀ i, i < 240 → tlr i = tlw N w0 w1 w2 r tn ph (if i < wst w0 w1 + (d + 1) then k + 1 else k) i ∧ tsg i = sgw N w0 w1 w2 r tn ph (if i < wst w0 w1 + (d + 1) then k + 1 else k) i := by
        intro e1 e2 i hi2
        by_cases c : i = wst w0 w1 + d
        · rw [c, if_pos (show wst w0 w1 + d < wst w0 w1 + (d + 1) by omega), tlw_in hw, sgw_in hw, e1, e2]
          exact ⟨g1, g2⟩
        · exact rest i hi2 c
      by_cases z : Sj N w0 w1 w2 r tn ph (wst w0 w1 + d) k = NN
      · rw [if_pos z]
        refine step tlr tsg (same ?_ ?_)
        · rw [tlp]
          by_cases y : tlp (Sj N w0 w1 w2 r tn ph (wst w0 w1 + d)) k = NN
          · rw [if_pos y, if_pos z, y]
          · rw [if_neg y]
        · rw [sgp]
          by_cases y : tlp (Sj N w0 w1 w2 r tn ph (wst w0 w1 + d)) k = NN
          · rw [if_pos y, z, sgp_N _ k (by omega) y]
          · rw [if_neg y]
      · rw [if_neg z]
        unfold fX3_tellerAt
        rw [e_cellAt (by omega) (by omega), Option.bind_some, Option.bind_some, g1]
        by_cases y : tlp (Sj N w0 w1 w2 r tn ph (wst w0 w1 + d)) k = NN
        · rw [if_pos y, e_lay (by omega) (by omega), Option.bind_some, e_lay (by omega) (by omega), Option.bind_some]
          refine step _ _ (fun i hi2 => ?_)
          rw [upd_at, upd_at]
          by_cases c : i = wst w0 w1 + d
          · rw [if_pos c, if_pos c, c, if_pos (show wst w0 w1 + d < wst w0 w1 + (d + 1) by omega), tlw_in hw, sgw_in hw, tlp, sgp, if_pos y, if_neg z, if_pos y]
            exact ⟨rfl, rfl⟩
          · rw [if_neg c, if_neg c]
            exact rest i hi2 c
        · rw [if_neg y]
          refine step tlr tsg (same ?_ ?_)
          · rw [tlp, if_neg y]
          · rw [sgp, if_neg y]
theorem c_tellBy (hA : AB N K w0 w1 w2 r tn ph) (hC : CI row ten pha len kep wfi wmo hun N K w0 w1 w2 r tn ph) {k : Nat} (hk : k < K) {str : Nat → Int32} (hs : ∀ g, g < ncl (tn k) → str g = SSg N w0 w1 w2 r tn ph k g) {tlr tsg : Nat → Int32} (h : ∀ i, i < 240 → tlr i = tlw N w0 w1 w2 r tn ph k i ∧ tsg i = sgw N w0 w1 w2 r tn ph k i) :
    ∃ tlr' tsg', fX3_tellBy str tlr tsg ten pha len wfi wmo (nI k) = some (tlr', tsg') ∧ ∀ i, i < 240 → tlr' i = tlw N w0 w1 w2 r tn ph (k + 1) i ∧ tsg' i = sgw N w0 w1 w2 r tn ph (k + 1) i := by
  have a2 := AB_wpl hA
  obtain ⟨tlr', tsg', e1, e2⟩ := l_tell25 hA hk hs FU 0 tlr tsg (by omega) (by rw [FU_eq]; omega) (fun i hi => by
    by_cases e : i < wst w0 w1 + 0
    · have z : ¬ inw N w0 w1 i := fun z => by have := z.1; omega
      have b := h i hi
      rw [tlw_out z, sgw_out z] at b
      rw [tlw_out z, sgw_out z]
      exact b
    · rw [if_neg e]
      exact h i hi)
  rw [Nat.add_zero] at e1
  refine ⟨tlr', tsg', ?_, e2⟩
  unfold fX3_tellBy
  rw [c_tenths hA hC hk, Option.bind_some, c_phase hA hC hk, Option.bind_some, c_end hA hC, Option.bind_some, c_start hA hC, Option.bind_some, e1]
  rfl
theorem l_read18 (hA : AB N K w0 w1 w2 r tn ph) (hC : CI row ten pha len kep wfi wmo hun N K w0 w1 w2 r tn ph) : ∀ (n k : Nat) (str tlr tsg cel : Nat → Int32) (cls : Int32), k ≤ K → K < n + k → (∀ i, i < 240 → tlr i = tlw N w0 w1 w2 r tn ph k i ∧ tsg i = sgw N w0 w1 w2 r tn ph k i) →
    ∃ str' tlr' tsg' cel' cls', fX3_read_L18 row ten pha len kep wfi wmo hun n (nI k) str tlr tsg cel cls = some (str', tlr', tsg', cel', cls') ∧ ∀ i, i < 240 → tlr' i = tlw N w0 w1 w2 r tn ph K i ∧ tsg' i = sgw N w0 w1 w2 r tn ph K i
  | 0, k, str, tlr, tsg, cel, cls, h1, h2, _ => absurd h2 (by omega)
  | n + 1, k, str, tlr, tsg, cel, cls, h1, h2, h3 => by
    have hK := hA.2.1
    have hkep : kep = nI K := hC.2.1
    rw [fX3_read_L18, hkep]
    by_cases q : k = K
    · have hq : nI K ≤ nI k := by rw [nI_leI (by omega) (by omega)]; omega
      rw [if_pos hq]
      exact ⟨str, tlr, tsg, cel, cls, rfl, q ▸ h3⟩
    · have hq : ¬ nI K ≤ nI k := by rw [nI_leI (by omega) (by omega)]; omega
      obtain ⟨str1, cel1, r1, r2⟩ := c_readStrong hA hC str cel (show k < K by omega)
      obtain ⟨tlr1, tsg1, t1, t2⟩ := c_tellBy hA hC (show k < K by omega) r2 h3
      have ih := l_read18 hA hC n (k + 1) str1 tlr1 tsg1 cel1 (nI (ncl (tn k))) (by omega) (by omega) t2
      rw [hkep] at ih
      rw [if_neg hq, r1, Option.bind_some]
      dsimp only
      rw [t1, Option.bind_some]
      dsimp only
      rw [lit_1, nI_add]
      exact ih
theorem c_read (hA : AB N K w0 w1 w2 r tn ph) (hC : CI row ten pha len kep wfi wmo hun N K w0 w1 w2 r tn ph) (str tlr tsg cel : Nat → Int32) (cls : Int32) :
    ∃ str' tlr' tsg' cel' cls', fX3_read str tlr tsg row ten pha len kep wfi wmo hun cel cls = some (str', tlr', tsg', cel', cls') ∧ isTold tsg' tlr' N K w0 w1 w2 r tn ph 240 := by
  have hK := hA.2.1
  obtain ⟨f1, p1, p2⟩ := e_fillv (m := 240) (by omega) NN tlr
  obtain ⟨f2, p3, p4⟩ := e_fillv (m := 240) (by omega) NN tsg
  obtain ⟨str', tlr', tsg', cel', cls', h1, h2⟩ := l_read18 hA hC FU 0 str f1 f2 cel cls (by omega) (by rw [FU_eq]; omega) (fun i hi => by
    rw [p2 i hi, p4 i hi, tlw_0, sgw_0]
    exact ⟨rfl, rfl⟩)
  refine ⟨str', tlr', tsg', cel', cls', ?_, fun i hi => ?_⟩
  · unfold fX3_read
    rw [NN_raw, p1, Option.bind_some, p3, Option.bind_some, lit_0, h1]
    rfl
  · obtain ⟨b1, b2⟩ := h2 i hi
    obtain ⟨c1, c2⟩ := tlp_all (Sj N w0 w1 w2 r tn ph i) hK
    rw [b1, b2]
    unfold tlw sgw tos tel
    by_cases z : inw N w0 w1 i
    · rw [if_pos z, if_pos z, if_pos z, if_pos z, c1, c2]
      exact ⟨rfl, rfl⟩
    · rw [if_neg z, if_neg z, if_neg z, if_neg z]
      exact ⟨rfl, rfl⟩
theorem c_tellerAt {tlr tsg : Nat → Int32} (hS : isTold tsg tlr N K w0 w1 w2 r tn ph 240) {i : Nat} (hi : i < 240) : fX3_tellerAt tlr (nI i) = some (tel N K w0 w1 w2 r tn ph i) := by
  unfold fX3_tellerAt
  rw [e_cellAt (by omega) (by omega), Option.bind_some, (hS i hi).2]
theorem c_toldAt {tlr tsg : Nat → Int32} (hS : isTold tsg tlr N K w0 w1 w2 r tn ph 240) {i : Nat} (hi : i < 240) : fX3_signAt tsg (nI i) = some (tos N K w0 w1 w2 r tn ph i) := by
  unfold fX3_signAt
  rw [e_cellAt (by omega) (by omega), Option.bind_some, (hS i hi).1]
theorem c_signAt (hA : AB N K w0 w1 w2 r tn ph) (hC : CI row ten pha len kep wfi wmo hun N K w0 w1 w2 r tn ph) {i : Nat} (hi : i < N) : fX2_signAt row len (nI i) = some (nI (r i)) := by
  rw [hC.1, e_signAt hA.1 hi, (c_row hA hC i hi).1]
def xb (N K w0 w1 w2 : Nat) (r tn ph : Nat → Nat) (i : Nat) : Nat := if tos N K w0 w1 w2 r tn ph i = nI (r i) then 1 else 0
theorem xb_le (i : Nat) : xb N K w0 w1 w2 r tn ph i ≤ 1 := by unfold xb; split <;> omega
theorem c_isExplained (hA : AB N K w0 w1 w2 r tn ph) (hC : CI row ten pha len kep wfi wmo hun N K w0 w1 w2 r tn ph) {tlr tsg : Nat → Int32} (hS : isTold tsg tlr N K w0 w1 w2 r tn ph 240) {i : Nat} (hi : i < N) : fX3_isExplained tsg row len (nI i) = some (nI (xb N K w0 w1 w2 r tn ph i)) := by
  have hN := hA.1
  have hr := hA.2.2.2.2.2.2.1 i hi
  unfold fX3_isExplained xb
  rw [c_toldAt hS (by omega), Option.bind_some, NN_raw]
  by_cases h : tos N K w0 w1 w2 r tn ph i = NN
  · rw [h, if_pos rfl, if_neg (by rw [NN_ne_nI (by omega)]; exact id)]
    rfl
  · rw [if_neg h, c_signAt hA hC hi, Option.bind_some]
    by_cases q : tos N K w0 w1 w2 r tn ph i = nI (r i)
    · rw [if_pos q, if_pos q]
      rfl
    · rw [if_neg q, if_neg q]
      rfl
end T5
