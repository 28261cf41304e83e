/-! TOLD SIGNS, AS THE REFERENCE LAYS THEM -/
theorem le_sub1 {v e : Nat} (hv : v < 2 ^ 30) (he : e < 2 ^ 30) : (nI v ≤ nI e - nI 1) = (v < e) := by
  rw [eq_iff_iff, Int32.le_iff_toInt_le, nI_toInt (by omega), pk_sub_toInt he (by omega)]
  constructor <;> intro <;> omega
section T6
variable {ms : Nat → Int32} {N K w0 w1 w2 : Nat} {r tn ph : Nat → Nat}
theorem l_told19 (hA : AB N K w0 w1 w2 r tn ph) (hM : MI ms N K w0 w1 w2 r tn ph) {j : Nat} (hj : j < K) {mc : Nat → Int32} (h : isCnt6 mc r (tn j) (ph j) (wst w0 w1) (wpl N w0 w1)) (str0 : Nat → Int32) : ∀ (n k : Nat) (str : Nat → Int32), k ≤ ncl (tn j) → ncl (tn j) < n + k → (∀ g, g < k → str (40 * j + g) = SSg N w0 w1 w2 r tn ph j g) → (∀ q, q < 40 * j → str q = str0 q) →
    ∃ str', fX6_laysTold_L19 ms (nI j) mc n (nI k) str = some str' ∧ (∀ g, g < ncl (tn j) → str' (40 * j + g) = SSg N w0 w1 w2 r tn ph j g) ∧ ∀ q, q < 40 * j → str' q = str0 q
  | 0, k, str, h1, h2, _, _ => absurd h2 (by omega)
  | n + 1, k, str, h1, h2, h3, h4 => by
    obtain ⟨t1, t2, t3⟩ := AB_per hA hj
    have hK := hA.2.1
    have hc := ncl_le t2
    rw [fX6_laysTold_L19, e_tenthsOf hA hM hj, Option.bind_some, e_classesOf6 t2, Option.bind_some, show (tn j + 9) / 10 = ncl (tn j) from rfl]
    by_cases q : k = ncl (tn j)
    · have hq : nI (ncl (tn j)) ≤ nI k := by rw [nI_leI (by omega) (by omega)]; omega
      rw [if_pos hq]
      exact ⟨str, rfl, fun g hg => h3 g (by omega), h4⟩
    · have hq : ¬ nI (ncl (tn j)) ≤ nI k := by rw [nI_leI (by omega) (by omega)]; omega
      have h4' := has4_of6 h (AB_wpl hA) (show k < ncl (tn j) by omega)
      rw [if_neg hq, e_isStrong6 hA hM (by omega) h4', Option.bind_some, e_signOf6 (by omega) h4']
      simp (disch := omega) only [lit_0, lit_1, lit_2, lit_3, lit_4, lit_5, lit_6, lit_7, lit_8, lit_9, lit_10, lit_12, lit_13, lit_20, lit_31, lit_33, lit_35, lit_40, lit_41, lit_48, lit_50, lit_52, lit_57, lit_60, lit_63, lit_97, lit_100, lit_126, lit_160, lit_239, lit_240, lit_253, lit_400, lit_540, lit_600, lit_1000, lit_1265, lit_1518, NN_def, nI_add, pk_mul, nI_clamp, nI_leI, nI_ltI, nI_eq, nI_ne_NN, NN_ne_nI, NN_lt_nI, nI_le_NN, nI_lt_NN, NN_le_nI, oob, Option.bind_some, if_true, if_false, if_pos, if_neg]
      have key : ∀ x, x = SSg N w0 w1 w2 r tn ph j k → ∃ str', fX6_laysTold_L19 ms (nI j) mc n (nI (k + 1)) (upd str (40 * j + k) x) = some str' ∧ (∀ g, g < ncl (tn j) → str' (40 * j + g) = SSg N w0 w1 w2 r tn ph j g) ∧ ∀ q, q < 40 * j → str' q = str0 q := by
        intro x hx
        refine l_told19 hA hM hj h str0 n (k + 1) _ (by omega) (by omega) (fun g hg => ?_) (fun q hq => ?_)
        · rw [upd_at]
          by_cases e : g = k
          · rw [if_pos (by omega), e, hx]
          · rw [if_neg (by omega)]
            exact h3 g (by omega)
        · rw [upd_at, if_neg (by omega)]
          exact h4 q hq
      by_cases z : ss (cg r (tn j) (ph j) (wst w0 w1) (wpl N w0 w1) k) w2 = NN
      · rw [if_pos z, if_pos rfl]
        exact key _ z.symm
      · rw [if_neg z, if_neg (show ¬ nI 1 = nI 0 by decide)]
        refine key _ ?_
        have z2 := z
        unfold ss at z2
        unfold SSg ss
        split at z2
        · rename_i w
          rw [if_pos w]
        · exact absurd rfl z2
theorem l_told2 (hA : AB N K w0 w1 w2 r tn ph) (hM : MI ms N K w0 w1 w2 r tn ph) : ∀ (n k : Nat) (mc mg : Nat → Int32), k ≤ K → K < n + k → isStr mg N k w0 w1 w2 r tn ph →
    ∃ mc' mg', fX6_laysTold_L2 ms n (nI k) mc mg = some (mc', mg') ∧ isStr mg' N K w0 w1 w2 r tn ph
  | 0, k, mc, mg, h1, h2, _ => absurd h2 (by omega)
  | n + 1, k, mc, mg, h1, h2, h3 => by
    have hK := hA.2.1
    have m4 := hM.2.2.2.2.1
    rw [fX6_laysTold_L2]
    simp (disch := omega) only [lit_0, lit_1, lit_2, lit_3, lit_4, lit_5, lit_6, lit_7, lit_8, lit_9, lit_10, lit_12, lit_13, lit_20, lit_31, lit_33, lit_35, lit_40, lit_41, lit_48, lit_50, lit_52, lit_57, lit_60, lit_63, lit_97, lit_100, lit_126, lit_160, lit_239, lit_240, lit_253, lit_400, lit_540, lit_600, lit_1000, lit_1265, lit_1518, NN_def, nI_add, pk_mul, nI_clamp, nI_leI, nI_ltI, nI_eq, nI_ne_NN, NN_ne_nI, NN_lt_nI, nI_le_NN, nI_lt_NN, NN_le_nI, oob, Option.bind_some, if_true, if_false, if_pos, if_neg, m4]
    by_cases q : k = K
    · have hq : nI K ≤ nI k := by rw [nI_leI (by omega) (by omega)]; omega
      rw [if_pos (by omega)]
      exact ⟨mc, mg, rfl, q ▸ h3⟩
    · obtain ⟨mc', c1, c2⟩ := e_laysPeriod hA hM mc (show k < K by omega)
      have hc := ncl_le (AB_per hA (show k < K by omega)).2.1
      obtain ⟨mg', s1, s2, s3⟩ := l_told19 hA hM (show k < K by omega) c2 mg FU 0 mg (by omega) (by rw [FU_eq]; omega) (fun g hg => absurd hg (by omega)) (fun _ _ => rfl)
      rw [if_neg (by omega), c1, Option.bind_some, s1, Option.bind_some]
      refine l_told2 hA hM n (k + 1) mc' mg' (by omega) (by omega) (fun j g hj hg => ?_)
      by_cases e : j = k
      · subst e
        exact s2 g hg
      · have := ncl_le (AB_per hA (show j < K by omega)).2.1
        rw [s3 (40 * j + g) (by omega)]
        exact h3 j g (by omega) hg
theorem l_told114 (hA : AB N K w0 w1 w2 r tn ph) (hM : MI ms N K w0 w1 w2 r tn ph) {mg : Nat → Int32} (hS : isStr mg N K w0 w1 w2 r tn ph) {i : Nat} (hi : i < 240) : ∀ (n d : Nat) (mt ml : Nat → Int32), d ≤ K → d + 1 < n → mt i = NN → ml i = NN →
    ∃ mt' ml', fX6_laysTold_L114 ms mg (nI i) (nI 1) n (nI (K - d)) mt ml = some (mt', ml') ∧ mt' i = sgu (Sj N w0 w1 w2 r tn ph i) K d ∧ ml' i = tlu (Sj N w0 w1 w2 r tn ph i) K d ∧ ∀ q, q ≠ i → mt' q = mt q ∧ ml' q = ml q
  | 0, d, mt, ml, h1, h2, _, _ => absurd h2 (by omega)
  | n + 1, 0, mt, ml, h1, h2, h3, h4 => by
    have hK := hA.2.1
    have m4 := hM.2.2.2.2.1
    rw [fX6_laysTold_L114]
    simp (disch := omega) only [lit_0, lit_1, lit_2, lit_3, lit_4, lit_5, lit_6, lit_7, lit_8, lit_9, lit_10, lit_12, lit_13, lit_20, lit_31, lit_33, lit_35, lit_40, lit_41, lit_48, lit_50, lit_52, lit_57, lit_60, lit_63, lit_97, lit_100, lit_126, lit_160, lit_239, lit_240, lit_253, lit_400, lit_540, lit_600, lit_1000, lit_1265, lit_1518, NN_def, nI_add, pk_mul, nI_clamp, nI_leI, nI_ltI, nI_eq, nI_ne_NN, NN_ne_nI, NN_lt_nI, nI_le_NN, nI_lt_NN, NN_le_nI, oob, Option.bind_some, if_true, if_false, if_pos, if_neg, m4]
    exact ⟨mt, ml, rfl, h3, h4, fun q _ => ⟨rfl, rfl⟩⟩
  | n + 1, d + 1, mt, ml, h1, h2, h3, h4 => by
    have hK := hA.2.1
    have m4 := hM.2.2.2.2.1
    have hj : K - (d + 1) < K := by omega
    obtain ⟨t1, t2, t3⟩ := AB_per hA hj
    have hc := ncl_le t2
    have hl := clj_lt hA hj i
    have hs := hS _ _ hj hl
    have hcl : (10 * i + ph (K - (d + 1))) % tn (K - (d + 1)) / 10 = clj tn ph (K - (d + 1)) i := rfl
    rw [fX6_laysTold_L114, e_tenthsOf hA hM hj, e_phaseOf hA hM hj]
    simp only [Option.bind_some]
    rw [e_classOf6 (by omega) t1 t2 t3, hcl]
    simp (disch := omega) only [lit_0, lit_1, lit_2, lit_3, lit_4, lit_5, lit_6, lit_7, lit_8, lit_9, lit_10, lit_12, lit_13, lit_20, lit_31, lit_33, lit_35, lit_40, lit_41, lit_48, lit_50, lit_52, lit_57, lit_60, lit_63, lit_97, lit_100, lit_126, lit_160, lit_239, lit_240, lit_253, lit_400, lit_540, lit_600, lit_1000, lit_1265, lit_1518, NN_def, nI_add, pk_mul, nI_clamp, nI_leI, nI_ltI, nI_eq, nI_ne_NN, NN_ne_nI, NN_lt_nI, nI_le_NN, nI_lt_NN, NN_le_nI, oob, Option.bind_some, if_true, if_false, if_pos, if_neg, m4, h4, hs]
    rw [tlu, sgu]
    have hSj : SSg N w0 w1 w2 r tn ph (K - (d + 1)) (clj tn ph (K - (d + 1)) i) = Sj N w0 w1 w2 r tn ph i (K - (d + 1)) := rfl
    rw [hSj]
    by_cases z : Sj N w0 w1 w2 r tn ph i (K - (d + 1)) = NN
    · rw [if_pos z, if_pos z, if_pos z]
      obtain ⟨mt', ml', a1, a2, a3, a4⟩ := l_told114 hA hM hS hi n d (upd mt i (Sj N w0 w1 w2 r tn ph i (K - (d + 1)))) (upd ml i NN) (by omega) (by omega) (by rw [upd_at, if_pos rfl, z]) (by rw [upd_at, if_pos rfl])
      rw [show K - d = K - (d + 1) + 1 by omega] at a1
      refine ⟨mt', ml', a1, a2, a3, fun q hq => ?_⟩
      obtain ⟨b1, b2⟩ := a4 q hq
      rw [b1, b2, upd_at, upd_at, if_neg hq, if_neg hq]
      exact ⟨rfl, rfl⟩
    · rw [if_neg z, if_neg z, if_neg z]
      obtain ⟨k, rfl⟩ : ∃ k, n = k + 1 := ⟨n - 1, by omega⟩
      refine ⟨upd mt i (Sj N w0 w1 w2 r tn ph i (K - (d + 1))), upd ml i (nI (K - (d + 1))), ?_, by rw [upd_at, if_pos rfl], by rw [upd_at, if_pos rfl], fun q hq => by rw [upd_at, upd_at, if_neg hq, if_neg hq]; exact ⟨rfl, rfl⟩⟩
      rw [fX6_laysTold_L114]
      have hu : upd ml i (nI (K - (d + 1))) i = nI (K - (d + 1)) := by rw [upd_at, if_pos rfl]
      simp (disch := omega) only [lit_0, lit_1, lit_2, lit_3, lit_4, lit_5, lit_6, lit_7, lit_8, lit_9, lit_10, lit_12, lit_13, lit_20, lit_31, lit_33, lit_35, lit_40, lit_41, lit_48, lit_50, lit_52, lit_57, lit_60, lit_63, lit_97, lit_100, lit_126, lit_160, lit_239, lit_240, lit_253, lit_400, lit_540, lit_600, lit_1000, lit_1265, lit_1518, NN_def, nI_add, pk_mul, nI_clamp, nI_leI, nI_ltI, nI_eq, nI_ne_NN, NN_ne_nI, NN_lt_nI, nI_le_NN, nI_lt_NN, NN_le_nI, oob, Option.bind_some, if_true, if_false, if_pos, if_neg, m4, hu]
      by_cases e : K ≤ K - (d + 1) + 1
      · rw [if_pos e]
      · rw [if_neg e]
end T6
