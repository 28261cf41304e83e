/-! SUMS OVER THE WINDOW: EXPLAINED, TOLD BY, THE LONGEST STRETCH, THE MOST COMMON SIGN -/
def su (f : Nat → Nat) (a : Nat) : Nat → Nat
  | 0 => 0
  | n + 1 => su f a n + f (a + n)
theorem su_le {f : Nat → Nat} (hf : ∀ i, f i ≤ 1) (a : Nat) : ∀ n, su f a n ≤ n
  | 0 => Nat.le_refl 0
  | n + 1 => by have h1 := su_le hf a n; have h2 := hf (a + n); rw [su]; omega
theorem su_add (f : Nat → Nat) (a m : Nat) : ∀ n, su f a (m + n) = su f a m + su f (a + m) n
  | 0 => rfl
  | n + 1 => by rw [← Nat.add_assoc, su, su_add f a m n, su, Nat.add_assoc, Nat.add_assoc]
theorem su_congr {f g : Nat → Nat} (a : Nat) : ∀ n, (∀ i, a ≤ i → i < a + n → f i = g i) → su f a n = su g a n
  | 0, _ => rfl
  | n + 1, h => by rw [su, su, su_congr a n (fun i h1 h2 => h i h1 (by omega)), h (a + n) (by omega) (by omega)]
theorem su_zero {f : Nat → Nat} (a : Nat) : ∀ n, (∀ i, a ≤ i → i < a + n → f i = 0) → su f a n = 0
  | 0, _ => rfl
  | n + 1, h => by rw [su, su_zero a n (fun i h1 h2 => h i h1 (by omega)), h (a + n) (by omega) (by omega)]
/-- stretches of places that are explained: the one under way, the longest -/
def lst (x : Nat → Nat) (a : Nat) : Nat → Nat × Nat
  | 0 => (0, 0)
  | n + 1 => ((if x (a + n) = 0 then 0 else (lst x a n).1 + 1), max (lst x a n).2 (if x (a + n) = 0 then 0 else (lst x a n).1 + 1))
theorem lst_le (x : Nat → Nat) (a : Nat) : ∀ n, (lst x a n).1 ≤ n ∧ (lst x a n).2 ≤ n
  | 0 => ⟨Nat.le_refl 0, Nat.le_refl 0⟩
  | n + 1 => by
    have h := lst_le x a n
    rw [lst]
    refine ⟨?_, ?_⟩
    · show (if x (a + n) = 0 then 0 else (lst x a n).1 + 1) ≤ n + 1
      split <;> omega
    · show max (lst x a n).2 (if x (a + n) = 0 then 0 else (lst x a n).1 + 1) ≤ n + 1
      split <;> omega
section T6
variable {ms : Nat → Int32} {N K w0 w1 w2 : Nat} {r tn ph : Nat → Nat}
theorem in_win (hA : AB N K w0 w1 w2 r tn ph) {i : Nat} (hi : i < 240) : fX6_in (nI i) (nI (wst w0 w1)) (nI (wst w0 w1 + wpl N w0 w1) - 1) = some (if inw N w0 w1 i then nI 1 else nI 0) := by
  have h1 := AB_wst hA
  have h2 := AB_wpl hA
  rw [m_in]
  have e : (nI (wst w0 w1) ≤ nI i ∧ nI i ≤ nI (wst w0 w1 + wpl N w0 w1) - 1) ↔ inw N w0 w1 i := by
    rw [lit_1, le_sub1 (by omega) (by omega), nI_leI (by omega) (by omega)]
  by_cases z : inw N w0 w1 i
  · rw [if_pos z, if_pos (e.mpr z)]
    rfl
  · rw [if_neg z, if_neg (fun q => z (e.mp q))]
    rfl
theorem l_told114n {mg : Nat → Int32} (hA : AB N K w0 w1 w2 r tn ph) (hM : MI ms N K w0 w1 w2 r tn ph) {i : Nat} (n : Nat) (mt ml : Nat → Int32) : fX6_laysTold_L114 ms mg (nI i) (nI 0) (n + 1) (nI 0) mt ml = some (mt, ml) := by
  have hK := hA.2.1
  have m4 := hM.2.2.2.2.1
  rw [fX6_laysTold_L114]
  simp (disch := omega) only [lit_0, lit_1, lit_2, lit_3, lit_4, lit_5, lit_6, lit_7, lit_8, lit_9, lit_10, lit_12, lit_13, lit_20, lit_31, lit_33, lit_35, lit_40, lit_41, lit_48, lit_50, lit_52, lit_57, lit_60, lit_63, lit_97, lit_100, lit_126, lit_160, lit_239, lit_240, lit_253, lit_400, lit_540, lit_600, lit_1000, lit_1265, lit_1518, NN_def, nI_add, pk_mul, nI_clamp, nI_leI, nI_ltI, nI_eq, nI_ne_NN, NN_ne_nI, NN_lt_nI, nI_le_NN, nI_lt_NN, NN_le_nI, oob, Option.bind_some, if_true, if_false, if_pos, if_neg, m4]
  by_cases q : K ≤ 0
  · rw [if_pos q]
  · rw [if_neg q]
theorem l_told73 (hA : AB N K w0 w1 w2 r tn ph) (hM : MI ms N K w0 w1 w2 r tn ph) {mg : Nat → Int32} (hS : isStr mg N K w0 w1 w2 r tn ph) : ∀ (n k : Nat) (mt ml : Nat → Int32), k ≤ N → N < n + k → isTold mt ml N K w0 w1 w2 r tn ph k →
    ∃ mt' ml', fX6_laysTold_L73 ms mg n (nI k) mt ml = some (mt', ml') ∧ isTold mt' ml' N K w0 w1 w2 r tn ph N
  | 0, k, mt, ml, h1, h2, _ => absurd h2 (by omega)
  | n + 1, k, mt, ml, h1, h2, h3 => by
    have hN := hA.1
    have hK := hA.2.1
    have m0 := hM.1
    have a1 := AB_wst hA
    have a2 := AB_wpl hA
    rw [fX6_laysTold_L73, e_first6 hA hM, e_last6 hA hM]
    simp (disch := omega) only [lit_0, lit_1, lit_2, lit_3, lit_4, lit_5, lit_6, lit_7, lit_8, lit_9, lit_10, lit_12, lit_13, lit_20, lit_31, lit_33, lit_35, lit_40, lit_41, lit_48, lit_50, lit_52, lit_57, lit_60, lit_63, lit_97, lit_100, lit_126, lit_160, lit_239, lit_240, lit_253, lit_400, lit_540, lit_600, lit_1000, lit_1265, lit_1518, NN_def, nI_add, pk_mul, nI_clamp, nI_leI, nI_ltI, nI_eq, nI_ne_NN, NN_ne_nI, NN_lt_nI, nI_le_NN, nI_lt_NN, NN_le_nI, oob, Option.bind_some, if_true, if_false, if_pos, if_neg, m0]
    by_cases q : k = N
    · rw [if_pos (by omega)]
      exact ⟨mt, ml, rfl, q ▸ h3⟩
    · have hw := in_win hA (show k < 240 by omega)
      rw [lit_1] at hw
      rw [if_neg (by omega), hw, Option.bind_some]
      have key : ∃ mt' ml', fX6_laysTold_L114 ms mg (nI k) (if inw N w0 w1 k then nI 1 else nI 0) FU (nI 0) (upd mt k NN) (upd ml k NN) = some (mt', ml') ∧ mt' k = tos N K w0 w1 w2 r tn ph k ∧ ml' k = tel N K w0 w1 w2 r tn ph k ∧ ∀ q, q ≠ k → mt' q = mt q ∧ ml' q = ml q := by
        by_cases z : inw N w0 w1 k
        · obtain ⟨mt', ml', b1, b2, b3, b4⟩ := l_told114 hA hM hS (show k < 240 by omega) FU K (upd mt k NN) (upd ml k NN) (Nat.le_refl K) (by rw [FU_eq]; omega) (by rw [upd_at, if_pos rfl]) (by rw [upd_at, if_pos rfl])
          rw [Nat.sub_self] at b1
          refine ⟨mt', ml', by rw [if_pos z]; exact b1, by rw [b2, tos, if_pos z], by rw [b3, tel, if_pos z], fun q hq => ?_⟩
          obtain ⟨c1, c2⟩ := b4 q hq
          rw [c1, c2, upd_at, upd_at, if_neg hq, if_neg hq]
          exact ⟨rfl, rfl⟩
        · refine ⟨upd mt k NN, upd ml k NN, by rw [if_neg z]; exact l_told114n hA hM 1999 _ _, by rw [upd_at, if_pos rfl, tos, if_neg z], by rw [upd_at, if_pos rfl, tel, if_neg z], fun q hq => ?_⟩
          rw [upd_at, upd_at, if_neg hq, if_neg hq]
          exact ⟨rfl, rfl⟩
      obtain ⟨mt', ml', b1, b2, b3, b4⟩ := key
      rw [b1, Option.bind_some]
      refine l_told73 hA hM hS n (k + 1) mt' ml' (by omega) (by omega) (fun i hi => ?_)
      by_cases e : i = k
      · rw [e]
        exact ⟨b2, b3⟩
      · obtain ⟨c1, c2⟩ := b4 i e
        rw [c1, c2]
        exact h3 i (by omega)
theorem e_laysTold (hA : AB N K w0 w1 w2 r tn ph) (hM : MI ms N K w0 w1 w2 r tn ph) (mc mg mt ml : Nat → Int32) :
    ∃ mc' mg' mt' ml', fX6_laysTold ms mc mg mt ml = some (mc', mg', mt', ml') ∧ isTold mt' ml' N K w0 w1 w2 r tn ph N := by
  have hN := hA.1
  have hK := hA.2.1
  obtain ⟨mc', mg', a1, a2⟩ := l_told2 hA hM FU 0 mc mg (by omega) (by rw [FU_eq]; omega) (fun j g hj => absurd hj (by omega))
  obtain ⟨mt', ml', a3, a4⟩ := l_told73 hA hM a2 FU 0 mt ml (by omega) (by rw [FU_eq]; omega) (fun i hi => absurd hi (by omega))
  refine ⟨mc', mg', mt', ml', ?_, a4⟩
  unfold fX6_laysTold
  rw [lit_0, a1, Option.bind_some]
  show (fX6_laysTold_L73 ms mg' FU (nI 0) mt ml).bind _ = _
  rw [a3]
  rfl
theorem e_isExplained6 (hA : AB N K w0 w1 w2 r tn ph) (hM : MI ms N K w0 w1 w2 r tn ph) {mt ml : Nat → Int32} (hT : isTold mt ml N K w0 w1 w2 r tn ph N) {i : Nat} (hi : i < N) : fX6_isExplained ms mt (nI i) = some (nI (xb N K w0 w1 w2 r tn ph i)) := by
  have hN := hA.1
  have m6 := hM.2.2.2.2.2.2 i hi
  have ht := (hT i hi).1
  unfold fX6_isExplained xb
  simp (disch := omega) only [lit_0, lit_1, lit_2, lit_3, lit_4, lit_5, lit_6, lit_7, lit_8, lit_9, lit_10, lit_12, lit_13, lit_20, lit_31, lit_33, lit_35, lit_40, lit_41, lit_48, lit_50, lit_52, lit_57, lit_60, lit_63, lit_97, lit_100, lit_126, lit_160, lit_239, lit_240, lit_253, lit_400, lit_540, lit_600, lit_1000, lit_1265, lit_1518, NN_def, nI_add, pk_mul, nI_clamp, nI_leI, nI_ltI, nI_eq, nI_ne_NN, NN_ne_nI, NN_lt_nI, nI_le_NN, nI_lt_NN, NN_le_nI, oob, Option.bind_some, if_true, if_false, if_pos, if_neg, m6, ht]
  by_cases h : tos N K w0 w1 w2 r tn ph i = nI (r i)
  · rw [if_pos h, if_pos h]
  · rw [if_neg h, if_neg h]
/-- 1 where the teller of a place is x -/
def tb (N K w0 w1 w2 : Nat) (r tn ph : Nat → Nat) (x : Int32) (i : Nat) : Nat := if tel N K w0 w1 w2 r tn ph i = x then 1 else 0
theorem tb_le (x : Int32) (i : Nat) : tb N K w0 w1 w2 r tn ph x i ≤ 1 := by unfold tb; split <;> omega
theorem l_over (hA : AB N K w0 w1 w2 r tn ph) (hM : MI ms N K w0 w1 w2 r tn ph) {mt ml : Nat → Int32} (hT : isTold mt ml N K w0 w1 w2 r tn ph N) (a : Int32) (f : Nat → Nat) (hf : ∀ i, f i ≤ 1)
    (h4 : a = 4 → f = xb N K w0 w1 w2 r tn ph) (h5 : a ≠ 4 → f = tb N K w0 w1 w2 r tn ph NN) : ∀ (n d : Nat), d ≤ wpl N w0 w1 → wpl N w0 w1 < n + d →
    fX6_overWindow_L17 ms a mt ml n (nI (su f (wst w0 w1) d)) (nI (lst (xb N K w0 w1 w2 r tn ph) (wst w0 w1) d).1) (nI (lst (xb N K w0 w1 w2 r tn ph) (wst w0 w1) d).2) (nI (wst w0 w1 + d)) = some (nI (su f (wst w0 w1) (wpl N w0 w1)), nI (lst (xb N K w0 w1 w2 r tn ph) (wst w0 w1) (wpl N w0 w1)).2)
  | 0, d, h1, h2 => absurd h2 (by omega)
  | n + 1, d, h1, h2 => by
    have hN := hA.1
    have a1 := AB_wst hA
    have a2 := AB_wpl hA
    rw [fX6_overWindow_L17, e_last6 hA hM, Option.bind_some]
    by_cases q : d = wpl N w0 w1
    · subst q
      rw [if_pos (by rw [nI_leI (by omega) (by omega)]; omega)]
    · have hi : wst w0 w1 + d < N := by rcases AB_in hA with z | z <;> omega
      have ih := l_over hA hM hT a f hf h4 h5 n (d + 1) (by omega) (by omega)
      have hx := @xb_le N K w0 w1 w2 r tn ph (wst w0 w1 + d)
      have hl := lst_le (xb N K w0 w1 w2 r tn ph) (wst w0 w1) d
      rw [if_neg (by rw [nI_leI (by omega) (by omega)]; omega), e_isExplained6 hA hM hT hi]
      have hm : ml (wst w0 w1 + d) = _ := (hT _ hi).2
      have e1 : (if a = 4 then (some (nI (xb N K w0 w1 w2 r tn ph (wst w0 w1 + d)))).bind fun x8 => if x8 = 0 then some 0 else some 1 else if oob (nI (wst w0 w1 + d)) 240 then none else if ml (nI (wst w0 w1 + d)).toNatClampNeg = (-1) then some 1 else some 0 : Option Int32) = some (nI (f (wst w0 w1 + d))) := by
        by_cases z : a = 4
        · rw [if_pos z, h4 z, Option.bind_some]
          by_cases w : xb N K w0 w1 w2 r tn ph (wst w0 w1 + d) = 0
          · rw [w]; rfl
          · rw [show xb N K w0 w1 w2 r tn ph (wst w0 w1 + d) = 1 by omega]; rfl
        · rw [if_neg z, h5 z]
          unfold tb
          simp (disch := omega) only [lit_0, lit_1, lit_2, lit_3, lit_4, lit_5, lit_6, lit_7, lit_8, lit_9, lit_10, lit_12, lit_13, lit_20, lit_31, lit_33, lit_35, lit_40, lit_41, lit_48, lit_50, lit_52, lit_57, lit_60, lit_63, lit_97, lit_100, lit_126, lit_160, lit_239, lit_240, lit_253, lit_400, lit_540, lit_600, lit_1000, lit_1265, lit_1518, NN_def, nI_add, pk_mul, nI_clamp, nI_leI, nI_ltI, nI_eq, nI_ne_NN, NN_ne_nI, NN_lt_nI, nI_le_NN, nI_lt_NN, NN_le_nI, oob, Option.bind_some, if_true, if_false, if_pos, if_neg, hm]
          by_cases w : tel N K w0 w1 w2 r tn ph (wst w0 w1 + d) = NN
          · rw [if_pos w, if_pos w]
          · rw [if_neg w, if_neg w]
      rw [e1, Option.bind_some, Option.bind_some]
      rw [su, lst, ← Nat.add_assoc] at ih
      by_cases w : xb N K w0 w1 w2 r tn ph (wst w0 w1 + d) = 0
      · rw [w] at ih ⊢
        rw [if_pos (show nI 0 = 0 from rfl), Option.bind_some]
        rw [if_pos rfl] at ih
        rw [if_pos (by rw [lit_0, nI_leI (by omega) (by omega)]; omega), lit_1, nI_add, nI_add]
        have e : max (lst (xb N K w0 w1 w2 r tn ph) (wst w0 w1) d).2 0 = (lst (xb N K w0 w1 w2 r tn ph) (wst w0 w1) d).2 := by omega
        rw [e] at ih
        exact ih
      · have w1' : xb N K w0 w1 w2 r tn ph (wst w0 w1 + d) = 1 := by omega
        rw [if_neg w] at ih
        rw [w1', if_neg (show ¬ nI 1 = 0 by decide), Option.bind_some, lit_1, nI_add, nI_add, nI_add]
        by_cases y : (lst (xb N K w0 w1 w2 r tn ph) (wst w0 w1) d).1 + 1 ≤ (lst (xb N K w0 w1 w2 r tn ph) (wst w0 w1) d).2
        · rw [if_pos ((nI_leI (by omega) (by omega)).mpr y)]
          rw [show max (lst (xb N K w0 w1 w2 r tn ph) (wst w0 w1) d).2 ((lst (xb N K w0 w1 w2 r tn ph) (wst w0 w1) d).1 + 1) = (lst (xb N K w0 w1 w2 r tn ph) (wst w0 w1) d).2 by omega] at ih
          exact ih
        · rw [if_neg (fun q => y ((nI_leI (by omega) (by omega)).mp q))]
          rw [show max (lst (xb N K w0 w1 w2 r tn ph) (wst w0 w1) d).2 ((lst (xb N K w0 w1 w2 r tn ph) (wst w0 w1) d).1 + 1) = (lst (xb N K w0 w1 w2 r tn ph) (wst w0 w1) d).1 + 1 by omega] at ih
          exact ih
end T6
