/-! THE SUMS OF BOTH SIDES -/
section T6
variable {ms : Nat → Int32} {N K w0 w1 w2 : Nat} {r tn ph : Nat → Nat}
def exW (N K w0 w1 w2 : Nat) (r tn ph : Nat → Nat) : Nat := su (xb N K w0 w1 w2 r tn ph) (wst w0 w1) (wpl N w0 w1)
def tbW (N K w0 w1 w2 : Nat) (r tn ph : Nat → Nat) (x : Int32) : Nat := su (tb N K w0 w1 w2 r tn ph x) (wst w0 w1) (wpl N w0 w1)
def lsW (N K w0 w1 w2 : Nat) (r tn ph : Nat → Nat) : Nat := (lst (xb N K w0 w1 w2 r tn ph) (wst w0 w1) (wpl N w0 w1)).2
theorem exW_le : exW N K w0 w1 w2 r tn ph ≤ wpl N w0 w1 := su_le (fun i => xb_le i) _ _
theorem tbW_le (x : Int32) : tbW N K w0 w1 w2 r tn ph x ≤ wpl N w0 w1 := su_le (fun i => tb_le x i) _ _
theorem lsW_le : lsW N K w0 w1 w2 r tn ph ≤ wpl N w0 w1 := (lst_le _ _ _).2
theorem e_overWindow (hA : AB N K w0 w1 w2 r tn ph) (hM : MI ms N K w0 w1 w2 r tn ph) (mc mg mt ml : Nat → Int32) (a : Int32) (f : Nat → Nat) (hf : ∀ i, f i ≤ 1)
    (h4 : a = 4 → f = xb N K w0 w1 w2 r tn ph) (h5 : a ≠ 4 → f = tb N K w0 w1 w2 r tn ph NN) :
    ∃ mc' mg' mt' ml', fX6_overWindow ms mc mg mt ml a = some (if a = 8 then nI (lsW N K w0 w1 w2 r tn ph) else nI (su f (wst w0 w1) (wpl N w0 w1)), mc', mg', mt', ml') := by
  have a2 := AB_wpl hA
  obtain ⟨mc', mg', mt', ml', b1, b2⟩ := e_laysTold hA hM mc mg mt ml
  have h := l_over hA hM b2 a f hf h4 h5 FU 0 (by omega) (by rw [FU_eq]; omega)
  refine ⟨mc', mg', mt', ml', ?_⟩
  unfold fX6_overWindow
  rw [b1, Option.bind_some]
  show ((fX6_firstPlace ms).bind fun x2 => _) = _
  rw [e_first6 hA hM, Option.bind_some, lit_0]
  rw [show fX6_overWindow_L17 ms a mt' ml' FU (nI 0) (nI 0) (nI 0) (nI (wst w0 w1)) = _ from h, Option.bind_some]
  show (if a = 8 then _ else _) = _
  by_cases q : a = 8
  · rw [if_pos q, if_pos q]
    rfl
  · rw [if_neg q, if_neg q]
theorem e_over4 (hA : AB N K w0 w1 w2 r tn ph) (hM : MI ms N K w0 w1 w2 r tn ph) (mc mg mt ml : Nat → Int32) : ∃ mc' mg' mt' ml', fX6_overWindow ms mc mg mt ml 4 = some (nI (exW N K w0 w1 w2 r tn ph), mc', mg', mt', ml') :=
  e_overWindow hA hM mc mg mt ml 4 _ (fun i => xb_le i) (fun _ => rfl) (fun q => absurd rfl q)
theorem e_over5 (hA : AB N K w0 w1 w2 r tn ph) (hM : MI ms N K w0 w1 w2 r tn ph) (mc mg mt ml : Nat → Int32) : ∃ mc' mg' mt' ml', fX6_overWindow ms mc mg mt ml 5 = some (nI (tbW N K w0 w1 w2 r tn ph NN), mc', mg', mt', ml') :=
  e_overWindow hA hM mc mg mt ml 5 _ (fun i => tb_le NN i) (fun q => absurd q (by decide)) (fun _ => rfl)
theorem e_over8 (hA : AB N K w0 w1 w2 r tn ph) (hM : MI ms N K w0 w1 w2 r tn ph) (mc mg mt ml : Nat → Int32) : ∃ mc' mg' mt' ml', fX6_overWindow ms mc mg mt ml 8 = some (nI (lsW N K w0 w1 w2 r tn ph), mc', mg', mt', ml') :=
  e_overWindow hA hM mc mg mt ml 8 _ (fun i => tb_le NN i) (fun q => absurd q (by decide)) (fun _ => rfl)
def gw (N w0 w1 : Nat) (f : Nat → Nat) (i : Nat) : Nat := if inw N w0 w1 i then f i else 0
theorem su_gw (hA : AB N K w0 w1 w2 r tn ph) (f : Nat → Nat) : su (gw N w0 w1 f) 0 N = su f (wst w0 w1) (wpl N w0 w1) := by
  rcases AB_in hA with h | h
  · obtain ⟨e, he⟩ : ∃ e, N = wst w0 w1 + wpl N w0 w1 + e := ⟨N - (wst w0 w1 + wpl N w0 w1), by omega⟩
    have e1 : su (gw N w0 w1 f) 0 N = su (gw N w0 w1 f) 0 (wst w0 w1 + wpl N w0 w1 + e) := congrArg _ he
    rw [e1, su_add, su_add]
    rw [su_zero (f := gw N w0 w1 f) 0 (wst w0 w1) (fun i _ h2 => if_neg (fun z => by have := z.1; omega))]
    rw [su_zero (f := gw N w0 w1 f) (0 + (wst w0 w1 + wpl N w0 w1)) e (fun i h1 _ => if_neg (fun z => by have := z.2; omega))]
    rw [su_congr (f := gw N w0 w1 f) (g := f) (0 + wst w0 w1) (wpl N w0 w1) (fun i h1 h2 => if_pos ⟨by omega, by omega⟩)]
    rw [Nat.zero_add, Nat.zero_add, Nat.add_zero]
  · rw [h, su]
    exact su_zero 0 N (fun i _ _ => if_neg (fun z => by have h1 := z.1; have h2 := z.2; rw [h] at h2; omega))
theorem gw_le {f : Nat → Nat} (hf : ∀ i, f i ≤ 1) (i : Nat) : gw N w0 w1 f i ≤ 1 := by
  unfold gw
  split
  · exact hf i
  · omega
theorem l_toldBy (hA : AB N K w0 w1 w2 r tn ph) (hM : MI ms N K w0 w1 w2 r tn ph) {mt ml : Nat → Int32} (hT : isTold mt ml N K w0 w1 w2 r tn ph N) (x : Int32) : ∀ (n d : Nat), d ≤ N → N < n + d →
    fX6_toldBy_L8 ms x ml n (nI (su (gw N w0 w1 (tb N K w0 w1 w2 r tn ph x)) 0 d)) (nI d) = some (nI (su (gw N w0 w1 (tb N K w0 w1 w2 r tn ph x)) 0 N))
  | 0, d, h1, h2 => absurd h2 (by omega)
  | n + 1, d, h1, h2 => by
    have hN := hA.1
    have m0 := hM.1
    rw [fX6_toldBy_L8, e_first6 hA hM, e_last6 hA hM]
    simp (disch := omega) only [lit_0, lit_1, lit_2, lit_3, lit_4, lit_5, lit_6, lit_7, lit_8, lit_9, lit_10, lit_12, lit_13, lit_20, lit_31, lit_33, lit_35, lit_40, lit_41, lit_48, lit_50, lit_52, lit_57, lit_60, lit_63, lit_97, lit_100, lit_126, lit_160, lit_239, lit_240, lit_253, lit_400, lit_540, lit_600, lit_1000, lit_1265, lit_1518, NN_def, nI_add, pk_mul, nI_clamp, nI_leI, nI_ltI, nI_eq, nI_ne_NN, NN_ne_nI, NN_lt_nI, nI_le_NN, nI_lt_NN, NN_le_nI, oob, Option.bind_some, if_true, if_false, if_pos, if_neg, m0]
    by_cases q : d = N
    · subst q
      rw [if_pos (by omega)]
    · have ih := l_toldBy hA hM hT x n (d + 1) (by omega) (by omega)
      have hw := in_win hA (show d < 240 by omega)
      rw [lit_1] at hw
      rw [if_neg (by omega), (hT d (by omega)).2, hw, Option.bind_some]
      rw [su, Nat.zero_add] at ih
      unfold gw tb at ih ⊢
      by_cases w : tel N K w0 w1 w2 r tn ph d = x
      · rw [if_pos w]
        rw [if_pos w] at ih
        by_cases z : inw N w0 w1 d
        · rw [if_pos z] at ih
          rw [if_pos z, if_neg (show ¬ nI 1 = nI 0 by decide)]
          exact ih
        · rw [if_neg z] at ih
          rw [if_neg z, if_pos rfl]
          exact ih
      · rw [if_neg w]
        rw [if_neg w] at ih
        have e : (if inw N w0 w1 d then 0 else 0) = 0 := by split <;> rfl
        rw [e] at ih
        exact ih
theorem e_toldBy (hA : AB N K w0 w1 w2 r tn ph) (hM : MI ms N K w0 w1 w2 r tn ph) (mc mg mt ml : Nat → Int32) (x : Int32) :
    ∃ mc' mg' mt' ml', fX6_toldBy ms mc mg mt ml x = some (nI (tbW N K w0 w1 w2 r tn ph x), mc', mg', mt', ml') := by
  have hN := hA.1
  obtain ⟨mc', mg', mt', ml', b1, b2⟩ := e_laysTold hA hM mc mg mt ml
  have h := l_toldBy hA hM b2 x FU 0 (by omega) (by rw [FU_eq]; omega)
  refine ⟨mc', mg', mt', ml', ?_⟩
  unfold fX6_toldBy
  rw [b1, Option.bind_some]
  show ((fX6_toldBy_L8 ms x ml' FU 0 0).bind fun x7 => _) = _
  rw [lit_0, show fX6_toldBy_L8 ms x ml' FU (nI 0) (nI 0) = _ from h, su_gw hA]
  rfl
/-! the most common sign -/
def ti (r : Nat → Nat) (x : Nat) (i : Nat) : Nat := if r i = x then 1 else 0
theorem ti_le (x i : Nat) : ti r x i ≤ 1 := by unfold ti; split <;> omega
def cm (N w0 w1 : Nat) (r : Nat → Nat) (x : Nat) : Nat := su (ti r x) (wst w0 w1) (wpl N w0 w1)
theorem cm_le (x : Nat) : cm N w0 w1 r x ≤ wpl N w0 w1 := su_le (fun i => ti_le x i) _ _
theorem l_common22 (hA : AB N K w0 w1 w2 r tn ph) (hM : MI ms N K w0 w1 w2 r tn ph) {x : Nat} (hx : x < 4) : ∀ (n d : Nat), d ≤ wpl N w0 w1 → wpl N w0 w1 < n + d →
    fX6_mostCommon_L22 ms (nI x) n (nI (su (ti r x) (wst w0 w1) d)) (nI (wst w0 w1 + d)) = some (nI (cm N w0 w1 r x))
  | 0, d, h1, h2 => absurd h2 (by omega)
  | n + 1, d, h1, h2 => by
    have hN := hA.1
    have a1 := AB_wst hA
    have a2 := AB_wpl hA
    rw [fX6_mostCommon_L22, e_last6 hA hM, Option.bind_some]
    by_cases q : d = wpl N w0 w1
    · subst q
      rw [if_pos (by rw [nI_leI (by omega) (by omega)]; omega)]
      rfl
    · have hi : wst w0 w1 + d < N := by rcases AB_in hA with z | z <;> omega
      have ih := l_common22 hA hM hx n (d + 1) (by omega) (by omega)
      have m6 := hM.2.2.2.2.2.2 _ hi
      have hr := hA.2.2.2.2.2.2.1 _ hi
      rw [su, ← Nat.add_assoc] at ih
      rw [if_neg (by rw [nI_leI (by omega) (by omega)]; omega)]
      unfold ti at ih ⊢
      simp (disch := omega) only [lit_0, lit_1, lit_2, lit_3, lit_4, lit_5, lit_6, lit_7, lit_8, lit_9, lit_10, lit_12, lit_13, lit_20, lit_31, lit_33, lit_35, lit_40, lit_41, lit_48, lit_50, lit_52, lit_57, lit_60, lit_63, lit_97, lit_100, lit_126, lit_160, lit_239, lit_240, lit_253, lit_400, lit_540, lit_600, lit_1000, lit_1265, lit_1518, NN_def, nI_add, pk_mul, nI_clamp, nI_leI, nI_ltI, nI_eq, nI_ne_NN, NN_ne_nI, NN_lt_nI, nI_le_NN, nI_lt_NN, NN_le_nI, oob, Option.bind_some, if_true, if_false, if_pos, if_neg, m6]
      by_cases w : r (wst w0 w1 + d) = x
      · rw [if_pos w] at ih ⊢
        exact ih
      · rw [if_neg w] at ih ⊢
        exact ih
theorem l_common7 (hA : AB N K w0 w1 w2 r tn ph) (hM : MI ms N K w0 w1 w2 r tn ph) : ∀ (n k : Nat), k ≤ 4 → 4 < n + k → fX6_mostCommon_L7 ms n (bst (cm N w0 w1 r) k).1 (nI (bst (cm N w0 w1 r) k).2) (nI k) = some (sg (cm N w0 w1 r), nI (mx (cm N w0 w1 r)))
  | 0, k, h1, h2 => absurd h2 (by omega)
  | n + 1, k, h1, h2 => by
    have a2 := AB_wpl hA
    rw [fX6_mostCommon_L7, e_first6 hA hM, Option.bind_some]
    by_cases h : k = 4
    · subst h
      rw [if_pos (by rw [show ((4 : Int32)) = nI 4 from rfl]; exact nI_le (Nat.le_refl 4) (by omega))]
      rfl
    · have hl := l_common22 hA hM (show k < 4 by omega) FU 0 (by omega) (by rw [FU_eq]; omega)
      have hcm := @cm_le N w0 w1 r k
      have hb := bst_le (cm N w0 w1 r) 240 k (fun j hj => by have := @cm_le N w0 w1 r j; omega)
      have ih := l_common7 hA hM n (k + 1) (by omega) (by omega)
      rw [if_neg (by rw [show ((4 : Int32)) = nI 4 from rfl, nI_leI (by omega) (by omega)]; omega), lit_0]
      rw [show fX6_mostCommon_L22 ms (nI k) FU (nI 0) (nI (wst w0 w1)) = _ from hl, Option.bind_some]
      by_cases hk : (bst (cm N w0 w1 r) k).2 < cm N w0 w1 r k
      · have e1 : bst (cm N w0 w1 r) (k + 1) = (nI k, cm N w0 w1 r k) := by rw [bst, if_pos hk]
        rw [e1] at ih
        have q : ¬ nI (cm N w0 w1 r k) ≤ nI (bst (cm N w0 w1 r) k).2 := by rw [nI_leI (by omega) (by omega)]; omega
        rw [if_neg q, Option.bind_some, if_neg q, lit_1, nI_add]
        exact ih
      · have e1 : bst (cm N w0 w1 r) (k + 1) = bst (cm N w0 w1 r) k := by rw [bst, if_neg hk]
        rw [e1] at ih
        have q : nI (cm N w0 w1 r k) ≤ nI (bst (cm N w0 w1 r) k).2 := by rw [nI_leI (by omega) (by omega)]; omega
        rw [if_pos q, Option.bind_some, if_pos q, lit_1, nI_add]
        exact ih
theorem e_mostCommon (hA : AB N K w0 w1 w2 r tn ph) (hM : MI ms N K w0 w1 w2 r tn ph) (a : Int32) : fX6_mostCommon ms a = some (if a = 0 then sg (cm N w0 w1 r) else nI (mx (cm N w0 w1 r))) := by
  have h := l_common7 hA hM FU 0 (by omega) (by rw [FU_eq]; omega)
  unfold fX6_mostCommon
  rw [NN_raw, lit_0, show fX6_mostCommon_L7 ms FU NN (nI 0) (nI 0) = _ from h, Option.bind_some]
  show (if a = nI 0 then _ else _) = _
  by_cases q : a = nI 0
  · rw [if_pos q, if_pos q]
  · rw [if_neg q, if_neg q]
end T6
section T5
variable {row ten pha : Nat → Int32} {len kep wfi wmo hun : Int32} {N K w0 w1 w2 : Nat} {r tn ph : Nat → Nat}
theorem l_explained3 (hA : AB N K w0 w1 w2 r tn ph) (hC : CI row ten pha len kep wfi wmo hun N K w0 w1 w2 r tn ph) {tlr tsg : Nat → Int32} (hS : isTold tsg tlr N K w0 w1 w2 r tn ph 240) : ∀ (n d : Nat), d ≤ wpl N w0 w1 → wpl N w0 w1 < n + d →
    fX3_explained_L13 tsg row len (nI (wst w0 w1 + wpl N w0 w1)) n (nI (su (xb N K w0 w1 w2 r tn ph) (wst w0 w1) d)) (nI (wst w0 w1 + d)) = some (nI (exW N K w0 w1 w2 r tn ph))
  | 0, d, h1, h2 => absurd h2 (by omega)
  | n + 1, d, h1, h2 => by
    have hN := hA.1
    have a1 := AB_wst hA
    have a2 := AB_wpl hA
    rw [fX3_explained_L13]
    by_cases q : d = wpl N w0 w1
    · subst q
      rw [if_pos (by rw [nI_leI (by omega) (by omega)]; omega)]
      rfl
    · have hi : wst w0 w1 + d < N := by rcases AB_in hA with z | z <;> omega
      have ih := l_explained3 hA hC hS n (d + 1) (by omega) (by omega)
      have hx := @xb_le N K w0 w1 w2 r tn ph (wst w0 w1 + d)
      rw [su, ← Nat.add_assoc] at ih
      rw [if_neg (by rw [nI_leI (by omega) (by omega)]; omega), c_isExplained hA hC hS hi, Option.bind_some, lit_1, nI_add]
      by_cases w : xb N K w0 w1 w2 r tn ph (wst w0 w1 + d) = 0
      · rw [w] at ih ⊢
        rw [if_pos (show nI 0 = 0 from rfl)]
        exact ih
      · rw [show xb N K w0 w1 w2 r tn ph (wst w0 w1 + d) = 1 by omega] at ih ⊢
        rw [if_neg (show ¬ nI 1 = 0 by decide), nI_add]
        exact ih
theorem c_explained (hA : AB N K w0 w1 w2 r tn ph) (hC : CI row ten pha len kep wfi wmo hun N K w0 w1 w2 r tn ph) {tlr tsg : Nat → Int32} (hS : isTold tsg tlr N K w0 w1 w2 r tn ph 240) : fX3_explained tsg row len wfi wmo = some (nI (exW N K w0 w1 w2 r tn ph)) := by
  have a2 := AB_wpl hA
  have h := l_explained3 hA hC hS FU 0 (by omega) (by rw [FU_eq]; omega)
  unfold fX3_explained
  rw [c_end hA hC, Option.bind_some, c_start hA hC, Option.bind_some, lit_0]
  rw [show fX3_explained_L13 tsg row len (nI (wst w0 w1 + wpl N w0 w1)) FU (nI 0) (nI (wst w0 w1)) = _ from h]
  rfl
theorem l_toldBy3 (hA : AB N K w0 w1 w2 r tn ph) (hC : CI row ten pha len kep wfi wmo hun N K w0 w1 w2 r tn ph) {tlr tsg : Nat → Int32} (hS : isTold tsg tlr N K w0 w1 w2 r tn ph 240) (x : Int32) : ∀ (n d : Nat), d ≤ wpl N w0 w1 → wpl N w0 w1 < n + d →
    fX3_placesToldBy_L14 tlr x (nI (wst w0 w1 + wpl N w0 w1)) n (nI (su (tb N K w0 w1 w2 r tn ph x) (wst w0 w1) d)) (nI (wst w0 w1 + d)) = some (nI (tbW N K w0 w1 w2 r tn ph x))
  | 0, d, h1, h2 => absurd h2 (by omega)
  | n + 1, d, h1, h2 => by
    have hN := hA.1
    have a1 := AB_wst hA
    have a2 := AB_wpl hA
    rw [fX3_placesToldBy_L14]
    by_cases q : d = wpl N w0 w1
    · subst q
      rw [if_pos (by rw [nI_leI (by omega) (by omega)]; omega)]
      rfl
    · have hi : wst w0 w1 + d < N := by rcases AB_in hA with z | z <;> omega
      have ih := l_toldBy3 hA hC hS x n (d + 1) (by omega) (by omega)
      rw [su, ← Nat.add_assoc] at ih
      rw [if_neg (by rw [nI_leI (by omega) (by omega)]; omega), c_tellerAt hS (by omega), Option.bind_some, lit_1]
      unfold tb at ih ⊢
      by_cases w : tel N K w0 w1 w2 r tn ph (wst w0 w1 + d) = x
      · rw [if_pos w] at ih ⊢
        rw [nI_add, nI_add]
        exact ih
      · rw [if_neg w] at ih ⊢
        rw [nI_add]
        exact ih
theorem c_toldBy (hA : AB N K w0 w1 w2 r tn ph) (hC : CI row ten pha len kep wfi wmo hun N K w0 w1 w2 r tn ph) {tlr tsg : Nat → Int32} (hS : isTold tsg tlr N K w0 w1 w2 r tn ph 240) (x : Int32) : fX3_placesToldBy tlr len wfi wmo x = some (nI (tbW N K w0 w1 w2 r tn ph x)) := by
  have a2 := AB_wpl hA
  have h := l_toldBy3 hA hC hS x FU 0 (by omega) (by rw [FU_eq]; omega)
  unfold fX3_placesToldBy
  rw [c_end hA hC, Option.bind_some, c_start hA hC, Option.bind_some, lit_0]
  rw [show fX3_placesToldBy_L14 tlr x (nI (wst w0 w1 + wpl N w0 w1)) FU (nI 0) (nI (wst w0 w1)) = _ from h]
  rfl
theorem l_longest3 (hA : AB N K w0 w1 w2 r tn ph) (hC : CI row ten pha len kep wfi wmo hun N K w0 w1 w2 r tn ph) {tlr tsg : Nat → Int32} (hS : isTold tsg tlr N K w0 w1 w2 r tn ph 240) : ∀ (n d : Nat), d ≤ wpl N w0 w1 → wpl N w0 w1 < n + d →
    fX3_longestStretch_L16 tsg row len (nI (wst w0 w1 + wpl N w0 w1)) n (nI (lst (xb N K w0 w1 w2 r tn ph) (wst w0 w1) d).2) (nI (lst (xb N K w0 w1 w2 r tn ph) (wst w0 w1) d).1) (nI (wst w0 w1 + d)) = some (nI (lsW N K w0 w1 w2 r tn ph))
  | 0, d, h1, h2 => absurd h2 (by omega)
  | n + 1, d, h1, h2 => by
    have hN := hA.1
    have a1 := AB_wst hA
    have a2 := AB_wpl hA
    have hl := lst_le (xb N K w0 w1 w2 r tn ph) (wst w0 w1) d
    rw [fX3_longestStretch_L16]
    by_cases q : d = wpl N w0 w1
    · subst q
      rw [if_pos (by rw [nI_leI (by omega) (by omega)]; omega)]
      rfl
    · have hi : wst w0 w1 + d < N := by rcases AB_in hA with z | z <;> omega
      have ih := l_longest3 hA hC hS n (d + 1) (by omega) (by omega)
      have hx := @xb_le N K w0 w1 w2 r tn ph (wst w0 w1 + d)
      rw [lst, ← Nat.add_assoc] at ih
      rw [if_neg (by rw [nI_leI (by omega) (by omega)]; omega), c_isExplained hA hC hS hi, Option.bind_some, lit_1, nI_add, nI_add]
      have key : ∀ c : Nat, c ≤ 241 → (if nI (lst (xb N K w0 w1 w2 r tn ph) (wst w0 w1) d).2 < nI c then nI c else nI (lst (xb N K w0 w1 w2 r tn ph) (wst w0 w1) d).2) = nI (max (lst (xb N K w0 w1 w2 r tn ph) (wst w0 w1) d).2 c) := by
        intro c hc
        by_cases y : (lst (xb N K w0 w1 w2 r tn ph) (wst w0 w1) d).2 < c
        · rw [if_pos ((nI_ltI (by omega) (by omega)).mpr y), show max (lst (xb N K w0 w1 w2 r tn ph) (wst w0 w1) d).2 c = c by omega]
        · rw [if_neg (fun z => y ((nI_ltI (by omega) (by omega)).mp z)), show max (lst (xb N K w0 w1 w2 r tn ph) (wst w0 w1) d).2 c = (lst (xb N K w0 w1 w2 r tn ph) (wst w0 w1) d).2 by omega]
      by_cases w : xb N K w0 w1 w2 r tn ph (wst w0 w1 + d) = 0
      · rw [if_pos w] at ih
        rw [w, if_pos (show nI 0 = 0 from rfl), lit_0, Option.bind_some, key 0 (by omega)]
        exact ih
      · rw [if_neg w] at ih
        rw [show xb N K w0 w1 w2 r tn ph (wst w0 w1 + d) = 1 by omega, if_neg (show ¬ nI 1 = 0 by decide), Option.bind_some, key _ (by omega)]
        exact ih
theorem c_longest (hA : AB N K w0 w1 w2 r tn ph) (hC : CI row ten pha len kep wfi wmo hun N K w0 w1 w2 r tn ph) {tlr tsg : Nat → Int32} (hS : isTold tsg tlr N K w0 w1 w2 r tn ph 240) : fX3_longestStretch tsg row len wfi wmo = some (nI (lsW N K w0 w1 w2 r tn ph)) := by
  have a2 := AB_wpl hA
  have h := l_longest3 hA hC hS FU 0 (by omega) (by rw [FU_eq]; omega)
  unfold fX3_longestStretch
  rw [c_end hA hC, Option.bind_some, c_start hA hC, Option.bind_some, lit_0]
  rw [show fX3_longestStretch_L16 tsg row len (nI (wst w0 w1 + wpl N w0 w1)) FU (nI 0) (nI 0) (nI (wst w0 w1)) = _ from h]
  rfl
/-! the class's count of a sign in the window: of no sign, none -/
def tx (r : Nat → Nat) (x : Int32) (i : Nat) : Nat := if nI (r i) = x then 1 else 0
theorem tx_le (x : Int32) (i : Nat) : tx r x i ≤ 1 := by unfold tx; split <;> omega
theorem l_times (hA : AB N K w0 w1 w2 r tn ph) (hC : CI row ten pha len kep wfi wmo hun N K w0 w1 w2 r tn ph) (x : Int32) : ∀ (n d : Nat), d ≤ wpl N w0 w1 → wpl N w0 w1 < n + d →
    fX2_timesInWindow_L13 row len x (nI (wst w0 w1 + wpl N w0 w1)) n (nI (su (tx r x) (wst w0 w1) d)) (nI (wst w0 w1 + d)) = some (nI (su (tx r x) (wst w0 w1) (wpl N w0 w1)))
  | 0, d, h1, h2 => absurd h2 (by omega)
  | n + 1, d, h1, h2 => by
    have hN := hA.1
    have a1 := AB_wst hA
    have a2 := AB_wpl hA
    rw [fX2_timesInWindow_L13]
    by_cases q : d = wpl N w0 w1
    · subst q
      rw [if_pos (by rw [nI_leI (by omega) (by omega)]; omega)]
    · have hi : wst w0 w1 + d < N := by rcases AB_in hA with z | z <;> omega
      have ih := l_times hA hC x n (d + 1) (by omega) (by omega)
      rw [su, ← Nat.add_assoc] at ih
      rw [if_neg (by rw [nI_leI (by omega) (by omega)]; omega), c_signAt hA hC hi, Option.bind_some, lit_1]
      unfold tx at ih ⊢
      by_cases w : nI (r (wst w0 w1 + d)) = x
      · rw [if_pos w] at ih ⊢
        rw [nI_add, nI_add]
        exact ih
      · rw [if_neg w] at ih ⊢
        rw [nI_add]
        exact ih
theorem c_times (hA : AB N K w0 w1 w2 r tn ph) (hC : CI row ten pha len kep wfi wmo hun N K w0 w1 w2 r tn ph) (x : Int32) : fX2_timesInWindow row len wfi wmo x = some (nI (su (tx r x) (wst w0 w1) (wpl N w0 w1))) := by
  have a2 := AB_wpl hA
  have h := l_times hA hC x FU 0 (by omega) (by rw [FU_eq]; omega)
  unfold fX2_timesInWindow
  rw [c_end hA hC, Option.bind_some, c_start hA hC, Option.bind_some, lit_0]
  rw [show fX2_timesInWindow_L13 row len x (nI (wst w0 w1 + wpl N w0 w1)) FU (nI 0) (nI (wst w0 w1)) = _ from h]
  rfl
theorem su_tx (hA : AB N K w0 w1 w2 r tn ph) {k : Nat} (hk : k < 4) : su (tx r (nI k)) (wst w0 w1) (wpl N w0 w1) = cm N w0 w1 r k :=
  su_congr _ _ (fun i h1 h2 => by
    have hi : i < N := by rcases AB_in hA with z | z <;> omega
    have hr := hA.2.2.2.2.2.2.1 i hi
    unfold tx ti
    by_cases e : r i = k
    · rw [if_pos e, if_pos (by rw [e])]
    · rw [if_neg e, if_neg (fun z => e ((nI_eq (by omega) (by omega)).mp z))])
theorem su_txN (hA : AB N K w0 w1 w2 r tn ph) : su (tx r NN) (wst w0 w1) (wpl N w0 w1) = 0 :=
  su_zero _ _ (fun i h1 h2 => by
    have hi : i < N := by rcases AB_in hA with z | z <;> omega
    have hr := hA.2.2.2.2.2.2.1 i hi
    exact if_neg (by rw [nI_ne_NN (by omega)]; exact id))
theorem l_commonSign (hA : AB N K w0 w1 w2 r tn ph) (hC : CI row ten pha len kep wfi wmo hun N K w0 w1 w2 r tn ph) : ∀ (n k : Nat), k ≤ 4 → 4 < n + k → fX2_commonSign_L6 row len wfi wmo n (bst (cm N w0 w1 r) k).1 (nI (bst (cm N w0 w1 r) k).2) (nI k) = some (sg (cm N w0 w1 r))
  | 0, k, h1, h2 => absurd h2 (by omega)
  | n + 1, k, h1, h2 => by
    have a2 := AB_wpl hA
    rw [fX2_commonSign_L6]
    by_cases h : k = 4
    · subst h
      rw [if_pos (by rw [show ((4 : Int32)) = nI 4 from rfl]; exact nI_le (Nat.le_refl 4) (by omega))]
      rfl
    · have hcm := @cm_le N w0 w1 r k
      have hb := bst_le (cm N w0 w1 r) 240 k (fun j hj => by have := @cm_le N w0 w1 r j; omega)
      have ih := l_commonSign hA hC n (k + 1) (by omega) (by omega)
      rw [if_neg (by rw [show ((4 : Int32)) = nI 4 from rfl, nI_leI (by omega) (by omega)]; omega), c_times hA hC, su_tx hA (by omega), Option.bind_some, lit_1, nI_add]
      by_cases hk : (bst (cm N w0 w1 r) k).2 < cm N w0 w1 r k
      · have e1 : bst (cm N w0 w1 r) (k + 1) = (nI k, cm N w0 w1 r k) := by rw [bst, if_pos hk]
        rw [e1] at ih
        rw [if_neg (by rw [nI_leI (by omega) (by omega)]; omega)]
        exact ih
      · have e1 : bst (cm N w0 w1 r) (k + 1) = bst (cm N w0 w1 r) k := by rw [bst, if_neg hk]
        rw [e1] at ih
        rw [if_pos (by rw [nI_leI (by omega) (by omega)]; omega)]
        exact ih
theorem c_commonSign (hA : AB N K w0 w1 w2 r tn ph) (hC : CI row ten pha len kep wfi wmo hun N K w0 w1 w2 r tn ph) : fX2_commonSign row len wfi wmo = some (sg (cm N w0 w1 r)) := by
  have h := l_commonSign hA hC FU 0 (by omega) (by rw [FU_eq]; omega)
  unfold fX2_commonSign
  rw [NN_raw, lit_0, show fX2_commonSign_L6 row len wfi wmo FU NN (nI 0) (nI 0) = _ from h]
  rfl
theorem c_timesCommon (hA : AB N K w0 w1 w2 r tn ph) (hC : CI row ten pha len kep wfi wmo hun N K w0 w1 w2 r tn ph) : fX2_timesInWindow row len wfi wmo (sg (cm N w0 w1 r)) = some (nI (mx (cm N w0 w1 r))) := by
  rw [c_times hA hC]
  rcases sg_mx (cm N w0 w1 r) with ⟨b1, b2⟩ | ⟨b, b0, b1, b2, b3⟩
  · rw [b1, b2, su_txN hA]
  · rw [b1, su_tx hA b0, b2]
end T5
