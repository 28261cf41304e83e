/-! KEEP, FIND, DROP, GROW -/
section OS
variable {ms row ten pha : Nat → Int32} {len kep wfi wmo hun nex man : Int32} {rg : Nat → StV} {mv : Nat → Int32} {svm : Int32} {N K w0 w1 w2 : Nat} {r tn ph : Nat → Nat}
theorem op_keep (f4 : Nat → Int64) (x y : Int32) (hR : RS row ten pha len kep wfi wmo hun ms) (hH : HI nex man rg mv svm) :
    ∃ k ten' pha' kep' nex' man' f4' rg' ans ms' mv' svm', fL_keep row ten pha len kep wfi wmo hun nex man f4 rg x y = some (k, ten', pha', kep', nex', man', f4', rg') ∧ fX6_keep ms mv svm x y = some (ans, k, ms', mv', svm') ∧ (k = 0 → f4' 0 = ans.toInt64) ∧ RS row ten' pha' len kep' wfi wmo hun ms' ∧ HI nex' man' rg' mv' svm' := by
  have hR0 := hR
  obtain ⟨N, K, w0, w1, w2, r, tn, ph, hA, hC, hM⟩ := hR
  obtain ⟨nex', man', rg', mv', svm', s1, s2, s3⟩ := HI_save hR0 hH
  have hK := hA.2.1
  have m4 : ms (4 : Int32).toNatClampNeg = nI K := hM.2.2.2.2.1
  unfold fL_keep fX5_keep fX6_keep
  rcases rgPer x y with ⟨t, p, h1, h2, h3, rfl, rfl⟩ | ⟨e1, e2⟩
  · obtain ⟨a, b⟩ := per1 h1 h2 h3
    have hl := hasp_le tn ph t p K
    rw [a, b, Option.bind_some, Option.bind_some, if_neg (show ¬ (1 : Int32) = 0 by decide), if_neg (show ¬ (1 : Int32) = 0 by decide), c_canKeep hA hC h2 (show p ≤ 400 by omega), if_neg (show ¬ oob 4 253 by decide), m4, e_isKept hA hM h2 (show p ≤ 400 by omega), Option.bind_some]
    by_cases q : K = 4
    · refine ⟨2, ten, pha, kep, nex, man, f4, rg, 0, ms, mv, svm, ?_, ?_, fun z => absurd z (by decide), hR0, hH⟩
      · rw [if_pos (show K = 4 ∨ hasp tn ph t p K = 1 from Or.inl q)]
        rfl
      · rw [if_pos (show nI K = 4 by rw [q]; rfl)]
        rfl
    · by_cases e : hasp tn ph t p K = 1
      · refine ⟨2, ten, pha, kep, nex, man, f4, rg, 0, ms, mv, svm, ?_, ?_, fun z => absurd z (by decide), hR0, hH⟩
        · rw [if_pos (show K = 4 ∨ hasp tn ph t p K = 1 from Or.inr e)]
          rfl
        · rw [if_neg (show ¬ nI K = 4 from fun z => q ((nI_eq (b := 4) (by omega) (by omega)).mp z)), e]
          rfl
      · obtain ⟨p1, p2, p3⟩ := add_per hA hC hM h1 h2 h3 (show K < 4 by omega)
        refine ⟨0, upd ten K (nI t), upd pha K (nI p), nI (K + 1), nex', man', vp_updL f4 (0 : Int32).toNatClampNeg (nI K).toInt64, rg', nI K, _, mv', svm', ?_, ?_, fun _ => updL0 _ _, p3, s3⟩
        · rw [if_neg (show ¬ (K = 4 ∨ hasp tn ph t p K = 1) from fun z => z.elim q e), if_neg (show ¬ (1 : Int32) = 0 by decide), s1, Option.bind_some]
          show ((((fX2_addPeriod ten pha kep (nI t) (nI p)).bind _)).bind _) = _
          rw [p1]
          show ((some (0, nI (K + 1) - 1, upd ten K (nI t), upd pha K (nI p), nI (K + 1), nex', man', rg') : Option (Nat × Int32 × (Nat → Int32) × (Nat → Int32) × Int32 × Int32 × Int32 × (Nat → StV))).bind _) = _
          rw [show nI (K + 1) - 1 = nI K by rw [lit_1, pk_sub (by omega)]; rfl]
          rfl
        · rw [if_neg (show ¬ nI K = 4 from fun z => q ((nI_eq (b := 4) (by omega) (by omega)).mp z)), show hasp tn ph t p K = 0 by omega, Option.bind_some, if_pos (show nI 0 = 0 from rfl), s2, Option.bind_some]
          show ((fX6_keeps ms (nI t) (nI p)).bind _) = _
          rw [p2]
          rfl
  · refine ⟨1, ten, pha, kep, nex, man, f4, rg, 0, ms, mv, svm, ?_, ?_, fun z => absurd z (by decide), hR0, hH⟩
    · rw [e1]
      rfl
    · rw [e2]
      rfl
theorem op_find (cel mc : Nat → Int32) (cls : Int32) (f4 : Nat → Int64) (x y : Int32) (hR : RS row ten pha len kep wfi wmo hun ms) (hH : HI nex man rg mv svm) :
    ∃ k ten' pha' kep' nex' man' cel' cls' f4' rg' ans ms' mv' svm' mc', fL_find row ten pha len kep wfi wmo hun nex man cel cls f4 rg x y = some (k, ten', pha', kep', nex', man', cel', cls', f4', rg') ∧ fX6_find ms mv svm mc x y = some (ans, k, ms', mv', svm', mc') ∧ (k = 0 → f4' 0 = ans.toInt64) ∧ RS row ten' pha' len kep' wfi wmo hun ms' ∧ HI nex' man' rg' mv' svm' := by
  have hR0 := hR
  obtain ⟨N, K, w0, w1, w2, r, tn, ph, hA, hC, hM⟩ := hR
  obtain ⟨nex', man', rg', mv', svm', s1, s2, s3⟩ := HI_save hR0 hH
  have hK := hA.2.1
  have m4 : ms (4 : Int32).toNatClampNeg = nI K := hM.2.2.2.2.1
  unfold fL_find fX5_find fX5_isTenthsRange fX6_find
  rcases rgTen x with ⟨t0, h1, h2, rfl⟩ | ⟨e1, e2⟩
  · obtain ⟨a, b⟩ := tenths1 h1 h2
    rw [a, b, Option.bind_some, Option.bind_some, if_neg (show ¬ (1 : Int32) = 0 by decide), if_neg (show ¬ (1 : Int32) = 0 by decide)]
    rcases rg5 y t0 400 (by omega) (by omega) with ⟨e, h3, h4, rfl⟩ | ⟨e1, e2⟩
    · rw [show fX5_isWithin (nI e) (nI t0) 400 = some 1 from within1 (c := 400) h3 h4 (by omega), show fX6_in (nI e) (nI t0) 400 = some 1 from in1 (c := 400) h3 h4 (by omega)]
      obtain ⟨cel', cls', c1⟩ := c_bestTenths hA hC cel cls h1 h3 h4
      obtain ⟨mc', d1⟩ := e_bestOf hA hM mc h1 h3 h4
      obtain ⟨t, b1, b2, b3⟩ := bestT_in (N := N) (w0 := w0) (w1 := w1) (r := r) h3
      rw [b3] at c1 d1
      have hl := hasp_le tn ph t 0 K
      have cK : fX5_canKeep ten pha kep (nI t) 0 = some (if K = 4 ∨ hasp tn ph t 0 K = 1 then 0 else 1) := c_canKeep hA hC (t := t) (p := 0) (by omega) (by omega)
      have iK : fX6_isKept ms (nI t) 0 = some (nI (hasp tn ph t 0 K)) := e_isKept hA hM (t := t) (p := 0) (by omega) (by omega)
      have hx : ((some 1 : Option Int32).bind fun x2 => if x2 = 0 then some 0 else some 1 : Option Int32) = some 1 := rfl
      rw [hx, Option.bind_some, Option.bind_some, if_neg (show ¬ (1 : Int32) = 0 by decide), if_neg (show ¬ (1 : Int32) = 0 by decide), c1, d1, Option.bind_some, Option.bind_some]
      show ∃ k ten' pha' kep' nex' man' cel' cls' f4' rg' ans ms' mv' svm' mc', ((((fX5_canKeep ten pha kep (nI t) 0).bind _)).bind _) = _ ∧ (if oob 4 253 then none else if ms (4 : Int32).toNatClampNeg = 4 then _ else ((fX6_isKept ms (nI t) 0).bind _)) = _ ∧ _
      rw [cK, iK, if_neg (show ¬ oob 4 253 by decide), m4, Option.bind_some, Option.bind_some]
      by_cases q : K = 4
      · refine ⟨2, ten, pha, kep, nex, man, cel', cls', f4, rg, 0, ms, mv, svm, mc', ?_, ?_, fun z => absurd z (by decide), hR0, hH⟩
        · rw [if_pos (show K = 4 ∨ hasp tn ph t 0 K = 1 from Or.inl q)]
          rfl
        · rw [if_pos (show nI K = 4 by rw [q]; rfl)]
          rfl
      · by_cases e : hasp tn ph t 0 K = 1
        · refine ⟨2, ten, pha, kep, nex, man, cel', cls', f4, rg, 0, ms, mv, svm, mc', ?_, ?_, fun z => absurd z (by decide), hR0, hH⟩
          · rw [if_pos (show K = 4 ∨ hasp tn ph t 0 K = 1 from Or.inr e)]
            rfl
          · rw [if_neg (show ¬ nI K = 4 from fun z => q ((nI_eq (b := 4) (by omega) (by omega)).mp z)), e]
            rfl
        · obtain ⟨p1, p2, p3⟩ := add_per hA hC hM (t := t) (p := 0) (by omega) (by omega) (by omega) (show K < 4 by omega)
          refine ⟨0, upd ten K (nI t), upd pha K (nI 0), nI (K + 1), nex', man', cel', cls', vp_updL f4 (0 : Int32).toNatClampNeg (nI t).toInt64, rg', nI t, _, mv', svm', mc', ?_, ?_, fun _ => updL0 _ _, p3, s3⟩
          · rw [if_neg (show ¬ (K = 4 ∨ hasp tn ph t 0 K = 1) from fun z => z.elim q e), if_neg (show ¬ (1 : Int32) = 0 by decide), s1, Option.bind_some]
            show ((((fX2_addPeriod ten pha kep (nI t) (nI 0)).bind _)).bind _) = _
            rw [p1]
            rfl
          · rw [if_neg (show ¬ nI K = 4 from fun z => q ((nI_eq (b := 4) (by omega) (by omega)).mp z)), show hasp tn ph t 0 K = 0 by omega, if_pos (show nI 0 = 0 from rfl), s2, Option.bind_some]
            show ((fX6_keeps ms (nI t) (nI 0)).bind _) = _
            rw [p2]
            rfl
    · refine ⟨1, ten, pha, kep, nex, man, cel, cls, f4, rg, 0, ms, mv, svm, mc, ?_, ?_, fun z => absurd z (by decide), hR0, hH⟩
      · rw [show fX5_isWithin y (nI t0) 400 = some 0 from e1]
        rfl
      · rw [show fX6_in y (nI t0) 400 = some 0 from e2]
        rfl
  · refine ⟨1, ten, pha, kep, nex, man, cel, cls, f4, rg, 0, ms, mv, svm, mc, ?_, ?_, fun z => absurd z (by decide), hR0, hH⟩
    · rw [e1]
      rfl
    · rw [e2]
      rfl
/-! one period fewer -/
theorem l_remove (ten0 pha0 : Nat → Int32) {a m : Nat} (hm : m ≤ 3) : ∀ (n k : Nat) (ten pha : Nat → Int32), a ≤ k → k ≤ m → m < n + k → (∀ i, ten i = if a ≤ i ∧ i < k then ten0 (i + 1) else ten0 i) → (∀ i, pha i = if a ≤ i ∧ i < k then pha0 (i + 1) else pha0 i) →
    ∃ ten' pha', fX2_removePeriod_L12 (nI m) n (nI k) ten pha = some (ten', pha') ∧ (∀ i, ten' i = if a ≤ i ∧ i < m then ten0 (i + 1) else ten0 i) ∧ ∀ i, pha' i = if a ≤ i ∧ i < m then pha0 (i + 1) else pha0 i
  | 0, k, ten, pha, h0, h1, h2, _, _ => absurd h2 (by omega)
  | n + 1, k, ten, pha, h0, h1, h2, h3, h4 => by
    rw [fX2_removePeriod_L12]
    by_cases h : k = m
    · subst h
      rw [if_pos (Int32.le_refl _)]
      exact ⟨ten, pha, rfl, h3, h4⟩
    · rw [if_neg (by rw [nI_leI (by omega) (by omega)]; omega), lit_1, nI_add, e_tenthsAt (by omega), Option.bind_some, e_lay (by omega) (by omega), Option.bind_some, e_phaseAt (by omega), Option.bind_some, e_lay (by omega) (by omega), Option.bind_some]
      refine l_remove ten0 pha0 hm n (k + 1) _ _ (by omega) (by omega) (by omega) (fun i => ?_) (fun i => ?_)
      · rw [upd_at, h3, h3]
        by_cases e : i = k
        · rw [if_pos e, if_neg (by omega), if_pos (by omega), e]
        · rw [if_neg e]
          by_cases z : a ≤ i ∧ i < k
          · rw [if_pos z, if_pos (by omega)]
          · rw [if_neg z, if_neg (by omega)]
      · rw [upd_at, h4, h4]
        by_cases e : i = k
        · rw [if_pos e, if_neg (by omega), if_pos (by omega), e]
        · rw [if_neg e]
          by_cases z : a ≤ i ∧ i < k
          · rw [if_pos z, if_pos (by omega)]
          · rw [if_neg z, if_neg (by omega)]
theorem l_drop45 (ms0 : Nat → Int32) {a m : Nat} (hm : m ≤ 3) : ∀ (n k : Nat) (ms : Nat → Int32), 2 * a ≤ k → k ≤ 2 * m → 2 * m < n + k → ms0 4 = nI m → (∀ q, ms q = if 5 + 2 * a ≤ q ∧ q < 5 + k then ms0 (q + 2) else ms0 q) →
    ∃ ms', fX6_drop_L45 n (nI k) ms = some ms' ∧ ∀ q, ms' q = if 5 + 2 * a ≤ q ∧ q < 5 + 2 * m then ms0 (q + 2) else ms0 q
  | 0, k, ms, h0, h1, h2, _, _ => absurd h2 (by omega)
  | n + 1, k, ms, h0, h1, h2, h3, h4 => by
    have h44 : ms 4 = nI m := by rw [h4, if_neg (by omega)]; exact h3
    rw [fX6_drop_L45]
    simp (disch := omega) only [lit_0, lit_1, lit_2, lit_3, lit_4, lit_5, lit_6, lit_7, lit_8, lit_9, lit_10, lit_12, lit_13, lit_20, lit_31, lit_33, lit_35, lit_40, lit_41, lit_48, lit_50, lit_52, lit_57, lit_60, lit_63, lit_97, lit_100, lit_126, lit_160, lit_239, lit_240, lit_253, lit_400, lit_540, lit_600, lit_1000, lit_1265, lit_1518, NN_def, nI_add, pk_mul, nI_clamp, nI_leI, nI_ltI, nI_eq, nI_ne_NN, NN_ne_nI, NN_lt_nI, nI_le_NN, nI_lt_NN, NN_le_nI, oob, Option.bind_some, if_true, if_false, if_pos, if_neg, h44]
    by_cases h : k = 2 * m
    · subst h
      rw [if_pos (by omega)]
      exact ⟨ms, rfl, h4⟩
    · rw [if_neg (by omega)]
      refine l_drop45 ms0 hm n (k + 1) _ (by omega) (by omega) (by omega) h3 (fun q => ?_)
      rw [upd_at]
      by_cases e : q = 5 + k
      · rw [if_pos e, h4, if_neg (by omega), if_pos (by omega), e]
      · rw [if_neg e, h4]
        by_cases z : 5 + 2 * a ≤ q ∧ q < 5 + k
        · rw [if_pos z, if_pos (by omega)]
        · rw [if_neg z, if_neg (by omega)]
theorem drop_rel (hA : AB N K w0 w1 w2 r tn ph) (hC : CI row ten pha len kep wfi wmo hun N K w0 w1 w2 r tn ph) (hM : MI ms N K w0 w1 w2 r tn ph) {a : Nat} (ha : a < K) {ten' pha' ms' : Nat → Int32}
    (h1 : ∀ i, ten' i = if a ≤ i ∧ i < K - 1 then ten (i + 1) else ten i) (h2 : ∀ i, pha' i = if a ≤ i ∧ i < K - 1 then pha (i + 1) else pha i)
    (h3 : ms' 4 = nI (K - 1)) (h4 : ∀ q, q < 5 + 2 * (K - 1) → q ≠ 4 → ms' q = if 5 + 2 * a ≤ q then ms (q + 2) else ms q) (h5 : ∀ q, 13 ≤ q → ms' q = ms q) : RS row ten' pha' len (nI (K - 1)) wfi wmo hun ms' := by
  obtain ⟨a1, a2, a3, a4, a5, a6, a7, a8⟩ := hA
  obtain ⟨c1, c2, c3, c4, c5, c6, c7⟩ := hC
  obtain ⟨m0, m1, m2, m3, m4, m5, m6⟩ := hM
  refine ⟨N, K - 1, w0, w1, w2, r, (fun i => if a ≤ i then tn (i + 1) else tn i), (fun i => if a ≤ i then ph (i + 1) else ph i), ⟨a1, by omega, a3, a4, a5, a6, a7, fun i hi => ?_⟩, ⟨c1, rfl, c3, c4, c5, c6, fun i hi => ?_⟩, ?_⟩
  · show 10 ≤ (if a ≤ i then tn (i + 1) else tn i) ∧ (if a ≤ i then tn (i + 1) else tn i) ≤ 400 ∧ (if a ≤ i then ph (i + 1) else ph i) < (if a ≤ i then tn (i + 1) else tn i)
    by_cases e : a ≤ i
    · rw [if_pos e, if_pos e]; exact a8 (i + 1) (by omega)
    · rw [if_neg e, if_neg e]; exact a8 i (by omega)
  · show ten' i = nI (if a ≤ i then tn (i + 1) else tn i) ∧ pha' i = nI (if a ≤ i then ph (i + 1) else ph i)
    rw [h1, h2]
    by_cases e : a ≤ i
    · have z : a ≤ i ∧ i < K - 1 := ⟨e, hi⟩
      rw [if_pos z, if_pos z, if_pos e, if_pos e]; exact c7 (i + 1) (by omega)
    · have z : ¬ (a ≤ i ∧ i < K - 1) := fun z => e z.1
      rw [if_neg z, if_neg z, if_neg e, if_neg e]; exact c7 i (by omega)
  · refine ⟨?_, ?_, ?_, ?_, h3, fun i hi => ?_, fun i hi => ?_⟩
    · rw [h4 _ (by omega) (by omega), if_neg (by omega)]; exact m0
    · rw [h4 _ (by omega) (by omega), if_neg (by omega)]; exact m1
    · rw [h4 _ (by omega) (by omega), if_neg (by omega)]; exact m2
    · rw [h4 _ (by omega) (by omega), if_neg (by omega)]; exact m3
    · show ms' (5 + 2 * i) = nI (if a ≤ i then tn (i + 1) else tn i) ∧ ms' (5 + 2 * i + 1) = nI (if a ≤ i then ph (i + 1) else ph i)
      rw [h4 _ (by omega) (by omega), h4 _ (by omega) (by omega)]
      by_cases e : a ≤ i
      · rw [if_pos (show 5 + 2 * a ≤ 5 + 2 * i by omega), if_pos (show 5 + 2 * a ≤ 5 + 2 * i + 1 by omega), if_pos e, if_pos e]; exact m5 (i + 1) (by omega)
      · rw [if_neg (show ¬ 5 + 2 * a ≤ 5 + 2 * i by omega), if_neg (show ¬ 5 + 2 * a ≤ 5 + 2 * i + 1 by omega), if_neg e, if_neg e]; exact m5 i (by omega)
    · rw [h5 _ (by omega)]; exact m6 i hi
theorem op_drop (f3 : Nat → Int64) (x : Int32) (hR : RS row ten pha len kep wfi wmo hun ms) (hH : HI nex man rg mv svm) :
    ∃ k ten' pha' kep' nex' man' f3' rg' ans ms' mv' svm', fL_drop row ten pha len kep wfi wmo hun nex man f3 rg x = some (k, ten', pha', kep', nex', man', f3', rg') ∧ fX6_drop ms mv svm x = some (ans, k, ms', mv', svm') ∧ (k = 0 → f3' 0 = ans.toInt64) ∧ RS row ten' pha' len kep' wfi wmo hun ms' ∧ HI nex' man' rg' mv' svm' := by
  have hR0 := hR
  obtain ⟨N, K, w0, w1, w2, r, tn, ph, hA, hC, hM⟩ := hR
  obtain ⟨nex', man', rg', mv', svm', s1, s2, s3⟩ := HI_save hR0 hH
  have hK := hA.2.1
  have m4 : ms (4 : Int32).toNatClampNeg = nI K := hM.2.2.2.2.1
  unfold fL_drop fX5_drop fX6_drop
  rw [m4, if_neg (show ¬ oob 4 253 by decide)]
  rcases rgN x K (by omega) with ⟨a, ha, rfl⟩ | ⟨-, e1, e2⟩
  · obtain ⟨ten', pha', r1, r2, r3⟩ := l_remove ten pha (a := a) (m := K - 1) (by omega) FU a ten pha (Nat.le_refl a) (by omega) (by rw [FU_eq]; omega) (fun i => by rw [if_neg (by omega)]) (fun i => by rw [if_neg (by omega)])
    obtain ⟨ms1, u1, u2⟩ := l_drop45 (upd ms 4 (nI (K - 1))) (a := a) (m := K - 1) (by omega) FU (2 * a) (upd ms 4 (nI (K - 1))) (Nat.le_refl _) (by omega) (by rw [FU_eq]; omega) (if_pos rfl) (fun q => by rw [if_neg (by omega)])
    have em : nI K - 1 = nI (K - 1) := by rw [lit_1, pk_sub (by omega)]
    have v4 : ms1 4 = nI (K - 1) := by rw [u2, if_neg (by omega)]; exact if_pos rfl
    refine ⟨0, ten', pha', nI (K - 1), nex', man', vp_updL f3 (0 : Int32).toNatClampNeg (nI (K - 1)).toInt64, rg', nI (K - 1), upd (upd ms1 (5 + 2 * (K - 1)) (nI 0)) (5 + 2 * (K - 1) + 1) (nI 0), mv', svm', ?_, ?_, fun _ => updL0 _ _, drop_rel hA hC hM ha r2 r3 ?_ (fun q h1 h2 => ?_) (fun q h1 => ?_), s3⟩
    · rw [show fX2_hasNumber kep (nI a) = some 1 by rw [hC.2.1]; exact number1 ha (by omega), Option.bind_some, if_neg (by decide), s1, Option.bind_some]
      show ((((fX2_removePeriod ten pha kep (nI a)).bind _)).bind _) = _
      unfold fX2_removePeriod
      rw [hC.2.1, em, r1]
      rfl
    · rw [inN1 ha (by omega), Option.bind_some, if_neg (by decide), s2, Option.bind_some]
      show (if oob 4 253 then none else if oob 4 253 then none else ((fX6_drop_L45 FU (2 * nI a) (upd ms 4 (nI K - 1))).bind _)) = _
      rw [if_neg (by decide), if_neg (by decide), em, show (2 * nI a) = nI (2 * a) by rw [show ((2 : Int32)) = nI 2 from rfl, pk_mul], u1, Option.bind_some]
      have w1' : upd ms1 (5 + 2 * (K - 1)) (nI 0) 4 = nI (K - 1) := by rw [upd_at, if_neg (by omega)]; exact v4
      have w2' : upd (upd ms1 (5 + 2 * (K - 1)) (nI 0)) (5 + 2 * (K - 1) + 1) (nI 0) 4 = nI (K - 1) := by rw [upd_at, if_neg (by omega)]; exact w1'
      simp (disch := omega) only [lit_0, lit_1, lit_2, lit_3, lit_4, lit_5, lit_6, lit_7, lit_8, lit_9, lit_10, lit_12, lit_13, lit_20, lit_31, lit_33, lit_35, lit_40, lit_41, lit_48, lit_50, lit_52, lit_57, lit_60, lit_63, lit_97, lit_100, lit_126, lit_160, lit_239, lit_240, lit_253, lit_400, lit_540, lit_600, lit_1000, lit_1265, lit_1518, NN_def, nI_add, pk_mul, nI_clamp, nI_leI, nI_ltI, nI_eq, nI_ne_NN, NN_ne_nI, NN_lt_nI, nI_le_NN, nI_lt_NN, NN_le_nI, oob, Option.bind_some, if_true, if_false, if_pos, if_neg, v4, w1', w2']
    · rw [upd_at, if_neg (by omega), upd_at, if_neg (by omega)]; exact v4
    · rw [upd_at, if_neg (by omega), upd_at, if_neg (by omega), u2]
      by_cases e : 5 + 2 * a ≤ q
      · rw [if_pos ⟨e, h1⟩, if_pos e, upd_at, if_neg (by omega)]
      · rw [if_neg (fun z => e z.1), if_neg e, upd_at, if_neg h2]
    · have : K - 1 ≤ 3 := by omega
      rw [upd_at, if_neg (by omega), upd_at, if_neg (by omega), u2, if_neg (by omega), upd_at, if_neg (by omega)]
  · refine ⟨1, ten, pha, kep, nex, man, f3, rg, 0, ms, mv, svm, ?_, ?_, fun z => absurd z (by decide), hR0, hH⟩
    · rw [hC.2.1, e1]
      rfl
    · rw [e2]
      rfl
end OS
