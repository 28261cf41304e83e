/-! SET, KEEP, FIND, DROP, GROW -/
section OR
variable {ms row ten pha : Nat → Int32} {len kep wfi wmo hun nex man : Int32} {rg : Nat → StV} {mv : Nat → Int32} {svm : Int32} {N K w0 w1 w2 : Nat} {r tn ph : Nat → Nat}
theorem set0 (hA : AB N K w0 w1 w2 r tn ph) (hC : CI row ten pha len kep wfi wmo hun N K w0 w1 w2 r tn ph) (hM : MI ms N K w0 w1 w2 r tn ph) {v : Nat} (hv : v ≤ 239) : RS row ten pha len kep (nI v) wmo hun (upd ms 1 (nI v)) := by
  obtain ⟨a1, a2, a3, a4, a5, a6, a7, a8⟩ := hA
  obtain ⟨h1, h2, h3, h4, h5, h6, h7⟩ := hC
  obtain ⟨m0, m1, m2, m3, m4, m5, m6⟩ := hM
  exact ⟨N, K, v, w1, w2, r, tn, ph, ⟨a1, a2, hv, a4, a5, a6, a7, a8⟩, ⟨h1, h2, rfl, h4, h5, h6, h7⟩, ⟨(if_neg (by decide)).trans m0, if_pos rfl, (if_neg (by decide)).trans m2, (if_neg (by decide)).trans m3, (if_neg (by decide)).trans m4, fun i hi => by rw [upd_at, upd_at, if_neg (by omega), if_neg (by omega)]; exact m5 i hi, fun i hi => by rw [upd_at, if_neg (by omega)]; exact m6 i hi⟩⟩
theorem set1 (hA : AB N K w0 w1 w2 r tn ph) (hC : CI row ten pha len kep wfi wmo hun N K w0 w1 w2 r tn ph) (hM : MI ms N K w0 w1 w2 r tn ph) {v : Nat} (hv : v ≤ 240) : RS row ten pha len kep wfi (nI v) hun (upd ms 2 (nI v)) := by
  obtain ⟨a1, a2, a3, a4, a5, a6, a7, a8⟩ := hA
  obtain ⟨h1, h2, h3, h4, h5, h6, h7⟩ := hC
  obtain ⟨m0, m1, m2, m3, m4, m5, m6⟩ := hM
  exact ⟨N, K, w0, v, w2, r, tn, ph, ⟨a1, a2, a3, hv, a5, a6, a7, a8⟩, ⟨h1, h2, h3, rfl, h5, h6, h7⟩, ⟨(if_neg (by decide)).trans m0, (if_neg (by decide)).trans m1, if_pos rfl, (if_neg (by decide)).trans m3, (if_neg (by decide)).trans m4, fun i hi => by rw [upd_at, upd_at, if_neg (by omega), if_neg (by omega)]; exact m5 i hi, fun i hi => by rw [upd_at, if_neg (by omega)]; exact m6 i hi⟩⟩
theorem set2 (hA : AB N K w0 w1 w2 r tn ph) (hC : CI row ten pha len kep wfi wmo hun N K w0 w1 w2 r tn ph) (hM : MI ms N K w0 w1 w2 r tn ph) {v : Nat} (hv0 : 1 ≤ v) (hv : v ≤ 100) : RS row ten pha len kep wfi wmo (nI v) (upd ms 3 (nI v)) := by
  obtain ⟨a1, a2, a3, a4, a5, a6, a7, a8⟩ := hA
  obtain ⟨h1, h2, h3, h4, h5, h6, h7⟩ := hC
  obtain ⟨m0, m1, m2, m3, m4, m5, m6⟩ := hM
  exact ⟨N, K, w0, w1, v, r, tn, ph, ⟨a1, a2, a3, a4, hv0, hv, a7, a8⟩, ⟨h1, h2, h3, h4, rfl, h6, h7⟩, ⟨(if_neg (by decide)).trans m0, (if_neg (by decide)).trans m1, (if_neg (by decide)).trans m2, if_pos rfl, (if_neg (by decide)).trans m4, fun i hi => by rw [upd_at, upd_at, if_neg (by omega), if_neg (by omega)]; exact m5 i hi, fun i hi => by rw [upd_at, if_neg (by omega)]; exact m6 i hi⟩⟩
/-- the three settings, by their numbers -/
def stg (a b c : Int32) (k : Nat) : Int32 := if k = 0 then a else if k = 1 then b else c
def st0c (a v : Int32) (k : Nat) : Int32 := if k = 0 then v else a
def st1c (a v : Int32) (k : Nat) : Int32 := if k = 1 then v else a
def st2c (a v : Int32) (k : Nat) : Int32 := if k = 2 then v else a
theorem e_settingAt (a b c : Int32) {k : Nat} (hk : k < 3) : fX2_settingAt a b c (nI k) = some (stg a b c k) := by
  have h : k = 0 ∨ k = 1 ∨ k = 2 := by omega
  rcases h with rfl | rfl | rfl
  · exact e_set0 a b c
  · exact e_set1 a b c
  · exact e_set2 a b c
theorem e_changeSetting (a b c v : Int32) {k : Nat} (hk : k < 3) : fX2_changeSetting a b c (nI k) v = some (st0c a v k, st1c b v k, st2c c v k) := by
  have h : k = 0 ∨ k = 1 ∨ k = 2 := by omega
  unfold fX2_changeSetting
  rcases h with rfl | rfl | rfl
  · rw [if_pos (show nI 0 = 0 from rfl)]
    rfl
  · rw [if_neg (show ¬ nI 1 = 0 by decide), if_pos (show nI 1 = 1 from rfl)]
    rfl
  · rw [if_neg (show ¬ nI 2 = 0 by decide), if_neg (show ¬ nI 2 = 1 by decide)]
    rfl
/-- a setting's place, and the values that it may have -/
theorem rgVal {k : Nat} (hk : k < 3) (y : Int32) (hA : AB N K w0 w1 w2 r tn ph) (hC : CI row ten pha len kep wfi wmo hun N K w0 w1 w2 r tn ph) (hM : MI ms N K w0 w1 w2 r tn ph) :
    (∃ v, y = nI v ∧ fX5_isValueOf (nI k) y = some 1 ∧ (if nI k = 0 then (fX6_in y 0 239).bind fun x9 => some x9 else if nI k = 1 then (fX6_in y 0 240).bind fun x8 => some x8 else (fX6_in y 1 100).bind fun x7 => some x7 : Option Int32) = some 1 ∧ RS row ten pha len kep (st0c wfi (nI v) k) (st1c wmo (nI v) k) (st2c hun (nI v) k) (upd ms (1 + k) (nI v)) ∧ stg wfi wmo hun k = ms (1 + k)) ∨
    (fX5_isValueOf (nI k) y = some 0 ∧ (if nI k = 0 then (fX6_in y 0 239).bind fun x9 => some x9 else if nI k = 1 then (fX6_in y 0 240).bind fun x8 => some x8 else (fX6_in y 1 100).bind fun x7 => some x7 : Option Int32) = some 0) := by
  have h : k = 0 ∨ k = 1 ∨ k = 2 := by omega
  unfold fX5_isValueOf
  rcases h with rfl | rfl | rfl
  · rw [if_pos (show nI 0 = 0 from rfl), if_pos (show nI 0 = 0 from rfl)]
    rcases rg5 y 0 239 (by omega) (by omega) with ⟨v, h1, h2, rfl⟩ | ⟨e1, e2⟩
    · refine Or.inl ⟨v, rfl, ?_, ?_, set0 hA hC hM h2, hC.2.2.1.trans hM.2.1.symm⟩
      · rw [show fX5_isWithin (nI v) 0 239 = some 1 from within1 (b := 0) (c := 239) h1 h2 (by omega)]
        rfl
      · rw [show fX6_in (nI v) 0 239 = some 1 from in1 (b := 0) (c := 239) h1 h2 (by omega)]
        rfl
    · refine Or.inr ⟨?_, ?_⟩
      · rw [show fX5_isWithin y 0 239 = some 0 from e1]
        rfl
      · rw [show fX6_in y 0 239 = some 0 from e2]
        rfl
  · rw [if_neg (show ¬ nI 1 = 0 by decide), if_pos (show nI 1 = 1 from rfl), if_neg (show ¬ nI 1 = 0 by decide), if_pos (show nI 1 = 1 from rfl)]
    rcases rg5 y 0 240 (by omega) (by omega) with ⟨v, h1, h2, rfl⟩ | ⟨e1, e2⟩
    · refine Or.inl ⟨v, rfl, ?_, ?_, set1 hA hC hM h2, hC.2.2.2.1.trans hM.2.2.1.symm⟩
      · rw [show fX5_isWithin (nI v) 0 240 = some 1 from within1 (b := 0) (c := 240) h1 h2 (by omega)]
        rfl
      · rw [show fX6_in (nI v) 0 240 = some 1 from in1 (b := 0) (c := 240) h1 h2 (by omega)]
        rfl
    · refine Or.inr ⟨?_, ?_⟩
      · rw [show fX5_isWithin y 0 240 = some 0 from e1]
        rfl
      · rw [show fX6_in y 0 240 = some 0 from e2]
        rfl
  · rw [if_neg (show ¬ nI 2 = 0 by decide), if_neg (show ¬ nI 2 = 1 by decide), if_neg (show ¬ nI 2 = 0 by decide), if_neg (show ¬ nI 2 = 1 by decide)]
    rcases rg5 y 1 100 (by omega) (by omega) with ⟨v, h1, h2, rfl⟩ | ⟨e1, e2⟩
    · refine Or.inl ⟨v, rfl, ?_, ?_, set2 hA hC hM h1 h2, hC.2.2.2.2.1.trans hM.2.2.2.1.symm⟩
      · rw [show fX5_isWithin (nI v) 1 100 = some 1 from within1 (b := 1) (c := 100) h1 h2 (by omega)]
        rfl
      · rw [show fX6_in (nI v) 1 100 = some 1 from in1 (b := 1) (c := 100) h1 h2 (by omega)]
        rfl
    · refine Or.inr ⟨?_, ?_⟩
      · rw [show fX5_isWithin y 1 100 = some 0 from e1]
        rfl
      · rw [show fX6_in y 1 100 = some 0 from e2]
        rfl
theorem op_set (f4 : Nat → Int64) (x y : Int32) (hR : RS row ten pha len kep wfi wmo hun ms) (hH : HI nex man rg mv svm) :
    ∃ k wfi' wmo' hun' nex' man' f4' rg' ans ms' mv' svm', fL_set row ten pha len kep wfi wmo hun nex man f4 rg x y = some (k, wfi', wmo', hun', nex', man', f4', rg') ∧ fX6_set ms mv svm x y = some (ans, k, ms', mv', svm') ∧ (k = 0 → f4' 0 = ans.toInt64) ∧ RS row ten pha len kep wfi' wmo' hun' ms' ∧ HI nex' man' rg' mv' svm' := by
  have hR0 := hR
  obtain ⟨N, K, w0, w1, w2, r, tn, ph, hA, hC, hM⟩ := hR
  obtain ⟨nex', man', rg', mv', svm', s1, s2, s3⟩ := HI_save hR0 hH
  unfold fL_set fX5_set fX6_set
  rcases rg5 x 0 2 (by omega) (by omega) with ⟨p, hp0, hp, rfl⟩ | ⟨e1, e2⟩
  · rw [show fX5_isWithin (nI p) 0 2 = some 1 from within1 (b := 0) (c := 2) hp0 hp (by omega), show fX6_in (nI p) 0 2 = some 1 from in1 (b := 0) (c := 2) hp0 hp (by omega)]
    have c1 : ((1 : Int32) + nI p).toNatClampNeg = 1 + p := by rw [show ((1 : Int32)) = nI 1 from rfl, nI_add, nI_clamp (by omega)]
    have o1 : ¬ oob ((1 : Int32) + nI p) 253 := by rw [show ((1 : Int32)) = nI 1 from rfl, nI_add]; exact oob_no (by omega) (by omega)
    rcases rgVal (show p < 3 by omega) y hA hC hM with ⟨v, rfl, v1, v2, v3, v4⟩ | ⟨v1, v2⟩
    · refine ⟨0, st0c wfi (nI v) p, st1c wmo (nI v) p, st2c hun (nI v) p, nex', man', vp_updL f4 (0 : Int32).toNatClampNeg (stg wfi wmo hun p).toInt64, rg', stg wfi wmo hun p, upd ms (1 + p) (nI v), mv', svm', ?_, ?_, fun _ => updL0 _ _, v3, s3⟩
      · rw [Option.bind_some, if_neg (by decide), v1, Option.bind_some, if_neg (by decide), s1, Option.bind_some]
        show ((((fX2_settingAt wfi wmo hun (nI p)).bind _)).bind _) = _
        rw [e_settingAt wfi wmo hun (show p < 3 by omega), Option.bind_some, e_changeSetting wfi wmo hun (nI v) (show p < 3 by omega)]
        rfl
      · rw [Option.bind_some, if_neg (by decide), v2, Option.bind_some, if_neg (by decide), s2, Option.bind_some]
        show (if oob (1 + nI p) 253 then none else if oob (1 + nI p) 253 then none else _) = _
        rw [if_neg o1, if_neg o1, c1, v4]
    · refine ⟨2, wfi, wmo, hun, nex, man, f4, rg, 0, ms, mv, svm, ?_, ?_, fun z => absurd z (by decide), hR0, hH⟩
      · rw [v1]
        rfl
      · rw [Option.bind_some, if_neg (by decide), v2]
        rfl
  · refine ⟨1, wfi, wmo, hun, nex, man, f4, rg, 0, ms, mv, svm, ?_, ?_, fun z => absurd z (by decide), hR0, hH⟩
    · rw [show fX5_isWithin x 0 2 = some 0 from e1]
      rfl
    · rw [show fX6_in x 0 2 = some 0 from e2]
      rfl
theorem op_setting (f3 : Nat → Int64) (x : Int32) (hR : RS row ten pha len kep wfi wmo hun ms) :
    ∃ k f3' ans, fL_setting wfi wmo hun f3 x = some (k, f3') ∧ fX6_setting ms x = some (ans, k) ∧ (k = 0 → f3' 0 = ans.toInt64) := by
  obtain ⟨N, K, w0, w1, w2, r, tn, ph, hA, hC, hM⟩ := hR
  unfold fL_setting fX5_setting fX6_setting
  rcases rg5 x 0 2 (by omega) (by omega) with ⟨p, hp0, hp, rfl⟩ | ⟨e1, e2⟩
  · have c1 : ((1 : Int32) + nI p).toNatClampNeg = 1 + p := by rw [show ((1 : Int32)) = nI 1 from rfl, nI_add, nI_clamp (by omega)]
    have o1 : ¬ oob ((1 : Int32) + nI p) 253 := by rw [show ((1 : Int32)) = nI 1 from rfl, nI_add]; exact oob_no (by omega) (by omega)
    have e : stg wfi wmo hun p = ms (1 + p) := by
      have h : p = 0 ∨ p = 1 ∨ p = 2 := by omega
      rcases h with rfl | rfl | rfl
      · exact hC.2.2.1.trans hM.2.1.symm
      · exact hC.2.2.2.1.trans hM.2.2.1.symm
      · exact hC.2.2.2.2.1.trans hM.2.2.2.1.symm
    rw [show fX5_isWithin (nI p) 0 2 = some 1 from within1 (b := 0) (c := 2) hp0 hp (by omega), show fX6_in (nI p) 0 2 = some 1 from in1 (b := 0) (c := 2) hp0 hp (by omega)]
    refine ⟨0, vp_updL f3 (0 : Int32).toNatClampNeg (stg wfi wmo hun p).toInt64, stg wfi wmo hun p, ?_, ?_, fun _ => updL0 _ _⟩
    · rw [Option.bind_some, if_neg (by decide), e_settingAt wfi wmo hun (show p < 3 by omega)]
      rfl
    · rw [Option.bind_some, if_neg (by decide), if_neg o1, c1, e]
  · refine ⟨1, f3, 0, ?_, ?_, fun z => absurd z (by decide)⟩
    · rw [show fX5_isWithin x 0 2 = some 0 from e1]
      rfl
    · rw [show fX6_in x 0 2 = some 0 from e2]
      rfl
/-! a period more -/
def hasp (tn ph : Nat → Nat) (t p : Nat) : Nat → Nat
  | 0 => 0
  | k + 1 => if hasp tn ph t p k = 0 then (if tn k = t ∧ ph k = p then 1 else 0) else 1
theorem hasp_le (tn ph : Nat → Nat) (t p : Nat) : ∀ k, hasp tn ph t p k ≤ 1
  | 0 => Nat.zero_le 1
  | k + 1 => by rw [hasp]; split <;> (try split) <;> omega
theorem hasp_up (tn ph : Nat → Nat) (t p k : Nat) (h : hasp tn ph t p k = 1) : ∀ d, hasp tn ph t p (k + d) = 1
  | 0 => h
  | d + 1 => by rw [← Nat.add_assoc, hasp, hasp_up tn ph t p k h d, if_neg (by omega)]
theorem l_has (hA : AB N K w0 w1 w2 r tn ph) (hC : CI row ten pha len kep wfi wmo hun N K w0 w1 w2 r tn ph) {t p : Nat} (ht : t ≤ 400) (hp : p ≤ 400) : ∀ (n k : Nat), k ≤ K → K < n + k → hasp tn ph t p k = 0 → fX2_hasPeriod_L2 ten pha kep (nI t) (nI p) n (nI k) = some (nI (hasp tn ph t p K))
  | 0, k, h1, h2, _ => absurd h2 (by omega)
  | n + 1, k, h1, h2, h3 => by
    have hK := hA.2.1
    rw [fX2_hasPeriod_L2, hC.2.1]
    by_cases q : k = K
    · subst q
      rw [if_pos (Int32.le_refl _), h3]
      rfl
    · obtain ⟨t1, t2, t3⟩ := AB_per hA (show k < K by omega)
      have ih := l_has hA hC ht hp n (k + 1) (by omega) (by omega)
      rw [if_neg (by rw [nI_leI (by omega) (by omega)]; omega), c_tenths hA hC (by omega), Option.bind_some, c_phase hA hC (by omega), Option.bind_some, lit_1, nI_add]
      rw [hasp, h3, if_pos rfl, hC.2.1] at ih
      by_cases e1 : tn k = t
      · rw [if_pos (by rw [e1])]
        by_cases e2 : ph k = p
        · have hh : hasp tn ph t p (k + 1) = 1 := by rw [hasp, h3, if_pos rfl, if_pos ⟨e1, e2⟩]
          have := hasp_up tn ph t p (k + 1) hh (K - (k + 1))
          rw [show k + 1 + (K - (k + 1)) = K by omega] at this
          rw [if_pos (by rw [e2]), this]
        · rw [if_neg (fun z => e2 ((nI_eq (by omega) (by omega)).mp z))]
          rw [if_neg (fun z => e2 z.2)] at ih
          exact ih rfl
      · rw [if_neg (fun z => e1 ((nI_eq (by omega) (by omega)).mp z))]
        rw [if_neg (fun z => e1 z.1)] at ih
        exact ih rfl
theorem c_canKeep (hA : AB N K w0 w1 w2 r tn ph) (hC : CI row ten pha len kep wfi wmo hun N K w0 w1 w2 r tn ph) {t p : Nat} (ht : t ≤ 400) (hp : p ≤ 400) : fX5_canKeep ten pha kep (nI t) (nI p) = some (if K = 4 ∨ hasp tn ph t p K = 1 then 0 else 1) := by
  have hK := hA.2.1
  have hl := hasp_le tn ph t p K
  have h := l_has hA hC ht hp FU 0 (by omega) (by rw [FU_eq]; omega) rfl
  unfold fX5_canKeep fX2_hasPeriod
  rw [lit_0, h]
  by_cases q : K = 4
  · rw [if_pos (show (4 : Int32) ≤ kep by rw [hC.2.1, q]; exact Int32.le_refl _), if_pos (Or.inl q)]
  · rw [if_neg (show ¬ (4 : Int32) ≤ kep by rw [hC.2.1, show (4 : Int32) = nI 4 from rfl, nI_leI (by omega) (by omega)]; omega), Option.bind_some]
    by_cases e : hasp tn ph t p K = 1
    · rw [if_pos (show K = 4 ∨ hasp tn ph t p K = 1 from Or.inr e), e]
      rfl
    · rw [if_neg (show ¬ (K = 4 ∨ hasp tn ph t p K = 1) from fun z => z.elim q e), show hasp tn ph t p K = 0 by omega]
      rfl
theorem l_isKept (hA : AB N K w0 w1 w2 r tn ph) (hM : MI ms N K w0 w1 w2 r tn ph) {t p : Nat} (ht : t ≤ 400) (hp : p ≤ 400) : ∀ (n k : Nat), k ≤ K → K < n + k → fX6_isKept_L5 ms (nI t) (nI p) n (nI (hasp tn ph t p k)) (nI k) = some (nI (hasp tn ph t p K))
  | 0, k, h1, h2 => absurd h2 (by omega)
  | n + 1, k, h1, h2 => by
    have hK := hA.2.1
    have m4 : ms (4 : Int32).toNatClampNeg = nI K := hM.2.2.2.2.1
    have hl := hasp_le tn ph t p k
    rw [fX6_isKept_L5, if_neg (show ¬ oob 4 253 by decide), m4]
    by_cases q : k = K
    · subst q
      rw [if_pos (Int32.le_refl _)]
    · obtain ⟨t1, t2, t3⟩ := AB_per hA (show k < K by omega)
      have ih := l_isKept hA hM ht hp n (k + 1) (by omega) (by omega)
      rw [if_neg (by rw [nI_leI (by omega) (by omega)]; omega), e_tenthsOf hA hM (by omega), Option.bind_some, e_phaseOf hA hM (by omega), Option.bind_some, lit_1, nI_add]
      rw [hasp] at ih
      by_cases z : hasp tn ph t p k = 0
      · rw [z, if_pos rfl] at ih
        rw [z, if_pos (show nI 0 = 0 from rfl)]
        by_cases e1 : tn k = t
        · rw [if_pos (by rw [e1])]
          by_cases e2 : ph k = p
          · rw [if_pos ⟨e1, e2⟩] at ih
            rw [if_pos (by rw [e2])]
            exact ih
          · rw [if_neg (fun z => e2 ((nI_eq (by omega) (by omega)).mp z))]
            rw [if_neg (fun z => e2 z.2)] at ih
            exact ih
        · rw [if_neg (fun z => e1 ((nI_eq (by omega) (by omega)).mp z))]
          rw [if_neg (fun z => e1 z.1)] at ih
          exact ih
      · rw [if_neg z] at ih
        rw [show hasp tn ph t p k = 1 by omega, if_neg (show ¬ nI 1 = 0 by decide)]
        exact ih
theorem e_isKept (hA : AB N K w0 w1 w2 r tn ph) (hM : MI ms N K w0 w1 w2 r tn ph) {t p : Nat} (ht : t ≤ 400) (hp : p ≤ 400) : fX6_isKept ms (nI t) (nI p) = some (nI (hasp tn ph t p K)) := by
  have hK := hA.2.1
  have hl := hasp_le tn ph t p K
  have h := l_isKept hA hM ht hp FU 0 (by omega) (by rw [FU_eq]; omega)
  unfold fX6_isKept
  rw [lit_0, show fX6_isKept_L5 ms (nI t) (nI p) FU (nI 0) (nI 0) = _ from h, Option.bind_some]
  have e : hasp tn ph t p K = 0 ∨ hasp tn ph t p K = 1 := by omega
  rcases e with e | e <;> rw [e] <;> rfl
theorem add_per (hA : AB N K w0 w1 w2 r tn ph) (hC : CI row ten pha len kep wfi wmo hun N K w0 w1 w2 r tn ph) (hM : MI ms N K w0 w1 w2 r tn ph) {t p : Nat} (h1 : 10 ≤ t) (h2 : t ≤ 400) (h3 : p < t) (hK : K < 4) :
    fX2_addPeriod ten pha kep (nI t) (nI p) = some (upd ten K (nI t), upd pha K (nI p), nI (K + 1)) ∧ fX6_keeps ms (nI t) (nI p) = some (nI K, upd (upd (upd ms (5 + 2 * K) (nI t)) (5 + 2 * K + 1) (nI p)) 4 (nI (K + 1))) ∧
    RS row (upd ten K (nI t)) (upd pha K (nI p)) len (nI (K + 1)) wfi wmo hun (upd (upd (upd ms (5 + 2 * K) (nI t)) (5 + 2 * K + 1) (nI p)) 4 (nI (K + 1))) := by
  obtain ⟨a1, a2, a3, a4, a5, a6, a7, a8⟩ := hA
  obtain ⟨c1, c2, c3, c4, c5, c6, c7⟩ := hC
  obtain ⟨m0, m1, m2, m3, m4, m5, m6⟩ := hM
  refine ⟨?_, ?_, N, K + 1, w0, w1, w2, r, (fun i => if i = K then t else tn i), (fun i => if i = K then p else ph i), ⟨a1, by omega, a3, a4, a5, a6, a7, fun i hi => ?_⟩, ⟨c1, rfl, c3, c4, c5, c6, fun i hi => ?_⟩, ?_⟩
  · unfold fX2_addPeriod
    rw [c2, e_lay hK (by omega), Option.bind_some, e_lay hK (by omega), Option.bind_some, lit_1, nI_add]
  · have u1 : upd ms (5 + 2 * K) (nI t) 4 = nI K := by rw [upd_at, if_neg (by omega)]; exact m4
    have u2 : upd (upd ms (5 + 2 * K) (nI t)) (5 + 2 * K + 1) (nI p) 4 = nI K := by rw [upd_at, if_neg (by omega)]; exact u1
    have u3 : upd (upd (upd ms (5 + 2 * K) (nI t)) (5 + 2 * K + 1) (nI p)) 4 (nI (K + 1)) 4 = nI (K + 1) := if_pos rfl
    unfold fX6_keeps
    simp (disch := omega) only [lit_0, lit_1, lit_2, lit_3, lit_4, lit_5, lit_6, lit_7, lit_8, lit_9, lit_10, lit_12, lit_13, lit_20, lit_31, lit_33, lit_35, lit_40, lit_41, lit_48, lit_50, lit_52, lit_57, lit_60, lit_63, lit_97, lit_100, lit_126, lit_160, lit_239, lit_240, lit_253, lit_400, lit_540, lit_600, lit_1000, lit_1265, lit_1518, NN_def, nI_add, pk_mul, nI_clamp, nI_leI, nI_ltI, nI_eq, nI_ne_NN, NN_ne_nI, NN_lt_nI, nI_le_NN, nI_lt_NN, NN_le_nI, oob, Option.bind_some, if_true, if_false, if_pos, if_neg, m4, u1, u2, u3]
    rw [pk_sub (by omega)]
    rfl
  · show 10 ≤ (if i = K then t else tn i) ∧ (if i = K then t else tn i) ≤ 400 ∧ (if i = K then p else ph i) < (if i = K then t else tn i)
    by_cases e : i = K
    · rw [if_pos e, if_pos e]; exact ⟨h1, h2, h3⟩
    · rw [if_neg e, if_neg e]; exact a8 i (by omega)
  · show upd ten K (nI t) i = nI (if i = K then t else tn i) ∧ upd pha K (nI p) i = nI (if i = K then p else ph i)
    rw [upd_at, upd_at]
    by_cases e : i = K
    · rw [if_pos e, if_pos e, if_pos e, if_pos e]; exact ⟨rfl, rfl⟩
    · rw [if_neg e, if_neg e, if_neg e, if_neg e]; exact c7 i (by omega)
  · refine ⟨?_, ?_, ?_, ?_, if_pos rfl, fun i hi => ?_, fun i hi => ?_⟩
    · rw [upd_at, upd_at, upd_at, if_neg (by omega), if_neg (by omega), if_neg (by omega)]; exact m0
    · rw [upd_at, upd_at, upd_at, if_neg (by omega), if_neg (by omega), if_neg (by omega)]; exact m1
    · rw [upd_at, upd_at, upd_at, if_neg (by omega), if_neg (by omega), if_neg (by omega)]; exact m2
    · rw [upd_at, upd_at, upd_at, if_neg (by omega), if_neg (by omega), if_neg (by omega)]; exact m3
    · show upd (upd (upd ms (5 + 2 * K) (nI t)) (5 + 2 * K + 1) (nI p)) 4 (nI (K + 1)) (5 + 2 * i) = nI (if i = K then t else tn i) ∧ upd (upd (upd ms (5 + 2 * K) (nI t)) (5 + 2 * K + 1) (nI p)) 4 (nI (K + 1)) (5 + 2 * i + 1) = nI (if i = K then p else ph i)
      rw [upd_at, upd_at, upd_at, if_neg (show ¬ 5 + 2 * i = 4 by omega), if_neg (show ¬ 5 + 2 * i = 5 + 2 * K + 1 by omega)]
      rw [upd_at, upd_at, upd_at, if_neg (show ¬ 5 + 2 * i + 1 = 4 by omega)]
      by_cases e : i = K
      · rw [if_pos e, if_pos e, if_pos (by omega), if_pos (by omega)]; exact ⟨rfl, rfl⟩
      · rw [if_neg e, if_neg e, if_neg (by omega), if_neg (by omega), if_neg (by omega)]; exact m5 i (by omega)
    · rw [upd_at, upd_at, upd_at, if_neg (by omega), if_neg (by omega), if_neg (by omega)]; exact m6 i hi
end OR
