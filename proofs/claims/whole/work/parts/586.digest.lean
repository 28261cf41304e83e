/-! DIGEST: THE REFERENCE'S FOLDS; BOTH IN ONE -/
section DM
variable {ms row ten pha : Nat → Int32} {len kep wfi wmo hun nex man : Int32} {rg : Nat → StV} {mv : Nat → Int32} {svm : Int32} {N K w0 w1 w2 : Nat} {r tn ph : Nat → Nat}
theorem g_numbers (hA : AB N K w0 w1 w2 r tn ph) (hM : MI ms N K w0 w1 w2 r tn ph) (svm : Int32) (h : Int64) : ∀ (n d : Nat) (mc mg mt ml : Nat → Int32), d ≤ 10 → 10 < n + d →
    ∃ mc' mg' mt' ml', fX6_digest_L14 ms svm n (nI d) mc mg mt ml (hfo (fun m => (cnum N K w0 w1 w2 r tn ph svm m).toInt64) 0 d h) = some (mc', mg', mt', ml', hfo (fun m => (cnum N K w0 w1 w2 r tn ph svm m).toInt64) 0 10 h)
  | 0, d, mc, mg, mt, ml, h1, h2 => absurd h2 (by omega)
  | n + 1, d, mc, mg, mt, ml, h1, h2 => by
    rw [fX6_digest_L14]
    by_cases q : d = 10
    · subst q
      rw [if_pos (show (10 : Int32) ≤ nI 10 from Int32.le_refl _)]
      exact ⟨mc, mg, mt, ml, rfl⟩
    · obtain ⟨mc1, mg1, mt1, ml1, e⟩ := e_tellsCount hA hM svm mc mg mt ml (show d < 10 by omega)
      have ih := g_numbers hA hM svm h n (d + 1) mc1 mg1 mt1 ml1 (by omega) (by omega)
      rw [hfo, Nat.zero_add] at ih
      rw [if_neg (show ¬ (10 : Int32) ≤ nI d from fun z => by have := (nI_leI (a := 10) (by omega) (by omega)).mp z; omega), e, Option.bind_some, lit_1, nI_add]
      exact ih
theorem m_set (hM : MI ms N K w0 w1 w2 r tn ph) {m : Nat} (hm : m < 3) : ms (1 + m) = nI (sv w0 w1 w2 m) := by
  have h : m = 0 ∨ m = 1 ∨ m = 2 := by omega
  rcases h with rfl | rfl | rfl
  · exact hM.2.1
  · exact hM.2.2.1
  · exact hM.2.2.2.1
theorem g_sets (hM : MI ms N K w0 w1 w2 r tn ph) (h : Int64) : ∀ (n d : Nat), d ≤ 3 → 3 < n + d →
    fX6_digest_L38 ms n (nI d) (hfo (fun m => (nI (sv w0 w1 w2 m)).toInt64) 0 d h) = some (hfo (fun m => (nI (sv w0 w1 w2 m)).toInt64) 0 3 h)
  | 0, d, h1, h2 => absurd h2 (by omega)
  | n + 1, d, h1, h2 => by
    rw [fX6_digest_L38]
    by_cases q : d = 3
    · subst q
      rw [if_pos (show (3 : Int32) ≤ nI 3 from Int32.le_refl _)]
    · have ih := g_sets hM h n (d + 1) (by omega) (by omega)
      rw [hfo, Nat.zero_add] at ih
      have c1 : ((1 : Int32) + nI d).toNatClampNeg = 1 + d := by rw [lit_1, nI_add, nI_clamp (by omega)]
      have o1 : ¬ oob ((1 : Int32) + nI d) 253 := by rw [lit_1, nI_add]; exact oob_no (by omega) (by omega)
      rw [if_neg (show ¬ (3 : Int32) ≤ nI d from fun z => by have := (nI_leI (a := 3) (by omega) (by omega)).mp z; omega), if_neg o1, c1, m_set hM (by omega), lit_1, nI_add]
      exact ih
theorem g_row (hA : AB N K w0 w1 w2 r tn ph) (hM : MI ms N K w0 w1 w2 r tn ph) (h : Int64) : ∀ (n d : Nat), d ≤ N → N < n + d →
    fX6_digest_L64 ms n (nI d) (hfo (fun i => (nI (r i)).toInt64) 0 d h) = some (hfo (fun i => (nI (r i)).toInt64) 0 N h)
  | 0, d, h1, h2 => absurd h2 (by omega)
  | n + 1, d, h1, h2 => by
    have hN := hA.1
    have m0 : ms (0 : Int32).toNatClampNeg = nI N := hM.1
    rw [fX6_digest_L64, if_neg (show ¬ oob 0 253 by decide), m0]
    by_cases q : d = N
    · subst q
      rw [if_pos (Int32.le_refl _)]
    · have ih := g_row hA hM h n (d + 1) (by omega) (by omega)
      rw [hfo, Nat.zero_add] at ih
      have c1 : ((13 : Int32) + nI d).toNatClampNeg = 13 + d := by rw [show ((13 : Int32)) = nI 13 from rfl, nI_add, nI_clamp (by omega)]
      have o1 : ¬ oob ((13 : Int32) + nI d) 253 := by rw [show ((13 : Int32)) = nI 13 from rfl, nI_add]; exact oob_no (by omega) (by omega)
      rw [if_neg (show ¬ nI N ≤ nI d by rw [nI_leI (by omega) (by omega)]; omega), if_neg o1, c1, hM.2.2.2.2.2.2 d (by omega), lit_1, nI_add]
      exact ih
theorem g_per14 (hA : AB N K w0 w1 w2 r tn ph) (hM : MI ms N K w0 w1 w2 r tn ph) {j : Nat} (hj : j < K) (h : Int64) : ∀ (n d : Nat) (mc mg mt ml : Nat → Int32), d ≤ 7 → 7 < n + d →
    ∃ mc' mg' mt' ml', fX6_hashesPeriods_L14 ms (nI j) n (nI d) mc mg mt ml (hfo (fun m => (pnum N K w0 w1 w2 r tn ph j m).toInt64) 0 d h) = some (mc', mg', mt', ml', hfo (fun m => (pnum N K w0 w1 w2 r tn ph j m).toInt64) 0 7 h)
  | 0, d, mc, mg, mt, ml, h1, h2 => absurd h2 (by omega)
  | n + 1, d, mc, mg, mt, ml, h1, h2 => by
    rw [fX6_hashesPeriods_L14]
    by_cases q : d = 7
    · subst q
      rw [if_pos (show (7 : Int32) ≤ nI 7 from Int32.le_refl _)]
      exact ⟨mc, mg, mt, ml, rfl⟩
    · obtain ⟨mc1, mg1, mt1, ml1, e⟩ := e_tellsPeriod hA hM mc mg mt ml hj (show d < 7 by omega)
      have ih := g_per14 hA hM hj h n (d + 1) mc1 mg1 mt1 ml1 (by omega) (by omega)
      rw [hfo, Nat.zero_add] at ih
      rw [if_neg (show ¬ (7 : Int32) ≤ nI d from fun z => by have := (nI_leI (a := 7) (by omega) (by omega)).mp z; omega), e, Option.bind_some, lit_1, nI_add]
      exact ih
theorem g_per39 (hA : AB N K w0 w1 w2 r tn ph) (hM : MI ms N K w0 w1 w2 r tn ph) {j : Nat} (hj : j < K) (h : Int64) : ∀ (n v : Nat) (mc : Nat → Int32), v ≤ 5 * ncl (tn j) → 5 * ncl (tn j) < n + v →
    ∃ mc', fX6_hashesPeriods_L39 ms (nI j) n (nI v) mc (hfo (fr N w0 w1 r tn ph j) 0 v h) = some (mc', hfo (fr N w0 w1 r tn ph j) 0 (5 * ncl (tn j)) h)
  | 0, v, mc, h1, h2 => absurd h2 (by omega)
  | n + 1, v, mc, h1, h2 => by
    obtain ⟨t1, t2, t3⟩ := AB_per hA hj
    have hc := ncl_le t2
    rw [fX6_hashesPeriods_L39, e_tenthsOf hA hM hj, Option.bind_some, e_classesOf6 t2, Option.bind_some, show (tn j + 9) / 10 = ncl (tn j) from rfl, show ((5 : Int32)) = nI 5 from rfl, pk_mul]
    by_cases q : v = 5 * ncl (tn j)
    · subst q
      rw [if_pos (Int32.le_refl _)]
      exact ⟨mc, rfl⟩
    · obtain ⟨mc1, e⟩ := e_tellsRemainder hA hM mc hj (g := v / 5) (m := v % 5) (by omega) (by omega)
      have ih := g_per39 hA hM hj h n (v + 1) mc1 (by omega) (by omega)
      rw [hfo, Nat.zero_add] at ih
      rw [if_neg (by rw [nI_leI (by omega) (by omega)]; omega), pk_rem (by omega) (by omega) (by omega), pk_div (by omega) (by omega) (by omega), e, Option.bind_some, lit_1, nI_add]
      exact ih
theorem g_pers (hA : AB N K w0 w1 w2 r tn ph) (hM : MI ms N K w0 w1 w2 r tn ph) (h : Int64) : ∀ (n j : Nat) (mc mg mt ml : Nat → Int32), j ≤ K → K < n + j →
    ∃ mc' mg' mt' ml', fX6_hashesPeriods_L2 ms n (nI j) mc mg mt ml (hpers N K w0 w1 w2 r tn ph j h) = some (mc', mg', mt', ml', hpers N K w0 w1 w2 r tn ph K h)
  | 0, j, mc, mg, mt, ml, h1, h2 => absurd h2 (by omega)
  | n + 1, j, mc, mg, mt, ml, h1, h2 => by
    have hK := hA.2.1
    have m4 : ms (4 : Int32).toNatClampNeg = nI K := hM.2.2.2.2.1
    rw [fX6_hashesPeriods_L2, if_neg (show ¬ oob 4 253 by decide), m4]
    by_cases q : j = K
    · subst q
      rw [if_pos (Int32.le_refl _)]
      exact ⟨mc, mg, mt, ml, rfl⟩
    · have hc := ncl_le (AB_per hA (show j < K by omega)).2.1
      obtain ⟨mc1, mg1, mt1, ml1, e1⟩ := g_per14 hA hM (show j < K by omega) (hpers N K w0 w1 w2 r tn ph j h) FU 0 mc mg mt ml (by omega) (by rw [FU_eq]; omega)
      obtain ⟨mc2, e2⟩ := g_per39 hA hM (show j < K by omega) (hfo (fun m => (pnum N K w0 w1 w2 r tn ph j m).toInt64) 0 7 (hpers N K w0 w1 w2 r tn ph j h)) FU 0 mc1 (by omega) (by rw [FU_eq]; omega)
      have ih := g_pers hA hM h n (j + 1) mc2 mg1 mt1 ml1 (by omega) (by omega)
      rw [hpers] at ih
      rw [if_neg (show ¬ nI K ≤ nI j by rw [nI_leI (by omega) (by omega)]; omega), lit_0]
      rw [show fX6_hashesPeriods_L14 ms (nI j) FU (nI 0) mc mg mt ml (hpers N K w0 w1 w2 r tn ph j h) = _ from e1, Option.bind_some]
      show ∃ mc' mg' mt' ml', ((fX6_hashesPeriods_L39 ms (nI j) FU (nI 0) mc1 _).bind _) = _
      rw [show fX6_hashesPeriods_L39 ms (nI j) FU (nI 0) mc1 (hfo (fun m => (pnum N K w0 w1 w2 r tn ph j m).toInt64) 0 7 (hpers N K w0 w1 w2 r tn ph j h)) = _ from e2, Option.bind_some, lit_1, nI_add]
      exact ih
theorem g_told (hA : AB N K w0 w1 w2 r tn ph) (hM : MI ms N K w0 w1 w2 r tn ph) (h : Int64) : ∀ (n i : Nat) (mc mg mt ml : Nat → Int32), i ≤ min 20 N → min 20 N < n + i →
    ∃ mc' mg' mt' ml', fX6_digest_L100 ms n (nI i) mc mg mt ml (htl N K w0 w1 w2 r tn ph i h) = some (mc', mg', mt', ml', htl N K w0 w1 w2 r tn ph (min 20 N) h)
  | 0, i, mc, mg, mt, ml, h1, h2 => absurd h2 (by omega)
  | n + 1, i, mc, mg, mt, ml, h1, h2 => by
    have hN := hA.1
    have m0 : ms (0 : Int32).toNatClampNeg = nI N := hM.1
    rw [fX6_digest_L100, if_neg (show ¬ oob 0 253 by decide), m0]
    by_cases q : i = min 20 N
    · by_cases z : N ≤ i
      · rw [if_pos (nI_le z (by omega)), q]
        exact ⟨mc, mg, mt, ml, rfl⟩
      · rw [if_neg (show ¬ nI N ≤ nI i by rw [nI_leI (by omega) (by omega)]; omega), if_pos (show (20 : Int32) ≤ nI i from (nI_leI (a := 20) (by omega) (by omega)).mpr (by omega)), q]
        exact ⟨mc, mg, mt, ml, rfl⟩
    · obtain ⟨mc1, mg1, mt1, ml1, e1⟩ := e_tellsPlace hA hM mc mg mt ml (i := i) (m := 0) (by omega) (by omega)
      obtain ⟨mc2, mg2, mt2, ml2, e2⟩ := e_tellsPlace hA hM mc1 mg1 mt1 ml1 (i := i) (m := 1) (by omega) (by omega)
      have ih := g_told hA hM h n (i + 1) mc2 mg2 mt2 ml2 (by omega) (by omega)
      rw [htl] at ih
      rw [if_neg (show ¬ nI N ≤ nI i by rw [nI_leI (by omega) (by omega)]; omega), if_neg (show ¬ (20 : Int32) ≤ nI i from fun y => by have := (nI_leI (a := 20) (by omega) (by omega)).mp y; omega)]
      rw [show fX6_tellsPlace ms mc mg mt ml (nI i) 0 = _ from e1, Option.bind_some]
      show ∃ mc' mg' mt' ml', ((fX6_tellsPlace ms mc1 mg1 mt1 ml1 (nI i) 1).bind _) = _
      rw [show fX6_tellsPlace ms mc1 mg1 mt1 ml1 (nI i) 1 = _ from e2, Option.bind_some]
      show ∃ mc' mg' mt' ml', fX6_digest_L100 ms n (nI i + 1) mc2 mg2 mt2 ml2 (31 * (31 * htl N K w0 w1 w2 r tn ph i h + (tos N K w0 w1 w2 r tn ph i).toInt64) + (tel N K w0 w1 w2 r tn ph i).toInt64) = _
      rw [lit_1, nI_add]
      exact ih
theorem d_text {cod mb : Nat → Int32} {T : Nat} {c : Nat → Nat} (hT : T ≤ 60) (hc : ∀ i, i < T → 33 ≤ c i ∧ c i ≤ 126 ∧ cod i = nI (c i) ∧ mb i = nI (c i)) (h : Int64) : ∀ (n d : Nat), d ≤ T → T < n + d →
    fX5_withText_L16 cod (nI T) n (hfo (fun i => (nI (c i)).toInt64) 0 d h) (nI d) = some (hfo (fun i => (nI (c i)).toInt64) 0 T h) ∧ fX6_digest_L203 mb (nI T) n (nI d) (hfo (fun i => (nI (c i)).toInt64) 0 d h) = some (hfo (fun i => (nI (c i)).toInt64) 0 T h)
  | 0, d, h1, h2 => absurd h2 (by omega)
  | n + 1, d, h1, h2 => by
    rw [fX5_withText_L16, fX6_digest_L203]
    by_cases q : d = T
    · subst q
      rw [if_pos (Int32.le_refl _), if_pos (Int32.le_refl _)]
      exact ⟨rfl, rfl⟩
    · have ih := d_text hT hc h n (d + 1) (by omega) (by omega)
      rw [hfo, Nat.zero_add] at ih
      have hn : ¬ nI T ≤ nI d := by rw [nI_leI (by omega) (by omega)]; omega
      rw [if_neg hn, if_neg hn, c_code hT hc (by omega), Option.bind_some, if_neg (oob_no (show d < 60 by omega) (by omega)), nI_clamp (by omega), (hc d (by omega)).2.2.2, lit_1, nI_add]
      exact ih
theorem g_bits {x : UInt64} (h : (Op.cmpValue (FP.dcmp x x) CmpOp.l) = 0) : fJxe99ae_doubleToLongBits_ccdee x = some x.toInt64 := by
  unfold fJxe99ae_doubleToLongBits_ccdee fJxe99ae_isNaN_b9ae7
  rw [if_pos h]
  rfl
theorem w5 (a b : Int64) : fX5_with a b = some (31 * a + b) := rfl
theorem w6 (a b : Int64) : fX6_hashes a b = some (31 * a + b) := rfl
theorem op_digest {cod mb : Nat → Int32} {tln mln : Int32} (cel str tlr tsg mc mg mt ml : Nat → Int32) (cls : Int32) (hR : RS row ten pha len kep wfi wmo hun ms) (hH : HI nex man rg mv svm) (hT : TX cod tln mb mln) :
    ∃ x cel' cls' str' tlr' tsg' mc' mg' mt' ml', fX5_digest row ten pha len kep wfi wmo hun man cod tln cel cls str tlr tsg = some (x, cel', cls', str', tlr', tsg') ∧ fX6_digest ms svm mb mln mc mg mt ml = some (x, 0, mc', mg', mt', ml', x) := by
  obtain ⟨N, K, w0, w1, w2, r, tn, ph, hA, hC, hM⟩ := hR
  obtain ⟨X, M, -, -, -, rfl, rfl, -⟩ := hH
  obtain ⟨T, c, hT60, rfl, rfl, hc⟩ := hT
  have hN := hA.1
  have hK := hA.2.1
  obtain ⟨str', tlr', tsg', cel1, cls1, r1, r2⟩ := c_read hA hC str tlr tsg cel cls
  have n1 := d_numbers hA hC r2 (nI M) 2953 FU 0 (by omega) (by rw [FU_eq]; omega)
  have n2 := d_sets hC (hfo (fun m => (cnum N K w0 w1 w2 r tn ph (nI M) m).toInt64) 0 10 2953) FU 0 (by omega) (by rw [FU_eq]; omega)
  generalize hv1 : hfo (fun m => (nI (sv w0 w1 w2 m)).toInt64) 0 3 (hfo (fun m => (cnum N K w0 w1 w2 r tn ph (nI M) m).toInt64) 0 10 2953) = v1 at n2
  have n3 := d_row hA hC v1 FU 0 (by omega) (by rw [FU_eq]; omega)
  generalize hv2 : hfo (fun i => (nI (r i)).toInt64) 0 N v1 = v2 at n3
  rw [hfo] at n3
  obtain ⟨cel2, cls2, n4⟩ := d_pers hA hC r2 v2 FU 0 cel1 cls1 (by omega) (by rw [FU_eq]; omega)
  generalize hv3 : hpers N K w0 w1 w2 r tn ph K v2 = v3 at n4
  have n5 := d_told hA hC r2 v3 FU 0 (by omega) (by rw [FU_eq]; omega)
  generalize hv4 : htl N K w0 w1 w2 r tn ph (min 20 N) v3 = v4 at n5
  obtain ⟨cel3, cls3, n6⟩ := c_bestTenths hA hC cel2 cls2 (a := 20) (e := 60) (by omega) (by omega) (by omega)
  obtain ⟨cel4, cls4, n7⟩ := c_bestPhase hA hC cel3 cls3 (t := 35) (by omega) (by omega)
  obtain ⟨cel5, cls5, n8⟩ := c_bestWindow hA hC cel4 cls4 (t := 40) (m := 12) (by omega) (by omega) (by omega)
  have n9 := c_shareTold hA hC r2
  obtain ⟨x1, x2⟩ := shx_ok hA
  generalize hv5 : 31 * (31 * (31 * (31 * (31 * v4 + (bestT N w0 w1 r 20 60).toInt64) + (bestP N w0 w1 r 35).toInt64) + (bestW N r 40 12).toInt64) + (shx N K w0 w1 w2 r tn ph).toInt64) + (nI T).toInt64 = v5
  obtain ⟨t1, t2⟩ := d_text hT60 hc v5 FU 0 (by omega) (by rw [FU_eq]; omega)
  obtain ⟨mc1, mg1, mt1, ml1, g1⟩ := g_numbers hA hM (nI M) 2953 FU 0 mc mg mt ml (by omega) (by rw [FU_eq]; omega)
  have g2 := g_sets hM (hfo (fun m => (cnum N K w0 w1 w2 r tn ph (nI M) m).toInt64) 0 10 2953) FU 0 (by omega) (by rw [FU_eq]; omega)
  rw [hv1] at g2
  have g3 := g_row hA hM v1 FU 0 (by omega) (by rw [FU_eq]; omega)
  rw [hv2, hfo] at g3
  obtain ⟨mc2, mg2, mt2, ml2, g4⟩ := g_pers hA hM v2 FU 0 mc1 mg1 mt1 ml1 (by omega) (by rw [FU_eq]; omega)
  rw [hv3] at g4
  obtain ⟨mc3, mg3, mt3, ml3, g5⟩ := g_told hA hM v3 FU 0 mc2 mg2 mt2 ml2 (by omega) (by rw [FU_eq]; omega)
  rw [hv4] at g5
  obtain ⟨mc4, g6⟩ := e_bestOf hA hM mc3 (a := 20) (e := 60) (by omega) (by omega) (by omega)
  obtain ⟨mc5, g7⟩ := e_phaseFor hA hM mc4 (t := 35) (by omega) (by omega)
  obtain ⟨mc6, g8⟩ := e_windowFor hA hM mc5 (t := 40) (m := 12) (by omega) (by omega) (by omega)
  obtain ⟨mc7, mg7, mt7, ml7, g9⟩ := e_shareNow hA hM mc6 mg3 mt3 ml3
  refine ⟨hfo (fun i => (nI (c i)).toInt64) 0 T v5, cel5, cls5, str', tlr', tsg', mc7, mg7, mt7, ml7, ?_, ?_⟩
  · have q1 : fX5_withNumbers row len kep wfi wmo hun (nI M) tlr' tsg' 2953 = some v1 := by
      unfold fX5_withNumbers
      rw [show fX5_withNumbers_L5 row len kep wfi wmo (nI M) tlr' tsg' FU 2953 0 = _ from n1, Option.bind_some, show fX5_withNumbers_L33 wfi wmo hun FU (hfo (fun m => (cnum N K w0 w1 w2 r tn ph (nI M) m).toInt64) 0 10 2953) 0 = _ from n2]
      rfl
    have q2 : fX5_withRow row len v1 = some v2 := by
      unfold fX5_withRow
      rw [lit_0, n3, Option.bind_some]
    have q3 : fX5_withPeriods row ten pha len kep wfi wmo hun cel1 cls1 tlr' v2 = some (v3, cel2, cls2) := by
      unfold fX5_withPeriods
      rw [show fX5_withPeriods_L5 row ten pha len kep wfi wmo hun tlr' FU v2 0 cel1 cls1 = _ from n4]
      rfl
    have q4 : fX5_withTold row len tlr' tsg' v3 = some v4 := by
      unfold fX5_withTold
      rw [show fX5_withTold_L5 row len tlr' tsg' FU v3 0 = _ from n5]
      rfl
    have q5 : fX5_best row len wfi wmo cel2 cls2 20 60 = some (0, bestT N w0 w1 r 20 60, cel3, cls3) := by
      unfold fX5_best
      rw [show fX5_isTenthsRange 20 60 = some 1 by decide +kernel, Option.bind_some, if_neg (by decide), show fX5_bestTenths row len wfi wmo cel2 cls2 20 60 = _ from n6]
      rfl
    have q6 : fX5_bestPhase row len wfi wmo cel3 cls3 35 = some (0, bestP N w0 w1 r 35, cel4, cls4) := by
      unfold fX5_bestPhase
      rw [show fX5_isTenths 35 = some 1 by decide +kernel, Option.bind_some, if_neg (by decide), show fX5_bestPhase_L24 row len wfi wmo 35 FU 0 (-1) 0 cel3 cls3 = _ from n7]
      rfl
    have q7 : fX5_bestWindow row len cel4 cls4 40 12 = some (0, bestW N r 40 12, cel5, cls5) := by
      unfold fX5_bestWindow
      rw [show fX5_isTenths 40 = some 1 by decide +kernel, Option.bind_some, if_neg (by decide), show fX5_isWithin 12 1 240 = some 1 by decide +kernel, Option.bind_some, if_neg (by decide), show fX5_bestWindow_L47 row len 40 12 (len - 12) FU (-1) (-1) 0 cel4 cls4 = _ from n8]
      rfl
    have q8 : fX5_withText cod (nI T) (31 * (31 * (31 * (31 * v4 + (bestT N w0 w1 r 20 60).toInt64) + (bestP N w0 w1 r 35).toInt64) + (bestW N r 40 12).toInt64) + (shx N K w0 w1 w2 r tn ph).toInt64) = some (hfo (fun i => (nI (c i)).toInt64) 0 T v5) := by
      unfold fX5_withText
      rw [w5, Option.bind_some, hv5, show fX5_withText_L16 cod (nI T) FU v5 0 = _ from t1]
      rfl
    unfold fX5_digest
    rw [r1, Option.bind_some]
    dsimp only
    rw [q1, Option.bind_some, q2, Option.bind_some, q3, Option.bind_some]
    dsimp only
    rw [q4, Option.bind_some, q5, Option.bind_some]
    dsimp only
    rw [if_neg (show ¬ ¬ (0 : Nat) = 0 by decide), w5, Option.bind_some, q6, Option.bind_some]
    dsimp only
    rw [if_neg (show ¬ ¬ (0 : Nat) = 0 by decide), w5, Option.bind_some, q7, Option.bind_some]
    dsimp only
    rw [if_neg (show ¬ ¬ (0 : Nat) = 0 by decide), w5, Option.bind_some, n9, Option.bind_some, x2, Option.bind_some, w5, Option.bind_some, q8, Option.bind_some]
  · unfold fX6_digest
    rw [show fX6_digest_L14 ms (nI M) FU 0 mc mg mt ml 2953 = _ from g1, Option.bind_some]
    dsimp only
    rw [show fX6_digest_L38 ms FU 0 (hfo (fun m => (cnum N K w0 w1 w2 r tn ph (nI M) m).toInt64) 0 10 2953) = _ from g2, Option.bind_some, lit_0, g3, Option.bind_some, ← lit_0]
    unfold fX6_hashesPeriods
    rw [show fX6_hashesPeriods_L2 ms FU 0 mc1 mg1 mt1 ml1 v2 = _ from g4, Option.bind_some]
    dsimp only
    rw [Option.bind_some]
    dsimp only
    rw [show fX6_digest_L100 ms FU 0 mc2 mg2 mt2 ml2 v3 = _ from g5, Option.bind_some]
    dsimp only
    rw [show fX6_bestOf ms mc3 20 60 = _ from g6, Option.bind_some]
    dsimp only
    rw [w6, Option.bind_some, show fX6_phaseFor ms mc4 35 = _ from g7, Option.bind_some]
    dsimp only
    rw [w6, Option.bind_some, show fX6_windowFor ms mc5 40 12 = _ from g8, Option.bind_some]
    dsimp only
    rw [w6, Option.bind_some, g9, Option.bind_some]
    dsimp only
    rw [g_bits x1, Option.bind_some, w6, Option.bind_some, w6, Option.bind_some, hv5, show fX6_digest_L203 mb (nI T) FU 0 v5 = _ from t2, Option.bind_some]
end DM
