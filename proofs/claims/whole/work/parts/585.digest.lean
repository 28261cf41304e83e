/-! SHARE AND DIGEST -/
def hfo (f : Nat → Int64) (a : Nat) : Nat → Int64 → Int64
  | 0, h => h
  | n + 1, h => 31 * hfo f a n h + f (a + n)
theorem hfo_add (f : Nat → Int64) (a m : Nat) (h : Int64) : ∀ n, hfo f a (m + n) h = hfo f (a + m) n (hfo f a m h)
  | 0 => rfl
  | n + 1 => by rw [← Nat.add_assoc, hfo, hfo_add f a m h n, hfo, Nat.add_assoc]
section DG
variable {ms row ten pha : Nat → Int32} {len kep wfi wmo hun nex man : Int32} {rg : Nat → StV} {mv : Nat → Int32} {svm : Int32} {N K w0 w1 w2 : Nat} {r tn ph : Nat → Nat}
def shx (N K w0 w1 w2 : Nat) (r tn ph : Nat → Nat) : UInt64 := if wpl N w0 w1 = 0 then FP.dconst1 else shq (exW N K w0 w1 w2 r tn ph) (wpl N w0 w1)
theorem shx_ok (hA : AB N K w0 w1 w2 r tn ph) : (Op.cmpValue (FP.dcmp (shx N K w0 w1 w2 r tn ph) (shx N K w0 w1 w2 r tn ph)) CmpOp.l) = 0 ∧ fX5_bitsOf (shx N K w0 w1 w2 r tn ph) = some (shx N K w0 w1 w2 r tn ph).toInt64 := by
  unfold shx
  by_cases q : wpl N w0 w1 = 0
  · rw [if_pos q]
    exact ⟨by decide +kernel, by decide +kernel⟩
  · rw [if_neg q]
    exact (sh_ok (by omega) (AB_wpl hA) exW_le).2
theorem c_shareTold (hA : AB N K w0 w1 w2 r tn ph) (hC : CI row ten pha len kep wfi wmo hun N K w0 w1 w2 r tn ph) {tlr tsg : Nat → Int32} (hS : isTold tsg tlr N K w0 w1 w2 r tn ph 240) : fX5_shareTold row len wfi wmo tsg = some (shx N K w0 w1 w2 r tn ph) := by
  have hw := AB_wpl hA
  unfold fX5_shareTold shx
  rw [c_places hA hC, Option.bind_some]
  by_cases q : wpl N w0 w1 = 0
  · rw [if_pos q, if_neg (show ¬ (0 : Int32) < nI (wpl N w0 w1) by rw [q]; decide)]
  · rw [if_neg q, if_pos (show (0 : Int32) < nI (wpl N w0 w1) by rw [lit_0, nI_ltI (by omega) (by omega)]; omega), c_explained hA hC hS, Option.bind_some, if_neg (fun z => z (sh_ok (by omega) (AB_wpl hA) exW_le).1)]
    rfl
theorem e_shareNow (hA : AB N K w0 w1 w2 r tn ph) (hM : MI ms N K w0 w1 w2 r tn ph) (mc mg mt ml : Nat → Int32) : ∃ mc' mg' mt' ml', fX6_shareNow ms mc mg mt ml = some (shx N K w0 w1 w2 r tn ph, mc', mg', mt', ml') := by
  have hw := AB_wpl hA
  have a1 := AB_wst hA
  have hd : nI (wst w0 w1 + wpl N w0 w1) - nI (wst w0 w1) = nI (wpl N w0 w1) := by rw [pk_sub (by omega), Nat.add_sub_cancel_left]
  unfold fX6_shareNow shx
  rw [e_last6 hA hM, Option.bind_some, e_first6 hA hM, Option.bind_some, hd]
  by_cases q : wpl N w0 w1 = 0
  · refine ⟨mc, mg, mt, ml, ?_⟩
    rw [if_pos q, if_pos (show nI (wpl N w0 w1) = 0 by rw [q]; rfl)]
  · obtain ⟨a, b, c, d, e⟩ := e_over4 hA hM mc mg mt ml
    refine ⟨a, b, c, d, ?_⟩
    rw [if_neg q, if_neg (show ¬ nI (wpl N w0 w1) = 0 from fun z => q ((nI_eq (b := 0) (by omega) (by omega)).mp z)), e, Option.bind_some]
    show (if ¬ (shq (exW N K w0 w1 w2 r tn ph) (wpl N w0 w1) &&& 0x7fffffffffffffff ≤ 0x7ff0000000000000) then none else _) = _
    rw [if_neg (fun z => z (sh_ok (by omega) (AB_wpl hA) exW_le).1)]
    rfl
theorem op_share (cel str tlr tsg mc mg mt ml : Nat → Int32) (cls : Int32) (hR : RS row ten pha len kep wfi wmo hun ms) :
    ∃ x cel' cls' str' tlr' tsg' mc' mg' mt' ml', fX5_share row ten pha len kep wfi wmo hun cel cls str tlr tsg = some (x, cel', cls', str', tlr', tsg') ∧ fX6_share ms mc mg mt ml = some (x, 0, mc', mg', mt', ml') ∧ (Op.cmpValue (FP.dcmp x x) CmpOp.l) = 0 := by
  obtain ⟨N, K, w0, w1, w2, r, tn, ph, hA, hC, hM⟩ := hR
  obtain ⟨str', tlr', tsg', cel', cls', r1, r2⟩ := c_read hA hC str tlr tsg cel cls
  obtain ⟨mc', mg', mt', ml', s1⟩ := e_shareNow hA hM mc mg mt ml
  refine ⟨shx N K w0 w1 w2 r tn ph, cel', cls', str', tlr', tsg', mc', mg', mt', ml', ?_, ?_, (shx_ok hA).1⟩
  · unfold fX5_share
    rw [r1, Option.bind_some]
    show ((fX5_shareTold row len wfi wmo tsg').bind _) = _
    rw [c_shareTold hA hC r2]
    rfl
  · unfold fX6_share
    rw [s1]
    rfl
/-! the class's folds -/
theorem d_numbers (hA : AB N K w0 w1 w2 r tn ph) (hC : CI row ten pha len kep wfi wmo hun N K w0 w1 w2 r tn ph) {tlr tsg : Nat → Int32} (hS : isTold tsg tlr N K w0 w1 w2 r tn ph 240) (man : Int32) (h : Int64) : ∀ (n d : Nat), d ≤ 10 → 10 < n + d →
    fX5_withNumbers_L5 row len kep wfi wmo man tlr tsg n (hfo (fun m => (cnum N K w0 w1 w2 r tn ph man m).toInt64) 0 d h) (nI d) = some (hfo (fun m => (cnum N K w0 w1 w2 r tn ph man m).toInt64) 0 10 h)
  | 0, d, h1, h2 => absurd h2 (by omega)
  | n + 1, d, h1, h2 => by
    rw [fX5_withNumbers_L5]
    by_cases q : d = 10
    · subst q
      rw [if_pos (show (10 : Int32) ≤ nI 10 from Int32.le_refl _)]
    · have ih := d_numbers hA hC hS man h n (d + 1) (by omega) (by omega)
      rw [hfo, Nat.zero_add] at ih
      rw [if_neg (show ¬ (10 : Int32) ≤ nI d from fun z => by have := (nI_leI (a := 10) (by omega) (by omega)).mp z; omega), c_number hA hC hS man (by omega), Option.bind_some, lit_1, nI_add]
      exact ih
def sv (w0 w1 w2 m : Nat) : Nat := if m = 0 then w0 else if m = 1 then w1 else w2
theorem c_set (hC : CI row ten pha len kep wfi wmo hun N K w0 w1 w2 r tn ph) {m : Nat} (hm : m < 3) : fX2_settingAt wfi wmo hun (nI m) = some (nI (sv w0 w1 w2 m)) := by
  have h : m = 0 ∨ m = 1 ∨ m = 2 := by omega
  rw [e_settingAt wfi wmo hun hm]
  rcases h with rfl | rfl | rfl
  · exact congrArg some hC.2.2.1
  · exact congrArg some hC.2.2.2.1
  · exact congrArg some hC.2.2.2.2.1
theorem d_sets (hC : CI row ten pha len kep wfi wmo hun N K w0 w1 w2 r tn ph) (h : Int64) : ∀ (n d : Nat), d ≤ 3 → 3 < n + d →
    fX5_withNumbers_L33 wfi wmo hun n (hfo (fun m => (nI (sv w0 w1 w2 m)).toInt64) 0 d h) (nI d) = some (hfo (fun m => (nI (sv w0 w1 w2 m)).toInt64) 0 3 h)
  | 0, d, h1, h2 => absurd h2 (by omega)
  | n + 1, d, h1, h2 => by
    rw [fX5_withNumbers_L33]
    by_cases q : d = 3
    · subst q
      rw [if_pos (show (3 : Int32) ≤ nI 3 from Int32.le_refl _)]
    · have ih := d_sets hC h n (d + 1) (by omega) (by omega)
      rw [hfo, Nat.zero_add] at ih
      rw [if_neg (show ¬ (3 : Int32) ≤ nI d from fun z => by have := (nI_leI (a := 3) (by omega) (by omega)).mp z; omega), c_set hC (by omega), Option.bind_some, lit_1, nI_add]
      exact ih
theorem d_row (hA : AB N K w0 w1 w2 r tn ph) (hC : CI row ten pha len kep wfi wmo hun N K w0 w1 w2 r tn ph) (h : Int64) : ∀ (n d : Nat), d ≤ N → N < n + d →
    fX5_withRow_L5 row len n (hfo (fun i => (nI (r i)).toInt64) 0 d h) (nI d) = some (hfo (fun i => (nI (r i)).toInt64) 0 N h)
  | 0, d, h1, h2 => absurd h2 (by omega)
  | n + 1, d, h1, h2 => by
    have hN := hA.1
    rw [fX5_withRow_L5]
    by_cases q : d = N
    · subst q
      rw [if_pos (show len ≤ nI d by rw [hC.1]; exact Int32.le_refl _)]
    · have ih := d_row hA hC h n (d + 1) (by omega) (by omega)
      rw [hfo, Nat.zero_add] at ih
      rw [if_neg (show ¬ len ≤ nI d by rw [hC.1, nI_leI (by omega) (by omega)]; omega), c_signAt hA hC (by omega), Option.bind_some, lit_1, nI_add]
      exact ih
def fr (N w0 w1 : Nat) (r tn ph : Nat → Nat) (j : Nat) (v : Nat) : Int64 := (rnum r (tn j) (ph j) (wst w0 w1) (wpl N w0 w1) (v / 5) (v % 5)).toInt64
theorem d_counts41 (hA : AB N K w0 w1 w2 r tn ph) {j : Nat} (hj : j < K) {cel : Nat → Int32} (hk : isCnt cel r (tn j) (ph j) (wst w0 w1) (wpl N w0 w1)) {g : Nat} (hg : g < ncl (tn j)) (h : Int64) : ∀ (n d : Nat), d ≤ 5 → 5 < n + d →
    fX5_withCounts_L41 cel (nI g) n (hfo (fr N w0 w1 r tn ph j) (5 * g) d h) (nI d) = some (hfo (fr N w0 w1 r tn ph j) (5 * g) 5 h)
  | 0, d, h1, h2 => absurd h2 (by omega)
  | n + 1, d, h1, h2 => by
    have hc := ncl_le (AB_per hA hj).2.1
    rw [fX5_withCounts_L41]
    by_cases q : d = 5
    · subst q
      rw [if_pos (show (4 : Int32) < nI 5 by decide)]
    · have ih := d_counts41 hA hj hk hg h n (d + 1) (by omega) (by omega)
      rw [hfo] at ih
      have e : fr N w0 w1 r tn ph j (5 * g + d) = (rnum r (tn j) (ph j) (wst w0 w1) (wpl N w0 w1) g d).toInt64 := by
        unfold fr
        rw [show (5 * g + d) / 5 = g by omega, show (5 * g + d) % 5 = d by omega]
      rw [e] at ih
      rw [if_neg (show ¬ (4 : Int32) < nI d from fun z => by have := (nI_ltI (a := 4) (by omega) (by omega)).mp z; omega), c_lookedAt hk (AB_wpl hA) (by omega) (by omega), Option.bind_some, lit_1, nI_add]
      exact ih
theorem d_counts31 (hA : AB N K w0 w1 w2 r tn ph) {j : Nat} (hj : j < K) {cel : Nat → Int32} (hk : isCnt cel r (tn j) (ph j) (wst w0 w1) (wpl N w0 w1)) (h : Int64) : ∀ (n g : Nat), g ≤ ncl (tn j) → ncl (tn j) < n + g →
    fX5_withCounts_L31 cel (nI (ncl (tn j))) n (hfo (fr N w0 w1 r tn ph j) 0 (5 * g) h) (nI g) = some (hfo (fr N w0 w1 r tn ph j) 0 (5 * ncl (tn j)) h)
  | 0, g, h1, h2 => absurd h2 (by omega)
  | n + 1, g, h1, h2 => by
    have hc := ncl_le (AB_per hA hj).2.1
    rw [fX5_withCounts_L31]
    by_cases q : g = ncl (tn j)
    · subst q
      rw [if_pos (Int32.le_refl _)]
    · have ih := d_counts31 hA hj hk h n (g + 1) (by omega) (by omega)
      rw [show 5 * (g + 1) = 5 * g + 5 by omega, hfo_add, Nat.zero_add] at ih
      have d5 := d_counts41 hA hj hk (show g < ncl (tn j) by omega) (hfo (fr N w0 w1 r tn ph j) 0 (5 * g) h) FU 0 (by omega) (by rw [FU_eq]; omega)
      rw [if_neg (by rw [nI_leI (by omega) (by omega)]; omega), lit_0, show fX5_withCounts_L41 cel (nI g) FU (hfo (fr N w0 w1 r tn ph j) 0 (5 * g) h) (nI 0) = _ from d5, Option.bind_some, lit_1, nI_add]
      exact ih
theorem d_withCounts (hA : AB N K w0 w1 w2 r tn ph) (hC : CI row ten pha len kep wfi wmo hun N K w0 w1 w2 r tn ph) (cel : Nat → Int32) {j : Nat} (hj : j < K) (h : Int64) :
    ∃ cel' cls', fX5_withCounts row ten pha len wfi wmo cel h (nI j) = some (hfo (fr N w0 w1 r tn ph j) 0 (5 * ncl (tn j)) h, cel', cls') := by
  obtain ⟨t1, t2, t3⟩ := AB_per hA hj
  have hc := ncl_le t2
  obtain ⟨cel', k1, k2⟩ := c_takeKept hA hC cel hj
  have d := d_counts31 hA hj k2 h FU 0 (by omega) (by rw [FU_eq]; omega)
  refine ⟨cel', nI (ncl (tn j)), ?_⟩
  unfold fX5_withCounts
  rw [k1, Option.bind_some]
  show ((fX2_tenthsAt ten (nI j)).bind _) = _
  rw [c_tenths hA hC hj, Option.bind_some, e_classesOf t2, Option.bind_some, lit_0]
  show ((fX5_withCounts_L31 cel' (nI (ncl (tn j))) FU h (nI 0)).bind _) = _
  rw [show fX5_withCounts_L31 cel' (nI (ncl (tn j))) FU h (nI 0) = _ from d]
  rfl
/-- a period's part of the sum -/
def hper (N K w0 w1 w2 : Nat) (r tn ph : Nat → Nat) (j : Nat) (h : Int64) : Int64 := hfo (fr N w0 w1 r tn ph j) 0 (5 * ncl (tn j)) (hfo (fun m => (pnum N K w0 w1 w2 r tn ph j m).toInt64) 0 7 h)
def hpers (N K w0 w1 w2 : Nat) (r tn ph : Nat → Nat) : Nat → Int64 → Int64
  | 0, h => h
  | j + 1, h => hper N K w0 w1 w2 r tn ph j (hpers N K w0 w1 w2 r tn ph j h)
theorem d_per20 (hA : AB N K w0 w1 w2 r tn ph) (hC : CI row ten pha len kep wfi wmo hun N K w0 w1 w2 r tn ph) {tlr tsg : Nat → Int32} (hS : isTold tsg tlr N K w0 w1 w2 r tn ph 240) {j : Nat} (hj : j < K) (h : Int64) : ∀ (n d : Nat) (cel : Nat → Int32) (cls : Int32), d ≤ 7 → 7 < n + d →
    ∃ cel' cls', fX5_withPeriods_L20 row ten pha len wfi wmo hun tlr (nI j) n (hfo (fun m => (pnum N K w0 w1 w2 r tn ph j m).toInt64) 0 d h) (nI d) cel cls = some (hfo (fun m => (pnum N K w0 w1 w2 r tn ph j m).toInt64) 0 7 h, cel', cls')
  | 0, d, cel, cls, h1, h2 => absurd h2 (by omega)
  | n + 1, d, cel, cls, h1, h2 => by
    rw [fX5_withPeriods_L20]
    by_cases q : d = 7
    · subst q
      rw [if_pos (show (7 : Int32) ≤ nI 7 from Int32.le_refl _)]
      exact ⟨cel, cls, rfl⟩
    · obtain ⟨cel', cls', p1⟩ := c_periodNumber hA hC hS cel cls hj (show d < 7 by omega)
      have ih := d_per20 hA hC hS hj h n (d + 1) cel' cls' (by omega) (by omega)
      rw [hfo, Nat.zero_add] at ih
      rw [if_neg (show ¬ (7 : Int32) ≤ nI d from fun z => by have := (nI_leI (a := 7) (by omega) (by omega)).mp z; omega), p1, Option.bind_some, lit_1, nI_add]
      exact ih
theorem d_pers (hA : AB N K w0 w1 w2 r tn ph) (hC : CI row ten pha len kep wfi wmo hun N K w0 w1 w2 r tn ph) {tlr tsg : Nat → Int32} (hS : isTold tsg tlr N K w0 w1 w2 r tn ph 240) (h : Int64) : ∀ (n j : Nat) (cel : Nat → Int32) (cls : Int32), j ≤ K → K < n + j →
    ∃ cel' cls', fX5_withPeriods_L5 row ten pha len kep wfi wmo hun tlr n (hpers N K w0 w1 w2 r tn ph j h) (nI j) cel cls = some (hpers N K w0 w1 w2 r tn ph K h, cel', cls')
  | 0, j, cel, cls, h1, h2 => absurd h2 (by omega)
  | n + 1, j, cel, cls, h1, h2 => by
    have hK := hA.2.1
    rw [fX5_withPeriods_L5]
    by_cases q : j = K
    · subst q
      rw [if_pos (show kep ≤ nI j by rw [hC.2.1]; exact Int32.le_refl _)]
      exact ⟨cel, cls, rfl⟩
    · obtain ⟨cel1, cls1, p1⟩ := d_per20 hA hC hS (show j < K by omega) (hpers N K w0 w1 w2 r tn ph j h) FU 0 cel cls (by omega) (by rw [FU_eq]; omega)
      obtain ⟨cel2, cls2, p2⟩ := d_withCounts hA hC cel1 (show j < K by omega) (hfo (fun m => (pnum N K w0 w1 w2 r tn ph j m).toInt64) 0 7 (hpers N K w0 w1 w2 r tn ph j h))
      have ih := d_pers hA hC hS h n (j + 1) cel2 cls2 (by omega) (by omega)
      rw [hpers] at ih
      rw [if_neg (show ¬ kep ≤ nI j by rw [hC.2.1, nI_leI (by omega) (by omega)]; omega), lit_0]
      rw [show fX5_withPeriods_L20 row ten pha len wfi wmo hun tlr (nI j) FU (hpers N K w0 w1 w2 r tn ph j h) (nI 0) cel cls = _ from p1, Option.bind_some]
      show ∃ cel' cls', ((fX5_withCounts row ten pha len wfi wmo cel1 _ (nI j)).bind _) = _
      rw [p2, Option.bind_some, lit_1, nI_add]
      exact ih
/-- what is told of the first twenty places -/
def htl (N K w0 w1 w2 : Nat) (r tn ph : Nat → Nat) : Nat → Int64 → Int64
  | 0, h => h
  | i + 1, h => 31 * (31 * htl N K w0 w1 w2 r tn ph i h + (tos N K w0 w1 w2 r tn ph i).toInt64) + (tel N K w0 w1 w2 r tn ph i).toInt64
theorem d_told (hA : AB N K w0 w1 w2 r tn ph) (hC : CI row ten pha len kep wfi wmo hun N K w0 w1 w2 r tn ph) {tlr tsg : Nat → Int32} (hS : isTold tsg tlr N K w0 w1 w2 r tn ph 240) (h : Int64) : ∀ (n i : Nat), i ≤ min 20 N → min 20 N < n + i →
    fX5_withTold_L5 row len tlr tsg n (htl N K w0 w1 w2 r tn ph i h) (nI i) = some (htl N K w0 w1 w2 r tn ph (min 20 N) h)
  | 0, i, h1, h2 => absurd h2 (by omega)
  | n + 1, i, h1, h2 => by
    have hN := hA.1
    rw [fX5_withTold_L5]
    by_cases q : i = min 20 N
    · by_cases z : 20 ≤ i
      · rw [if_pos (show (20 : Int32) ≤ nI i from (nI_leI (a := 20) (by omega) (by omega)).mpr z), q]
      · rw [if_neg (show ¬ (20 : Int32) ≤ nI i from fun y => z ((nI_leI (a := 20) (by omega) (by omega)).mp y)), if_pos (show len ≤ nI i by rw [hC.1, nI_leI (by omega) (by omega)]; omega), q]
    · have ih := d_told hA hC hS h n (i + 1) (by omega) (by omega)
      rw [htl] at ih
      rw [if_neg (show ¬ (20 : Int32) ≤ nI i from fun y => by have := (nI_leI (a := 20) (by omega) (by omega)).mp y; omega), if_neg (show ¬ len ≤ nI i by rw [hC.1, nI_leI (by omega) (by omega)]; omega)]
      rw [show fX5_toldNumber row len tlr tsg (nI i) 0 = some (tos N K w0 w1 w2 r tn ph i) from c_toldNumber hA hC hS (m := 0) (by omega) (by omega), Option.bind_some]
      rw [show fX5_toldNumber row len tlr tsg (nI i) 1 = some (tel N K w0 w1 w2 r tn ph i) from c_toldNumber hA hC hS (m := 1) (by omega) (by omega)]
      show fX5_withTold_L5 row len tlr tsg n (31 * (31 * htl N K w0 w1 w2 r tn ph i h + (tos N K w0 w1 w2 r tn ph i).toInt64) + (tel N K w0 w1 w2 r tn ph i).toInt64) (nI i + 1) = _
      rw [lit_1, nI_add]
      exact ih
end DG
