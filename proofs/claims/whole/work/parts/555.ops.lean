/-! CHANGE, CUT, SET, UNDO, AND THE QUESTIONS ABOUT PERIODS -/
theorem tenths1 {t : Nat} (h1 : 10 ≤ t) (h2 : t ≤ 400) : fX5_isTenths (nI t) = some 1 ∧ fX6_in (nI t) 10 400 = some 1 := by
  have a : fX5_isWithin (nI t) 10 400 = some 1 := within1 (b := 10) (c := 400) h1 h2 (by omega)
  have b : fX6_in (nI t) 10 400 = some 1 := in1 (b := 10) (c := 400) h1 h2 (by omega)
  refine ⟨?_, b⟩
  unfold fX5_isTenths
  rw [a]
  rfl
theorem rgTen (x : Int32) : (∃ t, 10 ≤ t ∧ t ≤ 400 ∧ x = nI t) ∨ (fX5_isTenths x = some 0 ∧ fX6_in x 10 400 = some 0) := by
  rcases rg5 x 10 400 (by omega) (by omega) with h | ⟨e1, e2⟩
  · exact Or.inl h
  · refine Or.inr ⟨?_, e2⟩
    unfold fX5_isTenths
    rw [show fX5_isWithin x 10 400 = some 0 from e1]
    rfl
theorem per1 {t p : Nat} (h1 : 10 ≤ t) (h2 : t ≤ 400) (hp : p < t) : fX5_isPeriod (nI t) (nI p) = some 1 ∧ fX6_isPeriod (nI t) (nI p) = some 1 := by
  obtain ⟨a, b⟩ := tenths1 h1 h2
  have c : fX5_isWithin (nI p) 0 (nI (t - 1)) = some 1 := within1 (b := 0) (Nat.zero_le p) (by omega) (by omega)
  have d : fX6_in (nI p) 0 (nI (t - 1)) = some 1 := in1 (b := 0) (Nat.zero_le p) (by omega) (by omega)
  unfold fX5_isPeriod fX6_isPeriod
  rw [a, b, lit_1, pk_sub (by omega), Option.bind_some, Option.bind_some, c, d]
  exact ⟨rfl, rfl⟩
theorem rgPer (x y : Int32) : (∃ t p, 10 ≤ t ∧ t ≤ 400 ∧ p < t ∧ x = nI t ∧ y = nI p) ∨ (fX5_isPeriod x y = some 0 ∧ fX6_isPeriod x y = some 0) := by
  rcases rgTen x with ⟨t, h1, h2, rfl⟩ | ⟨e1, e2⟩
  · obtain ⟨a, b⟩ := tenths1 h1 h2
    rcases rg5 y 0 (t - 1) (by omega) (by omega) with ⟨p, -, hp, rfl⟩ | ⟨e1, e2⟩
    · exact Or.inl ⟨t, p, h1, h2, by omega, rfl, rfl⟩
    · have e1' : fX5_isWithin y 0 (nI (t - 1)) = some 0 := e1
      have e2' : fX6_in y 0 (nI (t - 1)) = some 0 := e2
      refine Or.inr ?_
      unfold fX5_isPeriod fX6_isPeriod
      rw [a, b, lit_1, pk_sub (by omega), Option.bind_some, Option.bind_some, e1', e2']
      exact ⟨rfl, rfl⟩
  · refine Or.inr ?_
    unfold fX5_isPeriod fX6_isPeriod
    rw [e1, e2]
    exact ⟨rfl, rfl⟩
section OQ
variable {ms row ten pha : Nat → Int32} {len kep wfi wmo hun nex man : Int32} {rg : Nat → StV} {mv : Nat → Int32} {svm : Int32}
theorem set_sign {N K w0 w1 w2 : Nat} {r tn ph : Nat → Nat} (hA : AB N K w0 w1 w2 r tn ph) (hC : CI row ten pha len kep wfi wmo hun N K w0 w1 w2 r tn ph) (hM : MI ms N K w0 w1 w2 r tn ph) {s p : Nat} (hs : s < 4) (hp : p < N) :
    AB N K w0 w1 w2 (fun i => if i = p then s else r i) tn ph ∧ CI (upd row p (nI s)) ten pha len kep wfi wmo hun N K w0 w1 w2 (fun i => if i = p then s else r i) tn ph ∧ MI (upd ms (13 + p) (nI s)) N K w0 w1 w2 (fun i => if i = p then s else r i) tn ph := by
  obtain ⟨a1, a2, a3, a4, a5, a6, a7, a8⟩ := hA
  obtain ⟨h1, h2, h3, h4, h5, h6, h7⟩ := hC
  obtain ⟨m0, m1, m2, m3, m4, m5, m6⟩ := hM
  refine ⟨⟨a1, a2, a3, a4, a5, a6, fun i hi => ?_, a8⟩, ⟨h1, h2, h3, h4, h5, fun i hi => ?_, h7⟩, ⟨by rw [upd_at, if_neg (by omega)]; exact m0, by rw [upd_at, if_neg (by omega)]; exact m1, by rw [upd_at, if_neg (by omega)]; exact m2, by rw [upd_at, if_neg (by omega)]; exact m3, by rw [upd_at, if_neg (by omega)]; exact m4, fun i hi => ?_, fun i hi => ?_⟩⟩
  · show (if i = p then s else r i) < 4
    by_cases e : i = p
    · rw [if_pos e]; exact hs
    · rw [if_neg e]; exact a7 i hi
  · show upd row p (nI s) i = nI (if i = p then s else r i)
    rw [upd_at]
    by_cases e : i = p
    · rw [if_pos e, if_pos e]
    · rw [if_neg e, if_neg e]; exact h6 i hi
  · rw [upd_at, upd_at, if_neg (by omega), if_neg (by omega)]; exact m5 i hi
  · show upd ms (13 + p) (nI s) (13 + i) = nI (if i = p then s else r i)
    rw [upd_at]
    by_cases e : i = p
    · rw [if_pos e, if_pos (by omega)]
    · rw [if_neg e, if_neg (by omega)]; exact m6 i hi
theorem op_change (f4 : Nat → Int64) (x y : Int32) (hR : RS row ten pha len kep wfi wmo hun ms) (hH : HI nex man rg mv svm) :
    ∃ k row' nex' man' f4' rg' ans ms' mv' svm', fL_change row ten pha len kep wfi wmo hun nex man f4 rg x y = some (k, row', nex', man', f4', rg') ∧ fX6_change ms mv svm x y = some (ans, k, ms', mv', svm') ∧ (k = 0 → f4' 0 = ans.toInt64) ∧ RS row' ten pha len kep wfi wmo hun ms' ∧ HI nex' man' rg' mv' svm' := by
  have hR0 := hR
  obtain ⟨N, K, w0, w1, w2, r, tn, ph, hA, hC, hM⟩ := hR
  obtain ⟨nex', man', rg', mv', svm', s1, s2, s3⟩ := HI_save hR0 hH
  have hN := hA.1
  have m0 : ms (0 : Int32).toNatClampNeg = nI N := hM.1
  unfold fL_change fX5_change fX5_isSign fX6_change
  rw [m0, if_neg (show ¬ oob 0 253 by decide)]
  rcases rgN x N (by omega) with ⟨p, hp, rfl⟩ | ⟨e1, -, e2⟩
  · rw [show fX2_hasPlace len (nI p) = some 1 by rw [hC.1]; exact place1 hp (by omega), inN1 hp (by omega)]
    rcases rg5 y 0 3 (by omega) (by omega) with ⟨s, hs1, hs2, rfl⟩ | ⟨e1, e2⟩
    · obtain ⟨b1, b2, b3⟩ := set_sign hA hC hM (show s < 4 by omega) hp
      have c13 : ((13 : Int32) + nI p).toNatClampNeg = 13 + p := by rw [show ((13 : Int32)) = nI 13 from rfl, nI_add, nI_clamp (by omega)]
      have o13 : ¬ oob ((13 : Int32) + nI p) 253 := by rw [show ((13 : Int32)) = nI 13 from rfl, nI_add]; exact oob_no (by omega) (by omega)
      refine ⟨0, upd row p (nI s), nex', man', vp_updL f4 (0 : Int32).toNatClampNeg (nI (r p)).toInt64, rg', nI (r p), upd ms (13 + p) (nI s), mv', svm', ?_, ?_, fun _ => updL0 _ _, ⟨N, K, w0, w1, w2, _, tn, ph, b1, b2, b3⟩, s3⟩
      · rw [Option.bind_some, if_neg (by decide), show fX5_isWithin (nI s) 0 3 = some 1 from within1 (b := 0) (c := 3) hs1 hs2 (by omega), Option.bind_some, if_neg (by decide), Option.bind_some, if_neg (by decide), s1, Option.bind_some]
        show ((((fX2_signAt row len (nI p)).bind _)).bind _) = _
        unfold fX2_changeSign
        rw [c_signAt hA hC hp, Option.bind_some, e_lay (by omega) (by omega)]
        rfl
      · rw [Option.bind_some, if_neg (by decide), show fX6_in (nI s) 0 3 = some 1 from in1 (b := 0) (c := 3) hs1 hs2 (by omega), Option.bind_some, if_neg (by decide), s2, Option.bind_some]
        show (if oob (13 + nI p) 253 then none else if oob (13 + nI p) 253 then none else _) = _
        rw [if_neg o13, if_neg o13, c13, hM.2.2.2.2.2.2 p hp]
    · refine ⟨2, row, nex, man, f4, rg, 0, ms, mv, svm, ?_, ?_, fun z => absurd z (by decide), hR0, hH⟩
      · rw [show fX5_isWithin y 0 3 = some 0 from e1]
        rfl
      · rw [show fX6_in y 0 3 = some 0 from e2]
        rfl
  · refine ⟨1, row, nex, man, f4, rg, 0, ms, mv, svm, ?_, ?_, fun z => absurd z (by decide), hR0, hH⟩
    · rw [hC.1, e1]
      rfl
    · rw [e2]
      rfl
theorem l_cut51 {N : Nat} (hN : N ≤ 240) : ∀ (n k : Nat) (ms : Nat → Int32), k ≤ N → N < n + k → ms 0 = nI N → ∃ ms', fX6_cut_L51 n (nI k) ms = some ms' ∧ ∀ q, q < 13 + k → ms' q = ms q
  | 0, k, ms, h1, h2, _ => absurd h2 (by omega)
  | n + 1, k, ms, h1, h2, h3 => by
    rw [fX6_cut_L51]
    simp (disch := omega) only [lit_0, lit_1, lit_2, lit_3, lit_4, lit_5, lit_6, lit_7, lit_8, lit_9, lit_10, lit_12, lit_13, lit_20, lit_31, lit_33, lit_35, lit_40, lit_41, lit_48, lit_50, lit_52, lit_57, lit_60, lit_63, lit_97, lit_100, lit_126, lit_160, lit_239, lit_240, lit_253, lit_400, lit_540, lit_600, lit_1000, lit_1265, lit_1518, NN_def, nI_add, pk_mul, nI_clamp, nI_leI, nI_ltI, nI_eq, nI_ne_NN, NN_ne_nI, NN_lt_nI, nI_le_NN, nI_lt_NN, NN_le_nI, oob, Option.bind_some, if_true, if_false, if_pos, if_neg, h3]
    by_cases h : k = N
    · rw [if_pos (by omega)]
      exact ⟨ms, rfl, fun _ _ => rfl⟩
    · rw [if_neg (by omega)]
      obtain ⟨ms', e1, e2⟩ := l_cut51 hN n (k + 1) (upd ms (13 + k) (nI 0)) (by omega) (by omega) (by rw [upd_at, if_neg (by omega)]; exact h3)
      refine ⟨ms', e1, fun q hq => ?_⟩
      rw [e2 q (by omega), upd_at, if_neg (by omega)]
theorem cut_rel {N K w0 w1 w2 : Nat} {r tn ph : Nat → Nat} (hA : AB N K w0 w1 w2 r tn ph) (hC : CI row ten pha len kep wfi wmo hun N K w0 w1 w2 r tn ph) (hM : MI ms N K w0 w1 w2 r tn ph) {n : Nat} (hn : n ≤ N) {ms' : Nat → Int32} (h : ∀ q, q < 13 + n → ms' q = ms q) :
    RS row ten pha (nI n) kep wfi wmo hun (upd ms' 0 (nI n)) := by
  obtain ⟨a1, a2, a3, a4, a5, a6, a7, a8⟩ := hA
  obtain ⟨h1, h2, h3, h4, h5, h6, h7⟩ := hC
  obtain ⟨m0, m1, m2, m3, m4, m5, m6⟩ := hM
  refine ⟨n, K, w0, w1, w2, r, tn, ph, ⟨by omega, a2, a3, a4, a5, a6, fun i hi => a7 i (by omega), a8⟩, ⟨rfl, h2, h3, h4, h5, fun i hi => h6 i (by omega), h7⟩, ⟨by rw [upd_at, if_pos rfl], ?_, ?_, ?_, ?_, fun i hi => ?_, fun i hi => ?_⟩⟩
  · rw [upd_at, if_neg (by omega), h _ (by omega)]; exact m1
  · rw [upd_at, if_neg (by omega), h _ (by omega)]; exact m2
  · rw [upd_at, if_neg (by omega), h _ (by omega)]; exact m3
  · rw [upd_at, if_neg (by omega), h _ (by omega)]; exact m4
  · rw [upd_at, if_neg (by omega), upd_at, if_neg (by omega), h _ (by omega), h _ (by omega)]; exact m5 i hi
  · rw [upd_at, if_neg (by omega), h _ (by omega)]; exact m6 i (by omega)
theorem op_cut (f3 : Nat → Int64) (x : Int32) (hR : RS row ten pha len kep wfi wmo hun ms) (hH : HI nex man rg mv svm) :
    ∃ k len' nex' man' f3' rg' ans ms' mv' svm', fL_cut row ten pha len kep wfi wmo hun nex man f3 rg x = some (k, len', nex', man', f3', rg') ∧ fX6_cut ms mv svm x = some (ans, k, ms', mv', svm') ∧ (k = 0 → f3' 0 = ans.toInt64) ∧ RS row ten pha len' kep wfi wmo hun ms' ∧ HI nex' man' rg' mv' svm' := by
  have hR0 := hR
  obtain ⟨N, K, w0, w1, w2, r, tn, ph, hA, hC, hM⟩ := hR
  obtain ⟨nex', man', rg', mv', svm', s1, s2, s3⟩ := HI_save hR0 hH
  have hN := hA.1
  have m0 : ms (0 : Int32).toNatClampNeg = nI N := hM.1
  unfold fL_cut fX5_cut fX6_cut
  rcases rg5 x 1 240 (by omega) (by omega) with ⟨s, hs1, hs2, rfl⟩ | ⟨e1, e2⟩
  · obtain ⟨ms', e1, e2⟩ := l_cut51 hN FU (N - s) ms (by omega) (by rw [FU_eq]; omega) hM.1
    have hc : (if 0 < nI N - nI s then nI N - nI s else 0) = nI (N - s) := by
      by_cases q : s ≤ N
      · rw [pk_sub q, lit_0]
        by_cases z : N - s = 0
        · rw [z]; rfl
        · rw [if_pos (by rw [nI_ltI (by omega) (by omega)]; omega)]
      · rw [if_neg (fun z => Int32.lt_irrefl (Int32.lt_trans z (pk_sneg (a := N) (b := s) (by omega) (by omega)))), show N - s = 0 by omega]
        rfl
    have hm : (if nI N ≤ nI s then some 0 else if oob 0 253 then none else some (nI N - nI s) : Option Int32) = some (nI (N - s)) := by
      by_cases q : N ≤ s
      · rw [if_pos (nI_le q (by omega)), show N - s = 0 by omega]
        rfl
      · rw [if_neg (by rw [nI_leI (by omega) (by omega)]; omega), if_neg (by decide), pk_sub (by omega)]
    refine ⟨0, nI (N - s), nex', man', vp_updL f3 (0 : Int32).toNatClampNeg (nI (N - s)).toInt64, rg', nI (N - s), upd ms' 0 (nI (N - s)), mv', svm', ?_, ?_, fun _ => updL0 _ _, cut_rel hA hC hM (by omega) e2, s3⟩
    · rw [show fX5_isWithin (nI s) 1 240 = some 1 from within1 (b := 1) (c := 240) hs1 hs2 (by omega), Option.bind_some, if_neg (by decide), s1, hC.1]
      show ((some (0, (if 0 < nI N - nI s then nI N - nI s else 0), (if 0 < nI N - nI s then nI N - nI s else 0), nex', man', rg') : Option (Nat × Int32 × Int32 × Int32 × Int32 × (Nat → StV))).bind _) = _
      rw [hc]
      rfl
    · rw [show fX6_in (nI s) 1 240 = some 1 from in1 (b := 1) (c := 240) hs1 hs2 (by omega), Option.bind_some, if_neg (by decide), s2, Option.bind_some, m0]
      show (if oob 0 253 then none else ((if nI N ≤ nI s then some 0 else if oob 0 253 then none else some (nI N - nI s) : Option Int32)).bind _) = _
      rw [if_neg (by decide), hm, Option.bind_some, e1]
      rfl
  · refine ⟨1, len, nex, man, f3, rg, 0, ms, mv, svm, ?_, ?_, fun z => absurd z (by decide), hR0, hH⟩
    · rw [show fX5_isWithin x 1 240 = some 0 from e1]
      rfl
    · rw [show fX6_in x 1 240 = some 0 from e2]
      rfl
theorem op_undo (f2 : Nat → Int64) (hR : RS row ten pha len kep wfi wmo hun ms) (hH : HI nex man rg mv svm) :
    ∃ k row' ten' pha' len' kep' wfi' wmo' hun' nex' man' f2' ans ms' svm', fL_undo row ten pha len kep wfi wmo hun nex man f2 rg = some (k, row', ten', pha', len', kep', wfi', wmo', hun', nex', man', f2') ∧ fX6_undo ms mv svm = some (ans, k, ms', svm') ∧ (k = 0 → f2' 0 = ans.toInt64) ∧ RS row' ten' pha' len' kep' wfi' wmo' hun' ms' ∧ HI nex' man' rg mv svm' := by
  unfold fL_undo fX5_undo fX6_undo
  rcases HI_undo row ten pha ms hH with ⟨e1, e2⟩ | ⟨e1, e2, nex', row', ten', pha', len', kep', wfi', wmo', hun', ms', svm', u1, u2, u3, u4, u5⟩
  · refine ⟨1, row, ten, pha, len, kep, wfi, wmo, hun, nex, man, f2, 0, ms, svm, ?_, ?_, fun z => absurd z (by decide), hR, hH⟩
    · rw [if_pos (show man = 0 from e1)]
      rfl
    · rw [if_pos (show svm = 0 from e2)]
      rfl
  · refine ⟨0, row', ten', pha', len', kep', wfi', wmo', hun', nex', svm', vp_updL f2 (0 : Int32).toNatClampNeg svm'.toInt64, svm', ms', svm', ?_, ?_, fun _ => updL0 _ _, u4, u5⟩
    · rw [if_neg e1, u1]
      rfl
    · rw [u2] at u3 ⊢
      rw [if_neg e2, lit_0]
      rw [lit_0] at u3
      rw [u3]
      rfl
theorem op_sign (f3 : Nat → Int64) (x : Int32) (hR : RS row ten pha len kep wfi wmo hun ms) :
    ∃ k f3' ans, fL_sign row len f3 x = some (k, f3') ∧ fX6_sign ms x = some (ans, k) ∧ (k = 0 → f3' 0 = ans.toInt64) := by
  obtain ⟨N, K, w0, w1, w2, r, tn, ph, hA, hC, hM⟩ := hR
  have hN := hA.1
  have m0 : ms (0 : Int32).toNatClampNeg = nI N := hM.1
  unfold fL_sign fX5_sign fX6_sign
  by_cases h : 0 ≤ x
  · rw [if_pos h, if_pos h, if_neg (show ¬ oob 0 253 by decide), m0]
    by_cases q : nI N ≤ x
    · refine ⟨0, vp_updL f3 (0 : Int32).toNatClampNeg (-1 : Int32).toInt64, -1, ?_, ?_, fun _ => updL0 _ _⟩
      · unfold fX2_signAt
        rw [if_neg (Int32.not_lt.mpr h), hC.1, if_pos q]
        rfl
      · rw [if_pos q]
    · obtain ⟨k, hk, rfl⟩ := nI_of2 (n := N) (nI_toInt (by omega)) (Int32.not_lt.mpr h) (Int32.le_of_lt (Int32.not_le.mp q))
      have hk2 : k < N := Nat.lt_of_not_le (fun z => q (nI_le z (by omega)))
      have c13 : ((13 : Int32) + nI k).toNatClampNeg = 13 + k := by rw [show ((13 : Int32)) = nI 13 from rfl, nI_add, nI_clamp (by omega)]
      have o13 : ¬ oob ((13 : Int32) + nI k) 253 := by rw [show ((13 : Int32)) = nI 13 from rfl, nI_add]; exact oob_no (by omega) (by omega)
      refine ⟨0, vp_updL f3 (0 : Int32).toNatClampNeg (nI (r k)).toInt64, nI (r k), ?_, ?_, fun _ => updL0 _ _⟩
      · rw [c_signAt hA hC hk2]
        rfl
      · rw [if_neg q, if_neg o13, c13, hM.2.2.2.2.2.2 k hk2]
  · refine ⟨1, f3, 0, ?_, ?_, fun z => absurd z (by decide)⟩
    · rw [if_neg h]
      rfl
    · rw [if_neg h]
      rfl
theorem op_explains (cel mc : Nat → Int32) (cls : Int32) (f4 : Nat → Int64) (x y : Int32) (hR : RS row ten pha len kep wfi wmo hun ms) :
    ∃ k cel' cls' f4' ans mc', fL_explains row len wfi wmo cel cls f4 x y = some (k, cel', cls', f4') ∧ fX6_explains ms mc x y = some (ans, k, mc') ∧ (k = 0 → f4' 0 = ans.toInt64) := by
  obtain ⟨N, K, w0, w1, w2, r, tn, ph, hA, hC, hM⟩ := hR
  unfold fL_explains fX5_explains fX6_explains
  rcases rgPer x y with ⟨t, p, h1, h2, h3, rfl, rfl⟩ | ⟨e1, e2⟩
  · obtain ⟨a, b⟩ := per1 h1 h2 h3
    obtain ⟨cel', c1, c2⟩ := c_takeEx hA hC cel h1 h2 h3
    obtain ⟨mc', d1⟩ := e_explainedNow hA hM mc h1 h2 h3
    refine ⟨0, cel', nI (ncl t), vp_updL f4 (0 : Int32).toNatClampNeg (nI (exw N w0 w1 r t p)).toInt64, nI (exw N w0 w1 r t p), mc', ?_, ?_, fun _ => updL0 _ _⟩
    · rw [a, Option.bind_some, if_neg (by decide), c1, Option.bind_some]
      show ((((fX0_explained cel' (nI (ncl t))).bind _)).bind _) = _
      rw [c2]
      rfl
    · rw [b, Option.bind_some, if_neg (by decide), d1]
      rfl
  · refine ⟨1, cel, cls, f4, 0, mc, ?_, ?_, fun z => absurd z (by decide)⟩
    · rw [e1]
      rfl
    · rw [e2]
      rfl
theorem op_best (cel mc : Nat → Int32) (cls : Int32) (f4 : Nat → Int64) (x y : Int32) (hR : RS row ten pha len kep wfi wmo hun ms) :
    ∃ k cel' cls' f4' ans mc', fL_best row len wfi wmo cel cls f4 x y = some (k, cel', cls', f4') ∧ fX6_best ms mc x y = some (ans, k, mc') ∧ (k = 0 → f4' 0 = ans.toInt64) := by
  obtain ⟨N, K, w0, w1, w2, r, tn, ph, hA, hC, hM⟩ := hR
  unfold fL_best fX5_best fX5_isTenthsRange fX6_best
  rcases rgTen x with ⟨t, h1, h2, rfl⟩ | ⟨e1, e2⟩
  · obtain ⟨a, b⟩ := tenths1 h1 h2
    rw [a, b, Option.bind_some, Option.bind_some, if_neg (by decide), if_neg (by decide)]
    rcases rg5 y t 400 (by omega) (by omega) with ⟨e, h3, h4, rfl⟩ | ⟨e1, e2⟩
    · rw [show fX5_isWithin (nI e) (nI t) 400 = some 1 from within1 (c := 400) h3 h4 (by omega), show fX6_in (nI e) (nI t) 400 = some 1 from in1 (c := 400) h3 h4 (by omega)]
      obtain ⟨cel', cls', c1⟩ := c_bestTenths hA hC cel cls h1 h3 h4
      obtain ⟨mc', d1⟩ := e_bestOf hA hM mc h1 h3 h4
      refine ⟨0, cel', cls', vp_updL f4 (0 : Int32).toNatClampNeg (bestT N w0 w1 r t e).toInt64, bestT N w0 w1 r t e, mc', ?_, ?_, fun _ => updL0 _ _⟩
      · rw [Option.bind_some, if_neg (by decide), Option.bind_some, if_neg (by decide), c1]
        rfl
      · rw [Option.bind_some, if_neg (by decide), d1]
        rfl
    · refine ⟨1, cel, cls, f4, 0, mc, ?_, ?_, fun z => absurd z (by decide)⟩
      · rw [show fX5_isWithin y (nI t) 400 = some 0 from e1]
        rfl
      · rw [show fX6_in y (nI t) 400 = some 0 from e2]
        rfl
  · refine ⟨1, cel, cls, f4, 0, mc, ?_, ?_, fun z => absurd z (by decide)⟩
    · rw [e1]
      rfl
    · rw [e2]
      rfl
theorem op_bestPhase (cel mc : Nat → Int32) (cls : Int32) (f3 : Nat → Int64) (x : Int32) (hR : RS row ten pha len kep wfi wmo hun ms) :
    ∃ k cel' cls' f3' ans mc', fL_bestPhase row len wfi wmo cel cls f3 x = some (k, cel', cls', f3') ∧ fX6_bestPhase ms mc x = some (ans, k, mc') ∧ (k = 0 → f3' 0 = ans.toInt64) := by
  obtain ⟨N, K, w0, w1, w2, r, tn, ph, hA, hC, hM⟩ := hR
  unfold fL_bestPhase fX5_bestPhase fX6_bestPhase
  rcases rgTen x with ⟨t, h1, h2, rfl⟩ | ⟨e1, e2⟩
  · obtain ⟨a, b⟩ := tenths1 h1 h2
    obtain ⟨cel', cls', c1⟩ := c_bestPhase hA hC cel cls h1 h2
    obtain ⟨mc', d1⟩ := e_phaseFor hA hM mc h1 h2
    refine ⟨0, cel', cls', vp_updL f3 (0 : Int32).toNatClampNeg (bestP N w0 w1 r t).toInt64, bestP N w0 w1 r t, mc', ?_, ?_, fun _ => updL0 _ _⟩
    · rw [a, Option.bind_some, if_neg (by decide), c1]
      rfl
    · rw [b, Option.bind_some, if_neg (by decide), d1]
      rfl
  · refine ⟨1, cel, cls, f3, 0, mc, ?_, ?_, fun z => absurd z (by decide)⟩
    · rw [e1]
      rfl
    · rw [e2]
      rfl
theorem op_bestWindow (cel mc : Nat → Int32) (cls : Int32) (f4 : Nat → Int64) (x y : Int32) (hR : RS row ten pha len kep wfi wmo hun ms) :
    ∃ k cel' cls' f4' ans mc', fL_bestWindow row len cel cls f4 x y = some (k, cel', cls', f4') ∧ fX6_bestWindow ms mc x y = some (ans, k, mc') ∧ (k = 0 → f4' 0 = ans.toInt64) := by
  obtain ⟨N, K, w0, w1, w2, r, tn, ph, hA, hC, hM⟩ := hR
  unfold fL_bestWindow fX5_bestWindow fX6_bestWindow
  rcases rgTen x with ⟨t, h1, h2, rfl⟩ | ⟨e1, e2⟩
  · obtain ⟨a, b⟩ := tenths1 h1 h2
    rw [a, b, Option.bind_some, Option.bind_some, if_neg (by decide), if_neg (by decide)]
    rcases rg5 y 1 240 (by omega) (by omega) with ⟨m, h3, h4, rfl⟩ | ⟨e1, e2⟩
    · rw [show fX5_isWithin (nI m) 1 240 = some 1 from within1 (b := 1) (c := 240) h3 h4 (by omega), show fX6_in (nI m) 1 240 = some 1 from in1 (b := 1) (c := 240) h3 h4 (by omega)]
      obtain ⟨cel', cls', c1⟩ := c_bestWindow hA hC cel cls h1 h2 h4
      obtain ⟨mc', d1⟩ := e_windowFor hA hM mc h1 h2 h4
      refine ⟨0, cel', cls', vp_updL f4 (0 : Int32).toNatClampNeg (bestW N r t m).toInt64, bestW N r t m, mc', ?_, ?_, fun _ => updL0 _ _⟩
      · rw [Option.bind_some, if_neg (by decide), c1]
        rfl
      · rw [Option.bind_some, if_neg (by decide), d1]
        rfl
    · refine ⟨1, cel, cls, f4, 0, mc, ?_, ?_, fun z => absurd z (by decide)⟩
      · rw [show fX5_isWithin y 1 240 = some 0 from e1]
        rfl
      · rw [show fX6_in y 1 240 = some 0 from e2]
        rfl
  · refine ⟨1, cel, cls, f4, 0, mc, ?_, ?_, fun z => absurd z (by decide)⟩
    · rw [e1]
      rfl
    · rw [e2]
      rfl
end OQ
