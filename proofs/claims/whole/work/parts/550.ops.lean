/-! THE OPERATIONS, ONE BY ONE -/
theorem rg5 (x : Int32) (b c : Nat) (hb : b < 2 ^ 31) (hc : c < 2 ^ 31) : (∃ k, b ≤ k ∧ k ≤ c ∧ x = nI k) ∨ (fX5_isWithin x (nI b) (nI c) = some 0 ∧ fX6_in x (nI b) (nI c) = some 0) := by
  by_cases h : nI b ≤ x ∧ x ≤ nI c
  · have hx : ¬ x < 0 := by
      intro z
      have h1 := Int32.le_iff_toInt_le.mp h.1
      have h2 := Int32.lt_iff_toInt_lt.mp z
      rw [nI_toInt hb] at h1
      rw [show ((0 : Int32)).toInt = 0 from rfl] at h2
      omega
    obtain ⟨k, hk, e⟩ := nI_of2 (n := c) (nI_toInt hc) hx h.2
    refine Or.inl ⟨k, ?_, hk, e⟩
    have h1 := h.1
    rw [e] at h1
    exact (nI_leI hb (by omega)).mp h1
  · exact Or.inr ⟨by rw [m_isWithin, if_neg h], by rw [m_in, if_neg h]⟩
theorem within1 {k b c : Nat} (h1 : b ≤ k) (h2 : k ≤ c) (hc : c < 2 ^ 31) : fX5_isWithin (nI k) (nI b) (nI c) = some 1 := by
  rw [m_isWithin, if_pos ⟨nI_le h1 (by omega), nI_le h2 hc⟩]
theorem in1 {k b c : Nat} (h1 : b ≤ k) (h2 : k ≤ c) (hc : c < 2 ^ 31) : fX6_in (nI k) (nI b) (nI c) = some 1 := by
  rw [m_in, if_pos ⟨nI_le h1 (by omega), nI_le h2 hc⟩]
/-- a place, or a number, that is there, or not -/
theorem rgN (x : Int32) (n : Nat) (hn : n < 2 ^ 30) : (∃ k, k < n ∧ x = nI k) ∨ (fX2_hasPlace (nI n) x = some 0 ∧ fX2_hasNumber (nI n) x = some 0 ∧ fX6_in x 0 (nI n - 1) = some 0) := by
  by_cases h : ¬ x < 0 ∧ x < nI n
  · obtain ⟨k, hk, e⟩ := nI_of2 (n := n) (nI_toInt (by omega)) h.1 (Int32.le_of_lt h.2)
    refine Or.inl ⟨k, ?_, e⟩
    have h1 := h.2
    rw [e] at h1
    exact (nI_ltI (by omega) (by omega)).mp h1
  · refine Or.inr ⟨?_, ?_, ?_⟩
    · unfold fX2_hasPlace
      by_cases h1 : x < 0
      · rw [if_pos h1]
      · rw [if_neg h1, if_pos (Int32.not_lt.mp (fun z => h ⟨h1, z⟩))]
    · unfold fX2_hasNumber
      by_cases h1 : x < 0
      · rw [if_pos h1]
      · rw [if_neg h1, if_pos (Int32.not_lt.mp (fun z => h ⟨h1, z⟩))]
    · rw [m_in, if_neg (fun z => h ⟨Int32.not_lt.mpr z.1, ?_⟩)]
      have h1 := Int32.le_iff_toInt_le.mp z.2
      rw [Int32.lt_iff_toInt_lt, nI_toInt (by omega)]
      rw [lit_1, pk_sub_toInt hn (by omega)] at h1
      omega
theorem place1 {k n : Nat} (h : k < n) (hn : n < 2 ^ 30) : fX2_hasPlace (nI n) (nI k) = some 1 := by
  unfold fX2_hasPlace
  rw [if_neg (show ¬ nI k < 0 by rw [lit_0, nI_ltI (by omega) (by omega)]; omega), if_neg (show ¬ nI n ≤ nI k by rw [nI_leI (by omega) (by omega)]; omega)]
theorem number1 {k n : Nat} (h : k < n) (hn : n < 2 ^ 30) : fX2_hasNumber (nI n) (nI k) = some 1 := by
  unfold fX2_hasNumber
  rw [if_neg (show ¬ nI k < 0 by rw [lit_0, nI_ltI (by omega) (by omega)]; omega), if_neg (show ¬ nI n ≤ nI k by rw [nI_leI (by omega) (by omega)]; omega)]
theorem inN1 {k n : Nat} (h : k < n) (hn : n < 2 ^ 30) : fX6_in (nI k) 0 (nI n - 1) = some 1 := by
  rw [m_in, if_pos ⟨nI_le (Nat.zero_le k) (by omega), by rw [lit_1, le_sub1 (by omega) hn]; exact h⟩]
theorem oob_no {k n : Nat} (h : k < n) (hn : n < 2 ^ 31) : ¬ oob (nI k) n := by
  intro z
  rcases z with z | z
  · exact absurd z (by rw [lit_0, nI_ltI (by omega) (by omega)]; omega)
  · rw [nI_clamp (by omega)] at z; omega
theorem updL0 (f : Nat → Int64) (x : Int64) : vp_updL f (0 : Int32).toNatClampNeg x 0 = x := if_pos rfl
theorem oob01 : ¬ oob 0 1 := by decide
theorem oobm {k : Nat} (h : k < 253) : ¬ oob (nI k) 253 := oob_no h (by omega)
section OP
variable {ms row ten pha : Nat → Int32} {len kep wfi wmo hun : Int32} {N K w0 w1 w2 : Nat} {r tn ph : Nat → Nat}
/-- one sign more -/
theorem add_sign (hA : AB N K w0 w1 w2 r tn ph) (hC : CI row ten pha len kep wfi wmo hun N K w0 w1 w2 r tn ph) (hM : MI ms N K w0 w1 w2 r tn ph) {s : Nat} (hs : s < 4) (hN : N < 240) :
    AB (N + 1) K w0 w1 w2 (fun i => if i = N then s else r i) tn ph ∧ CI (upd row N (nI s)) ten pha (len + 1) kep wfi wmo hun (N + 1) K w0 w1 w2 (fun i => if i = N then s else r i) tn ph ∧ MI (upd (upd ms (13 + N) (nI s)) 0 (nI (N + 1))) (N + 1) K w0 w1 w2 (fun i => if i = N then s else r i) tn ph := by
  obtain ⟨a1, a2, a3, a4, a5, a6, a7, a8⟩ := hA
  obtain ⟨h1, h2, h3, h4, h5, h6, h7⟩ := hC
  obtain ⟨m0, m1, m2, m3, m4, m5, m6⟩ := hM
  refine ⟨⟨by omega, a2, a3, a4, a5, a6, fun i hi => ?_, a8⟩, ⟨by rw [h1, lit_1, nI_add], h2, h3, h4, h5, fun i hi => ?_, h7⟩, ⟨by rw [upd_at, if_pos rfl], ?_, ?_, ?_, ?_, fun i hi => ?_, fun i hi => ?_⟩⟩
  · show (if i = N then s else r i) < 4
    by_cases e : i = N
    · rw [if_pos e]; exact hs
    · rw [if_neg e]; exact a7 i (by omega)
  · show upd row N (nI s) i = nI (if i = N then s else r i)
    rw [upd_at]
    by_cases e : i = N
    · rw [if_pos e, if_pos e]
    · rw [if_neg e, if_neg e]; exact h6 i (by omega)
  · rw [upd_at, upd_at, if_neg (by omega), if_neg (by omega)]; exact m1
  · rw [upd_at, upd_at, if_neg (by omega), if_neg (by omega)]; exact m2
  · rw [upd_at, upd_at, if_neg (by omega), if_neg (by omega)]; exact m3
  · rw [upd_at, upd_at, if_neg (by omega), if_neg (by omega)]; exact m4
  · rw [upd_at, upd_at, if_neg (by omega), if_neg (by omega), upd_at, upd_at, if_neg (by omega), if_neg (by omega)]; exact m5 i hi
  · show upd (upd ms (13 + N) (nI s)) 0 (nI (N + 1)) (13 + i) = nI (if i = N then s else r i)
    rw [upd_at, upd_at, if_neg (by omega)]
    by_cases e : i = N
    · rw [if_pos e, if_pos (by omega)]
    · rw [if_neg e, if_neg (by omega)]; exact m6 i (by omega)
end OP
section PUT
variable {ms row ten pha : Nat → Int32} {len kep wfi wmo hun nex man : Int32} {rg : Nat → StV} {mv : Nat → Int32} {svm : Int32}
theorem op_put (f3 : Nat → Int64) (x : Int32) (hR : RS row ten pha len kep wfi wmo hun ms) (hH : HI nex man rg mv svm) :
    ∃ k row' len' nex' man' f3' rg' ans ms' mv' svm', fL_put row ten pha len kep wfi wmo hun nex man f3 rg x = some (k, row', len', nex', man', f3', rg') ∧ fX6_put ms mv svm x = some (ans, k, ms', mv', svm') ∧ (k = 0 → f3' 0 = ans.toInt64) ∧ RS row' ten pha len' kep wfi wmo hun ms' ∧ HI nex' man' rg' mv' svm' := by
  have hR0 := hR
  obtain ⟨N, K, w0, w1, w2, r, tn, ph, hA, hC, hM⟩ := hR
  obtain ⟨nex', man', rg', mv', svm', s1, s2, s3⟩ := HI_save hR0 hH
  have hN := hA.1
  have m0 : ms (0 : Int32).toNatClampNeg = nI N := hM.1
  unfold fL_put fX5_put fX5_isSign fX6_put
  rcases rg5 x 0 3 (by omega) (by omega) with ⟨s, hs1, hs2, rfl⟩ | ⟨e1, e2⟩
  · have w1' : fX5_isWithin (nI s) 0 3 = some 1 := within1 (b := 0) (c := 3) hs1 hs2 (by omega)
    have i1' : fX6_in (nI s) 0 3 = some 1 := in1 (b := 0) (c := 3) hs1 hs2 (by omega)
    rw [w1', i1', hC.1]
    by_cases q : N < 240
    · have hlt : nI N < 240 := (nI_ltI (b := 240) (by omega) (by omega)).mpr q
      have hne : ¬ nI N = 240 := fun z => by have := (nI_eq (b := 240) (by omega) (by omega)).mp z; omega
      obtain ⟨b1, b2, b3⟩ := add_sign hA hC hM (show s < 4 by omega) q
      rw [hC.1] at s1
      have c13 : ((13 : Int32) + nI N).toNatClampNeg = 13 + N := by rw [show ((13 : Int32)) = nI 13 from rfl, nI_add, nI_clamp (by omega)]
      have o13 : ¬ oob ((13 : Int32) + nI N) 253 := by rw [show ((13 : Int32)) = nI 13 from rfl, nI_add]; exact oob_no (by omega) (by omega)
      have hu0 : upd ms (13 + N) (nI s) (0 : Int32).toNatClampNeg = nI N := by rw [upd_at, if_neg (show ¬ (0 : Int32).toNatClampNeg = 13 + N by show ¬ 0 = 13 + N; omega)]; exact hM.1
      refine ⟨0, upd row N (nI s), nI N + 1, nex', man', vp_updL f3 (0 : Int32).toNatClampNeg (nI N + 1).toInt64, rg', nI N + 1, upd (upd ms (13 + N) (nI s)) 0 (nI N + 1), mv', svm', ?_, ?_, fun _ => updL0 _ _, ?_, s3⟩
      · rw [Option.bind_some, if_neg (by decide), Option.bind_some, if_neg (by decide), if_pos hlt, s1, Option.bind_some]
        show ((((fX2_addSign row (nI N) (nI s)).bind _)).bind _) = _
        unfold fX2_addSign
        rw [e_lay q (by omega)]
        rfl
      · rw [Option.bind_some, if_neg (by decide), if_neg (by decide), m0, if_neg hne, s2, Option.bind_some]
        show (if oob 0 253 then none else if oob (13 + nI N) 253 then none else _) = _
        rw [if_neg (by decide), if_neg o13, c13, hu0]
        rfl
      · rw [lit_1, nI_add]
        rw [hC.1, lit_1, nI_add] at b2
        exact ⟨N + 1, K, w0, w1, w2, _, tn, ph, b1, b2, b3⟩
    · have e240 : N = 240 := by omega
      refine ⟨2, row, nI N, nex, man, f3, rg, 0, ms, mv, svm, ?_, ?_, fun z => absurd z (by decide), ?_, hH⟩
      · rw [Option.bind_some, if_neg (by decide), Option.bind_some, if_neg (by decide), if_neg (show ¬ nI N < 240 from fun z => q ((nI_ltI (b := 240) (by omega) (by omega)).mp z))]
        rfl
      · rw [Option.bind_some, if_neg (by decide), if_neg (by decide), m0, if_pos (by rw [e240]; rfl)]
        rfl
      · rw [← hC.1]; exact hR0
  · have e1' : fX5_isWithin x 0 3 = some 0 := e1
    have e2' : fX6_in x 0 3 = some 0 := e2
    refine ⟨1, row, len, nex, man, f3, rg, 0, ms, mv, svm, ?_, ?_, fun z => absurd z (by decide), hR0, hH⟩
    · rw [e1']
      rfl
    · rw [e2']
      rfl
end PUT
