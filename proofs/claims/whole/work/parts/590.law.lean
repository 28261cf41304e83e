/-! THE LAW'S LOOP: EVERY RUN OF CALLS -/
theorem lgs (x : Int64) : lg_cmp x x = 0 := by
  unfold lg_cmp
  simp
theorem lgk {f : Nat → Int64} {x : Int64} (h : f 0 = x) : lg_cmp (f (0 : Int32).toNatClampNeg) x = 0 := by
  rw [show f (0 : Int32).toNatClampNeg = x from h]
  exact lgs x
theorem thk (x : Int32) : fX6_thrown x = some x := rfl
theorem l_stop {L k : Nat} (hL : L ≤ 2048) (hk : 4 * k ≤ L) : ((Int32.ofNat L) - 4 < nI (4 * k)) ↔ L < 4 * k + 4 := by
  have h : (nI L - nI 4).toInt = (L : Int) - (4 : Nat) := pk_sub_toInt (by omega) (by omega)
  have h2 : (nI (4 * k)).toInt = ((4 * k : Nat) : Int) := nI_toInt (by omega)
  rw [Int32.lt_iff_toInt_lt, show (Int32.ofNat L) - 4 = nI L - nI 4 from rfl, h, h2]
  omega
theorem l_step (k : Nat) : nI (4 * k) + 4 = nI (4 * (k + 1)) := nI_add (4 * k) 4
theorem l_o {L k d : Nat} (hL : L ≤ 2048) (h : 4 * k + 4 ≤ L) (hd : d < 4) : ¬ oob (nI (4 * k) + nI d) L := by
  rw [nI_add]
  exact oob_no (by omega) (by omega)
theorem l_o0 {L k : Nat} (hL : L ≤ 2048) (h : 4 * k + 4 ≤ L) : ¬ oob (nI (4 * k)) L := oob_no (by omega) (by omega)
set_option maxHeartbeats 8000000 in
theorem l_law (L : Nat) (xs : Nat → Int32) (hL : L ≤ 2048) : ∀ (n k : Nat) (row ten pha : Nat → Int32) (len kep wfi wmo hun nex man : Int32) (cod unf : Nat → Int32) (tln : Int32) (cel : Nat → Int32) (cls : Int32) (str tlr tsg : Nat → Int32) (thr : Int32) (ms mv : Nat → Int32) (svm : Int32) (mb : Nat → Int32) (mln : Int32) (mc mg mt ml : Nat → Int32) (mat wel : Int32) (mr : Nat → Int32) (rdm : Int32) (hsh : Int64) (f3 : Nat → Int64) (rg : Nat → StV), 4 * k ≤ L → L < 4 * (n + k) → RS row ten pha len kep wfi wmo hun ms → HI nex man rg mv svm → TX cod tln mb mln →
    fL_law_L23 L xs n (nI (4 * k)) row ten pha len kep wfi wmo hun nex man cod unf tln cel cls str tlr tsg thr ms mv svm mb mln mc mg mt ml mat wel mr rdm hsh f3 rg = some 1
  | 0, k, row, ten, pha, len, kep, wfi, wmo, hun, nex, man, cod, unf, tln, cel, cls, str, tlr, tsg, thr, ms, mv, svm, mb, mln, mc, mg, mt, ml, mat, wel, mr, rdm, hsh, f3, rg, hk, h1, hR, hH, hT => absurd h1 (by omega)
  | n + 1, k, row, ten, pha, len, kep, wfi, wmo, hun, nex, man, cod, unf, tln, cel, cls, str, tlr, tsg, thr, ms, mv, svm, mb, mln, mc, mg, mt, ml, mat, wel, mr, rdm, hsh, f3, rg, hk, h1, hR, hH, hT => by
    rw [fL_law_L23]
    by_cases hs : (Int32.ofNat L) - 4 < nI (4 * k)
    · rw [if_pos hs]
    have hb : 4 * k + 4 ≤ L := Nat.le_of_not_lt (fun z => hs ((l_stop hL hk).mpr z))
    have o0 := l_o0 hL hb
    have o1 : ¬ oob (nI (4 * k) + 1) L := l_o (d := 1) hL hb (by omega)
    have o2 : ¬ oob (nI (4 * k) + 2) L := l_o (d := 2) hL hb (by omega)
    have o3 : ¬ oob (nI (4 * k) + 3) L := l_o (d := 3) hL hb (by omega)
    have ih := fun (row ten pha : Nat → Int32) (len kep wfi wmo hun nex man : Int32) (cod unf : Nat → Int32) (tln : Int32) (cel : Nat → Int32) (cls : Int32) (str tlr tsg : Nat → Int32) (thr : Int32) (ms mv : Nat → Int32) (svm : Int32) (mb : Nat → Int32) (mln : Int32) (mc mg mt ml : Nat → Int32) (mat wel : Int32) (mr : Nat → Int32) (rdm : Int32) (hsh : Int64) (f3 : Nat → Int64) (rg : Nat → StV) hR hH hT => l_law L xs hL n (k + 1) row ten pha len kep wfi wmo hun nex man cod unf tln cel cls str tlr tsg thr ms mv svm mb mln mc mg mt ml mat wel mr rdm hsh f3 rg (by omega) (by omega) hR hH hT
    rw [if_neg hs, if_neg o0, l_step]
    by_cases q : ((xs (nI (4 * k)).toNatClampNeg) &&& 31) = 0
    · rw [if_pos q]
      obtain ⟨kk, c_row, c_len, c_nex, c_man, c_f3, c_rg, ans, m_ms, m_mv, m_svm, e1, e2, e3, hR2, hH2⟩ := op_put f3 (xs (nI (4 * k) + 1).toNatClampNeg) hR hH
      rw [if_neg o1, e1, Option.bind_some]
      dsimp only
      rw [if_neg o1, e2, Option.bind_some]
      dsimp only
      rw [thk, Option.bind_some, if_pos rfl]
      by_cases z : kk = 0
      · rw [if_pos z, if_neg oob01, if_pos (lgk (e3 z))]
        exact ih _ _ _ _ _ _ _ _ _ _ _ _ _ _ _ _ _ _ _ _ _ _ _ _ _ _ _ _ _ _ _ _ _ _ _ hR2 hH2 hT
      · rw [if_neg z]
        exact ih _ _ _ _ _ _ _ _ _ _ _ _ _ _ _ _ _ _ _ _ _ _ _ _ _ _ _ _ _ _ _ _ _ _ _ hR2 hH2 hT
    rw [if_neg q]
    clear q
    by_cases q : ((xs (nI (4 * k)).toNatClampNeg) &&& 31) = 1
    · rw [if_pos q]
      obtain ⟨kk, c_row, c_nex, c_man, c_f3, c_rg, ans, m_ms, m_mv, m_svm, e1, e2, e3, hR2, hH2⟩ := op_change f3 (xs (nI (4 * k) + 1).toNatClampNeg) (xs (nI (4 * k) + 2).toNatClampNeg) hR hH
      rw [if_neg o1, if_neg o2, e1, Option.bind_some]
      dsimp only
      rw [if_neg o1, if_neg o2, e2, Option.bind_some]
      dsimp only
      rw [thk, Option.bind_some, if_pos rfl]
      by_cases z : kk = 0
      · rw [if_pos z, if_neg oob01, if_pos (lgk (e3 z))]
        exact ih _ _ _ _ _ _ _ _ _ _ _ _ _ _ _ _ _ _ _ _ _ _ _ _ _ _ _ _ _ _ _ _ _ _ _ hR2 hH2 hT
      · rw [if_neg z]
        exact ih _ _ _ _ _ _ _ _ _ _ _ _ _ _ _ _ _ _ _ _ _ _ _ _ _ _ _ _ _ _ _ _ _ _ _ hR2 hH2 hT
    rw [if_neg q]
    clear q
    by_cases q : ((xs (nI (4 * k)).toNatClampNeg) &&& 31) = 2
    · rw [if_pos q]
      obtain ⟨kk, c_len, c_nex, c_man, c_f3, c_rg, ans, m_ms, m_mv, m_svm, e1, e2, e3, hR2, hH2⟩ := op_cut f3 (xs (nI (4 * k) + 1).toNatClampNeg) hR hH
      rw [if_neg o1, e1, Option.bind_some]
      dsimp only
      rw [if_neg o1, e2, Option.bind_some]
      dsimp only
      rw [thk, Option.bind_some, if_pos rfl]
      by_cases z : kk = 0
      · rw [if_pos z, if_neg oob01, if_pos (lgk (e3 z))]
        exact ih _ _ _ _ _ _ _ _ _ _ _ _ _ _ _ _ _ _ _ _ _ _ _ _ _ _ _ _ _ _ _ _ _ _ _ hR2 hH2 hT
      · rw [if_neg z]
        exact ih _ _ _ _ _ _ _ _ _ _ _ _ _ _ _ _ _ _ _ _ _ _ _ _ _ _ _ _ _ _ _ _ _ _ _ hR2 hH2 hT
    rw [if_neg q]
    clear q
    by_cases q : ((xs (nI (4 * k)).toNatClampNeg) &&& 31) = 3
    · rw [if_pos q]
      obtain ⟨kk, c_row, c_len, c_nex, c_man, c_f3, c_rg, ans, m_ms, m_mv, m_svm, e1, e2, e3, hR2, hH2⟩ := op_grow f3 (xs (nI (4 * k) + 1).toNatClampNeg) (xs (nI (4 * k) + 2).toNatClampNeg) (xs (nI (4 * k) + 3).toNatClampNeg) hR hH
      rw [if_neg o1, if_neg o2, if_neg o3, e1, Option.bind_some]
      dsimp only
      rw [if_neg o1, if_neg o2, if_neg o3, e2, Option.bind_some]
      dsimp only
      rw [thk, Option.bind_some, if_pos rfl]
      by_cases z : kk = 0
      · rw [if_pos z, if_neg oob01, if_pos (lgk (e3 z))]
        exact ih _ _ _ _ _ _ _ _ _ _ _ _ _ _ _ _ _ _ _ _ _ _ _ _ _ _ _ _ _ _ _ _ _ _ _ hR2 hH2 hT
      · rw [if_neg z]
        exact ih _ _ _ _ _ _ _ _ _ _ _ _ _ _ _ _ _ _ _ _ _ _ _ _ _ _ _ _ _ _ _ _ _ _ _ hR2 hH2 hT
    rw [if_neg q]
    clear q
    by_cases q : ((xs (nI (4 * k)).toNatClampNeg) &&& 31) = 4
    · rw [if_pos q]
      obtain ⟨kk, c_ten, c_pha, c_kep, c_nex, c_man, c_f3, c_rg, ans, m_ms, m_mv, m_svm, e1, e2, e3, hR2, hH2⟩ := op_keep f3 (xs (nI (4 * k) + 1).toNatClampNeg) (xs (nI (4 * k) + 2).toNatClampNeg) hR hH
      rw [if_neg o1, if_neg o2, e1, Option.bind_some]
      dsimp only
      rw [if_neg o1, if_neg o2, e2, Option.bind_some]
      dsimp only
      rw [thk, Option.bind_some, if_pos rfl]
      by_cases z : kk = 0
      · rw [if_pos z, if_neg oob01, if_pos (lgk (e3 z))]
        exact ih _ _ _ _ _ _ _ _ _ _ _ _ _ _ _ _ _ _ _ _ _ _ _ _ _ _ _ _ _ _ _ _ _ _ _ hR2 hH2 hT
      · rw [if_neg z]
        exact ih _ _ _ _ _ _ _ _ _ _ _ _ _ _ _ _ _ _ _ _ _ _ _ _ _ _ _ _ _ _ _ _ _ _ _ hR2 hH2 hT
    rw [if_neg q]
    clear q
    by_cases q : ((xs (nI (4 * k)).toNatClampNeg) &&& 31) = 5
    · rw [if_pos q]
      obtain ⟨kk, c_ten, c_pha, c_kep, c_nex, c_man, c_f3, c_rg, ans, m_ms, m_mv, m_svm, e1, e2, e3, hR2, hH2⟩ := op_drop f3 (xs (nI (4 * k) + 1).toNatClampNeg) hR hH
      rw [if_neg o1, e1, Option.bind_some]
      dsimp only
      rw [if_neg o1, e2, Option.bind_some]
      dsimp only
      rw [thk, Option.bind_some, if_pos rfl]
      by_cases z : kk = 0
      · rw [if_pos z, if_neg oob01, if_pos (lgk (e3 z))]
        exact ih _ _ _ _ _ _ _ _ _ _ _ _ _ _ _ _ _ _ _ _ _ _ _ _ _ _ _ _ _ _ _ _ _ _ _ hR2 hH2 hT
      · rw [if_neg z]
        exact ih _ _ _ _ _ _ _ _ _ _ _ _ _ _ _ _ _ _ _ _ _ _ _ _ _ _ _ _ _ _ _ _ _ _ _ hR2 hH2 hT
    rw [if_neg q]
    clear q
    by_cases q : ((xs (nI (4 * k)).toNatClampNeg) &&& 31) = 6
    · rw [if_pos q]
      obtain ⟨kk, c_ten, c_pha, c_kep, c_nex, c_man, c_cel, c_cls, c_f3, c_rg, ans, m_ms, m_mv, m_svm, m_mc, e1, e2, e3, hR2, hH2⟩ := op_find cel mc cls f3 (xs (nI (4 * k) + 1).toNatClampNeg) (xs (nI (4 * k) + 2).toNatClampNeg) hR hH
      rw [if_neg o1, if_neg o2, e1, Option.bind_some]
      dsimp only
      rw [if_neg o1, if_neg o2, e2, Option.bind_some]
      dsimp only
      rw [thk, Option.bind_some, if_pos rfl]
      by_cases z : kk = 0
      · rw [if_pos z, if_neg oob01, if_pos (lgk (e3 z))]
        exact ih _ _ _ _ _ _ _ _ _ _ _ _ _ _ _ _ _ _ _ _ _ _ _ _ _ _ _ _ _ _ _ _ _ _ _ hR2 hH2 hT
      · rw [if_neg z]
        exact ih _ _ _ _ _ _ _ _ _ _ _ _ _ _ _ _ _ _ _ _ _ _ _ _ _ _ _ _ _ _ _ _ _ _ _ hR2 hH2 hT
    rw [if_neg q]
    clear q
    by_cases q : ((xs (nI (4 * k)).toNatClampNeg) &&& 31) = 7
    · rw [if_pos q]
      obtain ⟨ans, a1, a2, a3, a4, a5, a6, a7, a8, a9, b1, b2, b3, b4, b5, b6, b7, e1, e2, hR2, hH2⟩ := op_mend cel str tlr tsg mc mg mt ml cls hR hH
      rw [e1, Option.bind_some]
      dsimp only
      rw [e2, Option.bind_some]
      dsimp only
      rw [if_pos rfl]
      exact ih _ _ _ _ _ _ _ _ _ _ _ _ _ _ _ _ _ _ _ _ _ _ _ _ _ _ _ _ _ _ _ _ _ _ _ hR2 hH2 hT
    rw [if_neg q]
    clear q
    by_cases q : ((xs (nI (4 * k)).toNatClampNeg) &&& 31) = 8
    · rw [if_pos q]
      obtain ⟨kk, c_wfi, c_wmo, c_hun, c_nex, c_man, c_f3, c_rg, ans, m_ms, m_mv, m_svm, e1, e2, e3, hR2, hH2⟩ := op_set f3 (xs (nI (4 * k) + 1).toNatClampNeg) (xs (nI (4 * k) + 2).toNatClampNeg) hR hH
      rw [if_neg o1, if_neg o2, e1, Option.bind_some]
      dsimp only
      rw [if_neg o1, if_neg o2, e2, Option.bind_some]
      dsimp only
      rw [thk, Option.bind_some, if_pos rfl]
      by_cases z : kk = 0
      · rw [if_pos z, if_neg oob01, if_pos (lgk (e3 z))]
        exact ih _ _ _ _ _ _ _ _ _ _ _ _ _ _ _ _ _ _ _ _ _ _ _ _ _ _ _ _ _ _ _ _ _ _ _ hR2 hH2 hT
      · rw [if_neg z]
        exact ih _ _ _ _ _ _ _ _ _ _ _ _ _ _ _ _ _ _ _ _ _ _ _ _ _ _ _ _ _ _ _ _ _ _ _ hR2 hH2 hT
    rw [if_neg q]
    clear q
    by_cases q : ((xs (nI (4 * k)).toNatClampNeg) &&& 31) = 9
    · rw [if_pos q]
      obtain ⟨kk, c_cod, c_tln, c_f3, ans, m_mb, m_mln, e1, e2, e3, hT2⟩ := op_append f3 (xs (nI (4 * k) + 1).toNatClampNeg) hT
      rw [if_neg o1, e1, Option.bind_some]
      dsimp only
      rw [if_neg o1, e2, Option.bind_some]
      dsimp only
      rw [thk, Option.bind_some, if_pos rfl]
      by_cases z : kk = 0
      · rw [if_pos z, if_neg oob01, if_pos (lgk (e3 z))]
        exact ih _ _ _ _ _ _ _ _ _ _ _ _ _ _ _ _ _ _ _ _ _ _ _ _ _ _ _ _ _ _ _ _ _ _ _ hR hH hT2
      · rw [if_neg z]
        exact ih _ _ _ _ _ _ _ _ _ _ _ _ _ _ _ _ _ _ _ _ _ _ _ _ _ _ _ _ _ _ _ _ _ _ _ hR hH hT2
    rw [if_neg q]
    clear q
    by_cases q : ((xs (nI (4 * k)).toNatClampNeg) &&& 31) = 10
    · rw [if_pos q]
      obtain ⟨ans, e1, e2, hT2⟩ := op_clear hT
      rw [e1, Option.bind_some]
      dsimp only
      rw [e2, Option.bind_some]
      dsimp only
      rw [if_pos rfl]
      exact ih _ _ _ _ _ _ _ _ _ _ _ _ _ _ _ _ _ _ _ _ _ _ _ _ _ _ _ _ _ _ _ _ _ _ _ hR hH hT2
    rw [if_neg q]
    clear q
    by_cases q : ((xs (nI (4 * k)).toNatClampNeg) &&& 31) = 11
    · rw [if_pos q]
      obtain ⟨ans, b1, b2, b3, b4, e1, e2⟩ := op_firstError mr hT
      rw [e1, Option.bind_some]
      dsimp only
      rw [e2, Option.bind_some]
      dsimp only
      rw [if_pos rfl]
      exact ih _ _ _ _ _ _ _ _ _ _ _ _ _ _ _ _ _ _ _ _ _ _ _ _ _ _ _ _ _ _ _ _ _ _ _ hR hH hT
    rw [if_neg q]
    clear q
    by_cases q : ((xs (nI (4 * k)).toNatClampNeg) &&& 31) = 12
    · rw [if_pos q]
      obtain ⟨kk, c_row, c_len, c_nex, c_man, c_unf, c_tln, c_f3, c_rg, ans, m_ms, m_mv, m_svm, m_mln, m_mat, m_wel, m_mr, m_rdm, e1, e2, e3, hR2, hH2, hT2⟩ := op_putAll unf mr f3 hR hH hT
      rw [e1, Option.bind_some]
      dsimp only
      rw [e2, Option.bind_some]
      dsimp only
      rw [thk, Option.bind_some, if_pos rfl]
      by_cases z : kk = 0
      · rw [if_pos z, if_neg oob01, if_pos (lgk (e3 z))]
        exact ih _ _ _ _ _ _ _ _ _ _ _ _ _ _ _ _ _ _ _ _ _ _ _ _ _ _ _ _ _ _ _ _ _ _ _ hR2 hH2 hT2
      · rw [if_neg z]
        exact ih _ _ _ _ _ _ _ _ _ _ _ _ _ _ _ _ _ _ _ _ _ _ _ _ _ _ _ _ _ _ _ _ _ _ _ hR2 hH2 hT2
    rw [if_neg q]
    clear q
    by_cases q : ((xs (nI (4 * k)).toNatClampNeg) &&& 31) = 13
    · rw [if_pos q]
      obtain ⟨kk, c_row, c_ten, c_pha, c_len, c_kep, c_wfi, c_wmo, c_hun, c_nex, c_man, c_f3, ans, m_ms, m_svm, e1, e2, e3, hR2, hH2⟩ := op_undo f3 hR hH
      rw [e1, Option.bind_some]
      dsimp only
      rw [e2, Option.bind_some]
      dsimp only
      rw [thk, Option.bind_some, if_pos rfl]
      by_cases z : kk = 0
      · rw [if_pos z, if_neg oob01, if_pos (lgk (e3 z))]
        exact ih _ _ _ _ _ _ _ _ _ _ _ _ _ _ _ _ _ _ _ _ _ _ _ _ _ _ _ _ _ _ _ _ _ _ _ hR2 hH2 hT
      · rw [if_neg z]
        exact ih _ _ _ _ _ _ _ _ _ _ _ _ _ _ _ _ _ _ _ _ _ _ _ _ _ _ _ _ _ _ _ _ _ _ _ hR2 hH2 hT
    rw [if_neg q]
    clear q
    by_cases q : ((xs (nI (4 * k)).toNatClampNeg) &&& 31) = 14
    · rw [if_pos q]
      obtain ⟨kk, c_f3, ans, e1, e2, e3⟩ := op_sign f3 (xs (nI (4 * k) + 1).toNatClampNeg) hR
      rw [if_neg o1, e1, Option.bind_some]
      dsimp only
      rw [if_neg o1, e2, Option.bind_some]
      dsimp only
      rw [thk, Option.bind_some, if_pos rfl]
      by_cases z : kk = 0
      · rw [if_pos z, if_neg oob01, if_pos (lgk (e3 z))]
        exact ih _ _ _ _ _ _ _ _ _ _ _ _ _ _ _ _ _ _ _ _ _ _ _ _ _ _ _ _ _ _ _ _ _ _ _ hR hH hT
      · rw [if_neg z]
        exact ih _ _ _ _ _ _ _ _ _ _ _ _ _ _ _ _ _ _ _ _ _ _ _ _ _ _ _ _ _ _ _ _ _ _ _ hR hH hT
    rw [if_neg q]
    clear q
    by_cases q : ((xs (nI (4 * k)).toNatClampNeg) &&& 31) = 15
    · rw [if_pos q]
      obtain ⟨kk, c_cel, c_cls, c_str, c_tlr, c_tsg, c_f3, ans, m_mc, m_mg, m_mt, m_ml, e1, e2, e3⟩ := op_period cel str tlr tsg mc mg mt ml cls f3 (xs (nI (4 * k) + 1).toNatClampNeg) (xs (nI (4 * k) + 2).toNatClampNeg) hR
      rw [if_neg o1, if_neg o2, e1, Option.bind_some]
      dsimp only
      rw [if_neg o1, if_neg o2, e2, Option.bind_some]
      dsimp only
      rw [thk, Option.bind_some, if_pos rfl]
      by_cases z : kk = 0
      · rw [if_pos z, if_neg oob01, if_pos (lgk (e3 z))]
        exact ih _ _ _ _ _ _ _ _ _ _ _ _ _ _ _ _ _ _ _ _ _ _ _ _ _ _ _ _ _ _ _ _ _ _ _ hR hH hT
      · rw [if_neg z]
        exact ih _ _ _ _ _ _ _ _ _ _ _ _ _ _ _ _ _ _ _ _ _ _ _ _ _ _ _ _ _ _ _ _ _ _ _ hR hH hT
    rw [if_neg q]
    clear q
    by_cases q : ((xs (nI (4 * k)).toNatClampNeg) &&& 31) = 16
    · rw [if_pos q]
      obtain ⟨kk, c_cel, c_cls, c_f3, ans, m_mc, e1, e2, e3⟩ := op_remainder cel mc cls f3 (xs (nI (4 * k) + 1).toNatClampNeg) (xs (nI (4 * k) + 2).toNatClampNeg) (xs (nI (4 * k) + 3).toNatClampNeg) hR
      rw [if_neg o1, if_neg o2, if_neg o3, e1, Option.bind_some]
      dsimp only
      rw [if_neg o1, if_neg o2, if_neg o3, e2, Option.bind_some]
      dsimp only
      rw [thk, Option.bind_some, if_pos rfl]
      by_cases z : kk = 0
      · rw [if_pos z, if_neg oob01, if_pos (lgk (e3 z))]
        exact ih _ _ _ _ _ _ _ _ _ _ _ _ _ _ _ _ _ _ _ _ _ _ _ _ _ _ _ _ _ _ _ _ _ _ _ hR hH hT
      · rw [if_neg z]
        exact ih _ _ _ _ _ _ _ _ _ _ _ _ _ _ _ _ _ _ _ _ _ _ _ _ _ _ _ _ _ _ _ _ _ _ _ hR hH hT
    rw [if_neg q]
    clear q
    by_cases q : ((xs (nI (4 * k)).toNatClampNeg) &&& 31) = 17
    · rw [if_pos q]
      obtain ⟨kk, c_cel, c_cls, c_str, c_tlr, c_tsg, c_f3, ans, m_mc, m_mg, m_mt, m_ml, e1, e2, e3⟩ := op_told cel str tlr tsg mc mg mt ml cls f3 (xs (nI (4 * k) + 1).toNatClampNeg) (xs (nI (4 * k) + 2).toNatClampNeg) hR
      rw [if_neg o1, if_neg o2, e1, Option.bind_some]
      dsimp only
      rw [if_neg o1, if_neg o2, e2, Option.bind_some]
      dsimp only
      rw [thk, Option.bind_some, if_pos rfl]
      by_cases z : kk = 0
      · rw [if_pos z, if_neg oob01, if_pos (lgk (e3 z))]
        exact ih _ _ _ _ _ _ _ _ _ _ _ _ _ _ _ _ _ _ _ _ _ _ _ _ _ _ _ _ _ _ _ _ _ _ _ hR hH hT
      · rw [if_neg z]
        exact ih _ _ _ _ _ _ _ _ _ _ _ _ _ _ _ _ _ _ _ _ _ _ _ _ _ _ _ _ _ _ _ _ _ _ _ hR hH hT
    rw [if_neg q]
    clear q
    by_cases q : ((xs (nI (4 * k)).toNatClampNeg) &&& 31) = 18
    · rw [if_pos q]
      obtain ⟨kk, c_cel, c_cls, c_str, c_tlr, c_tsg, c_f3, ans, m_mc, m_mg, m_mt, m_ml, e1, e2, e3⟩ := op_count cel str tlr tsg mc mg mt ml cls f3 (xs (nI (4 * k) + 1).toNatClampNeg) hR hH
      rw [if_neg o1, e1, Option.bind_some]
      dsimp only
      rw [if_neg o1, e2, Option.bind_some]
      dsimp only
      rw [thk, Option.bind_some, if_pos rfl]
      by_cases z : kk = 0
      · rw [if_pos z, if_neg oob01, if_pos (lgk (e3 z))]
        exact ih _ _ _ _ _ _ _ _ _ _ _ _ _ _ _ _ _ _ _ _ _ _ _ _ _ _ _ _ _ _ _ _ _ _ _ hR hH hT
      · rw [if_neg z]
        exact ih _ _ _ _ _ _ _ _ _ _ _ _ _ _ _ _ _ _ _ _ _ _ _ _ _ _ _ _ _ _ _ _ _ _ _ hR hH hT
    rw [if_neg q]
    clear q
    by_cases q : ((xs (nI (4 * k)).toNatClampNeg) &&& 31) = 19
    · rw [if_pos q]
      obtain ⟨kk, c_f3, ans, e1, e2, e3⟩ := op_setting f3 (xs (nI (4 * k) + 1).toNatClampNeg) hR
      rw [if_neg o1, e1, Option.bind_some]
      dsimp only
      rw [if_neg o1, e2, Option.bind_some]
      dsimp only
      rw [thk, Option.bind_some, if_pos rfl]
      by_cases z : kk = 0
      · rw [if_pos z, if_neg oob01, if_pos (lgk (e3 z))]
        exact ih _ _ _ _ _ _ _ _ _ _ _ _ _ _ _ _ _ _ _ _ _ _ _ _ _ _ _ _ _ _ _ _ _ _ _ hR hH hT
      · rw [if_neg z]
        exact ih _ _ _ _ _ _ _ _ _ _ _ _ _ _ _ _ _ _ _ _ _ _ _ _ _ _ _ _ _ _ _ _ _ _ _ hR hH hT
    rw [if_neg q]
    clear q
    by_cases q : ((xs (nI (4 * k)).toNatClampNeg) &&& 31) = 20
    · rw [if_pos q]
      obtain ⟨kk, c_cel, c_cls, c_f3, ans, m_mc, e1, e2, e3⟩ := op_explains cel mc cls f3 (xs (nI (4 * k) + 1).toNatClampNeg) (xs (nI (4 * k) + 2).toNatClampNeg) hR
      rw [if_neg o1, if_neg o2, e1, Option.bind_some]
      dsimp only
      rw [if_neg o1, if_neg o2, e2, Option.bind_some]
      dsimp only
      rw [thk, Option.bind_some, if_pos rfl]
      by_cases z : kk = 0
      · rw [if_pos z, if_neg oob01, if_pos (lgk (e3 z))]
        exact ih _ _ _ _ _ _ _ _ _ _ _ _ _ _ _ _ _ _ _ _ _ _ _ _ _ _ _ _ _ _ _ _ _ _ _ hR hH hT
      · rw [if_neg z]
        exact ih _ _ _ _ _ _ _ _ _ _ _ _ _ _ _ _ _ _ _ _ _ _ _ _ _ _ _ _ _ _ _ _ _ _ _ hR hH hT
    rw [if_neg q]
    clear q
    by_cases q : ((xs (nI (4 * k)).toNatClampNeg) &&& 31) = 21
    · rw [if_pos q]
      obtain ⟨kk, c_cel, c_cls, c_f3, ans, m_mc, e1, e2, e3⟩ := op_best cel mc cls f3 (xs (nI (4 * k) + 1).toNatClampNeg) (xs (nI (4 * k) + 2).toNatClampNeg) hR
      rw [if_neg o1, if_neg o2, e1, Option.bind_some]
      dsimp only
      rw [if_neg o1, if_neg o2, e2, Option.bind_some]
      dsimp only
      rw [thk, Option.bind_some, if_pos rfl]
      by_cases z : kk = 0
      · rw [if_pos z, if_neg oob01, if_pos (lgk (e3 z))]
        exact ih _ _ _ _ _ _ _ _ _ _ _ _ _ _ _ _ _ _ _ _ _ _ _ _ _ _ _ _ _ _ _ _ _ _ _ hR hH hT
      · rw [if_neg z]
        exact ih _ _ _ _ _ _ _ _ _ _ _ _ _ _ _ _ _ _ _ _ _ _ _ _ _ _ _ _ _ _ _ _ _ _ _ hR hH hT
    rw [if_neg q]
    clear q
    by_cases q : ((xs (nI (4 * k)).toNatClampNeg) &&& 31) = 22
    · rw [if_pos q]
      obtain ⟨kk, c_cel, c_cls, c_f3, ans, m_mc, e1, e2, e3⟩ := op_bestPhase cel mc cls f3 (xs (nI (4 * k) + 1).toNatClampNeg) hR
      rw [if_neg o1, e1, Option.bind_some]
      dsimp only
      rw [if_neg o1, e2, Option.bind_some]
      dsimp only
      rw [thk, Option.bind_some, if_pos rfl]
      by_cases z : kk = 0
      · rw [if_pos z, if_neg oob01, if_pos (lgk (e3 z))]
        exact ih _ _ _ _ _ _ _ _ _ _ _ _ _ _ _ _ _ _ _ _ _ _ _ _ _ _ _ _ _ _ _ _ _ _ _ hR hH hT
      · rw [if_neg z]
        exact ih _ _ _ _ _ _ _ _ _ _ _ _ _ _ _ _ _ _ _ _ _ _ _ _ _ _ _ _ _ _ _ _ _ _ _ hR hH hT
    rw [if_neg q]
    clear q
    by_cases q : ((xs (nI (4 * k)).toNatClampNeg) &&& 31) = 23
    · rw [if_pos q]
      obtain ⟨kk, c_cel, c_cls, c_f3, ans, m_mc, e1, e2, e3⟩ := op_bestWindow cel mc cls f3 (xs (nI (4 * k) + 1).toNatClampNeg) (xs (nI (4 * k) + 2).toNatClampNeg) hR
      rw [if_neg o1, if_neg o2, e1, Option.bind_some]
      dsimp only
      rw [if_neg o1, if_neg o2, e2, Option.bind_some]
      dsimp only
      rw [thk, Option.bind_some, if_pos rfl]
      by_cases z : kk = 0
      · rw [if_pos z, if_neg oob01, if_pos (lgk (e3 z))]
        exact ih _ _ _ _ _ _ _ _ _ _ _ _ _ _ _ _ _ _ _ _ _ _ _ _ _ _ _ _ _ _ _ _ _ _ _ hR hH hT
      · rw [if_neg z]
        exact ih _ _ _ _ _ _ _ _ _ _ _ _ _ _ _ _ _ _ _ _ _ _ _ _ _ _ _ _ _ _ _ _ _ _ _ hR hH hT
    rw [if_neg q]
    clear q
    by_cases q : ((xs (nI (4 * k)).toNatClampNeg) &&& 31) = 24
    · rw [if_pos q]
      obtain ⟨x, a1, a2, a3, a4, a5, b1, b2, b3, b4, e1, e2, e3⟩ := op_share cel str tlr tsg mc mg mt ml cls hR
      rw [e1, Option.bind_some]
      dsimp only
      rw [e2, Option.bind_some]
      dsimp only
      rw [if_pos e3]
      exact ih _ _ _ _ _ _ _ _ _ _ _ _ _ _ _ _ _ _ _ _ _ _ _ _ _ _ _ _ _ _ _ _ _ _ _ hR hH hT
    rw [if_neg q]
    clear q
    by_cases q : ((xs (nI (4 * k)).toNatClampNeg) &&& 31) = 25
    · rw [if_pos q]
      obtain ⟨x, a1, a2, a3, a4, a5, b1, b2, b3, b4, e1, e2⟩ := op_digest cel str tlr tsg mc mg mt ml cls hR hH hT
      rw [e1, Option.bind_some]
      dsimp only
      rw [e2, Option.bind_some]
      dsimp only
      rw [if_pos (lgs x)]
      exact ih _ _ _ _ _ _ _ _ _ _ _ _ _ _ _ _ _ _ _ _ _ _ _ _ _ _ _ _ _ _ _ _ _ _ _ hR hH hT
    rw [if_neg q]
    clear q
    exact ih _ _ _ _ _ _ _ _ _ _ _ _ _ _ _ _ _ _ _ _ _ _ _ _ _ _ _ _ _ _ _ _ _ _ _ hR hH hT
theorem st_RS : RS (fun _ => 0) (fun _ => 0) (fun _ => 0) 0 0 0 0 75 (upd (fun _ => 0) (3 : Int32).toNatClampNeg 75) :=
  ⟨0, 0, 0, 0, 75, fun _ => 0, fun _ => 0, fun _ => 0, ⟨by omega, by omega, by omega, by omega, by omega, by omega, fun i hi => absurd hi (by omega), fun i hi => absurd hi (by omega)⟩,
    ⟨rfl, rfl, rfl, rfl, rfl, fun i hi => absurd hi (by omega), fun i hi => absurd hi (by omega)⟩, ⟨rfl, rfl, rfl, rfl, rfl, fun i hi => absurd hi (by omega), fun i hi => absurd hi (by omega)⟩⟩
theorem st_HI : HI 0 0 (fun _ => st0) (fun _ => 0) 0 := ⟨0, 0, by omega, by omega, rfl, rfl, rfl, fun j hj => absurd hj (by omega)⟩
theorem st_TX : TX (fun _ => 0) 0 (fun _ => 0) 0 := ⟨0, fun _ => 0, by omega, rfl, rfl, fun i hi => absurd hi (by omega)⟩
theorem law_goal (L : Nat) (xs : Nat → Int32) (hL : L ≤ 2048) : fL_law_L23 L xs FU 0 (fun _ => 0) (fun _ => 0) (fun _ => 0) 0 0 0 0 75 0 0 (fun _ => 0) (fun _ => 0) 0 (fun _ => 0) 0 (fun _ => 0) (fun _ => 0) (fun _ => 0) 0 (upd (fun _ => 0) (3 : Int32).toNatClampNeg 75) (fun _ => 0) 0 (fun _ => 0) 0 (fun _ => 0) (fun _ => 0) (fun _ => 0) (fun _ => 0) 0 0 (fun _ => 0) 0 0 (fun _ => 0) (fun _ => st0) = some 1 := by
  have h := l_law L xs hL FU 0 (fun _ => 0) (fun _ => 0) (fun _ => 0) 0 0 0 0 75 0 0 (fun _ => 0) (fun _ => 0) 0 (fun _ => 0) 0 (fun _ => 0) (fun _ => 0) (fun _ => 0) 0 (upd (fun _ => 0) (3 : Int32).toNatClampNeg 75) (fun _ => 0) 0 (fun _ => 0) 0 (fun _ => 0) (fun _ => 0) (fun _ => 0) (fun _ => 0) 0 0 (fun _ => 0) 0 0 (fun _ => 0) (fun _ => st0) (by omega) (by rw [FU_eq]; omega) st_RS st_HI st_TX
  exact h
