/-! THE BEST PERIOD, PHASE, WINDOW: BOTH SIDES GO THE SAME WAY -/
def btl (val : Nat → Int32) (e : Nat) : Nat → Int32 → Int32 → Int32
  | 0, v3, _ => v3
  | d + 1, v3, v4 => if val (e - d) ≤ v4 then btl val e d v3 v4 else btl val e d (nI (e - d)) (val (e - d))
theorem btl_cases (val : Nat → Int32) (e : Nat) : ∀ (d : Nat) (v3 v4 : Int32), btl val e d v3 v4 = v3 ∨ ∃ k, e - d ≤ k ∧ k ≤ e ∧ btl val e d v3 v4 = nI k
  | 0, v3, v4 => Or.inl rfl
  | d + 1, v3, v4 => by
    rw [btl]
    split
    · rcases btl_cases val e d v3 v4 with h | ⟨k, h1, h2, h3⟩
      · exact Or.inl h
      · exact Or.inr ⟨k, by omega, h2, h3⟩
    · rcases btl_cases val e d (nI (e - d)) (val (e - d)) with h | ⟨k, h1, h2, h3⟩
      · exact Or.inr ⟨e - d, by omega, by omega, h⟩
      · exact Or.inr ⟨k, by omega, h2, h3⟩
section BT
variable {ms row ten pha : Nat → Int32} {len kep wfi wmo hun : Int32} {N K w0 w1 w2 : Nat} {r tn ph : Nat → Nat}
def valT (N w0 w1 : Nat) (r : Nat → Nat) (t : Nat) : Int32 := nI (4 * exw N w0 w1 r t 0) - nI (ncl t)
def valP (N w0 w1 : Nat) (r : Nat → Nat) (t p : Nat) : Int32 := nI (exw N w0 w1 r t p)
def valW (r : Nat → Nat) (t m s : Nat) : Int32 := nI (exs r t 0 s m (ncl t))
theorem valT_gt (hA : AB N K w0 w1 w2 r tn ph) {t : Nat} (ht : t ≤ 400) : ¬ valT N w0 w1 r t ≤ -41 := by
  have h1 := exw_le hA (t := t) (p := 0) ht
  have h2 := ncl_le ht
  unfold valT
  rw [Int32.le_iff_toInt_le, pk_sub_toInt (by omega) (by omega), show ((-41 : Int32)).toInt = -41 from rfl]
  omega
theorem l_bestT (hA : AB N K w0 w1 w2 r tn ph) (hC : CI row ten pha len kep wfi wmo hun N K w0 w1 w2 r tn ph) {e : Nat} (he : e ≤ 400) : ∀ (n d : Nat) (v3 v4 : Int32) (cel : Nat → Int32) (cls : Int32), d < n → 10 + d ≤ e + 1 →
    ∃ cel' cls', fX5_bestTenths_L9 row len wfi wmo (nI e) n v3 v4 (nI (e + 1 - d)) cel cls = some (btl (valT N w0 w1 r) e d v3 v4, cel', cls')
  | 0, d, v3, v4, cel, cls, h1, h2 => absurd h1 (by omega)
  | n + 1, 0, v3, v4, cel, cls, h1, h2 => by
    rw [fX5_bestTenths_L9, if_pos (by rw [nI_ltI (by omega) (by omega)]; omega)]
    exact ⟨cel, cls, rfl⟩
  | n + 1, d + 1, v3, v4, cel, cls, h1, h2 => by
    obtain ⟨cel', c1, c2⟩ := c_takeEx hA hC cel (t := e + 1 - (d + 1)) (p := 0) (by omega) (by omega) (by omega)
    rw [fX5_bestTenths_L9, if_neg (by rw [nI_ltI (by omega) (by omega)]; omega), lit_0, c1, Option.bind_some]
    show ∃ cel'' cls'', ((fX0_explained cel' (nI (ncl (e + 1 - (d + 1))))).bind _) = _
    rw [c2, Option.bind_some, e_classesOf (by omega), Option.bind_some, lit_4, pk_mul, lit_1, nI_add]
    rw [show (e + 1 - (d + 1) + 9) / 10 = ncl (e + 1 - (d + 1)) from rfl, show nI (4 * exw N w0 w1 r (e + 1 - (d + 1)) 0) - nI (ncl (e + 1 - (d + 1))) = valT N w0 w1 r (e + 1 - (d + 1)) from rfl]
    rw [btl, show e + 1 - (d + 1) + 1 = e + 1 - d by omega, show e + 1 - (d + 1) = e - d by omega]
    by_cases q : valT N w0 w1 r (e - d) ≤ v4
    · rw [if_pos q, if_pos q]
      exact l_bestT hA hC he n d v3 v4 cel' _ (by omega) (by omega)
    · rw [if_neg q, if_neg q]
      exact l_bestT hA hC he n d _ _ cel' _ (by omega) (by omega)
theorem l_bestT6 (hA : AB N K w0 w1 w2 r tn ph) (hM : MI ms N K w0 w1 w2 r tn ph) {e : Nat} (he : e ≤ 400) : ∀ (n d : Nat) (v3 v4 : Int32) (mc : Nat → Int32), d < n → 10 + d ≤ e + 1 →
    ∃ mc', fX6_bestOf_L22 ms (nI e) n v3 v4 (nI (e + 1 - d)) mc = some (btl (valT N w0 w1 r) e d v3 v4, mc')
  | 0, d, v3, v4, mc, h1, h2 => absurd h1 (by omega)
  | n + 1, 0, v3, v4, mc, h1, h2 => by
    rw [fX6_bestOf_L22, if_pos (by rw [nI_ltI (by omega) (by omega)]; omega)]
    exact ⟨mc, rfl⟩
  | n + 1, d + 1, v3, v4, mc, h1, h2 => by
    obtain ⟨mc', c1⟩ := e_explainedNow hA hM mc (t := e + 1 - (d + 1)) (p := 0) (by omega) (by omega) (by omega)
    rw [fX6_bestOf_L22, if_neg (by rw [nI_ltI (by omega) (by omega)]; omega), lit_0, c1, Option.bind_some]
    show ∃ mc'', ((fX6_classesOf (nI (e + 1 - (d + 1)))).bind _) = _
    rw [e_classesOf6 (by omega), Option.bind_some, lit_4, pk_mul, lit_1, nI_add]
    rw [show (e + 1 - (d + 1) + 9) / 10 = ncl (e + 1 - (d + 1)) from rfl, show nI (4 * exw N w0 w1 r (e + 1 - (d + 1)) 0) - nI (ncl (e + 1 - (d + 1))) = valT N w0 w1 r (e + 1 - (d + 1)) from rfl]
    rw [btl, show e + 1 - (d + 1) + 1 = e + 1 - d by omega, show e + 1 - (d + 1) = e - d by omega]
    by_cases q : valT N w0 w1 r (e - d) ≤ v4
    · rw [if_pos q, if_pos q, Option.bind_some, if_pos q]
      exact l_bestT6 hA hM he n d v3 v4 mc' (by omega) (by omega)
    · rw [if_neg q, if_neg q, Option.bind_some, if_neg q]
      exact l_bestT6 hA hM he n d _ _ mc' (by omega) (by omega)
def bestT (N w0 w1 : Nat) (r : Nat → Nat) (a e : Nat) : Int32 := btl (valT N w0 w1 r) e (e - a) (nI a) (valT N w0 w1 r a)
theorem bestT_in {a e : Nat} (h : a ≤ e) : ∃ k, a ≤ k ∧ k ≤ e ∧ bestT N w0 w1 r a e = nI k := by
  rcases btl_cases (valT N w0 w1 r) e (e - a) (nI a) (valT N w0 w1 r a) with q | ⟨k, h1, h2, h3⟩
  · exact ⟨a, Nat.le_refl a, h, q⟩
  · exact ⟨k, by omega, h2, h3⟩
theorem c_bestTenths (hA : AB N K w0 w1 w2 r tn ph) (hC : CI row ten pha len kep wfi wmo hun N K w0 w1 w2 r tn ph) (cel : Nat → Int32) (cls : Int32) {a e : Nat} (ha : 10 ≤ a) (hae : a ≤ e) (he : e ≤ 400) :
    ∃ cel' cls', fX5_bestTenths row len wfi wmo cel cls (nI a) (nI e) = some (bestT N w0 w1 r a e, cel', cls') := by
  obtain ⟨cel', cls', h⟩ := l_bestT hA hC he FU (e - a + 1) (nI a) (-41) cel cls (by rw [FU_eq]; omega) (by omega)
  rw [show e + 1 - (e - a + 1) = a by omega, btl, show e - (e - a) = a by omega, if_neg (valT_gt hA (by omega))] at h
  refine ⟨cel', cls', ?_⟩
  unfold fX5_bestTenths
  rw [h]
  rfl
theorem e_bestOf (hA : AB N K w0 w1 w2 r tn ph) (hM : MI ms N K w0 w1 w2 r tn ph) (mc : Nat → Int32) {a e : Nat} (ha : 10 ≤ a) (hae : a ≤ e) (he : e ≤ 400) :
    ∃ mc', fX6_bestOf ms mc (nI a) (nI e) = some (bestT N w0 w1 r a e, mc') := by
  obtain ⟨mc1, c1⟩ := e_explainedNow hA hM mc (t := a) (p := 0) ha (by omega) (by omega)
  obtain ⟨mc', h⟩ := l_bestT6 hA hM he FU (e - a) (nI a) (valT N w0 w1 r a) mc1 (by rw [FU_eq]; omega) (by omega)
  rw [show e + 1 - (e - a) = a + 1 by omega] at h
  refine ⟨mc', ?_⟩
  unfold fX6_bestOf
  rw [lit_0, c1, Option.bind_some]
  show ((fX6_classesOf (nI a)).bind _) = _
  rw [e_classesOf6 (by omega), Option.bind_some, lit_4, pk_mul, lit_1, nI_add]
  rw [show fX6_bestOf_L22 ms (nI e) FU (nI a) (nI (4 * exw N w0 w1 r a 0) - nI ((a + 9) / 10)) (nI (a + 1)) mc1 = _ from h]
  rfl
theorem l_bestP (hA : AB N K w0 w1 w2 r tn ph) (hC : CI row ten pha len kep wfi wmo hun N K w0 w1 w2 r tn ph) {e : Nat} (he0 : 9 ≤ e) (he : e ≤ 399) : ∀ (n d : Nat) (v3 v4 : Int32) (cel : Nat → Int32) (cls : Int32), d < n → d ≤ e + 1 →
    ∃ cel' cls', fX5_bestPhase_L24 row len wfi wmo (nI (e + 1)) n v3 v4 (nI (e + 1 - d)) cel cls = some (btl (valP N w0 w1 r (e + 1)) e d v3 v4, cel', cls')
  | 0, d, v3, v4, cel, cls, h1, h2 => absurd h1 (by omega)
  | n + 1, 0, v3, v4, cel, cls, h1, h2 => by
    rw [fX5_bestPhase_L24, if_pos (by rw [nI_leI (by omega) (by omega)]; omega)]
    exact ⟨cel, cls, rfl⟩
  | n + 1, d + 1, v3, v4, cel, cls, h1, h2 => by
    obtain ⟨cel', c1, c2⟩ := c_takeEx hA hC cel (t := e + 1) (p := e + 1 - (d + 1)) (by omega) (by omega) (by omega)
    rw [fX5_bestPhase_L24, if_neg (by rw [nI_leI (by omega) (by omega)]; omega), c1, Option.bind_some]
    show ∃ cel'' cls'', ((fX0_explained cel' (nI (ncl (e + 1)))).bind _) = _
    rw [c2, Option.bind_some, lit_1, nI_add]
    rw [show nI (exw N w0 w1 r (e + 1) (e + 1 - (d + 1))) = valP N w0 w1 r (e + 1) (e + 1 - (d + 1)) from rfl]
    rw [btl, show e + 1 - (d + 1) + 1 = e + 1 - d by omega, show e + 1 - (d + 1) = e - d by omega]
    by_cases q : valP N w0 w1 r (e + 1) (e - d) ≤ v4
    · rw [if_pos q, if_pos q]
      exact l_bestP hA hC he0 he n d v3 v4 cel' _ (by omega) (by omega)
    · rw [if_neg q, if_neg q]
      exact l_bestP hA hC he0 he n d _ _ cel' _ (by omega) (by omega)
theorem l_bestP6 (hA : AB N K w0 w1 w2 r tn ph) (hM : MI ms N K w0 w1 w2 r tn ph) {e : Nat} (he0 : 9 ≤ e) (he : e ≤ 399) : ∀ (n d : Nat) (v3 v4 : Int32) (mc : Nat → Int32), d < n → d ≤ e + 1 →
    ∃ mc', fX6_phaseFor_L12 ms (nI (e + 1)) n v3 v4 (nI (e + 1 - d)) mc = some (btl (valP N w0 w1 r (e + 1)) e d v3 v4, mc')
  | 0, d, v3, v4, mc, h1, h2 => absurd h1 (by omega)
  | n + 1, 0, v3, v4, mc, h1, h2 => by
    rw [fX6_phaseFor_L12, if_pos (by rw [nI_leI (by omega) (by omega)]; omega)]
    exact ⟨mc, rfl⟩
  | n + 1, d + 1, v3, v4, mc, h1, h2 => by
    obtain ⟨mc', c1⟩ := e_explainedNow hA hM mc (t := e + 1) (p := e + 1 - (d + 1)) (by omega) (by omega) (by omega)
    rw [fX6_phaseFor_L12, if_neg (by rw [nI_leI (by omega) (by omega)]; omega), c1, Option.bind_some, lit_1, nI_add]
    rw [show nI (exw N w0 w1 r (e + 1) (e + 1 - (d + 1))) = valP N w0 w1 r (e + 1) (e + 1 - (d + 1)) from rfl]
    rw [btl, show e + 1 - (d + 1) + 1 = e + 1 - d by omega, show e + 1 - (d + 1) = e - d by omega]
    show ∃ mc'', ((if valP N w0 w1 r (e + 1) (e - d) ≤ v4 then some v3 else some (nI (e - d))).bind _) = _
    by_cases q : valP N w0 w1 r (e + 1) (e - d) ≤ v4
    · rw [if_pos q, if_pos q, Option.bind_some, if_pos q]
      exact l_bestP6 hA hM he0 he n d v3 v4 mc' (by omega) (by omega)
    · rw [if_neg q, if_neg q, Option.bind_some, if_neg q]
      exact l_bestP6 hA hM he0 he n d _ _ mc' (by omega) (by omega)
def bestP (N w0 w1 : Nat) (r : Nat → Nat) (t : Nat) : Int32 := btl (valP N w0 w1 r t) (t - 1) (t - 1) (nI 0) (valP N w0 w1 r t 0)
theorem c_bestPhase (hA : AB N K w0 w1 w2 r tn ph) (hC : CI row ten pha len kep wfi wmo hun N K w0 w1 w2 r tn ph) (cel : Nat → Int32) (cls : Int32) {t : Nat} (ht : 10 ≤ t) (ht2 : t ≤ 400) :
    ∃ cel' cls', fX5_bestPhase_L24 row len wfi wmo (nI t) FU 0 (-1) 0 cel cls = some (bestP N w0 w1 r t, cel', cls') := by
  obtain ⟨e, rfl⟩ : ∃ e, t = e + 1 := ⟨t - 1, by omega⟩
  obtain ⟨cel', cls', h⟩ := l_bestP hA hC (e := e) (by omega) (by omega) FU (e + 1) (nI 0) NN cel cls (by rw [FU_eq]; omega) (by omega)
  have hx := exw_le hA (t := e + 1) (p := 0) ht2
  rw [Nat.sub_self, btl, Nat.sub_self, if_neg (show ¬ valP N w0 w1 r (e + 1) 0 ≤ NN by unfold valP; rw [nI_le_NN (by omega)]; exact id)] at h
  exact ⟨cel', cls', h⟩
theorem e_phaseFor (hA : AB N K w0 w1 w2 r tn ph) (hM : MI ms N K w0 w1 w2 r tn ph) (mc : Nat → Int32) {t : Nat} (ht : 10 ≤ t) (ht2 : t ≤ 400) :
    ∃ mc', fX6_phaseFor ms mc (nI t) = some (bestP N w0 w1 r t, mc') := by
  obtain ⟨e, rfl⟩ : ∃ e, t = e + 1 := ⟨t - 1, by omega⟩
  obtain ⟨mc1, c1⟩ := e_explainedNow hA hM mc (t := e + 1) (p := 0) ht ht2 (by omega)
  obtain ⟨mc', h⟩ := l_bestP6 hA hM (e := e) (by omega) (by omega) FU e (nI 0) (valP N w0 w1 r (e + 1) 0) mc1 (by rw [FU_eq]; omega) (by omega)
  rw [show e + 1 - e = 1 by omega] at h
  refine ⟨mc', ?_⟩
  unfold fX6_phaseFor
  rw [lit_0, c1, Option.bind_some]
  show ((fX6_phaseFor_L12 ms (nI (e + 1)) FU (nI 0) (valP N w0 w1 r (e + 1) 0) (nI 1) mc1).bind _) = _
  rw [h]
  rfl
theorem l_bestW (hA : AB N K w0 w1 w2 r tn ph) (hC : CI row ten pha len kep wfi wmo hun N K w0 w1 w2 r tn ph) {t m e : Nat} (ht : 10 ≤ t) (ht2 : t ≤ 400) (hm : e + m = N) : ∀ (n d : Nat) (v3 v4 : Int32) (cel : Nat → Int32) (cls : Int32), d < n → d ≤ e + 1 →
    ∃ cel' cls', fX5_bestWindow_L47 row len (nI t) (nI m) (nI e) n v3 v4 (nI (e + 1 - d)) cel cls = some (btl (valW r t m) e d v3 v4, cel', cls')
  | 0, d, v3, v4, cel, cls, h1, h2 => absurd h1 (by omega)
  | n + 1, 0, v3, v4, cel, cls, h1, h2 => by
    have hN := hA.1
    rw [fX5_bestWindow_L47, if_pos (by rw [nI_ltI (by omega) (by omega)]; omega)]
    exact ⟨cel, cls, rfl⟩
  | n + 1, d + 1, v3, v4, cel, cls, h1, h2 => by
    have hN := hA.1
    obtain ⟨cel', c1, c2⟩ := c_stretch hA hC cel (t := t) (p := 0) (a := e + 1 - (d + 1)) (m := m) ht ht2 (by omega) (by omega) (by omega)
    rw [fX5_bestWindow_L47, if_neg (by rw [nI_ltI (by omega) (by omega)]; omega), lit_0, c1, Option.bind_some]
    show ∃ cel'' cls'', ((fX0_explained cel' (nI (ncl t))).bind _) = _
    rw [e_explained c2 (by omega) ht2, Option.bind_some, lit_1, nI_add]
    rw [show nI (exs r t 0 (e + 1 - (d + 1)) m (ncl t)) = valW r t m (e + 1 - (d + 1)) from rfl]
    rw [btl, show e + 1 - (d + 1) + 1 = e + 1 - d by omega, show e + 1 - (d + 1) = e - d by omega]
    by_cases q : valW r t m (e - d) ≤ v4
    · rw [if_pos q, if_pos q]
      exact l_bestW hA hC ht ht2 hm n d v3 v4 cel' _ (by omega) (by omega)
    · rw [if_neg q, if_neg q]
      exact l_bestW hA hC ht ht2 hm n d _ _ cel' _ (by omega) (by omega)
theorem l_bestW6 (hA : AB N K w0 w1 w2 r tn ph) (hM : MI ms N K w0 w1 w2 r tn ph) {t m e : Nat} (ht : 10 ≤ t) (ht2 : t ≤ 400) (hm : e + m = N) : ∀ (n d : Nat) (v3 v4 : Int32) (mc : Nat → Int32), d < n → d ≤ e + 1 →
    ∃ mc', fX6_windowFor_L8 ms (nI t) (nI m) n v3 v4 (nI (e + 1 - d)) mc = some (btl (valW r t m) e d v3 v4, mc')
  | 0, d, v3, v4, mc, h1, h2 => absurd h1 (by omega)
  | n + 1, 0, v3, v4, mc, h1, h2 => by
    have hN := hA.1
    have m0 := hM.1
    rw [fX6_windowFor_L8]
    simp (disch := omega) only [lit_0, lit_1, lit_2, lit_3, lit_4, lit_5, lit_6, lit_7, lit_8, lit_9, lit_10, lit_12, lit_13, lit_20, lit_31, lit_33, lit_35, lit_40, lit_41, lit_48, lit_50, lit_52, lit_57, lit_60, lit_63, lit_97, lit_100, lit_126, lit_160, lit_239, lit_240, lit_253, lit_400, lit_540, lit_600, lit_1000, lit_1265, lit_1518, NN_def, nI_add, pk_mul, nI_clamp, nI_leI, nI_ltI, nI_eq, nI_ne_NN, NN_ne_nI, NN_lt_nI, nI_le_NN, nI_lt_NN, NN_le_nI, oob, Option.bind_some, if_true, if_false, if_pos, if_neg, m0]
    exact ⟨mc, rfl⟩
  | n + 1, d + 1, v3, v4, mc, h1, h2 => by
    have hN := hA.1
    have m0 := hM.1
    obtain ⟨mc', c1⟩ := e_explained6 hA hM mc (t := t) (p := 0) (a := e + 1 - (d + 1)) (m := m) ht ht2 (by omega) (by omega) (by omega)
    have h0 : ms (0 : Int32).toNatClampNeg = nI N := m0
    rw [fX6_windowFor_L8, if_neg (show ¬ oob 0 253 by decide), nI_add, h0, if_neg (show ¬ nI N < nI (e + 1 - (d + 1) + m) by rw [nI_ltI (by omega) (by omega)]; omega), lit_0, c1, Option.bind_some, lit_1, nI_add]
    rw [show nI (exs r t 0 (e + 1 - (d + 1)) m (ncl t)) = valW r t m (e + 1 - (d + 1)) from rfl]
    rw [btl, show e + 1 - (d + 1) + 1 = e + 1 - d by omega, show e + 1 - (d + 1) = e - d by omega]
    show ∃ mc'', ((if valW r t m (e - d) ≤ v4 then some v3 else some (nI (e - d))).bind _) = _
    by_cases q : valW r t m (e - d) ≤ v4
    · rw [if_pos q, if_pos q, Option.bind_some, if_pos q]
      exact l_bestW6 hA hM ht ht2 hm n d v3 v4 mc' (by omega) (by omega)
    · rw [if_neg q, if_neg q, Option.bind_some, if_neg q]
      exact l_bestW6 hA hM ht ht2 hm n d _ _ mc' (by omega) (by omega)
def bestW (N : Nat) (r : Nat → Nat) (t m : Nat) : Int32 := if m ≤ N then btl (valW r t m) (N - m) (N - m + 1) NN NN else NN
theorem c_bestWindow (hA : AB N K w0 w1 w2 r tn ph) (hC : CI row ten pha len kep wfi wmo hun N K w0 w1 w2 r tn ph) (cel : Nat → Int32) (cls : Int32) {t m : Nat} (ht : 10 ≤ t) (ht2 : t ≤ 400) (hm : m ≤ 240) :
    ∃ cel' cls', fX5_bestWindow_L47 row len (nI t) (nI m) (len - nI m) FU (-1) (-1) 0 cel cls = some (bestW N r t m, cel', cls') := by
  have hN := hA.1
  have hl : len = nI N := hC.1
  unfold bestW
  by_cases q : m ≤ N
  · obtain ⟨cel', cls', h⟩ := l_bestW hA hC (t := t) (m := m) (e := N - m) ht ht2 (by omega) FU (N - m + 1) NN NN cel cls (by rw [FU_eq]; omega) (by omega)
    rw [Nat.sub_self] at h
    refine ⟨cel', cls', ?_⟩
    rw [if_pos q, ← h, hl, pk_sub q]
    rfl
  · refine ⟨cel, cls, ?_⟩
    rw [if_neg q, show FU = 1999 + 1 from rfl, fX5_bestWindow_L47, hl, if_pos (by rw [lit_0]; exact pk_sneg (by omega) (by omega))]
    rfl
theorem e_windowFor (hA : AB N K w0 w1 w2 r tn ph) (hM : MI ms N K w0 w1 w2 r tn ph) (mc : Nat → Int32) {t m : Nat} (ht : 10 ≤ t) (ht2 : t ≤ 400) (hm : m ≤ 240) :
    ∃ mc', fX6_windowFor ms mc (nI t) (nI m) = some (bestW N r t m, mc') := by
  have hN := hA.1
  have m0 := hM.1
  have h0 : ms (0 : Int32).toNatClampNeg = nI N := m0
  unfold bestW fX6_windowFor
  by_cases q : m ≤ N
  · obtain ⟨mc', h⟩ := l_bestW6 hA hM (t := t) (m := m) (e := N - m) ht ht2 (by omega) FU (N - m + 1) NN NN mc (by rw [FU_eq]; omega) (by omega)
    rw [Nat.sub_self] at h
    refine ⟨mc', ?_⟩
    rw [if_pos q, NN_raw, lit_0, h]
    rfl
  · refine ⟨mc, ?_⟩
    rw [if_neg q, show FU = 1999 + 1 from rfl, fX6_windowFor_L8, if_neg (show ¬ oob 0 253 by decide), h0, lit_0, nI_add, if_pos (by rw [nI_ltI (by omega) (by omega)]; omega)]
    rfl
end BT
