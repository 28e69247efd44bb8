/-! BOOKS of the class, at a: forest a + 1 (rows a + 2 .. a + 4), mail a + 5 (rows a + 6 .. a + 9), cost, serial, state, held, wanted, order a + 10 .. a + 15 -/
def BO (h : AH) (a : Nat) : Prop :=
  kd h a = 1 ∧ rv h a 0 = some (a + 1) ∧ rv h a 1 = some (a + 5) ∧ rv h a 2 = some (a + 10) ∧ rv h a 3 = some (a + 11) ∧ rv h a 4 = some (a + 12) ∧ rv h a 5 = some (a + 13) ∧ rv h a 6 = some (a + 14) ∧ rv h a 7 = some (a + 15) ∧
  kd h (a + 1) = 3 ∧ rv h (a + 1) 0 = some (a + 2) ∧ rv h (a + 1) 1 = some (a + 3) ∧ rv h (a + 1) 2 = some (a + 4) ∧
  kd h (a + 5) = 5 ∧ rv h (a + 5) 0 = some (a + 6) ∧ rv h (a + 5) 1 = some (a + 7) ∧ rv h (a + 5) 2 = some (a + 8) ∧ rv h (a + 5) 3 = some (a + 9) ∧
  kd h (a + 2) = 13 ∧ kd h (a + 3) = 13 ∧ kd h (a + 4) = 13 ∧ ln h (a + 2) = 16 ∧ ln h (a + 3) = 16 ∧ ln h (a + 4) = 16 ∧
  kd h (a + 6) = 14 ∧ kd h (a + 7) = 13 ∧ kd h (a + 8) = 13 ∧ kd h (a + 9) = 13 ∧ ln h (a + 6) = 40 ∧ ln h (a + 7) = 40 ∧ ln h (a + 8) = 40 ∧ ln h (a + 9) = 40 ∧
  kd h (a + 10) = 13 ∧ kd h (a + 11) = 13 ∧ kd h (a + 12) = 13 ∧ kd h (a + 13) = 13 ∧ kd h (a + 14) = 13 ∧ kd h (a + 15) = 13 ∧ ln h (a + 10) = 10 ∧ ln h (a + 11) = 10 ∧ ln h (a + 12) = 10 ∧ ln h (a + 13) = 10 ∧ ln h (a + 14) = 10 ∧ ln h (a + 15) = 10
/-- the resources of Books a are those of p -/
def RBr (h : AH) (a : Nat) (p : Nat → Int32) : Prop :=
  iv h (a + 1) 3 = p 0 ∧ (∀ r, r < nr p → iv h (a + 2) r = p (1 + r)) ∧ (∀ r, r < nr p → iv h (a + 3) r = mk 16 (fun o => decide (o < nr p) && bel p r o)) ∧
  (∀ r, r < nr p → iv h (a + 4) r = mk 16 (fun o => decide (o < nr p) && bel p o r)) ∧ ∀ r, nr p ≤ r → r < 16 → iv h (a + 4) r = 0
/-- its tasks, but for the order -/
def RBt (h : AH) (a : Nat) (p : Nat → Int32) : Prop :=
  iv h a 9 = mk 10 (th p) ∧ (∀ t, t < 10 → iv h (a + 10) t = p (32 + 6 * t + 1) ∧ iv h (a + 11) t = p (32 + 6 * t + 2) ∧ iv h (a + 13) t = p (32 + 6 * t + 3) ∧ iv h (a + 12) t = p (32 + 6 * t + 4)) ∧
  ∀ t, t < 10 → th p t = true → iv h (a + 14) t = if wt p t then p (32 + 6 * t + 5) else -1
/-- what the tasks' cells keep -/
def WFt (p : Nat → Int32) : Prop := ∀ t, t < 10 → (th p t = false → p (32 + 6 * t + 3) = 0) ∧ ∀ i, nr p ≤ i → i < 32 → bt (p (32 + 6 * t + 3)) i = false
theorem e8_inSet (s : Int32) {k : Nat} (hk : k < 32) (z : Nat) (h : AH) : fX8_inSet s (nI k) z h = some (if bt s k then 1 else 0, z, h) := by
  unfold fX8_inSet
  simp (disch := omega) only [bit_0]
  cases bt s k <;> simp
theorem e8_isWithin (x a b : Int32) (z : Nat) (h : AH) : fX8_isWithin x a b z h = some (if inI x a b then 1 else 0, z, h) := by
  unfold fX8_isWithin inI
  by_cases h1 : x < a
  · simp [h1]
  · by_cases h2 : b < x
    · simp [h1, h2]
    · simp [h1, h2]
theorem ge10 (x : Int32) : (10 ≤ x) = (9 < x) := by
  apply propext
  rw [Int32.le_iff_toInt_le, Int32.lt_iff_toInt_lt]
  have h1 : (10 : Int32).toInt = 10 := by decide
  have h2 : (9 : Int32).toInt = 9 := by decide
  omega
theorem bt_mk10 {c : Nat → Bool} {k : Nat} (hk : k < 10) : bt (mk 10 c) k = c k := by rw [bt_mk 10 c (by omega)]; simp [hk]
theorem e0_has {h : AH} {a : Nat} {p : Nat → Int32} (hB : BO h a) (hT : RBt h a p) (x : Int32) (z : Nat) : fX0_has a x z h = some (if tkI p x then 1 else 0, z, h) := by
  have hk := hB.1
  have h9 := hT.1
  unfold fX0_has tkI
  simp only [ge10]
  by_cases h1 : x < 0
  · simp [h1, inI]
  · by_cases h2 : 9 < x
    · simp [h1, h2, inI]
    · have hx : inI x 0 9 = true := by simp [inI, h1, h2]
      obtain ⟨t, ht, rfl⟩ := inI_of (n := 9) (by omega) hx
      simp (disch := omega) only [↓gd, ↓bl, ↓on, ↓xr, ↓reduceIte, if_true, if_false, kd_wI, ln_wI, rv_wI, iv_wI, jv_wI, kd_wJ, ln_wJ, rv_wJ, iv_wJ, nI_clamp, nI_leE, nI_ltE, nI_eqE, m1_ne, bit_0, bit_1, nI_negE, leN_F, leN_T, ltN_F, ltN_T, eqN_F, or_false, false_or, or_true, true_or, not_false_eq_true, not_true_eq_false, and_true, true_and, and_false, false_and, h1, h2, hk, h9, bt_mk10, hx, Bool.true_and]
      cases th p t <;> simp
theorem e0_isIn {h : AH} {a : Nat} {p : Nat → Int32} (hB : BO h a) (hT : RBt h a p) (x s : Int32) (z : Nat) : fX0_isIn a x s z h = some (if tkI p x && decide (p (32 + 6 * x.toNatClampNeg + 4) = s) then 1 else 0, z, h) := by
  have h9 := hT.1
  unfold fX0_isIn tkI
  simp only [ge10]
  by_cases h1 : x < 0
  · simp [h1, inI]
  · by_cases h2 : 9 < x
    · simp [h1, h2, inI]
    · have hx : inI x 0 9 = true := by simp [inI, h1, h2]
      obtain ⟨t, ht, rfl⟩ := inI_of (n := 9) (by omega) hx
      have h5 := (hT.2.1 t (by omega)).2.2.2
      obtain ⟨bk, b0, b1, b2, b3, b4, b5, b6, b7, fk, f0, f1, f2, mk0, m0, m1, m2, m3, kf0, kf1, kf2, lf0, lf1, lf2, km0, km1, km2, km3, lm0, lm1, lm2, lm3, kb2, kb3, kb4, kb5, kb6, kb7, lb2, lb3, lb4, lb5, lb6, lb7⟩ := id hB
      simp (disch := omega) only [↓gd, ↓bl, ↓on, ↓xr, ↓reduceIte, if_true, if_false, kd_wI, ln_wI, rv_wI, iv_wI, jv_wI, kd_wJ, ln_wJ, rv_wJ, iv_wJ, nI_clamp, nI_leE, nI_ltE, nI_eqE, m1_ne, bit_0, bit_1, nI_negE, leN_F, leN_T, ltN_F, ltN_T, eqN_F, or_false, false_or, or_true, true_or, not_false_eq_true, not_true_eq_false, and_true, true_and, and_false, false_and, bk, ↓bb b0, ↓bb b1, ↓bb b2, ↓bb b3, ↓bb b4, ↓bb b5, ↓bb b6, ↓bb b7, fk, ↓bb f0, ↓bb f1, ↓bb f2, mk0, ↓bb m0, ↓bb m1, ↓bb m2, ↓bb m3, kf0, kf1, kf2, lf0, lf1, lf2, km0, km1, km2, km3, lm0, lm1, lm2, lm3, kb2, kb3, kb4, kb5, kb6, kb7, lb2, lb3, lb4, lb5, lb6, lb7, h1, h2, h9, bt_mk10, hx, Bool.true_and, h5]
      cases th p t
      · simp
      · by_cases e : p (32 + 6 * t + 4) = s <;> simp [e]
/-- an Int32 that is a resource -/
def rsI (p : Nat → Int32) (x : Int32) : Bool := inI x 0 15 && decide (x.toNatClampNeg < nr p)
theorem ge16 (x : Int32) : (16 ≤ x) = (15 < x) := by
  apply propext
  rw [Int32.le_iff_toInt_le, Int32.lt_iff_toInt_lt]
  have h1 : (16 : Int32).toInt = 16 := by decide
  have h2 : (15 : Int32).toInt = 15 := by decide
  omega
theorem e2_has {h : AH} {a : Nat} {p : Nat → Int32} (hB : BO h a) (hW : WFr p) (hR : RBr h a p) (x : Int32) (z : Nat) : fX2_has (a + 1) x z h = some (if rsI p x then 1 else 0, z, h) := by
  have hn := hW.2.1
  have h3 : iv h (a + 1) 3 = nI (nr p) := hR.1.trans hW.1
  obtain ⟨bk, b0, b1, b2, b3, b4, b5, b6, b7, fk, f0, f1, f2, mk0, m0, m1, m2, m3, kf0, kf1, kf2, lf0, lf1, lf2, km0, km1, km2, km3, lm0, lm1, lm2, lm3, kb2, kb3, kb4, kb5, kb6, kb7, lb2, lb3, lb4, lb5, lb6, lb7⟩ := id hB
  unfold fX2_has rsI
  simp only [ge16]
  by_cases h1 : x < 0
  · simp [h1, inI]
  · obtain ⟨j, hj, rfl⟩ := nI_of h1
    have e15 : (15 : Int32) = nI 15 := rfl
    simp (disch := omega) only [↓gd, ↓bl, ↓on, ↓xr, ↓reduceIte, if_true, if_false, kd_wI, ln_wI, rv_wI, iv_wI, jv_wI, kd_wJ, ln_wJ, rv_wJ, iv_wJ, nI_clamp, nI_leE, nI_ltE, nI_eqE, m1_ne, bit_0, bit_1, nI_negE, leN_F, leN_T, ltN_F, ltN_T, eqN_F, or_false, false_or, or_true, true_or, not_false_eq_true, not_true_eq_false, and_true, true_and, and_false, false_and, bk, ↓bb b0, ↓bb b1, ↓bb b2, ↓bb b3, ↓bb b4, ↓bb b5, ↓bb b6, ↓bb b7, fk, ↓bb f0, ↓bb f1, ↓bb f2, mk0, ↓bb m0, ↓bb m1, ↓bb m2, ↓bb m3, kf0, kf1, kf2, lf0, lf1, lf2, km0, km1, km2, km3, lm0, lm1, lm2, lm3, kb2, kb3, kb4, kb5, kb6, kb7, lb2, lb3, lb4, lb5, lb6, lb7, h3, e15, inI_nI]
    by_cases h2 : nr p ≤ j
    · have : ¬ j < nr p := by omega
      simp [h2, this]
    · have h4 : j < nr p := by omega
      have h5 : ¬ 15 < j := by omega
      have h6 : j ≤ 15 := by omega
      simp [h2, h4, h5, h6]
theorem e0_hiw_loop {h : AH} {a : Nat} {p : Nat → Int32} (hB : BO h a) (hT : RBt h a p) {x : Int32} {near : Int32} (z : Nat) : ∀ (d k : Nat), k + d = 10 → ∀ fuel, d < fuel →
    lX0_holdersInWay_38 fuel a x near (mk k (fun k => decide (¬ nI k = x) && decide (¬ p (32 + 6 * k + 3) &&& near = 0))) (nI k) z h = some (mk 10 (fun k => decide (¬ nI k = x) && decide (¬ p (32 + 6 * k + 3) &&& near = 0)), z, h) := by
  intro d
  induction d with
  | zero =>
    intro k hk fuel hf
    obtain rfl : k = 10 := by omega
    cases fuel with
    | zero => omega
    | succ fuel =>
      show lX0_holdersInWay_38B _ _ _ _ _ _ _ _ = _
      simp (disch := omega) only [lX0_holdersInWay_38B, ↓gd, ↓bl, ↓on, ↓xr, ↓reduceIte, if_true, if_false, kd_wI, ln_wI, rv_wI, iv_wI, jv_wI, kd_wJ, ln_wJ, rv_wJ, iv_wJ, nI_clamp, nI_leE, nI_ltE, nI_eqE, m1_ne, bit_0, bit_1, nI_negE, leN_F, leN_T, ltN_F, ltN_T, eqN_F, or_false, false_or, or_true, true_or, not_false_eq_true, not_true_eq_false, and_true, true_and, and_false, false_and, li10]
  | succ d ih =>
    intro k hk fuel hf
    cases fuel with
    | zero => omega
    | succ fuel =>
      have h3 := ih (k + 1) (by omega) fuel (by omega)
      rw [mk_s] at h3
      have h5 := (hT.2.1 k (by omega)).2.2.1
      show lX0_holdersInWay_38B _ _ _ _ _ _ _ _ = _
      obtain ⟨bk, b0, b1, b2, b3, b4, b5, b6, b7, fk, f0, f1, f2, mk0, m0, m1, m2, m3, kf0, kf1, kf2, lf0, lf1, lf2, km0, km1, km2, km3, lm0, lm1, lm2, lm3, kb2, kb3, kb4, kb5, kb6, kb7, lb2, lb3, lb4, lb5, lb6, lb7⟩ := id hB
      simp (disch := omega) only [lX0_holdersInWay_38B, bX0_holdersInWay_72, ↓gd, ↓bl, ↓on, ↓xr, ↓reduceIte, if_true, if_false, kd_wI, ln_wI, rv_wI, iv_wI, jv_wI, kd_wJ, ln_wJ, rv_wJ, iv_wJ, nI_clamp, nI_leE, nI_ltE, nI_eqE, m1_ne, bit_0, bit_1, nI_negE, leN_F, leN_T, ltN_F, ltN_T, eqN_F, or_false, false_or, or_true, true_or, not_false_eq_true, not_true_eq_false, and_true, true_and, and_false, false_and, bk, ↓bb b0, ↓bb b1, ↓bb b2, ↓bb b3, ↓bb b4, ↓bb b5, ↓bb b6, ↓bb b7, fk, ↓bb f0, ↓bb f1, ↓bb f2, mk0, ↓bb m0, ↓bb m1, ↓bb m2, ↓bb m3, kf0, kf1, kf2, lf0, lf1, lf2, km0, km1, km2, km3, lm0, lm1, lm2, lm3, kb2, kb3, kb4, kb5, kb6, kb7, lb2, lb3, lb4, lb5, lb6, lb7, li10, h5, nI_1]
      by_cases e : nI k = x
      · simp only [e, not_true_eq_false, decide_false, Bool.false_and, Bool.false_eq_true, if_false, if_true] at h3 ⊢
        exact h3
      · by_cases e2 : p (32 + 6 * k + 3) &&& near = 0
        · simp only [e, e2, not_false_eq_true, not_true_eq_false, decide_true, decide_false, Bool.and_false, Bool.false_eq_true, if_false, if_true] at h3 ⊢
          exact h3
        · simp only [e, e2, not_false_eq_true, decide_true, Bool.and_self, if_false, if_true] at h3 ⊢
          exact h3
theorem near_0 {p : Nat → Int32} (hT : WFt p) (hn : nr p ≤ 16) {k r : Nat} (hk : k < 10) : (p (32 + 6 * k + 3) &&& (mk 16 (fun o => decide (o < nr p) && bel p r o) ||| mk 16 (fun o => decide (o < nr p) && bel p o r)) = 0) = (anyB (nr p) (fun i => bt (p (32 + 6 * k + 3)) i && ov p r i) = false) := by
  apply propext
  rw [eq0_bt, anyB_false]
  constructor
  · intro h i hi
    have := h i (by omega)
    rw [b_and, b_or, bt_mk 16 _ (by omega), bt_mk 16 _ (by omega)] at this
    unfold ov
    simpa [show i < 16 by omega, hi] using this
  · intro h i hi
    rw [b_and, b_or, bt_mk 16 _ (by omega), bt_mk 16 _ (by omega)]
    by_cases e : i < nr p
    · have := h i e
      unfold ov at this
      simpa [show i < 16 by omega, e] using this
    · simp [e]
theorem e0_hiw {h : AH} {a : Nat} {p : Nat → Int32} (hB : BO h a) (hW : WFr p) (hF : WFt p) (hR : RBr h a p) (hT : RBt h a p) {x : Int32} {r : Nat} (hr : r < nr p) (z : Nat) :
    fX0_holdersInWay a x (nI r) z h = some (mk 10 (fun k => decide (¬ nI k = x) && (th p k && anyB (nr p) (fun i => bt (p (32 + 6 * k + 3)) i && ov p r i))), z, h) := by
  have hn := hW.2.1
  have h3 := hR.2.2.1 r hr
  have h4 := hR.2.2.2.1 r hr
  have h5 := e0_hiw_loop hB hT (x := x) (near := mk 16 (fun o => decide (o < nr p) && bel p r o) ||| mk 16 (fun o => decide (o < nr p) && bel p o r)) z 10 0 (by omega) fu (by unfold fu; omega)
  rw [nI_0] at h5
  obtain ⟨bk, b0, b1, b2, b3, b4, b5, b6, b7, fk, f0, f1, f2, mk0, m0, m1, m2, m3, kf0, kf1, kf2, lf0, lf1, lf2, km0, km1, km2, km3, lm0, lm1, lm2, lm3, kb2, kb3, kb4, kb5, kb6, kb7, lb2, lb3, lb4, lb5, lb6, lb7⟩ := id hB
  simp (disch := omega) only [fX0_holdersInWay, ↓gd, ↓bl, ↓on, ↓xr, ↓reduceIte, if_true, if_false, kd_wI, ln_wI, rv_wI, iv_wI, jv_wI, kd_wJ, ln_wJ, rv_wJ, iv_wJ, nI_clamp, nI_leE, nI_ltE, nI_eqE, m1_ne, bit_0, bit_1, nI_negE, leN_F, leN_T, ltN_F, ltN_T, eqN_F, or_false, false_or, or_true, true_or, not_false_eq_true, not_true_eq_false, and_true, true_and, and_false, false_and, bk, ↓bb b0, ↓bb b1, ↓bb b2, ↓bb b3, ↓bb b4, ↓bb b5, ↓bb b6, ↓bb b7, fk, ↓bb f0, ↓bb f1, ↓bb f2, mk0, ↓bb m0, ↓bb m1, ↓bb m2, ↓bb m3, kf0, kf1, kf2, lf0, lf1, lf2, km0, km1, km2, km3, lm0, lm1, lm2, lm3, kb2, kb3, kb4, kb5, kb6, kb7, lb2, lb3, lb4, lb5, lb6, lb7, li16, h3, h4]
  rw [show (0 : Int32) = mk 0 (fun k => decide (¬ nI k = x) && decide (¬ p (32 + 6 * k + 3) &&& (mk 16 (fun o => decide (o < nr p) && bel p r o) ||| mk 16 (fun o => decide (o < nr p) && bel p o r)) = 0)) from rfl]
  refine h5.trans ?_
  congr 2
  refine mk_congr (fun k hk => ?_)
  congr 1
  simp only [near_0 hF hn hk]
  cases e : th p k
  · have h0 := (hF k hk).1 e
    have : anyB (nr p) (fun i => bt (p (32 + 6 * k + 3)) i && ov p r i) = false := by
      rw [anyB_false]; intro i _; rw [h0, b_0]; rfl
    simp [this]
  · simp
