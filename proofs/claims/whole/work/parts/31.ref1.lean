/-! THE REFERENCE: its object at m, its rows behind it (m + 1 the state, m + 2 the past, m + 3 told, m + 4 the text, m + 5 before, m + 6 path, m + 7 edges, m + 8 reach, m + 9 ways) -/
def MO (h : AH) (m : Nat) : Prop :=
  kd h m = 10 ∧ rv h m 0 = some (m + 1) ∧ rv h m 1 = some (m + 2) ∧ rv h m 3 = some (m + 3) ∧ rv h m 4 = some (m + 4) ∧ rv h m 10 = some (m + 5) ∧ rv h m 11 = some (m + 6) ∧ rv h m 13 = some (m + 7) ∧ rv h m 14 = some (m + 8) ∧ rv h m 15 = some (m + 9) ∧
  kd h (m + 1) = 13 ∧ kd h (m + 2) = 13 ∧ kd h (m + 3) = 13 ∧ kd h (m + 4) = 11 ∧ kd h (m + 5) = 13 ∧ kd h (m + 6) = 13 ∧ kd h (m + 7) = 13 ∧ kd h (m + 8) = 13 ∧ kd h (m + 9) = 13 ∧
  ln h (m + 1) = 613 ∧ ln h (m + 2) = 3065 ∧ ln h (m + 3) = 8 ∧ ln h (m + 4) = 120 ∧ ln h (m + 5) = 613 ∧ ln h (m + 6) = 10 ∧ ln h (m + 7) = 10 ∧ ln h (m + 8) = 10 ∧ ln h (m + 9) = 10240
/-- the state of the reference -/
abbrev ps (h : AH) (m : Nat) : Nat → Int32 := iv h (m + 1)
def nr (p : Nat → Int32) : Nat := (p 0).toNatClampNeg
/-- an Int32 between two numbers -/
def inI (x a b : Int32) : Bool := decide (¬ x < a ∧ ¬ b < x)
theorem e9_in (x a b : Int32) (z : Nat) (h : AH) : fX9_in x a b z h = some (if inI x a b then 1 else 0, z, h) := by
  unfold fX9_in inI
  by_cases h1 : x < a
  · simp [h1]
  · by_cases h2 : b < x
    · simp [h1, h2]
    · simp [h1, h2]
theorem ix0 : Int32.toNatClampNeg 0 = 0 := by decide
theorem ix6 (t w : Nat) : (32 + 6 * nI t) + nI w = nI (32 + 6 * t + w) := by
  rw [show (6 : Int32) = nI 6 from rfl, pk_mul, show (32 : Int32) = nI 32 from rfl, nI_add, nI_add]
theorem e9_of {h : AH} {m t w : Nat} (hM : MO h m) (ht : t < 10) (hw : w < 6) (z : Nat) : fX9_of m (nI t) (nI w) z h = some (ps h m (32 + 6 * t + w), z, h) := by
  obtain ⟨hk, r0, r1, r3, r4, r10, r11, r13, r14, r15, k1, k2, k3, k4, k5, k6, k7, k8, k9, l1, l2, l3, l4, l5, l6, l7, l8, l9⟩ := id hM
  simp (disch := omega) only [fX9_of, ↓gd, ↓bl, ↓on, ↓xr, ↓reduceIte, if_true, if_false, kd_wI, ln_wI, rv_wI, iv_wI, jv_wI, kd_wJ, ln_wJ, rv_wJ, iv_wJ, nI_clamp, nI_leE, nI_ltE, nI_eqE, m1_ne, bit_0, bit_1, nI_negE, leN_F, leN_T, ltN_F, ltN_T, eqN_F, or_false, false_or, or_true, true_or, not_false_eq_true, not_true_eq_false, and_true, true_and, and_false, false_and, ↓bb r0, ↓bb r1, ↓bb r3, ↓bb r4, ↓bb r10, ↓bb r11, ↓bb r13, ↓bb r14, ↓bb r15, hk, k1, k2, k3, k4, k5, k6, k7, k8, k9, l1, l2, l3, l4, l5, l6, l7, l8, l9, ix6]
theorem e9_puts {h : AH} {m t w : Nat} (hM : MO h m) (ht : t < 10) (hw : w < 6) (x : Int32) (z : Nat) : fX9_puts m (nI t) (nI w) x z h = some (z, wI h (m + 1) (32 + 6 * t + w) x) := by
  obtain ⟨hk, r0, r1, r3, r4, r10, r11, r13, r14, r15, k1, k2, k3, k4, k5, k6, k7, k8, k9, l1, l2, l3, l4, l5, l6, l7, l8, l9⟩ := id hM
  simp (disch := omega) only [fX9_puts, ↓gd, ↓bl, ↓on, ↓xr, ↓reduceIte, if_true, if_false, kd_wI, ln_wI, rv_wI, iv_wI, jv_wI, kd_wJ, ln_wJ, rv_wJ, iv_wJ, nI_clamp, nI_leE, nI_ltE, nI_eqE, m1_ne, bit_0, bit_1, nI_negE, leN_F, leN_T, ltN_F, ltN_T, eqN_F, or_false, false_or, or_true, true_or, not_false_eq_true, not_true_eq_false, and_true, true_and, and_false, false_and, ↓bb r0, ↓bb r1, ↓bb r3, ↓bb r4, ↓bb r10, ↓bb r11, ↓bb r13, ↓bb r14, ↓bb r15, hk, k1, k2, k3, k4, k5, k6, k7, k8, k9, l1, l2, l3, l4, l5, l6, l7, l8, l9, ix6]
/-- a task that is there -/
def th (p : Nat → Int32) (t : Nat) : Bool := decide (p (32 + 6 * t) = 1)
/-- an Int32 that is a task that is there: its number -/
def tkI (p : Nat → Int32) (x : Int32) : Bool := inI x 0 9 && th p x.toNatClampNeg
theorem inI_nI {t n : Nat} (ht : t < 2 ^ 31) (hn : n < 2 ^ 31) : inI (nI t) 0 (nI n) = decide (t ≤ n) := by
  unfold inI
  rw [show (0 : Int32) = nI 0 from rfl]
  simp (disch := omega) only [nI_ltE]
  simp
theorem inI_of {x : Int32} {n : Nat} (hn : n < 2 ^ 31) (h : inI x 0 (nI n) = true) : ∃ t, t ≤ n ∧ x = nI t := by
  unfold inI at h
  rw [decide_eq_true_eq] at h
  obtain ⟨j, hj, rfl⟩ := nI_of h.1
  rw [nI_ltE hn hj] at h
  exact ⟨j, by omega, rfl⟩
theorem e9_isTask {h : AH} {m : Nat} (hM : MO h m) (x : Int32) (z : Nat) : fX9_isTask m x z h = some (if tkI (ps h m) x then 1 else 0, z, h) := by
  unfold fX9_isTask tkI
  rw [bb3 (e9_in _ _ _ _ _)]
  cases hx : inI x 0 9
  · simp
  · obtain ⟨t, ht, rfl⟩ := inI_of (n := 9) (by omega) hx
    have h1 := e9_of (w := 0) hM (t := t) (by omega) (by omega) z
    rw [nI_0] at h1
    simp only [if_true, gd, hM.1, ↓reduceIte, bb3 h1]
    rw [nI_clamp (by omega)]
    unfold th
    by_cases e : ps h m (32 + 6 * t) = 1 <;> simp [e]
