theorem anyB_s (n : Nat) (c : Nat → Bool) : anyB (n + 1) c = (anyB n c || c n) := rfl
theorem le0E {n : Nat} (h : n < 2 ^ 31) : (nI n ≤ 0) = (n ≤ 0) := by rw [show (0 : Int32) = nI 0 from rfl, nI_leE h (by omega)]
theorem mk_s (k : Nat) (c : Nat → Bool) : mk (k + 1) c = if c k then mk k c ||| ((1 : Int32) <<< (nI k &&& 31)) else mk k c := rfl
theorem tkI_nI {p : Nat → Int32} {k : Nat} (hk : k < 10) : tkI p (nI k) = th p k := by
  unfold tkI
  rw [show (9 : Int32) = nI 9 from rfl, inI_nI (by omega) (by omega), nI_clamp (by omega)]
  simp [show k ≤ 9 by omega]
theorem wtI_nI {p : Nat → Int32} {k : Nat} (hk : k < 10) : wtI p (nI k) = wt p k := by
  unfold wtI
  rw [show (9 : Int32) = nI 9 from rfl, inI_nI (by omega) (by omega), nI_clamp (by omega)]
  simp [show k ≤ 9 by omega]
theorem e9_way_k {h : AH} {m : Nat} (hM : MO h m) (hW : WFr (ps h m)) {t r k : Nat} (ht : t < 10) (hr : r < nr (ps h m)) (hk9 : k < 10) (z : Nat) (q5 : Nat → Int32 → Int32 → Int32 → Int32 → Nat → AH → Option (Int32 × Nat × AH)) (acc : Int32) :
    lX9_inTheWay_15 q5 fu m (nI t) (nI r) acc (nI k) 0 z h = q5 m (nI t) (nI r) (if way (ps h m) t r k then acc ||| ((1 : Int32) <<< (nI k &&& 31)) else acc) (nI (k + 1)) z h := by
  have hn := hW.2.1
  have h0 : iv h (m + 1) 0 = nI (nr (ps h m)) := hW.1
  by_cases e : k = t
  · subst e
    show lX9_inTheWay_15B _ _ _ _ _ _ _ _ _ _ = _
    have e0 : nr (ps h m) ≠ 0 := by omega
    obtain ⟨hk, r0, r1, r3, r4, r10, r11, r13, r14, r15, k1, k2, k3, k4, k5, k6, k7, k8, k9, l1, l2, l3, l4, l5, l6, l7, l8, l9⟩ := id hM
    simp (disch := omega) only [lX9_inTheWay_15B, bX9_inTheWay_84, ↓gd, ↓bl, ↓on, ↓xr, ↓reduceIte, if_true, if_false, kd_wI, ln_wI, rv_wI, iv_wI, jv_wI, kd_wJ, ln_wJ, rv_wJ, iv_wJ, nI_clamp, nI_leE, nI_ltE, nI_eqE, m1_ne, bit_0, bit_1, nI_negE, leN_F, leN_T, ltN_F, ltN_T, eqN_F, or_false, false_or, or_true, true_or, not_false_eq_true, not_true_eq_false, and_true, true_and, and_false, false_and, ↓bb r0, ↓bb r1, ↓bb r3, ↓bb r4, ↓bb r10, ↓bb r11, ↓bb r13, ↓bb r14, ↓bb r15, hk, k1, k2, k3, k4, k5, k6, k7, k8, k9, l1, l2, l3, l4, l5, l6, l7, l8, l9, ix0, lt00, le0E, h0, way, ne_eq, not_true_eq_false, decide_false, Bool.false_and, nI_1, Bool.false_eq_true]
  · cases hth : th (ps h m) k
    · show lX9_inTheWay_15B _ _ _ _ _ _ _ _ _ _ = _
      obtain ⟨hk, r0, r1, r3, r4, r10, r11, r13, r14, r15, k1, k2, k3, k4, k5, k6, k7, k8, k9, l1, l2, l3, l4, l5, l6, l7, l8, l9⟩ := id hM
      simp (disch := omega) only [lX9_inTheWay_15B, bX9_inTheWay_84, ↓gd, ↓bl, ↓on, ↓xr, ↓reduceIte, if_true, if_false, kd_wI, ln_wI, rv_wI, iv_wI, jv_wI, kd_wJ, ln_wJ, rv_wJ, iv_wJ, nI_clamp, nI_leE, nI_ltE, nI_eqE, m1_ne, bit_0, bit_1, nI_negE, leN_F, leN_T, ltN_F, ltN_T, eqN_F, or_false, false_or, or_true, true_or, not_false_eq_true, not_true_eq_false, and_true, true_and, and_false, false_and, ↓bb r0, ↓bb r1, ↓bb r3, ↓bb r4, ↓bb r10, ↓bb r11, ↓bb r13, ↓bb r14, ↓bb r15, hk, k1, k2, k3, k4, k5, k6, k7, k8, k9, l1, l2, l3, l4, l5, l6, l7, l8, l9, ix0, lt00, le0E, h0, way, hth, ↓bb3 (e9_isTask hM _ _), tkI_nI, nI_1, Bool.false_and, Bool.and_false, Bool.false_eq_true, nI_0]
    · have h1 := e9_way_in hM hW ht hr hk9 e hth z q5 acc (nr (ps h m)) 0 (by omega) fu (by unfold fu; omega)
      rw [nI_0] at h1
      simp only [anyB, Bool.false_eq_true, if_false] at h1
      rw [h1, nI_1]
      simp [way, e, hth]
theorem e9_way_loop {h : AH} {m : Nat} (hM : MO h m) (hW : WFr (ps h m)) {t r : Nat} (ht : t < 10) (hr : r < nr (ps h m)) (z : Nat) : ∀ (d k : Nat), k + d = 10 → ∀ fuel, d < fuel → lX9_inTheWay_5 fuel m (nI t) (nI r) (mk k (way (ps h m) t r)) (nI k) z h = some (mk 10 (way (ps h m) t r), z, h) := by
  intro d
  induction d with
  | zero =>
    intro k hk fuel hf
    obtain rfl : k = 10 := by omega
    cases fuel with
    | zero => omega
    | succ fuel =>
      show lX9_inTheWay_5B _ _ _ _ _ _ _ _ = _
      simp (disch := omega) only [lX9_inTheWay_5B, ↓gd, ↓bl, ↓on, ↓xr, ↓reduceIte, if_true, if_false, kd_wI, ln_wI, rv_wI, iv_wI, jv_wI, kd_wJ, ln_wJ, rv_wJ, iv_wJ, nI_clamp, nI_leE, nI_ltE, nI_eqE, m1_ne, bit_0, bit_1, nI_negE, leN_F, leN_T, ltN_F, ltN_T, eqN_F, or_false, false_or, or_true, true_or, not_false_eq_true, not_true_eq_false, and_true, true_and, and_false, false_and, li10]
  | succ d ih =>
    intro k hk fuel hf
    cases fuel with
    | zero => omega
    | succ fuel =>
      show lX9_inTheWay_5B _ _ _ _ _ _ _ _ = _
      simp (disch := omega) only [lX9_inTheWay_5B, ↓gd, ↓bl, ↓on, ↓xr, ↓reduceIte, if_true, if_false, kd_wI, ln_wI, rv_wI, iv_wI, jv_wI, kd_wJ, ln_wJ, rv_wJ, iv_wJ, nI_clamp, nI_leE, nI_ltE, nI_eqE, m1_ne, bit_0, bit_1, nI_negE, leN_F, leN_T, ltN_F, ltN_T, eqN_F, or_false, false_or, or_true, true_or, not_false_eq_true, not_true_eq_false, and_true, true_and, and_false, false_and, li10, e9_way_k hM hW ht hr (show k < 10 by omega)]
      rw [← mk_s]
      exact ih (k + 1) (by omega) fuel (by omega)
theorem e9_inTheWay {h : AH} {m : Nat} (hM : MO h m) (hW : WFr (ps h m)) {t r : Nat} (ht : t < 10) (hr : r < nr (ps h m)) (z : Nat) : fX9_inTheWay m (nI t) (nI r) z h = some (mk 10 (way (ps h m) t r), z, h) := by
  have := e9_way_loop hM hW ht hr z 10 0 (by omega) fu (by unfold fu; omega)
  rw [nI_0] at this
  exact this
/-- what a waiting task wants -/
def wan (p : Nat → Int32) (t : Nat) : Nat := (p (32 + 6 * t + 5)).toNatClampNeg
def WFw (p : Nat → Int32) : Prop := ∀ t, t < 10 → wt p t = true → wan p t < nr p ∧ p (32 + 6 * t + 5) = nI (wan p t)
/-- for whom a task waits -/
def wf (p : Nat → Int32) (t : Nat) : Nat → Bool := fun k => wt p t && way p t (wan p t) k
theorem mk_F (n : Nat) : mk n (fun _ => false) = 0 := by
  induction n with
  | zero => rfl
  | succ n ih => rw [mk_s, if_neg (by simp), ih]
theorem e9_waitsFor {h : AH} {m : Nat} (hM : MO h m) (hW : WFr (ps h m)) (hw : WFw (ps h m)) {t : Nat} (ht : t < 10) (z : Nat) : fX9_waitsFor m (nI t) z h = some (mk 10 (wf (ps h m) t), z, h) := by
  have hk := hM.1
  cases e : wt (ps h m) t
  · simp (disch := omega) only [fX9_waitsFor, ↓gd, ↓bl, ↓on, ↓xr, ↓reduceIte, if_true, if_false, kd_wI, ln_wI, rv_wI, iv_wI, jv_wI, kd_wJ, ln_wJ, rv_wJ, iv_wJ, nI_clamp, nI_leE, nI_ltE, nI_eqE, m1_ne, bit_0, bit_1, nI_negE, leN_F, leN_T, ltN_F, ltN_T, eqN_F, or_false, false_or, or_true, true_or, not_false_eq_true, not_true_eq_false, and_true, true_and, and_false, false_and, hk, ↓bb3 (e9_isWaiting hM _ _), wtI_nI, e, Bool.false_eq_true]
    have : wf (ps h m) t = fun _ => false := by funext k; simp [wf, e]
    rw [this, mk_F]
  · obtain ⟨h1, h2⟩ := hw t ht e
    have h3 := e9_of (w := 5) hM (t := t) (by omega) (by omega) z
    rw [h2] at h3
    simp (disch := omega) only [fX9_waitsFor, ↓gd, ↓bl, ↓on, ↓xr, ↓reduceIte, if_true, if_false, kd_wI, ln_wI, rv_wI, iv_wI, jv_wI, kd_wJ, ln_wJ, rv_wJ, iv_wJ, nI_clamp, nI_leE, nI_ltE, nI_eqE, m1_ne, bit_0, bit_1, nI_negE, leN_F, leN_T, ltN_F, ltN_T, eqN_F, or_false, false_or, or_true, true_or, not_false_eq_true, not_true_eq_false, and_true, true_and, and_false, false_and, hk, ↓bb3 (e9_isWaiting hM _ _), wtI_nI, e, ne10, li5, ↓bb3 h3, ↓bb3 (e9_inTheWay hM hW ht h1 _)]
    have : wf (ps h m) t = way (ps h m) t (wan (ps h m) t) := by funext k; simp [wf, e]
    rw [this]
/-- t holds r or something over it -/
def ovr (p : Nat → Int32) (t r : Nat) : Bool := anyB (nr p) (fun i => bt (p (32 + 6 * t + 3)) i && bel p r i)
theorem e9_over_loop {h : AH} {m : Nat} (hM : MO h m) (hW : WFr (ps h m)) {t r : Nat} (ht : t < 10) (hr : r < nr (ps h m)) (z : Nat) : ∀ (d i : Nat), i + d = nr (ps h m) → ∀ fuel, d < fuel →
    lX9_isOver_5 fuel m (nI t) (nI r) (if anyB i (fun i => bt (ps h m (32 + 6 * t + 3)) i && bel (ps h m) r i) then 1 else 0) (nI i) z h = some (if ovr (ps h m) t r then 1 else 0, z, h) := by
  intro d
  have hn := hW.2.1
  have h0 : iv h (m + 1) 0 = nI (nr (ps h m)) := hW.1
  induction d with
  | zero =>
    intro i hi fuel hf
    cases fuel with
    | zero => omega
    | succ fuel =>
      obtain rfl : i = nr (ps h m) := by omega
      show lX9_isOver_5B _ _ _ _ _ _ _ _ = _
      obtain ⟨hk, r0, r1, r3, r4, r10, r11, r13, r14, r15, k1, k2, k3, k4, k5, k6, k7, k8, k9, l1, l2, l3, l4, l5, l6, l7, l8, l9⟩ := id hM
      simp (disch := omega) only [lX9_isOver_5B, ↓gd, ↓bb r0, ↓bb r1, ↓bb r3, ↓bb r4, ↓bb r10, ↓bb r11, ↓bb r13, ↓bb r14, ↓bb r15, hk, k1, k2, k3, k4, k5, k6, k7, k8, k9, l1, l2, l3, l4, l5, l6, l7, l8, l9, ↓reduceIte, ix0, lt00, h0, leN_F, or_false, false_or, not_false_eq_true, Int32.le_refl]
      unfold ovr
      split <;> simp
  | succ d ih =>
    intro i hi fuel hf
    cases fuel with
    | zero => omega
    | succ fuel =>
      have h1 := e9_of (w := 3) hM (t := t) (by omega) (by omega) z
      have h2 := ih (i + 1) (by omega) fuel (by omega)
      rw [anyB_s] at h2
      show lX9_isOver_5B _ _ _ _ _ _ _ _ = _
      obtain ⟨hk, r0, r1, r3, r4, r10, r11, r13, r14, r15, k1, k2, k3, k4, k5, k6, k7, k8, k9, l1, l2, l3, l4, l5, l6, l7, l8, l9⟩ := id hM
      cases ha : anyB i (fun i => bt (ps h m (32 + 6 * t + 3)) i && bel (ps h m) r i)
      · rw [ha] at h2
        simp (disch := omega) only [lX9_isOver_5B, bX9_isOver_45, bX9_isOver_49, bX9_isOver_50, ↓gd, ↓bl, ↓on, ↓xr, ↓reduceIte, if_true, if_false, kd_wI, ln_wI, rv_wI, iv_wI, jv_wI, kd_wJ, ln_wJ, rv_wJ, iv_wJ, nI_clamp, nI_leE, nI_ltE, nI_eqE, m1_ne, bit_0, bit_1, nI_negE, leN_F, leN_T, ltN_F, ltN_T, eqN_F, or_false, false_or, or_true, true_or, not_false_eq_true, not_true_eq_false, and_true, true_and, and_false, false_and, ↓bb r0, ↓bb r1, ↓bb r3, ↓bb r4, ↓bb r10, ↓bb r11, ↓bb r13, ↓bb r14, ↓bb r15, hk, k1, k2, k3, k4, k5, k6, k7, k8, k9, l1, l2, l3, l4, l5, l6, l7, l8, l9, ix0, lt00, h0, li3, ↓bb3 h1, Bool.false_eq_true, nI_1]
        cases hb : bt (ps h m (32 + 6 * t + 3)) i
        · simp only [hb, Bool.false_and, Bool.or_false, Bool.false_eq_true, if_false] at h2 ⊢
          exact h2
        · simp only [if_true, ↓bb3 (e9_isBelow hM hW hr (show i < 2 ^ 31 by omega) z)]
          cases ho : bel (ps h m) r i
          · simp only [hb, ho, Bool.and_false, Bool.or_false, Bool.false_eq_true, if_false] at h2 ⊢
            simpa using h2
          · simp only [hb, ho, Bool.and_self, Bool.or_true, if_true] at h2 ⊢
            simpa using h2
      · rw [ha] at h2
        simp (disch := omega) only [lX9_isOver_5B, bX9_isOver_45, bX9_isOver_49, bX9_isOver_50, ↓gd, ↓bl, ↓on, ↓xr, ↓reduceIte, if_true, if_false, kd_wI, ln_wI, rv_wI, iv_wI, jv_wI, kd_wJ, ln_wJ, rv_wJ, iv_wJ, nI_clamp, nI_leE, nI_ltE, nI_eqE, m1_ne, bit_0, bit_1, nI_negE, leN_F, leN_T, ltN_F, ltN_T, eqN_F, or_false, false_or, or_true, true_or, not_false_eq_true, not_true_eq_false, and_true, true_and, and_false, false_and, ↓bb r0, ↓bb r1, ↓bb r3, ↓bb r4, ↓bb r10, ↓bb r11, ↓bb r13, ↓bb r14, ↓bb r15, hk, k1, k2, k3, k4, k5, k6, k7, k8, k9, l1, l2, l3, l4, l5, l6, l7, l8, l9, ix0, lt00, h0, ne10, nI_1]
        simpa using h2
theorem e9_isOver {h : AH} {m : Nat} (hM : MO h m) (hW : WFr (ps h m)) {t r : Nat} (ht : t < 10) (hr : r < nr (ps h m)) (z : Nat) : fX9_isOver m (nI t) (nI r) z h = some (if ovr (ps h m) t r then 1 else 0, z, h) := by
  have hn := hW.2.1
  have := e9_over_loop hM hW ht hr z (nr (ps h m)) 0 (by omega) fu (by unfold fu; omega)
  simp only [anyB, nI_0, Bool.false_eq_true, if_false] at this
  exact this
/-- the younger ones of a set -/
def yg (p : Nat → Int32) (t : Nat) (s : Nat → Bool) : Nat → Bool := fun k => s k && decide (¬ p (32 + 6 * k + 2) ≤ p (32 + 6 * t + 2))
theorem e9_young_loop {h : AH} {m : Nat} (hM : MO h m) {t : Nat} (ht : t < 10) (s : Int32) (z : Nat) : ∀ (d k : Nat), k + d = 10 → ∀ fuel, d < fuel → lX9_younger_5 fuel m (nI t) s (mk k (yg (ps h m) t (bt s))) (nI k) z h = some (mk 10 (yg (ps h m) t (bt s)), z, h) := by
  intro d
  have hk0 := hM.1
  induction d with
  | zero =>
    intro k hk fuel hf
    obtain rfl : k = 10 := by omega
    cases fuel with
    | zero => omega
    | succ fuel =>
      show lX9_younger_5B _ _ _ _ _ _ _ _ = _
      simp (disch := omega) only [lX9_younger_5B, ↓gd, ↓bl, ↓on, ↓xr, ↓reduceIte, if_true, if_false, kd_wI, ln_wI, rv_wI, iv_wI, jv_wI, kd_wJ, ln_wJ, rv_wJ, iv_wJ, nI_clamp, nI_leE, nI_ltE, nI_eqE, m1_ne, bit_0, bit_1, nI_negE, leN_F, leN_T, ltN_F, ltN_T, eqN_F, or_false, false_or, or_true, true_or, not_false_eq_true, not_true_eq_false, and_true, true_and, and_false, false_and, li10]
  | succ d ih =>
    intro k hk fuel hf
    cases fuel with
    | zero => omega
    | succ fuel =>
      have h1 := e9_of (w := 2) hM (t := k) (by omega) (by omega) z
      have h2 := e9_of (w := 2) hM (t := t) (by omega) (by omega) z
      have h3 := ih (k + 1) (by omega) fuel (by omega)
      rw [mk_s] at h3
      show lX9_younger_5B _ _ _ _ _ _ _ _ = _
      simp (disch := omega) only [lX9_younger_5B, bX9_younger_46, bX9_younger_47, ↓gd, ↓bl, ↓on, ↓xr, ↓reduceIte, if_true, if_false, kd_wI, ln_wI, rv_wI, iv_wI, jv_wI, kd_wJ, ln_wJ, rv_wJ, iv_wJ, nI_clamp, nI_leE, nI_ltE, nI_eqE, m1_ne, bit_0, bit_1, nI_negE, leN_F, leN_T, ltN_F, ltN_T, eqN_F, or_false, false_or, or_true, true_or, not_false_eq_true, not_true_eq_false, and_true, true_and, and_false, false_and, li10, hk0, li2, ↓bb3 h1, ↓bb3 h2, or_0, nI_1]
      cases hb : bt s k
      · simp only [yg, hb, Bool.false_and, Bool.false_eq_true, if_false] at h3 ⊢
        exact h3
      · by_cases e : ps h m (32 + 6 * k + 2) ≤ ps h m (32 + 6 * t + 2)
        · simp only [yg, hb, e, not_true_eq_false, decide_false, Bool.and_false, Bool.false_eq_true, if_false, if_true] at h3 ⊢
          exact h3
        · simp only [yg, hb, e, not_false_eq_true, decide_true, Bool.and_true, if_true, if_false] at h3 ⊢
          exact h3
theorem e9_younger {h : AH} {m : Nat} (hM : MO h m) {t : Nat} (ht : t < 10) (s : Int32) (z : Nat) : fX9_younger m (nI t) s z h = some (mk 10 (yg (ps h m) t (bt s)), z, h) := by
  have := e9_young_loop hM ht s z 10 0 (by omega) fu (by unfold fu; omega)
  rw [nI_0] at this
  exact this
