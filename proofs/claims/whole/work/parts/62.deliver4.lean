/-! the reference's delivery -/
theorem brv_mh {β : Type} (h : AH) (m : Nat) (p c : Nat → Int32) (b j : Nat) (f : Nat → Option β) : Option.bind (rv (mh h m p c) b j) f = Option.bind (rv h b j) f := rfl
theorem e9_87 {h : AH} {m : Nat} (hM : MO h m) {p c : Nat → Int32} {L : List Nat} {B : Nat} (hB31 : B < 2 ^ 31) (hQ : WQ p L B) {a b : Nat} (ha : a < 10) (hb : b < 10) (hta : th p a = true) (htb : th p b = true) {u v : Nat} (hu : u < 2 ^ 31) (hv : v < 2 ^ 31) (z : Nat) :
    bX9_isBefore_87 m (nI a) (nI b) (nI u) (nI v) z (mh h m p c) = some (if u < v ∨ (u = v ∧ ag p b < ag p a) then 1 else 0, z, mh h m p c) := by
  obtain ⟨a1, a2⟩ := ag_e hB31 hQ ha hta
  obtain ⟨b1, b2⟩ := ag_e hB31 hQ hb htb
  have x1 := e9_of2 hM ha p c z
  have x2 := e9_of2 hM hb p c z
  rw [a1] at x1
  rw [b1] at x2
  have hk := hM.1
  unfold bX9_isBefore_87
  simp (disch := omega) only [nI_ltE, nI_eqE]
  by_cases e1 : u < v
  · simp [e1]
  · by_cases e2 : u = v
    · subst e2
      simp (disch := omega) only [↓gd, ↓bl, ↓on, ↓xr, ↓reduceIte, if_true, if_false, kd_wI, ln_wI, rv_wI, iv_wI, jv_wI, kd_wJ, ln_wJ, rv_wJ, iv_wJ, nI_clamp, nI_leE, nI_ltE, nI_eqE, m1_ne, bit_0, bit_1, nI_negE, leN_F, leN_T, ltN_F, ltN_T, eqN_F, or_false, false_or, or_true, true_or, not_false_eq_true, not_true_eq_false, and_true, true_and, and_false, false_and, kd_mh, hk, ↓bb3 x1, ↓bb3 x2, Nat.lt_irrefl]
      by_cases e3 : ag p b < ag p a
      · simp [e3]
      · simp [e3, Nat.le_of_not_lt e3]
    · simp [e1, e2]
theorem e9_isBefore {h : AH} {m : Nat} (hM : MO h m) {p c : Nat → Int32} {L : List Nat} {B : Nat} (hB31 : B < 2 ^ 31) (hQ : WQ p L B) {a b : Nat} (ha : a < 10) (hb : b < 10) (hta : th p a = true) (htb : th p b = true) (z : Nat) :
    fX9_isBefore m (nI a) (nI b) z (mh h m p c) = some (if bfN p a b then 1 else 0, z, mh h m p c) := by
  obtain ⟨ca, ca1, ca2, ca3⟩ := co_e hQ ha hta
  obtain ⟨cb, cb1, cb2, cb3⟩ := co_e hQ hb htb
  have x1 := e9_of1 hM ha p c z
  have x2 := e9_of1 hM hb p c z
  rw [ca3] at x1
  rw [cb3] at x2
  have x3 := e9_of3 hM ha p c z
  have x4 := e9_of3 hM hb p c z
  have y1 := e9_bits (p (32 + 6 * a + 3)) z (mh h m p c)
  have y2 := e9_bits (p (32 + 6 * b + 3)) z (mh h m p c)
  have l1 := cnt_le 16 (bt (p (32 + 6 * a + 3)))
  have l2 := cnt_le 16 (bt (p (32 + 6 * b + 3)))
  have i3 : ((18 : Int32) < 0) = False := eq_false (by decide)
  have i4 : Int32.toNatClampNeg 18 = 18 := by decide
  have key : ∀ u v, ky p a = u → ky p b = v → (if u < v ∨ (u = v ∧ ag p b < ag p a) then (1 : Int32) else 0) = if bfN p a b then 1 else 0 := by
    intro u v e1 e2
    unfold bfN
    rw [e1, e2]
    simp only [decide_eq_true_eq]
  obtain ⟨hk, r0, r1, r3, r4, r10, r11, r13, r14, r15, k1, k2, k3, k4, k5, k6, k7, k8, k9, l1, l2, l3, l4, l5, l6, l7, l8, l9⟩ := id hM
  rcases hQ.2.2.2.2.1.2.1 with e | e | e
  · have z1 := e9_87 hM hB31 hQ (c := c) ha hb hta htb (u := ca) (v := cb) (by omega) (by omega) z
    simp (disch := omega) only [fX9_isBefore, bX9_isBefore_43, ↓brv_wI, ↓brv_wJ, ↓gd, ↓bl, ↓on, ↓xr, ↓reduceIte, if_true, if_false, kd_wI, ln_wI, rv_wI, iv_wI, jv_wI, kd_wJ, ln_wJ, rv_wJ, iv_wJ, nI_clamp, nI_leE, nI_ltE, nI_eqE, m1_ne, bit_0, bit_1, nI_negE, leN_F, leN_T, ltN_F, ltN_T, eqN_F, or_false, false_or, or_true, true_or, not_false_eq_true, not_true_eq_false, and_true, true_and, and_false, false_and, ↓brv_mh, kd_mh, ln_mh, rv_mh, ↓bb r0, ↓bb r1, ↓bb r3, ↓bb r4, ↓bb r10, ↓bb r11, ↓bb r13, ↓bb r14, ↓bb r15, hk, k1, k2, k3, k4, k5, k6, k7, k8, k9, l1, l2, l3, l4, l5, l6, l7, l8, l9, i3, i4, iv_mh1, e, ↓bb3 x1, ↓bb3 x2, z1]
    rw [key ca cb (by unfold ky; rw [if_pos e, ca3, nI_clamp (by omega)]) (by unfold ky; rw [if_pos e, cb3, nI_clamp (by omega)])]
  · have z1 := e9_87 hM hB31 hQ (c := c) ha hb hta htb (u := 0) (v := 0) (by omega) (by omega) z
    rw [nI_0] at z1
    simp (disch := omega) only [fX9_isBefore, bX9_isBefore_43, ↓brv_wI, ↓brv_wJ, ↓gd, ↓bl, ↓on, ↓xr, ↓reduceIte, if_true, if_false, kd_wI, ln_wI, rv_wI, iv_wI, jv_wI, kd_wJ, ln_wJ, rv_wJ, iv_wJ, nI_clamp, nI_leE, nI_ltE, nI_eqE, m1_ne, bit_0, bit_1, nI_negE, leN_F, leN_T, ltN_F, ltN_T, eqN_F, or_false, false_or, or_true, true_or, not_false_eq_true, not_true_eq_false, and_true, true_and, and_false, false_and, ↓brv_mh, kd_mh, ln_mh, rv_mh, ↓bb r0, ↓bb r1, ↓bb r3, ↓bb r4, ↓bb r10, ↓bb r11, ↓bb r13, ↓bb r14, ↓bb r15, hk, k1, k2, k3, k4, k5, k6, k7, k8, k9, l1, l2, l3, l4, l5, l6, l7, l8, l9, i3, i4, iv_mh1, e, ne10, z1]
    have k0 := key 0 0 (by unfold ky; rw [if_neg (by rw [e]; decide), if_pos e]) (by unfold ky; rw [if_neg (by rw [e]; decide), if_pos e])
    simp only [Nat.lt_irrefl, false_or, true_and] at k0
    rw [k0]
  · have g0 : ((2 : Int32) = 0) = False := eq_false (by decide)
    have g1 : ((2 : Int32) = 1) = False := eq_false (by decide)
    have z1 := e9_87 hM hB31 hQ (c := c) ha hb hta htb (u := cnt 16 (bt (p (32 + 6 * a + 3)))) (v := cnt 16 (bt (p (32 + 6 * b + 3)))) (by omega) (by omega) z
    simp (disch := omega) only [fX9_isBefore, bX9_isBefore_43, ↓brv_wI, ↓brv_wJ, ↓gd, ↓bl, ↓on, ↓xr, ↓reduceIte, if_true, if_false, kd_wI, ln_wI, rv_wI, iv_wI, jv_wI, kd_wJ, ln_wJ, rv_wJ, iv_wJ, nI_clamp, nI_leE, nI_ltE, nI_eqE, m1_ne, bit_0, bit_1, nI_negE, leN_F, leN_T, ltN_F, ltN_T, eqN_F, or_false, false_or, or_true, true_or, not_false_eq_true, not_true_eq_false, and_true, true_and, and_false, false_and, ↓brv_mh, kd_mh, ln_mh, rv_mh, ↓bb r0, ↓bb r1, ↓bb r3, ↓bb r4, ↓bb r10, ↓bb r11, ↓bb r13, ↓bb r14, ↓bb r15, hk, k1, k2, k3, k4, k5, k6, k7, k8, k9, l1, l2, l3, l4, l5, l6, l7, l8, l9, i3, i4, iv_mh1, e, g0, g1, ↓bb3 x3, ↓bb3 x4, ↓bb3 y1, ↓bb3 y2, z1]
    rw [key _ _ (by unfold ky; rw [if_neg (by rw [e]; decide), if_neg (by rw [e]; decide)]) (by unfold ky; rw [if_neg (by rw [e]; decide), if_neg (by rw [e]; decide)])]
/-! a path that stands in the reference -/
def PT (h : AH) (m n : Nat) (u : Nat → Nat) : Prop := iv h m 12 = nI n ∧ n ≤ 10 ∧ ∀ e, e < n → iv h (m + 6) e = nI (u e) ∧ u e < 10
theorem e9_st_loop {h : AH} {m : Nat} (hM : MO h m) {p q c : Nat → Int32} (hW : WFr p) (hw : WFw p) (hng : agr (ng p) (ng q)) {n : Nat} (hn : n = mln q 0) (hP : PT h m n (dU q)) (hT : dT q < 10) (z : Nat) : ∀ (d k : Nat), k + d = n → ∀ fuel, d < fuel →
    lX9_isStale_4 fuel m (nI (dT q)) (if anyB k (dBad q) then 1 else 0) (nI k) z (mh h m p c) = some (if anyB n (dBad q) then 1 else 0, z, mh h m p c) := by
  intro d
  obtain ⟨h12, hn10, hP⟩ := hP
  induction d with
  | zero =>
    intro k hk fuel hf
    obtain rfl : k = n := by omega
    cases fuel with
    | zero => omega
    | succ fuel =>
      have hk0 := hM.1
      show lX9_isStale_4B _ _ _ _ _ _ _ = _
      simp (disch := omega) only [lX9_isStale_4B, ↓gd, kd_mh, hk0, ↓reduceIte, iv_mh, h12, Int32.le_refl]
      cases anyB k (dBad q) <;> simp
  | succ d ih =>
    intro k hk fuel hf
    cases fuel with
    | zero => omega
    | succ fuel =>
      have h3 := ih (k + 1) (by omega) fuel (by omega)
      rw [anyB_s] at h3
      obtain ⟨f1, f2⟩ := hP k (by omega)
      have x1 := e9m_isWaiting hM p c (nI (dU q k)) z
      rw [wtI_nI f2] at x1
      have x2 := e9m_waitsFor hM c hW hw f2 z
      have x3 : mk 10 (wf p (dU q k)) = ng q (dU q k) := hng _ f2
      rw [x3] at x2
      generalize hnx : (if k + 1 < mln q 0 then dU q (k + 1) else dT q) = nx
      have hnx10 : nx < 10 := by
        rw [← hnx]
        split
        · rename_i e; exact (hP (k + 1) (by omega)).2
        · exact hT
      have hbad : dBad q k = !bt (ng q (dU q k)) nx := by unfold dBad; rw [hnx]
      have key : bX9_isStale_34 (lX9_isStale_4 fuel) m (nI (dT q)) (if anyB k (dBad q) then 1 else 0) (nI k) (nI nx) z (mh h m p c) = some (if anyB n (dBad q) then 1 else 0, z, mh h m p c) := by
        obtain ⟨hk, r0, r1, r3, r4, r10, r11, r13, r14, r15, k1, k2, k3, k4, k5, k6, k7, k8, k9, l1, l2, l3, l4, l5, l6, l7, l8, l9⟩ := id hM
        cases ha : anyB k (dBad q)
        · rw [ha, Bool.false_or] at h3
          simp (disch := omega) only [bX9_isStale_34, bX9_isStale_71, bX9_isStale_76, ↓brv_wI, ↓brv_wJ, ↓gd, ↓bl, ↓on, ↓xr, ↓reduceIte, if_true, if_false, kd_wI, ln_wI, rv_wI, iv_wI, jv_wI, kd_wJ, ln_wJ, rv_wJ, iv_wJ, nI_clamp, nI_leE, nI_ltE, nI_eqE, m1_ne, bit_0, bit_1, nI_negE, leN_F, leN_T, ltN_F, ltN_T, eqN_F, or_false, false_or, or_true, true_or, not_false_eq_true, not_true_eq_false, and_true, true_and, and_false, false_and, ↓brv_mh, kd_mh, ln_mh, rv_mh, ↓bb r0, ↓bb r1, ↓bb r3, ↓bb r4, ↓bb r10, ↓bb r11, ↓bb r13, ↓bb r14, ↓bb r15, hk, k1, k2, k3, k4, k5, k6, k7, k8, k9, l1, l2, l3, l4, l5, l6, l7, l8, l9, Bool.false_eq_true, iv_mh, f1, ↓bb3 x1, ↓bb3 x2, nI_1]
          cases hwt : wt p (dU q k)
          · have hb : dBad q k = true := by
              rw [hbad]
              cases hbb : bt (ng q (dU q k)) nx
              · rfl
              · rw [← hng _ f2] at hbb
                rw [ng_w hnx10 hbb] at hwt
                cases hwt
            rw [hb] at h3
            simpa using h3
          · cases hbb : bt (ng q (dU q k)) nx
            · rw [hbad, hbb] at h3
              simpa using h3
            · rw [hbad, hbb] at h3
              simpa using h3
        · rw [ha, Bool.true_or] at h3
          simp (disch := omega) only [bX9_isStale_34, bX9_isStale_71, bX9_isStale_76, if_true, ne10, ↓reduceIte, nI_1]
          simpa using h3
      rw [← key]
      show lX9_isStale_4B _ _ _ _ _ _ _ = _
      by_cases e : k + 1 < n
      · have e2 : nx = dU q (k + 1) := by rw [← hnx, if_pos (by omega)]
        have f3 := (hP (k + 1) (by omega)).1
        rw [e2]
        obtain ⟨hk, r0, r1, r3, r4, r10, r11, r13, r14, r15, k1, k2, k3, k4, k5, k6, k7, k8, k9, l1, l2, l3, l4, l5, l6, l7, l8, l9⟩ := id hM
        simp (disch := omega) only [lX9_isStale_4B, ↓brv_wI, ↓brv_wJ, ↓gd, ↓bl, ↓on, ↓xr, ↓reduceIte, if_true, if_false, kd_wI, ln_wI, rv_wI, iv_wI, jv_wI, kd_wJ, ln_wJ, rv_wJ, iv_wJ, nI_clamp, nI_leE, nI_ltE, nI_eqE, m1_ne, bit_0, bit_1, nI_negE, leN_F, leN_T, ltN_F, ltN_T, eqN_F, or_false, false_or, or_true, true_or, not_false_eq_true, not_true_eq_false, and_true, true_and, and_false, false_and, ↓brv_mh, kd_mh, ln_mh, rv_mh, ↓bb r0, ↓bb r1, ↓bb r3, ↓bb r4, ↓bb r10, ↓bb r11, ↓bb r13, ↓bb r14, ↓bb r15, hk, k1, k2, k3, k4, k5, k6, k7, k8, k9, l1, l2, l3, l4, l5, l6, l7, l8, l9, iv_mh, h12, nI_1, f3]
      · have e2 : nx = dT q := by rw [← hnx, if_neg (by omega)]
        rw [e2]
        obtain ⟨hk, r0, r1, r3, r4, r10, r11, r13, r14, r15, k1, k2, k3, k4, k5, k6, k7, k8, k9, l1, l2, l3, l4, l5, l6, l7, l8, l9⟩ := id hM
        simp (disch := omega) only [lX9_isStale_4B, ↓brv_wI, ↓brv_wJ, ↓gd, ↓bl, ↓on, ↓xr, ↓reduceIte, if_true, if_false, kd_wI, ln_wI, rv_wI, iv_wI, jv_wI, kd_wJ, ln_wJ, rv_wJ, iv_wJ, nI_clamp, nI_leE, nI_ltE, nI_eqE, m1_ne, bit_0, bit_1, nI_negE, leN_F, leN_T, ltN_F, ltN_T, eqN_F, or_false, false_or, or_true, true_or, not_false_eq_true, not_true_eq_false, and_true, true_and, and_false, false_and, ↓brv_mh, kd_mh, ln_mh, rv_mh, ↓bb r0, ↓bb r1, ↓bb r3, ↓bb r4, ↓bb r10, ↓bb r11, ↓bb r13, ↓bb r14, ↓bb r15, hk, k1, k2, k3, k4, k5, k6, k7, k8, k9, l1, l2, l3, l4, l5, l6, l7, l8, l9, iv_mh, h12, nI_1]
theorem e9_isStale {h : AH} {m : Nat} (hM : MO h m) {p q c : Nat → Int32} (hW : WFr p) (hw : WFw p) (hng : agr (ng p) (ng q)) (hP : PT h m (mln q 0) (dU q)) (hT : dT q < 10) (z : Nat) :
    fX9_isStale m (nI (dT q)) z (mh h m p c) = some (if dSt q then 1 else 0, z, mh h m p c) := by
  have := e9_st_loop hM (c := c) hW hw hng rfl hP hT z (mln q 0) 0 (by omega) fu (by have := hP.2.1; unfold fu; omega)
  rw [nI_0] at this
  exact this
theorem e9_op_loop {h : AH} {m : Nat} (hM : MO h m) {p c : Nat → Int32} {n : Nat} {u : Nat → Nat} (hP : PT h m n u) {t : Nat} (ht : t < 10) (z : Nat) : ∀ (d k : Nat), k + d = n → ∀ fuel, d < fuel →
    lX9_isOnPath_4 fuel m (nI t) (if anyB k (fun e => decide (u e = t)) then 1 else 0) (nI k) z (mh h m p c) = some (if anyB n (fun e => decide (u e = t)) then 1 else 0, z, mh h m p c) := by
  intro d
  obtain ⟨h12, hn10, hP⟩ := hP
  induction d with
  | zero =>
    intro k hk fuel hf
    obtain rfl : k = n := by omega
    cases fuel with
    | zero => omega
    | succ fuel =>
      have hk0 := hM.1
      show lX9_isOnPath_4B _ _ _ _ _ _ _ = _
      simp (disch := omega) only [lX9_isOnPath_4B, ↓gd, kd_mh, hk0, ↓reduceIte, iv_mh, h12, Int32.le_refl]
      cases anyB k (fun e => decide (u e = t)) <;> simp
  | succ d ih =>
    intro k hk fuel hf
    cases fuel with
    | zero => omega
    | succ fuel =>
      have h3 := ih (k + 1) (by omega) fuel (by omega)
      rw [anyB_s] at h3
      obtain ⟨f1, f2⟩ := hP k (by omega)
      show lX9_isOnPath_4B _ _ _ _ _ _ _ = _
      obtain ⟨hk, r0, r1, r3, r4, r10, r11, r13, r14, r15, k1, k2, k3, k4, k5, k6, k7, k8, k9, l1, l2, l3, l4, l5, l6, l7, l8, l9⟩ := id hM
      cases ha : anyB k (fun e => decide (u e = t))
      · rw [ha, Bool.false_or] at h3
        simp (disch := omega) only [lX9_isOnPath_4B, bX9_isOnPath_26, bX9_isOnPath_31, ↓brv_wI, ↓brv_wJ, ↓gd, ↓bl, ↓on, ↓xr, ↓reduceIte, if_true, if_false, kd_wI, ln_wI, rv_wI, iv_wI, jv_wI, kd_wJ, ln_wJ, rv_wJ, iv_wJ, nI_clamp, nI_leE, nI_ltE, nI_eqE, m1_ne, bit_0, bit_1, nI_negE, leN_F, leN_T, ltN_F, ltN_T, eqN_F, or_false, false_or, or_true, true_or, not_false_eq_true, not_true_eq_false, and_true, true_and, and_false, false_and, ↓brv_mh, kd_mh, ln_mh, rv_mh, ↓bb r0, ↓bb r1, ↓bb r3, ↓bb r4, ↓bb r10, ↓bb r11, ↓bb r13, ↓bb r14, ↓bb r15, hk, k1, k2, k3, k4, k5, k6, k7, k8, k9, l1, l2, l3, l4, l5, l6, l7, l8, l9, Bool.false_eq_true, iv_mh, h12, f1, nI_1]
        by_cases e : u k = t
        · simp only [e, decide_true, if_true] at h3 ⊢; exact h3
        · simp only [e, decide_false, if_false, Bool.false_eq_true] at h3 ⊢; exact h3
      · rw [ha, Bool.true_or] at h3
        simp (disch := omega) only [lX9_isOnPath_4B, bX9_isOnPath_26, bX9_isOnPath_31, ↓brv_wI, ↓brv_wJ, ↓gd, ↓bl, ↓on, ↓xr, ↓reduceIte, if_true, if_false, kd_wI, ln_wI, rv_wI, iv_wI, jv_wI, kd_wJ, ln_wJ, rv_wJ, iv_wJ, nI_clamp, nI_leE, nI_ltE, nI_eqE, m1_ne, bit_0, bit_1, nI_negE, leN_F, leN_T, ltN_F, ltN_T, eqN_F, or_false, false_or, or_true, true_or, not_false_eq_true, not_true_eq_false, and_true, true_and, and_false, false_and, ↓brv_mh, kd_mh, ln_mh, rv_mh, ↓bb r0, ↓bb r1, ↓bb r3, ↓bb r4, ↓bb r10, ↓bb r11, ↓bb r13, ↓bb r14, ↓bb r15, hk, k1, k2, k3, k4, k5, k6, k7, k8, k9, l1, l2, l3, l4, l5, l6, l7, l8, l9, ne10, iv_mh, h12, nI_1]
        simpa using h3
theorem e9_isOnPath {h : AH} {m : Nat} (hM : MO h m) {p c : Nat → Int32} {n : Nat} {u : Nat → Nat} (hP : PT h m n u) {t : Nat} (ht : t < 10) (z : Nat) :
    fX9_isOnPath m (nI t) z (mh h m p c) = some (if anyB n (fun e => decide (u e = t)) then 1 else 0, z, mh h m p c) := by
  have := e9_op_loop hM (p := p) (c := c) hP ht z n 0 (by omega) fu (by have := hP.2.1; unfold fu; omega)
  rw [nI_0] at this
  exact this
