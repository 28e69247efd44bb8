theorem ixm (a : Nat) : (93 : Int32) + 13 * nI a = nI (93 + 13 * a) := by
  rw [show (13 : Int32) = nI 13 from rfl, pk_mul, show (93 : Int32) = nI 93 from rfl, nI_add]
def sdK (q : Nat → Int32) (n : Nat) (f : Nat → Int32) (t hp : Int32) (k : Nat) : Nat → Int32 := fun j =>
  if j = 93 + 13 * nm q then t else if j = 93 + 13 * nm q + 1 then hp else if j = 93 + 13 * nm q + 2 then nI n else if 93 + 13 * nm q + 3 ≤ j ∧ j < 93 + 13 * nm q + 3 + k then (if j - (93 + 13 * nm q + 3) < n then f (j - (93 + 13 * nm q + 3)) else 0) else q j
theorem sdK_s (q : Nat → Int32) (n : Nat) (f : Nat → Int32) (t hp : Int32) (k : Nat) : upd (sdK q n f t hp k) (93 + 13 * nm q + 3 + k) (if k < n then f k else 0) = sdK q n f t hp (k + 1) := by
  funext j
  rw [upd_s]
  unfold sdK
  by_cases e : j = 93 + 13 * nm q + 3 + k
  · subst e
    have h1 : ¬ (93 + 13 * nm q + 3 + k = 93 + 13 * nm q) := by omega
    have h2 : ¬ (93 + 13 * nm q + 3 + k = 93 + 13 * nm q + 1) := by omega
    have h3 : ¬ (93 + 13 * nm q + 3 + k = 93 + 13 * nm q + 2) := by omega
    have h4 : 93 + 13 * nm q + 3 ≤ 93 + 13 * nm q + 3 + k ∧ 93 + 13 * nm q + 3 + k < 93 + 13 * nm q + 3 + (k + 1) := by omega
    rw [if_pos rfl, if_neg h1, if_neg h2, if_neg h3, if_pos h4, show 93 + 13 * nm q + 3 + k - (93 + 13 * nm q + 3) = k by omega]
  · rw [if_neg e]
    have : (93 + 13 * nm q + 3 ≤ j ∧ j < 93 + 13 * nm q + 3 + k) = (93 + 13 * nm q + 3 ≤ j ∧ j < 93 + 13 * nm q + 3 + (k + 1)) := by simp; omega
    simp only [this]
theorem sdK_e (q : Nat → Int32) (n : Nat) (f : Nat → Int32) (t hp : Int32) : upd (sdK q n f t hp 10) 92 (q 92 + 1) = sdP q n f t hp := by
  funext j
  rw [upd_s]
  unfold sdP sdK
  rfl
theorem li92 : (92 : Int32) = nI 92 := rfl
theorem sd9_loop {h : AH} {m : Nat} (hM : MO h m) {n : Nat} {f : Nat → Int32} (hn : n ≤ 10) (h12 : iv h m 12 = nI n) (hf : ∀ e, e < n → iv h (m + 6) e = f e) (q c : Nat → Int32) (hq : nm q < 40) (t hp : Int32) (z : Nat) : ∀ (d k : Nat), k + d = 10 → ∀ fuel, d < fuel →
    lX9_sends_70 fuel m (nI (93 + 13 * nm q)) (nI k) z (mh h m (sdK q n f t hp k) c) = some (z, mh h m (sdP q n f t hp) (upd c 0 (c 0 + 1))) := by
  intro d
  induction d with
  | zero =>
    intro k hk fuel hfu
    obtain rfl : k = 10 := by omega
    cases fuel with
    | zero => omega
    | succ fuel =>
      show lX9_sends_70B _ _ _ _ _ _ = _
      have e92 : sdK q n f t hp 10 92 = q 92 := by
        unfold sdK
        rw [if_neg (by omega), if_neg (by omega), if_neg (by omega), if_neg (by omega)]
      obtain ⟨hk, r0, r1, r3, r4, r10, r11, r13, r14, r15, k1, k2, k3, k4, k5, k6, k7, k8, k9, l1, l2, l3, l4, l5, l6, l7, l8, l9⟩ := id hM
      have q0 : ∀ p c, rv (mh h m p c) m 0 = some (m + 1) := fun _ _ => r0
      have q1 : ∀ p c, rv (mh h m p c) m 1 = some (m + 2) := fun _ _ => r1
      have q3 : ∀ p c, rv (mh h m p c) m 3 = some (m + 3) := fun _ _ => r3
      have q4 : ∀ p c, rv (mh h m p c) m 4 = some (m + 4) := fun _ _ => r4
      have q10 : ∀ p c, rv (mh h m p c) m 10 = some (m + 5) := fun _ _ => r10
      have q11 : ∀ p c, rv (mh h m p c) m 11 = some (m + 6) := fun _ _ => r11
      have q13 : ∀ p c, rv (mh h m p c) m 13 = some (m + 7) := fun _ _ => r13
      have q14 : ∀ p c, rv (mh h m p c) m 14 = some (m + 8) := fun _ _ => r14
      have q15 : ∀ p c, rv (mh h m p c) m 15 = some (m + 9) := fun _ _ => r15
      simp (disch := omega) only [lX9_sends_70B, ↓gd, ↓bl, ↓on, ↓xr, ↓reduceIte, if_true, if_false, kd_wI, ln_wI, rv_wI, iv_wI, jv_wI, kd_wJ, ln_wJ, rv_wJ, iv_wJ, nI_clamp, nI_leE, nI_ltE, nI_eqE, m1_ne, bit_0, bit_1, nI_negE, leN_F, leN_T, ltN_F, ltN_T, eqN_F, or_false, false_or, or_true, true_or, not_false_eq_true, not_true_eq_false, and_true, true_and, and_false, false_and, ↓bb (q0 _ _), ↓bb (q1 _ _), ↓bb (q3 _ _), ↓bb (q4 _ _), ↓bb (q10 _ _), ↓bb (q11 _ _), ↓bb (q13 _ _), ↓bb (q14 _ _), ↓bb (q15 _ _), kd_mh, ln_mh, rv_mh, ↓bb r0, ↓bb r1, ↓bb r3, ↓bb r4, ↓bb r10, ↓bb r11, ↓bb r13, ↓bb r14, ↓bb r15, hk, k1, k2, k3, k4, k5, k6, k7, k8, k9, l1, l2, l3, l4, l5, l6, l7, l8, l9, li10, li92, ↓brv_wI, iv_mh1, mh_w1, e92, ix0, lt00, iv_mh3, mh_w3]
      rw [sdK_e]
  | succ d ih =>
    intro k hk fuel hfu
    cases fuel with
    | zero => omega
    | succ fuel =>
      have h3 := ih (k + 1) (by omega) fuel (by omega)
      rw [← sdK_s] at h3
      show lX9_sends_70B _ _ _ _ _ _ = _
      obtain ⟨hk, r0, r1, r3, r4, r10, r11, r13, r14, r15, k1, k2, k3, k4, k5, k6, k7, k8, k9, l1, l2, l3, l4, l5, l6, l7, l8, l9⟩ := id hM
      have q0 : ∀ p c, rv (mh h m p c) m 0 = some (m + 1) := fun _ _ => r0
      have q1 : ∀ p c, rv (mh h m p c) m 1 = some (m + 2) := fun _ _ => r1
      have q3 : ∀ p c, rv (mh h m p c) m 3 = some (m + 3) := fun _ _ => r3
      have q4 : ∀ p c, rv (mh h m p c) m 4 = some (m + 4) := fun _ _ => r4
      have q10 : ∀ p c, rv (mh h m p c) m 10 = some (m + 5) := fun _ _ => r10
      have q11 : ∀ p c, rv (mh h m p c) m 11 = some (m + 6) := fun _ _ => r11
      have q13 : ∀ p c, rv (mh h m p c) m 13 = some (m + 7) := fun _ _ => r13
      have q14 : ∀ p c, rv (mh h m p c) m 14 = some (m + 8) := fun _ _ => r14
      have q15 : ∀ p c, rv (mh h m p c) m 15 = some (m + 9) := fun _ _ => r15
      by_cases e : k < n
      · rw [if_pos e] at h3
        have e6 := hf k e
        simp (disch := omega) only [lX9_sends_70B, bX9_sends_107, ↓gd, ↓bl, ↓on, ↓xr, ↓reduceIte, if_true, if_false, kd_wI, ln_wI, rv_wI, iv_wI, jv_wI, kd_wJ, ln_wJ, rv_wJ, iv_wJ, nI_clamp, nI_leE, nI_ltE, nI_eqE, m1_ne, bit_0, bit_1, nI_negE, leN_F, leN_T, ltN_F, ltN_T, eqN_F, or_false, false_or, or_true, true_or, not_false_eq_true, not_true_eq_false, and_true, true_and, and_false, false_and, ↓bb (q0 _ _), ↓bb (q1 _ _), ↓bb (q3 _ _), ↓bb (q4 _ _), ↓bb (q10 _ _), ↓bb (q11 _ _), ↓bb (q13 _ _), ↓bb (q14 _ _), ↓bb (q15 _ _), kd_mh, ln_mh, rv_mh, ↓bb r0, ↓bb r1, ↓bb r3, ↓bb r4, ↓bb r10, ↓bb r11, ↓bb r13, ↓bb r14, ↓bb r15, hk, k1, k2, k3, k4, k5, k6, k7, k8, k9, l1, l2, l3, l4, l5, l6, l7, l8, l9, li10, li3, iv_mh, h12, nI_add, mh_w1, e6, nI_1]
        exact h3
      · rw [if_neg e] at h3
        simp (disch := omega) only [lX9_sends_70B, bX9_sends_107, ↓gd, ↓bl, ↓on, ↓xr, ↓reduceIte, if_true, if_false, kd_wI, ln_wI, rv_wI, iv_wI, jv_wI, kd_wJ, ln_wJ, rv_wJ, iv_wJ, nI_clamp, nI_leE, nI_ltE, nI_eqE, m1_ne, bit_0, bit_1, nI_negE, leN_F, leN_T, ltN_F, ltN_T, eqN_F, or_false, false_or, or_true, true_or, not_false_eq_true, not_true_eq_false, and_true, true_and, and_false, false_and, ↓bb (q0 _ _), ↓bb (q1 _ _), ↓bb (q3 _ _), ↓bb (q4 _ _), ↓bb (q10 _ _), ↓bb (q11 _ _), ↓bb (q13 _ _), ↓bb (q14 _ _), ↓bb (q15 _ _), kd_mh, ln_mh, rv_mh, ↓bb r0, ↓bb r1, ↓bb r3, ↓bb r4, ↓bb r10, ↓bb r11, ↓bb r13, ↓bb r14, ↓bb r15, hk, k1, k2, k3, k4, k5, k6, k7, k8, k9, l1, l2, l3, l4, l5, l6, l7, l8, l9, li10, li3, iv_mh, h12, nI_add, mh_w1, nI_1]
        exact h3
theorem w9_sends {h : AH} {m : Nat} (hM : MO h m) {n : Nat} {f : Nat → Int32} (hn : n ≤ 10) (h12 : iv h m 12 = nI n) (hf : ∀ e, e < n → iv h (m + 6) e = f e) (q c : Nat → Int32) (hm : q 92 = nI (nm q)) (hq : nm q ≤ 40) (t hp : Int32) (z : Nat) :
    fX9_sends m t hp z (mh h m q c) = some (z, mh h m (if nm q = 40 then q else sdP q n f t hp) (if nm q = 40 then upd c 1 (c 1 + 1) else upd c 0 (c 0 + 1))) := by
  have e40 : (40 : Int32) = nI 40 := rfl
  obtain ⟨hk, r0, r1, r3, r4, r10, r11, r13, r14, r15, k1, k2, k3, k4, k5, k6, k7, k8, k9, l1, l2, l3, l4, l5, l6, l7, l8, l9⟩ := id hM
  have q0 : ∀ p c, rv (mh h m p c) m 0 = some (m + 1) := fun _ _ => r0
  have q1 : ∀ p c, rv (mh h m p c) m 1 = some (m + 2) := fun _ _ => r1
  have q3 : ∀ p c, rv (mh h m p c) m 3 = some (m + 3) := fun _ _ => r3
  have q4 : ∀ p c, rv (mh h m p c) m 4 = some (m + 4) := fun _ _ => r4
  have q10 : ∀ p c, rv (mh h m p c) m 10 = some (m + 5) := fun _ _ => r10
  have q11 : ∀ p c, rv (mh h m p c) m 11 = some (m + 6) := fun _ _ => r11
  have q13 : ∀ p c, rv (mh h m p c) m 13 = some (m + 7) := fun _ _ => r13
  have q14 : ∀ p c, rv (mh h m p c) m 14 = some (m + 8) := fun _ _ => r14
  have q15 : ∀ p c, rv (mh h m p c) m 15 = some (m + 9) := fun _ _ => r15
  by_cases e : nm q = 40
  · rw [if_pos e, if_pos e]
    have e2 : q 92 = 40 := by rw [hm, e]; rfl
    have i1 : Int32.toNatClampNeg 1 = 1 := by decide
    have i2 : ((1 : Int32) < 0) = False := eq_false (by decide)
    have i3 : ((92 : Int32) < 0) = False := eq_false (by decide)
    have i4 : Int32.toNatClampNeg 92 = 92 := by decide
    simp (disch := omega) only [fX9_sends, ↓gd, ↓bl, ↓on, ↓xr, ↓reduceIte, if_true, if_false, kd_wI, ln_wI, rv_wI, iv_wI, jv_wI, kd_wJ, ln_wJ, rv_wJ, iv_wJ, nI_clamp, nI_leE, nI_ltE, nI_eqE, m1_ne, bit_0, bit_1, nI_negE, leN_F, leN_T, ltN_F, ltN_T, eqN_F, or_false, false_or, or_true, true_or, not_false_eq_true, not_true_eq_false, and_true, true_and, and_false, false_and, ↓bb (q0 _ _), ↓bb (q1 _ _), ↓bb (q3 _ _), ↓bb (q4 _ _), ↓bb (q10 _ _), ↓bb (q11 _ _), ↓bb (q13 _ _), ↓bb (q14 _ _), ↓bb (q15 _ _), kd_mh, ln_mh, rv_mh, ↓bb r0, ↓bb r1, ↓bb r3, ↓bb r4, ↓bb r10, ↓bb r11, ↓bb r13, ↓bb r14, ↓bb r15, hk, k1, k2, k3, k4, k5, k6, k7, k8, k9, l1, l2, l3, l4, l5, l6, l7, l8, l9, iv_mh1, e2, i1, i2, i3, i4, iv_mh3, mh_w3]
  · rw [if_neg e, if_neg e]
    have x1 := sd9_loop hM hn h12 hf q c (by omega) t hp z 10 0 (by omega) fu (by unfold fu; omega)
    rw [nI_0] at x1
    have e3 : upd (upd (upd q (93 + 13 * nm q + 0) t) (93 + 13 * nm q + 1) hp) (93 + 13 * nm q + 2) (nI n) = sdK q n f t hp 0 := by
      funext j
      simp only [upd_s]
      unfold sdK
      by_cases e1 : j = 93 + 13 * nm q
      · subst e1; rw [if_neg (by omega), if_neg (by omega), if_pos (by omega), if_pos rfl]
      · by_cases e2 : j = 93 + 13 * nm q + 1
        · subst e2; rw [if_neg (by omega), if_pos rfl, if_neg (by omega), if_pos rfl]
        · by_cases e3 : j = 93 + 13 * nm q + 2
          · subst e3; rw [if_pos rfl, if_neg (by omega), if_neg (by omega), if_pos rfl]
          · rw [if_neg e3, if_neg e2, if_neg (by omega), if_neg e1, if_neg e2, if_neg e3, if_neg (by omega)]
    have a0 : nI (93 + 13 * nm q) + 0 = nI (93 + 13 * nm q + 0) := nI_add _ 0
    have a1 : nI (93 + 13 * nm q) + 1 = nI (93 + 13 * nm q + 1) := nI_add _ 1
    have a2 : nI (93 + 13 * nm q) + 2 = nI (93 + 13 * nm q + 2) := nI_add _ 2
    have i3 : ((92 : Int32) < 0) = False := eq_false (by decide)
    have i4 : Int32.toNatClampNeg 92 = 92 := by decide
    have g1 : (nI (nm q) = 40) = False := eq_false (by rw [e40, nI_eqE (by omega) (by omega)]; exact e)
    simp (disch := omega) only [fX9_sends, ↓gd, ↓bl, ↓on, ↓xr, ↓reduceIte, if_true, if_false, kd_wI, ln_wI, rv_wI, iv_wI, jv_wI, kd_wJ, ln_wJ, rv_wJ, iv_wJ, nI_clamp, nI_leE, nI_ltE, nI_eqE, m1_ne, bit_0, bit_1, nI_negE, leN_F, leN_T, ltN_F, ltN_T, eqN_F, or_false, false_or, or_true, true_or, not_false_eq_true, not_true_eq_false, and_true, true_and, and_false, false_and, ↓bb (q0 _ _), ↓bb (q1 _ _), ↓bb (q3 _ _), ↓bb (q4 _ _), ↓bb (q10 _ _), ↓bb (q11 _ _), ↓bb (q13 _ _), ↓bb (q14 _ _), ↓bb (q15 _ _), kd_mh, ln_mh, rv_mh, ↓bb r0, ↓bb r1, ↓bb r3, ↓bb r4, ↓bb r10, ↓bb r11, ↓bb r13, ↓bb r14, ↓bb r15, hk, k1, k2, k3, k4, k5, k6, k7, k8, k9, l1, l2, l3, l4, l5, l6, l7, l8, l9, ↓brv_wI, iv_mh1, hm, i3, i4, g1, ixm, a0, a1, a2, mh_w1, iv_mh, h12, e3]
    exact x1
theorem s9_loop {h : AH} {m : Nat} (hM : MO h m) {s : Ab} {B n hp : Nat} {f : Nat → Int32} (hQ : WA s B) (h1 : 1 ≤ n) (h9 : n + hp ≤ 9) (hfu : ∀ e, e < n → ∃ u, u < 10 ∧ f e = nI u) (h12 : iv h m 12 = nI n) (hf : ∀ e, e < n → iv h (m + 6) e = f e) (g : Int32) (z : Nat) : ∀ (d k : Nat), k + d = 10 → ∀ (p : Nat → Int32) (fuel : Nat), d < fuel → RF p (sdN (bt g) n f (nI hp) s k).1 (sdN (bt g) n f (nI hp) s k).2.1 →
    ∃ p', lX9_sendsAll_9 fuel m (nI hp) g (nI k) z (mh h m p (sdN (bt g) n f (nI hp) s k).2.2) = some (z, mh h m p' (sdN (bt g) n f (nI hp) s 10).2.2) ∧ RF p' (sdN (bt g) n f (nI hp) s 10).1 (sdN (bt g) n f (nI hp) s 10).2.1 := by
  intro d
  have hk0 := hM.1
  induction d with
  | zero =>
    intro k hk p fuel hfu hR
    obtain rfl : k = 10 := by omega
    cases fuel with
    | zero => omega
    | succ fuel =>
      refine ⟨p, ?_, hR⟩
      show lX9_sendsAll_9B _ _ _ _ _ _ _ = _
      simp (disch := omega) only [lX9_sendsAll_9B, nI_leE, leN_T, ↓reduceIte, li10]
  | succ d ih =>
    intro k hk p fuel hfuel hR
    cases fuel with
    | zero => omega
    | succ fuel =>
      cases hb : bt g k
      · have hs : sdN (bt g) n f (nI hp) s (k + 1) = sdN (bt g) n f (nI hp) s k := by rw [sdN, hb]; rfl
        obtain ⟨p', v1, v2⟩ := ih (k + 1) (by omega) p fuel (by omega) (by rw [hs]; exact hR)
        refine ⟨p', ?_, v2⟩
        rw [← v1, hs]
        show lX9_sendsAll_9B _ _ _ _ _ _ _ = _
        simp (disch := omega) only [lX9_sendsAll_9B, bX9_sendsAll_33, ↓gd, ↓bl, ↓on, ↓xr, ↓reduceIte, if_true, if_false, kd_wI, ln_wI, rv_wI, iv_wI, jv_wI, kd_wJ, ln_wJ, rv_wJ, iv_wJ, nI_clamp, nI_leE, nI_ltE, nI_eqE, m1_ne, bit_0, bit_1, nI_negE, leN_F, leN_T, ltN_F, ltN_T, eqN_F, or_false, false_or, or_true, true_or, not_false_eq_true, not_true_eq_false, and_true, true_and, and_false, false_and, li10, hb, Bool.false_eq_true, nI_1]
      · have hs : sdN (bt g) n f (nI hp) s (k + 1) = sdA (sdN (bt g) n f (nI hp) s k) n f (nI k) (nI hp) := by rw [sdN, hb]; rfl
        have hQk := WA_sdN (c := bt g) hQ h1 h9 hfu k (by omega)
        generalize hsk : sdN (bt g) n f (nI hp) s k = sk at hs hR hQk
        have hQp := hR.wq hQk
        have enm : nm p = nm sk.1 := by unfold nm; rw [hR.1 92 (by omega)]
        have y1 := w9_sends hM (n := n) (f := f) (by omega) h12 hf p sk.2.2 hQp.2.2.2.2.2.1 hQp.2.2.2.2.2.2.1 (nI k) (nI hp) z
        have hst : ∃ p1, fX9_sends m (nI k) (nI hp) z (mh h m p sk.2.2) = some (z, mh h m p1 (sdA sk n f (nI k) (nI hp)).2.2) ∧ RF p1 (sdA sk n f (nI k) (nI hp)).1 (sdA sk n f (nI k) (nI hp)).2.1 := by
          refine ⟨if nm p = 40 then p else sdP p n f (nI k) (nI hp), y1.trans ?_, ?_⟩
          · rw [enm]; unfold sdA; split <;> rfl
          · rw [enm]; unfold sdA; split
            · exact hR
            · exact RF_sd hR n f (nI k) (nI hp)
        obtain ⟨p1, y1, y2⟩ := hst
        obtain ⟨p', v1, v2⟩ := ih (k + 1) (by omega) p1 fuel (by omega) (by rw [hs]; exact y2)
        refine ⟨p', ?_, v2⟩
        rw [← v1, hs]
        show lX9_sendsAll_9B _ _ _ _ _ _ _ = _
        simp (disch := omega) only [lX9_sendsAll_9B, bX9_sendsAll_33, ↓gd, ↓bl, ↓on, ↓xr, ↓reduceIte, if_true, if_false, kd_wI, ln_wI, rv_wI, iv_wI, jv_wI, kd_wJ, ln_wJ, rv_wJ, iv_wJ, nI_clamp, nI_leE, nI_ltE, nI_eqE, m1_ne, bit_0, bit_1, nI_negE, leN_F, leN_T, ltN_F, ltN_T, eqN_F, or_false, false_or, or_true, true_or, not_false_eq_true, not_true_eq_false, and_true, true_and, and_false, false_and, li10, hb, nI_1, kd_mh, hk0, ↓bb2 y1]
theorem w9_sendsAll {h : AH} {m : Nat} (hM : MO h m) {p : Nat → Int32} {s : Ab} {B n hp t : Nat} {f : Nat → Int32} (hR : RF p s.1 s.2.1) (hQ : WA s B) (ht : t < 10) (h1 : 1 ≤ n) (h9 : n + hp ≤ 9) (hfu : ∀ e, e < n → ∃ u, u < 10 ∧ f e = nI u) (h12 : iv h m 12 = nI n) (hf : ∀ e, e < n → iv h (m + 6) e = f e) (z : Nat) :
    ∃ p', fX9_sendsAll m (nI t) (nI hp) z (mh h m p s.2.2) = some (z, mh h m p' (sdN (bt (ng s.1 t)) n f (nI hp) s 10).2.2) ∧ RF p' (sdN (bt (ng s.1 t)) n f (nI hp) s 10).1 (sdN (bt (ng s.1 t)) n f (nI hp) s 10).2.1 := by
  have hQp := hR.wq hQ
  have x1 := e9m_waitsFor hM s.2.2 hQp.1 hQp.w ht z
  have x2 : mk 10 (wf p t) = ng s.1 t := ng_nord hR.1 hQp.1 hQp.w t ht
  rw [x2] at x1
  obtain ⟨p', v1, v2⟩ := s9_loop hM hQ h1 h9 hfu h12 hf (ng s.1 t) z 10 0 (by omega) p fu (by unfold fu; omega) hR
  refine ⟨p', ?_, v2⟩
  rw [nI_0] at v1
  have hk0 := hM.1
  simp only [fX9_sendsAll, ↓gd, ↓reduceIte, kd_mh, hk0, ↓bb3 x1]
  exact v1
theorem mh_wb (h : AH) (m : Nat) (p c : Nat → Int32) {b : Nat} (h1 : b ≠ m + 1) (h3 : b ≠ m + 3) (k : Nat) (x : Int32) : wI (mh h m p c) b k x = mh (wI h b k x) m p c := by
  refine AH_ext rfl (fun d => ?_) rfl rfl
  show u2 (u1 (u1 h.2.1 (m + 1) p) (m + 3) c) b k x d = u1 (u1 (u2 h.2.1 b k x) (m + 1) p) (m + 3) c d
  unfold u2 u1
  by_cases e : d = b
  · subst e; simp [h1, h3]
  · simp [e]
theorem w9_starts {h : AH} {m : Nat} (hM : MO h m) {p : Nat → Int32} {s : Ab} {B t : Nat} (hR : RF p s.1 s.2.1) (hQ : WA s B) (ht : t < 10) (z : Nat) :
    ∃ p' h', fX9_starts m (nI t) z (mh h m p s.2.2) = some (z, mh h' m p' (prA s t).2.2) ∧ RF p' (prA s t).1 (prA s t).2.1 ∧ h' = wI (wI h (m + 6) 0 (nI t)) m 12 1 := by
  obtain ⟨b, hb1, hb9, hb⟩ := hQ.2.2.2.2.1.2.2
  have hb' : s.1 19 - 1 = nI (b - 1) := by rw [hb, show (1 : Int32) = nI 1 from rfl, pk_sub hb1]
  have hbp : p 19 - 1 = nI (b - 1) := by rw [hR.1 19 (by omega)]; exact hb'
  unfold prA
  rw [hb']
  obtain ⟨p', v1, v2⟩ := w9_sendsAll (h := wI (wI h (m + 6) 0 (nI t)) m 12 1) (MO_c rfl rfl hM) (n := 1) (hp := b - 1) (f := fun _ => nI t) hR hQ ht (by omega) (by omega) (fun e _ => ⟨t, ht, rfl⟩) (by rw [iv_wI, if_pos rfl, if_pos rfl]; rfl) (fun e he => by
    obtain rfl : e = 0 := by omega
    rw [iv_wI_ne _ _ _ (by omega), iv_wI, if_pos rfl, if_pos rfl]) z
  refine ⟨p', _, ?_, v2, rfl⟩
  have li19 : (19 : Int32) = nI 19 := rfl
  obtain ⟨hk, r0, r1, r3, r4, r10, r11, r13, r14, r15, k1, k2, k3, k4, k5, k6, k7, k8, k9, l1, l2, l3, l4, l5, l6, l7, l8, l9⟩ := id hM
  have q0 : ∀ p c, rv (mh h m p c) m 0 = some (m + 1) := fun _ _ => r0
  have q1 : ∀ p c, rv (mh h m p c) m 1 = some (m + 2) := fun _ _ => r1
  have q3 : ∀ p c, rv (mh h m p c) m 3 = some (m + 3) := fun _ _ => r3
  have q4 : ∀ p c, rv (mh h m p c) m 4 = some (m + 4) := fun _ _ => r4
  have q10 : ∀ p c, rv (mh h m p c) m 10 = some (m + 5) := fun _ _ => r10
  have q11 : ∀ p c, rv (mh h m p c) m 11 = some (m + 6) := fun _ _ => r11
  have q13 : ∀ p c, rv (mh h m p c) m 13 = some (m + 7) := fun _ _ => r13
  have q14 : ∀ p c, rv (mh h m p c) m 14 = some (m + 8) := fun _ _ => r14
  have q15 : ∀ p c, rv (mh h m p c) m 15 = some (m + 9) := fun _ _ => r15
  simp (disch := omega) only [fX9_starts, ↓gd, ↓bl, ↓on, ↓xr, ↓reduceIte, if_true, if_false, kd_wI, ln_wI, rv_wI, iv_wI, jv_wI, kd_wJ, ln_wJ, rv_wJ, iv_wJ, nI_clamp, nI_leE, nI_ltE, nI_eqE, m1_ne, bit_0, bit_1, nI_negE, leN_F, leN_T, ltN_F, ltN_T, eqN_F, or_false, false_or, or_true, true_or, not_false_eq_true, not_true_eq_false, and_true, true_and, and_false, false_and, ↓bb (q0 _ _), ↓bb (q1 _ _), ↓bb (q3 _ _), ↓bb (q4 _ _), ↓bb (q10 _ _), ↓bb (q11 _ _), ↓bb (q13 _ _), ↓bb (q14 _ _), ↓bb (q15 _ _), kd_mh, ln_mh, rv_mh, ↓bb r0, ↓bb r1, ↓bb r3, ↓bb r4, ↓bb r10, ↓bb r11, ↓bb r13, ↓bb r14, ↓bb r15, hk, k1, k2, k3, k4, k5, k6, k7, k8, k9, l1, l2, l3, l4, l5, l6, l7, l8, l9, ↓brv_wI, ix0, lt00, li19, mh_wb, iv_mh1, hbp]
  have w1 : rv (mh (wI (wI h (m + 6) 0 (nI t)) m 12 1) m p s.2.2) m 0 = some (m + 1) := r0
  have w2 : kd (mh (wI (wI h (m + 6) 0 (nI t)) m 12 1) m p s.2.2) (m + 1) = 13 := k1
  have w3 : ln (mh (wI (wI h (m + 6) 0 (nI t)) m 12 1) m p s.2.2) (m + 1) = 613 := l1
  simp (disch := omega) only [↓gd, ↓bl, ↓on, ↓xr, ↓reduceIte, if_true, if_false, kd_wI, ln_wI, rv_wI, iv_wI, jv_wI, kd_wJ, ln_wJ, rv_wJ, iv_wJ, nI_clamp, nI_leE, nI_ltE, nI_eqE, m1_ne, bit_0, bit_1, nI_negE, leN_F, leN_T, ltN_F, ltN_T, eqN_F, or_false, false_or, or_true, true_or, not_false_eq_true, not_true_eq_false, and_true, true_and, and_false, false_and, ↓bb w1, w2, w3, ↓bb2 v1]
