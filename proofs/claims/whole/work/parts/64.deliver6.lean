theorem mh_mh (h : AH) (m : Nat) (p c p' c' : Nat → Int32) : mh (mh h m p' c') m p c = mh h m p c := by
  refine AH_ext rfl (fun d => ?_) rfl rfl
  show u1 (u1 (u1 (u1 h.2.1 (m + 1) p') (m + 3) c') (m + 1) p) (m + 3) c d = u1 (u1 h.2.1 (m + 1) p) (m + 3) c d
  unfold u1
  by_cases e : d = m + 3
  · simp [e]
  · by_cases e2 : d = m + 1
    · simp [e2]
    · simp [e, e2]
/-- a heap that differs from one of the reference's by other rows is again one of them -/
theorem mh_back {P : Nat → Prop} {h h' : AH} {m : Nat} {p c : Nat → Int32} (h1 : ¬ P (m + 1)) (h3 : ¬ P (m + 3)) (hF : Fq P (mh h m p c) h') : ∃ h2, h' = mh h2 m p c ∧ Fq P h h2 ∧ ∀ b, b ≠ m + 1 → b ≠ m + 3 → iv h2 b = iv h' b := by
  have e1 : iv h' (m + 1) = p := (iv_F hF h1).trans (iv_mh1 _ _ _ _)
  have e3 : iv h' (m + 3) = c := (iv_F hF h3).trans (iv_mh3 _ _ _ _)
  refine ⟨mh h' m (iv h (m + 1)) (iv h (m + 3)), ?_, ⟨hF.1, hF.2.1, fun b hb => ?_⟩, fun b b1 b3 => iv_mh _ _ _ _ b1 b3⟩
  · rw [mh_mh, ← e1, ← e3, mh_id]
  · refine ⟨?_, (hF.2.2 b hb).2⟩
    by_cases e : b = m + 1
    · subst e; exact iv_mh1 _ _ _ _
    · by_cases e' : b = m + 3
      · subst e'; exact iv_mh3 _ _ _ _
      · exact ((iv_mh h' m _ _ e e').trans (hF.2.2 b hb).1).trans (iv_mh h m p c e e')
theorem li96 : (96 : Int32) = nI 96 := rfl
theorem d9_29 {m : Nat} {p c : Nat → Int32} {n : Nat} (hn : n ≤ 10) (a b : Int32) (z : Nat) : ∀ (d k : Nat), k + d = n → ∀ (h : AH) (fuel : Nat), d < fuel → MO h m → iv h m 12 = nI n → (∀ e, e < k → iv h (m + 6) e = p (96 + e)) →
    ∃ h', lX9_delivers_29 fuel m a b (nI k) z (mh h m p c) = lX9_delivers_71 fu m a b 0 z (mh h' m (upd p 92 (p 92 - 1)) c) ∧ Fm m h h' ∧ iv h' m = iv h m ∧ ∀ e, e < n → iv h' (m + 6) e = p (96 + e) := by
  intro d
  induction d with
  | zero =>
    intro k hk h fuel hf hM h12 hP
    obtain rfl : k = n := by omega
    cases fuel with
    | zero => omega
    | succ fuel =>
      refine ⟨h, ?_, Fm.rf m h, rfl, hP⟩
      have i3 : ((92 : Int32) < 0) = False := eq_false (by decide)
      have i4 : Int32.toNatClampNeg 92 = 92 := by decide
      show lX9_delivers_29B _ _ _ _ _ _ _ = _
      obtain ⟨hk, r0, r1, r3, r4, r10, r11, r13, r14, r15, k1, k2, k3, k4, k5, k6, k7, k8, k9, l1, l2, l3, l4, l5, l6, l7, l8, l9⟩ := id hM
      simp (disch := omega) only [lX9_delivers_29B, ↓brv_wI, ↓brv_wJ, ↓gd, ↓bl, ↓on, ↓xr, ↓reduceIte, if_true, if_false, kd_wI, ln_wI, rv_wI, iv_wI, jv_wI, kd_wJ, ln_wJ, rv_wJ, iv_wJ, nI_clamp, nI_leE, nI_ltE, nI_eqE, m1_ne, bit_0, bit_1, nI_negE, leN_F, leN_T, ltN_F, ltN_T, eqN_F, or_false, false_or, or_true, true_or, not_false_eq_true, not_true_eq_false, and_true, true_and, and_false, false_and, ↓brv_mh, kd_mh, ln_mh, rv_mh, ↓bb r0, ↓bb r1, ↓bb r3, ↓bb r4, ↓bb r10, ↓bb r11, ↓bb r13, ↓bb r14, ↓bb r15, hk, k1, k2, k3, k4, k5, k6, k7, k8, k9, l1, l2, l3, l4, l5, l6, l7, l8, l9, iv_mh, h12, Int32.le_refl, i3, i4, iv_mh1, mh_w1]
  | succ d ih =>
    intro k hk h fuel hf hM h12 hP
    cases fuel with
    | zero => omega
    | succ fuel =>
      have hF1 := Fm.w6 m h k (p (96 + k))
      obtain ⟨h', v1, v2, v3, v4⟩ := ih (k + 1) (by omega) (wI h (m + 6) k (p (96 + k))) fuel (by omega) (hF1.M hM) (by rw [iv_wI_ne _ _ _ (by omega)]; exact h12) (fun e he => by
        rw [iv_wI, if_pos rfl]
        by_cases ee : e = k
        · rw [if_pos ee, ee]
        · rw [if_neg ee]; exact hP e (by omega))
      refine ⟨h', ?_, hF1.tr v2, by rw [v3, iv_wI_ne _ _ _ (by omega)], v4⟩
      rw [← v1]
      show lX9_delivers_29B _ _ _ _ _ _ _ = _
      obtain ⟨hk, r0, r1, r3, r4, r10, r11, r13, r14, r15, k1, k2, k3, k4, k5, k6, k7, k8, k9, l1, l2, l3, l4, l5, l6, l7, l8, l9⟩ := id hM
      simp (disch := omega) only [lX9_delivers_29B, ↓brv_wI, ↓brv_wJ, ↓gd, ↓bl, ↓on, ↓xr, ↓reduceIte, if_true, if_false, kd_wI, ln_wI, rv_wI, iv_wI, jv_wI, kd_wJ, ln_wJ, rv_wJ, iv_wJ, nI_clamp, nI_leE, nI_ltE, nI_eqE, m1_ne, bit_0, bit_1, nI_negE, leN_F, leN_T, ltN_F, ltN_T, eqN_F, or_false, false_or, or_true, true_or, not_false_eq_true, not_true_eq_false, and_true, true_and, and_false, false_and, ↓brv_mh, kd_mh, ln_mh, rv_mh, ↓bb r0, ↓bb r1, ↓bb r3, ↓bb r4, ↓bb r10, ↓bb r11, ↓bb r13, ↓bb r14, ↓bb r15, hk, k1, k2, k3, k4, k5, k6, k7, k8, k9, l1, l2, l3, l4, l5, l6, l7, l8, l9, iv_mh, h12, li96, nI_add, iv_mh1, mh_wb, nI_1]
def shK (p : Nat → Int32) (N k : Nat) : Nat → Int32 := fun j => if j = 92 then nI N else if 93 ≤ j ∧ j < 93 + k then p (j + 13) else p j
def zrK (p : Nat → Int32) (N k : Nat) : Nat → Int32 := fun j => if j = 92 then nI N else if 93 ≤ j ∧ j < 93 + 13 * N then p (j + 13) else if 93 + 13 * N ≤ j ∧ j < 93 + 13 * N + k then 0 else p j
theorem shK_s (p : Nat → Int32) (N k : Nat) : upd (shK p N k) (93 + k) (p (93 + k + 13)) = shK p N (k + 1) := by
  funext j
  rw [upd_s]
  unfold shK
  by_cases e : j = 93 + k
  · subst e
    rw [if_pos rfl, if_neg (by omega), if_pos (by omega)]
  · rw [if_neg e]
    have : (93 ≤ j ∧ j < 93 + k) = (93 ≤ j ∧ j < 93 + (k + 1)) := by simp; omega
    simp only [this]
theorem zrK_s (p : Nat → Int32) (N k : Nat) : upd (zrK p N k) (93 + 13 * N + k) 0 = zrK p N (k + 1) := by
  funext j
  rw [upd_s]
  unfold zrK
  by_cases e : j = 93 + 13 * N + k
  · subst e
    rw [if_pos rfl, if_neg (by omega), if_neg (by omega), if_pos (by omega)]
  · rw [if_neg e]
    have : (93 + 13 * N ≤ j ∧ j < 93 + 13 * N + k) = (93 + 13 * N ≤ j ∧ j < 93 + 13 * N + (k + 1)) := by simp; omega
    simp only [this]
theorem sh_zr (p : Nat → Int32) (N : Nat) : shK p N (13 * N) = zrK p N 0 := by
  funext j
  unfold shK zrK
  rw [if_neg (show ¬ (93 + 13 * N ≤ j ∧ j < 93 + 13 * N + 0) by omega)]
theorem zr_dr {p : Nat → Int32} {N : Nat} (e : p 92 - 1 = nI N) (hN : nm p - 1 = N) : zrK p N 13 = drP p := by
  funext j
  unfold zrK drP
  rw [e, hN]
theorem d9_71 {h : AH} {m : Nat} (hM : MO h m) {p c : Nat → Int32} {N : Nat} (hN : N < 40) (a b : Int32) (z : Nat) : ∀ (d k : Nat), k + d = 13 * N → ∀ fuel, d < fuel →
    lX9_delivers_71 fuel m a b (nI k) z (mh h m (shK p N k) c) = lX9_delivers_114 fu m a b 0 z (mh h m (shK p N (13 * N)) c) := by
  intro d
  have i3 : ((92 : Int32) < 0) = False := eq_false (by decide)
  have i4 : Int32.toNatClampNeg 92 = 92 := by decide
  have e92 : ∀ k, shK p N k 92 = nI N := fun k => by unfold shK; rw [if_pos rfl]
  have eM : (13 : Int32) * nI N = nI (13 * N) := by rw [li13, pk_mul]
  induction d with
  | zero =>
    intro k hk fuel hf
    obtain rfl : k = 13 * N := by omega
    cases fuel with
    | zero => omega
    | succ fuel =>
      show lX9_delivers_71B _ _ _ _ _ _ _ = _
      obtain ⟨hk, r0, r1, r3, r4, r10, r11, r13, r14, r15, k1, k2, k3, k4, k5, k6, k7, k8, k9, l1, l2, l3, l4, l5, l6, l7, l8, l9⟩ := id hM
      simp (disch := omega) only [lX9_delivers_71B, ↓brv_wI, ↓brv_wJ, ↓gd, ↓bl, ↓on, ↓xr, ↓reduceIte, if_true, if_false, kd_wI, ln_wI, rv_wI, iv_wI, jv_wI, kd_wJ, ln_wJ, rv_wJ, iv_wJ, nI_clamp, nI_leE, nI_ltE, nI_eqE, m1_ne, bit_0, bit_1, nI_negE, leN_F, leN_T, ltN_F, ltN_T, eqN_F, or_false, false_or, or_true, true_or, not_false_eq_true, not_true_eq_false, and_true, true_and, and_false, false_and, ↓brv_mh, kd_mh, ln_mh, rv_mh, ↓bb r0, ↓bb r1, ↓bb r3, ↓bb r4, ↓bb r10, ↓bb r11, ↓bb r13, ↓bb r14, ↓bb r15, hk, k1, k2, k3, k4, k5, k6, k7, k8, k9, l1, l2, l3, l4, l5, l6, l7, l8, l9, i3, i4, iv_mh1, e92, eM, Int32.le_refl]
  | succ d ih =>
    intro k hk fuel hf
    cases fuel with
    | zero => omega
    | succ fuel =>
      have h3 := ih (k + 1) (by omega) fuel (by omega)
      have e13 : shK p N k (93 + k + 13) = p (93 + k + 13) := by unfold shK; rw [if_neg (by omega), if_neg (by omega)]
      rw [← h3]
      show lX9_delivers_71B _ _ _ _ _ _ _ = _
      obtain ⟨hk, r0, r1, r3, r4, r10, r11, r13, r14, r15, k1, k2, k3, k4, k5, k6, k7, k8, k9, l1, l2, l3, l4, l5, l6, l7, l8, l9⟩ := id hM
      simp (disch := omega) only [lX9_delivers_71B, ↓brv_wI, ↓brv_wJ, ↓gd, ↓bl, ↓on, ↓xr, ↓reduceIte, if_true, if_false, kd_wI, ln_wI, rv_wI, iv_wI, jv_wI, kd_wJ, ln_wJ, rv_wJ, iv_wJ, nI_clamp, nI_leE, nI_ltE, nI_eqE, m1_ne, bit_0, bit_1, nI_negE, leN_F, leN_T, ltN_F, ltN_T, eqN_F, or_false, false_or, or_true, true_or, not_false_eq_true, not_true_eq_false, and_true, true_and, and_false, false_and, ↓brv_mh, kd_mh, ln_mh, rv_mh, ↓bb r0, ↓bb r1, ↓bb r3, ↓bb r4, ↓bb r10, ↓bb r11, ↓bb r13, ↓bb r14, ↓bb r15, hk, k1, k2, k3, k4, k5, k6, k7, k8, k9, l1, l2, l3, l4, l5, l6, l7, l8, l9, i3, i4, iv_mh1, e92, li93, li13, pk_mul, nI_add, mh_w1, e13, shK_s, nI_1]
theorem d9_114 {h : AH} {m : Nat} (hM : MO h m) {p c : Nat → Int32} {N : Nat} (hN : N < 40) (a b : Int32) (z : Nat) : ∀ (d k : Nat), k + d = 13 → ∀ fuel,
    lX9_delivers_114 (fuel + d) m a b (nI k) z (mh h m (zrK p N k) c) = lX9_delivers_114 fuel m a b (nI 13) z (mh h m (zrK p N 13) c) := by
  intro d
  have i3 : ((92 : Int32) < 0) = False := eq_false (by decide)
  have i4 : Int32.toNatClampNeg 92 = 92 := by decide
  have e92 : ∀ k, zrK p N k 92 = nI N := fun k => by unfold zrK; rw [if_pos rfl]
  induction d with
  | zero =>
    intro k hk fuel
    obtain rfl : k = 13 := by omega
    rfl
  | succ d ih =>
    intro k hk fuel
    have h3 := ih (k + 1) (by omega) fuel
    rw [← h3, show fuel + (d + 1) = (fuel + d) + 1 by omega]
    show lX9_delivers_114B _ _ _ _ _ _ _ = _
    unfold lX9_delivers_114B
    rw [if_neg (by rw [li13, nI_leE (by omega) (by omega)]; omega)]
    obtain ⟨hk, r0, r1, r3, r4, r10, r11, r13, r14, r15, k1, k2, k3, k4, k5, k6, k7, k8, k9, l1, l2, l3, l4, l5, l6, l7, l8, l9⟩ := id hM
    simp (disch := omega) only [↓brv_wI, ↓brv_wJ, ↓gd, ↓bl, ↓on, ↓xr, ↓reduceIte, if_true, if_false, kd_wI, ln_wI, rv_wI, iv_wI, jv_wI, kd_wJ, ln_wJ, rv_wJ, iv_wJ, nI_clamp, nI_leE, nI_ltE, nI_eqE, m1_ne, bit_0, bit_1, nI_negE, leN_F, leN_T, ltN_F, ltN_T, eqN_F, or_false, false_or, or_true, true_or, not_false_eq_true, not_true_eq_false, and_true, true_and, and_false, false_and, ↓brv_mh, kd_mh, ln_mh, rv_mh, ↓bb r0, ↓bb r1, ↓bb r3, ↓bb r4, ↓bb r10, ↓bb r11, ↓bb r13, ↓bb r14, ↓bb r15, hk, k1, k2, k3, k4, k5, k6, k7, k8, k9, l1, l2, l3, l4, l5, l6, l7, l8, l9, i3, i4, iv_mh1, e92, ixm, nI_add, mh_w1, zrK_s, nI_1]
theorem WA_dl {w : Ac} {B : Nat} (hB31 : B < 2 ^ 31) (hQ : WA w.1 B) (h0 : 0 < nm w.1.1) : WA (dlA w).1 B := by
  have hWm := hQ.2.2.2.2.2
  obtain ⟨m1, m2, m3, m4, m5, m6, m7⟩ := dM hWm h0
  have hQ1 : WA (drP w.1.1, w.1.2.1, w.1.2.2) B := WQ_dr hQ h0
  unfold dlA
  cases hst : dSt w.1.1
  · simp only [Bool.false_eq_true, if_false]
    by_cases eT : dT w.1.1 = dU w.1.1 0
    · rw [if_pos eT]
      obtain ⟨i1, i2, i3⟩ := vic_IM hB31 hQ h0 hst
      have hvt : th (drP w.1.1) (vp w.1.1 (dU w.1.1) (mln w.1.1 0)) = true := by unfold th at i3 ⊢; rw [drP_lo _ (by omega)]; exact i3
      exact WQ_stl (WQ_sk i2 hvt hQ1)
    · rw [if_neg eT]
      by_cases e2 : wt w.1.1 (dT w.1.1) = true ∧ anyB (mln w.1.1 0) (fun e => decide (dU w.1.1 e = dT w.1.1)) = false
      · rw [if_pos e2]
        by_cases e3 : dH w.1.1 = 0
        · rw [if_pos e3]; exact hQ1
        · rw [if_neg e3]
          refine WA_sdN (s := ((drP w.1.1, w.1.2.1, w.1.2.2) : Ab)) (n := mln w.1.1 0 + 1) (hp := dH w.1.1 - 1) hQ1 (by omega) (by omega) (fun e he => ?_) 10 (by omega)
          by_cases ee : e = mln w.1.1 0
          · exact ⟨dT w.1.1, m2, by simp [ee]⟩
          · refine ⟨dU w.1.1 e, (m7 e (by omega)).2, ?_⟩
            simp only [ee, if_false]
            exact (m7 e (by omega)).1
      · rw [if_neg e2]; exact hQ1
  · rw [if_pos rfl]; exact hQ1
theorem WA_dlL {B : Nat} (hB31 : B < 2 ^ 31) : ∀ (d : Nat) (w : Ac), WA w.1 B → WA (dlL d w).2.1 B := by
  intro d
  induction d with
  | zero => intro w h; exact h
  | succ d ih =>
    intro w h
    unfold dlL
    split
    · exact h
    · exact ih (dlA w) (WA_dl hB31 h (by omega))
theorem w9_delivers {h : AH} {m : Nat} (hM : MO h m) {p : Nat → Int32} {w : Ac} {B : Nat} (hB31 : B < 2 ^ 31) (hR : RF p w.1.1 w.1.2.1) (hQ : WA w.1 B) (hL : LM h m w.2) (h0 : 0 < nm w.1.1) (z : Nat) :
    ∃ p' h', fX9_delivers m z (mh h m p w.1.2.2) = some (z, mh h' m p' (dlA w).1.2.2) ∧ RF p' (dlA w).1.1 (dlA w).1.2.1 ∧ LM h' m (dlA w).2 ∧ Fm m h h' := by
  obtain ⟨s, l⟩ := w
  obtain ⟨q, L, c⟩ := s
  simp only at hR hQ hL h0
  have hQq : WQ q L B := hQ
  have hWm := hQq.2.2.2.2.2
  obtain ⟨m1, m2, m3, m4, m5, m6, m7⟩ := dM hWm h0
  have hpq : ∀ j, 92 ≤ j → p j = q j := fun j hj => hR.1 j (by omega)
  have hQ1 : WQ (drP q) L B := WQ_dr hQq h0
  have hR1 : RF (drP p) (drP q) L := RF_dr hR
  have hQp1 := hR1.wq hQ1
  have hlo : ∀ j, j < 92 → q j = drP q j := fun j hj => (drP_lo q hj).symm
  have hng : agr (ng (drP p)) (ng q) := (ng_nord hR1.1 hQp1.1 hQp1.w).tr (ng_lo (fun j hj => drP_lo q hj) hQ1.1 hQ1.w)
  have hm40 := hWm.2.1
  -- the path is copied, the message taken away
  obtain ⟨h1, v1, v2, v3, v4⟩ := d9_29 (p := p) (c := c) (n := mln q 0) (by omega) (nI (dT q)) (nI (dH q)) z (mln q 0) 0 (by omega) (wI h m 12 (nI (mln q 0))) fu (by unfold fu; omega) (MO_c rfl rfl hM) (by rw [iv_wI, if_pos rfl, if_pos rfl]) (fun e he => by omega)
  have hF1 : Fm m h h1 := (Fm.w0 m h (Or.inr (Or.inr (Or.inr rfl))) _).tr v2
  have hM1 := hF1.M hM
  have hPT : PT h1 m (mln q 0) (dU q) := by
    refine ⟨by rw [v3, iv_wI, if_pos rfl, if_pos rfl], by omega, fun e he => ⟨?_, (m7 e he).2⟩⟩
    rw [v4 e he, hpq _ (by omega)]
    exact (m7 e he).1
  have hL1 : LM h1 m l := by
    unfold LM
    rw [v3]
    simp (disch := omega) only [iv_wI, eqN_F, if_false, if_true]
    exact hL
  have hN : nm p - 1 = nm q - 1 := by unfold nm; rw [hpq 92 (by omega)]
  have e92 : p 92 - 1 = nI (nm q - 1) := by rw [hpq 92 (by omega), hWm.1, show (1 : Int32) = nI 1 from rfl, pk_sub (by omega)]
  have s1 := d9_71 hM1 (p := p) (c := c) (N := nm q - 1) (by omega) (nI (dT q)) (nI (dH q)) z (13 * (nm q - 1)) 0 (by omega) fu (by unfold fu; omega)
  have s2 := d9_114 hM1 (p := p) (c := c) (N := nm q - 1) (by omega) (nI (dT q)) (nI (dH q)) z 13 0 (by omega) 19987
  rw [zr_dr e92 hN, ← sh_zr] at s2
  have eu : upd p 92 (p 92 - 1) = shK p (nm q - 1) 0 := by
    funext j
    rw [upd_s, e92]
    unfold shK
    rw [if_neg (show ¬ (93 ≤ j ∧ j < 93 + 0) by omega)]
  have start : fX9_delivers m z (mh h m p c) = lX9_delivers_114 19987 m (nI (dT q)) (nI (dH q)) (nI 13) z (mh h1 m (drP p) c) := by
    rw [← s2]
    rw [nI_0] at s1 ⊢
    show _ = lX9_delivers_114 fu m (nI (dT q)) (nI (dH q)) 0 z _
    rw [← s1, ← eu, ← v1]
    have p93 : p 93 = nI (dT q) := (hpq 93 (by omega)).trans m1
    have p94 : p 94 = nI (dH q) := (hpq 94 (by omega)).trans m3
    have p95 : p 95 = nI (mln q 0) := (hpq 95 (by omega)).trans m4
    have a3 : ((93 : Int32) < 0) = False := eq_false (by decide)
    have a4 : Int32.toNatClampNeg 93 = 93 := by decide
    have b3 : ((94 : Int32) < 0) = False := eq_false (by decide)
    have b4 : Int32.toNatClampNeg 94 = 94 := by decide
    have c3 : ((95 : Int32) < 0) = False := eq_false (by decide)
    have c4 : Int32.toNatClampNeg 95 = 95 := by decide
    obtain ⟨hk, r0, r1, r3, r4, r10, r11, r13, r14, r15, k1, k2, k3, k4, k5, k6, k7, k8, k9, l1, l2, l3, l4, l5, l6, l7, l8, l9⟩ := id hM
    simp (disch := omega) only [fX9_delivers, ↓brv_wI, ↓brv_wJ, ↓gd, ↓bl, ↓on, ↓xr, ↓reduceIte, if_true, if_false, kd_wI, ln_wI, rv_wI, iv_wI, jv_wI, kd_wJ, ln_wJ, rv_wJ, iv_wJ, nI_clamp, nI_leE, nI_ltE, nI_eqE, m1_ne, bit_0, bit_1, nI_negE, leN_F, leN_T, ltN_F, ltN_T, eqN_F, or_false, false_or, or_true, true_or, not_false_eq_true, not_true_eq_false, and_true, true_and, and_false, false_and, ↓brv_mh, kd_mh, ln_mh, rv_mh, ↓bb r0, ↓bb r1, ↓bb r3, ↓bb r4, ↓bb r10, ↓bb r11, ↓bb r13, ↓bb r14, ↓bb r15, hk, k1, k2, k3, k4, k5, k6, k7, k8, k9, l1, l2, l3, l4, l5, l6, l7, l8, l9, a3, a4, b3, b4, c3, c4, iv_mh1, p93, p94, p95, mh_wb, nI_0]
  show ∃ p' h', fX9_delivers m z (mh h m p c) = _ ∧ _
  rw [start]
  have x1 := e9_isStale hM1 (p := drP p) (q := q) (c := c) hQp1.1 hQp1.w hng hPT m2 z
  have f0 := (hPT.2.2 0 (by omega)).1
  have u0 := (m7 0 (by omega)).2
  unfold dlA
  simp only
  cases hst : dSt q
  · rw [hst] at x1
    simp only [Bool.false_eq_true, if_false] at x1 ⊢
    have hth := dU_th hWm h0 hst
    by_cases eT : dT q = dU q 0
    · rw [if_pos eT]
      have hth1 : ∀ e, e < mln q 0 → th (drP q) (dU q e) = true := fun e he => by
        have := hth e he
        have h9 := (m7 e he).2
        unfold th at this ⊢
        rw [← hlo _ (by omega)]; exact this
      obtain ⟨p', h2, w1, w2, w3, w4⟩ := w9_finds hM1 (s := (drP q, L, c)) hB31 hR1 hQ1 m5 hPT hth1 z
      have ev : vp (drP q) (dU q) (mln q 0) = vp q (dU q) (mln q 0) := (vp_c (p := drP q) (q := q) (fun a b ha hb => bf_c (fun j hj _ => drP_lo q hj) ha hb) m5 (fun e he => (m7 e he).2) _ (Nat.le_refl _)).1
      simp only at w1 w2 w3
      rw [ev] at w1 w2 w3
      rw [pm_c (f := fun e => nI (dU q e)) (g := dF q) _ (fun e he => (m7 e he).1.symm)] at w3
      refine ⟨p', h2, ?_, w2, w3, hF1.tr w4⟩
      have eTT : (nI (dT q) = nI (dU q 0)) = True := eq_true (by rw [eT])
      show lX9_delivers_114B _ _ _ _ _ _ _ = _
      unfold lX9_delivers_114B
      rw [if_pos (by decide)]
      obtain ⟨hk, r0, r1, r3, r4, r10, r11, r13, r14, r15, k1, k2, k3, k4, k5, k6, k7, k8, k9, l1, l2, l3, l4, l5, l6, l7, l8, l9⟩ := id hM
      have hk1 := hM1.1
      have rr11 := hM1.2.2.2.2.2.2.1
      obtain ⟨-, -, -, -, -, -, g11, -, -, -, -, -, -, -, -, gk6, -, -, -, -, -, -, -, -, gl6, -⟩ := hM1
      simp (disch := omega) only [↓brv_wI, ↓brv_wJ, ↓gd, ↓bl, ↓on, ↓xr, ↓reduceIte, if_true, if_false, kd_wI, ln_wI, rv_wI, iv_wI, jv_wI, kd_wJ, ln_wJ, rv_wJ, iv_wJ, nI_clamp, nI_leE, nI_ltE, nI_eqE, m1_ne, bit_0, bit_1, nI_negE, leN_F, leN_T, ltN_F, ltN_T, eqN_F, or_false, false_or, or_true, true_or, not_false_eq_true, not_true_eq_false, and_true, true_and, and_false, false_and, ↓brv_mh, kd_mh, ln_mh, hk1, ↓bb3 x1, ↓bb g11, gk6, gl6, ix0, lt00, iv_mh, f0, eTT, ↓bb2 w1]
    · rw [if_neg eT]
      have eTF : (nI (dT q) = nI (dU q 0)) = False := eq_false (by rw [nI_eqE (by omega) (by omega)]; exact eT)
      have ewt : wt (drP p) (dT q) = wt q (dT q) := by rw [wt_nord hR1.1]; unfold wt th; rw [← hlo _ (by omega), ← hlo _ (by omega)]
      have x2 := e9m_isWaiting hM1 (drP p) c (nI (dT q)) z
      rw [wtI_nI m2, ewt] at x2
      have x3 := e9_isOnPath hM1 (p := drP p) (c := c) hPT m2 z
      have hk1 := hM1.1
      obtain ⟨-, g0, -, g3, -, -, g11, -, -, -, gk1, -, gk3, -, -, gk6, -, -, -, -, -, gl3, -, -, gl6, -⟩ := id hM1
      cases hwt : wt q (dT q)
      · rw [hwt] at x2
        rw [if_neg (by simp)]
        refine ⟨drP p, h1, ?_, hR1, hL1, hF1⟩
        show lX9_delivers_114B _ _ _ _ _ _ _ = _
        unfold lX9_delivers_114B
        rw [if_pos (by decide)]
        simp (disch := omega) only [bX9_delivers_252, ↓brv_wI, ↓brv_wJ, ↓gd, ↓bl, ↓on, ↓xr, ↓reduceIte, if_true, if_false, kd_wI, ln_wI, rv_wI, iv_wI, jv_wI, kd_wJ, ln_wJ, rv_wJ, iv_wJ, nI_clamp, nI_leE, nI_ltE, nI_eqE, m1_ne, bit_0, bit_1, nI_negE, leN_F, leN_T, ltN_F, ltN_T, eqN_F, or_false, false_or, or_true, true_or, not_false_eq_true, not_true_eq_false, and_true, true_and, and_false, false_and, ↓brv_mh, kd_mh, ln_mh, hk1, ↓bb3 x1, ↓bb g11, gk6, gl6, ix0, lt00, iv_mh, f0, eTF, ↓bb3 x2, Bool.false_eq_true]
      · rw [hwt] at x2
        cases hop : anyB (mln q 0) (fun e => decide (dU q e = dT q))
        · rw [hop] at x3
          rw [if_pos ⟨rfl, rfl⟩]
          by_cases eH : dH q = 0
          · rw [if_pos eH]
            have hMc := MO_mh hM1 (drP p) (upd c 3 (c 3 + 1))
            obtain ⟨h2', w1, w2, w3, w4⟩ := w9_cyclic (q := drP p) hMc (ps_mh _ _ _ _) hQp1.1 hQp1.w 1023 z
            obtain ⟨h2, rfl, w6, w7⟩ := mh_back (by unfold PL2; omega) (by unfold PL2; omega) w2
            have eo : og (rc (er (drP p) 1023)) = og (rc (ng q)) := og_a (rc_a ((er_all _).tr hng))
            rw [eo] at w1
            have hF2 : Fm m h1 h2 := Fm.l2 w6
            have hM2 := hF2.M hM1
            obtain ⟨-, -, -, i3', -, -, i11, -, -, -, -, -, ik3, -, -, ik6, -, -, -, -, -, il3, -, -, il6, -⟩ := id hM2
            have f0' : iv h2 (m + 6) 0 = nI (dU q 0) := by rw [iv_F w6 (by unfold PL2; omega)]; exact f0
            have hk2 := hM2.1
            have j3 : ((3 : Int32) < 0) = False := eq_false (by decide)
            have j4 : Int32.toNatClampNeg 3 = 3 := by decide
            have j5 : ((5 : Int32) < 0) = False := eq_false (by decide)
            have j6 : Int32.toNatClampNeg 5 = 5 := by decide
            have eHH : (nI (dH q) = 0) = True := eq_true (by rw [eH]; rfl)
            have ec5 : upd c 3 (c 3 + 1) 5 = c 5 := by rw [upd_s, if_neg (by omega)]
            have w1 : fX9_cyclic m 1023 z (wI (mh h1 m (drP p) c) (m + 3) (Int32.toNatClampNeg 3) (iv (mh h1 m (drP p) c) (m + 3) (Int32.toNatClampNeg 3) + 1)) = some (og (rc (ng q)), z, mh h2 m (drP p) (upd c 3 (c 3 + 1))) := by
              rw [j4, iv_mh3, mh_w3]; exact w1
            refine ⟨drP p, h2, ?_, hR1, ?_, hF1.tr hF2⟩
            · show lX9_delivers_114B _ _ _ _ _ _ _ = _
              unfold lX9_delivers_114B
              rw [if_pos (by decide)]
              cases hbb : bt (og (rc (ng q))) (dU q 0)
              · have hb1 : ((og (rc (ng q)) >>> (nI (dU q 0) &&& 31)) &&& 1 = 1) = False := by rw [bit_1 _ (by omega), hbb]; simp
                simp (disch := omega) only [bX9_delivers_247, ↓gd, ↓bl, ↓reduceIte, kd_mh, ln_mh, kd_wI, ln_wI, ↓brv_mh, ↓brv_wI, hk1, ↓bb3 x1, ↓bb g11, gk6, gl6, ix0, lt00, iv_mh, f0, eTF, ↓bb3 x2, ne10, ↓bb3 x3, eHH, ↓bb g3, gk3, gl3, j3, j4, j5, j6, leN_F, or_false, false_or, not_false_eq_true, iv_mh3, mh_w3, ↓bb3 w1, hk2, ↓bb i11, ik6, il6, f0', hb1, ik3, il3, ec5, Bool.false_eq_true]
              · have hb1 : ((og (rc (ng q)) >>> (nI (dU q 0) &&& 31)) &&& 1 = 1) = True := by rw [bit_1 _ (by omega), hbb]; simp
                simp (disch := omega) only [bX9_delivers_247, ↓gd, ↓bl, ↓reduceIte, kd_mh, ln_mh, kd_wI, ln_wI, ↓brv_mh, ↓brv_wI, hk1, ↓bb3 x1, ↓bb g11, gk6, gl6, ix0, lt00, iv_mh, f0, eTF, ↓bb3 x2, ne10, ↓bb3 x3, eHH, ↓bb g3, gk3, gl3, j3, j4, j5, j6, leN_F, or_false, false_or, not_false_eq_true, iv_mh3, mh_w3, ↓bb3 w1, hk2, ↓bb i11, ik6, il6, f0', hb1, ik3, il3, ec5, Bool.false_eq_true]
            · unfold LM
              rw [iv_F w6 (by unfold PL2; omega)]
              exact hL1
          · rw [if_neg eH]
            have hn10 : mln q 0 + 1 ≤ 9 := by omega
            have hF2 : Fm m h1 (wI (wI h1 (m + 6) (mln q 0) (nI (dT q))) m 12 (nI (mln q 0 + 1))) := (Fm.w6 m h1 _ _).tr (Fm.w0 m _ (Or.inr (Or.inr (Or.inr rfl))) _)
            obtain ⟨p', w1, w2⟩ := w9_sendsAll (hF2.M hM1) (p := drP p) (s := (drP q, L, c)) (n := mln q 0 + 1) (hp := dH q - 1) (f := fun e => if e = mln q 0 then nI (dT q) else dF q e) hR1 hQ1 m2 (by omega) (by omega) (fun e he => by
              by_cases ee : e = mln q 0
              · exact ⟨dT q, m2, by simp [ee]⟩
              · refine ⟨dU q e, (m7 e (by omega)).2, ?_⟩
                simp only [ee, if_false]
                exact (m7 e (by omega)).1) (by rw [iv_wI, if_pos rfl, if_pos rfl]) (fun e he => by
              rw [iv_wI_ne _ _ _ (by omega), iv_wI, if_pos rfl]
              by_cases ee : e = mln q 0
              · simp [ee]
              · simp only [ee, if_false]
                rw [(hPT.2.2 e (by omega)).1, (m7 e (by omega)).1]) z
            have eng : ng (drP q) (dT q) = ng q (dT q) := ng_lo (fun j hj => drP_lo q hj) hQ1.1 hQ1.w _ m2
            simp only at w1 w2
            rw [eng] at w1 w2
            refine ⟨p', _, ?_, w2, ?_, hF1.tr hF2⟩
            · have eHH : (nI (dH q) = 0) = False := eq_false (by rw [nI_0E (by omega)]; exact eH)
              have eh1 : nI (dH q) - 1 = nI (dH q - 1) := by rw [show (1 : Int32) = nI 1 from rfl, pk_sub (by omega)]
              have h12 := hPT.1
              have g12 : iv (wI h1 (m + 6) (mln q 0) (nI (dT q))) m 12 = nI (mln q 0) := by rw [iv_wI_ne _ _ _ (by omega)]; exact h12
              show lX9_delivers_114B _ _ _ _ _ _ _ = _
              unfold lX9_delivers_114B
              rw [if_pos (by decide)]
              simp (disch := omega) only [bX9_delivers_252, ↓gd, ↓bl, ↓reduceIte, kd_mh, ln_mh, ↓brv_mh, ↓brv_wI, hk1, ↓bb3 x1, ↓bb g11, gk6, gl6, ix0, lt00, iv_mh, f0, eTF, ↓bb3 x2, ne10, ↓bb3 x3, eHH, h12, nI_negE, nI_clamp, leN_F, or_false, false_or, not_false_eq_true, mh_wb, g12, nI_1, eh1, ↓bb2 w1, Bool.false_eq_true]
            · unfold LM
              simp (disch := omega) only [iv_wI, eqN_F, if_false, if_true]
              exact hL1
        · rw [hop] at x3
          rw [if_neg (by simp)]
          refine ⟨drP p, h1, ?_, hR1, hL1, hF1⟩
          show lX9_delivers_114B _ _ _ _ _ _ _ = _
          unfold lX9_delivers_114B
          rw [if_pos (by decide)]
          simp (disch := omega) only [bX9_delivers_252, ↓brv_wI, ↓brv_wJ, ↓gd, ↓bl, ↓on, ↓xr, ↓reduceIte, if_true, if_false, kd_wI, ln_wI, rv_wI, iv_wI, jv_wI, kd_wJ, ln_wJ, rv_wJ, iv_wJ, nI_clamp, nI_leE, nI_ltE, nI_eqE, m1_ne, bit_0, bit_1, nI_negE, leN_F, leN_T, ltN_F, ltN_T, eqN_F, or_false, false_or, or_true, true_or, not_false_eq_true, not_true_eq_false, and_true, true_and, and_false, false_and, ↓brv_mh, kd_mh, ln_mh, hk1, ↓bb3 x1, ↓bb g11, gk6, gl6, ix0, lt00, iv_mh, f0, eTF, ↓bb3 x2, ne10, ↓bb3 x3]
  · rw [hst] at x1
    rw [if_pos rfl]
    have hk1 := hM1.1
    obtain ⟨-, g0, -, g3, -, -, g11, -, -, -, gk1, -, gk3, -, -, gk6, -, -, -, -, -, gl3, -, -, gl6, -⟩ := id hM1
    refine ⟨drP p, h1, ?_, hR1, hL1, hF1⟩
    have j3 : ((2 : Int32) < 0) = False := eq_false (by decide)
    have j4 : Int32.toNatClampNeg 2 = 2 := by decide
    show lX9_delivers_114B _ _ _ _ _ _ _ = _
    unfold lX9_delivers_114B
    rw [if_pos (by decide)]
    simp (disch := omega) only [↓brv_wI, ↓brv_wJ, ↓gd, ↓bl, ↓on, ↓xr, ↓reduceIte, if_true, if_false, kd_wI, ln_wI, rv_wI, iv_wI, jv_wI, kd_wJ, ln_wJ, rv_wJ, iv_wJ, nI_clamp, nI_leE, nI_ltE, nI_eqE, m1_ne, bit_0, bit_1, nI_negE, leN_F, leN_T, ltN_F, ltN_T, eqN_F, or_false, false_or, or_true, true_or, not_false_eq_true, not_true_eq_false, and_true, true_and, and_false, false_and, ↓brv_mh, kd_mh, ln_mh, hk1, ↓bb3 x1, ne10, ↓bb g3, gk3, gl3, j3, j4, iv_mh3, mh_w3]
theorem e9_dl_loop {m : Nat} {B n : Nat} (hB31 : B < 2 ^ 31) (hn : n < 1000) (z : Nat) : ∀ (d k : Nat), k + d = n → ∀ (h : AH) (p : Nat → Int32) (w : Ac) (fuel : Nat), d < fuel → MO h m → RF p w.1.1 w.1.2.1 → WA w.1 B → LM h m w.2 →
    ∃ p' h', lX9_deliversUpTo_2 fuel m (nI n) (nI k) z (mh h m p w.1.2.2) = some (nI (k + (dlL d w).1), z, mh h' m p' (dlL d w).2.1.2.2) ∧ RF p' (dlL d w).2.1.1 (dlL d w).2.1.2.1 ∧ LM h' m (dlL d w).2.2 ∧ Fm m h h' := by
  intro d
  induction d with
  | zero =>
    intro k hk h p w fuel hf hM hR hQ hL
    obtain rfl : k = n := by omega
    cases fuel with
    | zero => omega
    | succ fuel =>
      refine ⟨p, h, ?_, hR, hL, Fm.rf m h⟩
      show lX9_deliversUpTo_2B _ _ _ _ _ _ = _
      simp (disch := omega) only [lX9_deliversUpTo_2B, Int32.le_refl, ↓reduceIte]
      rfl
  | succ d ih =>
    intro k hk h p w fuel hf hM hR hQ hL
    cases fuel with
    | zero => omega
    | succ fuel =>
      have hm : WFm w.1.1 := hQ.2.2.2.2.2
      have e92 : p 92 = nI (nm w.1.1) := by rw [hR.1 92 (by omega)]; exact hm.1
      have hm40 := hm.2.1
      have i3 : ((92 : Int32) < 0) = False := eq_false (by decide)
      have i4 : Int32.toNatClampNeg 92 = 92 := by decide
      unfold dlL
      by_cases e : nm w.1.1 = 0
      · rw [if_pos e]
        refine ⟨p, h, ?_, hR, hL, Fm.rf m h⟩
        have e1 : (nI (nm w.1.1) ≤ 0) = True := eq_true (by rw [e]; decide)
        show lX9_deliversUpTo_2B _ _ _ _ _ _ = _
        obtain ⟨hk, r0, r1, r3, r4, r10, r11, r13, r14, r15, k1, k2, k3, k4, k5, k6, k7, k8, k9, l1, l2, l3, l4, l5, l6, l7, l8, l9⟩ := id hM
        simp (disch := omega) only [lX9_deliversUpTo_2B, ↓brv_wI, ↓brv_wJ, ↓gd, ↓bl, ↓on, ↓xr, ↓reduceIte, if_true, if_false, kd_wI, ln_wI, rv_wI, iv_wI, jv_wI, kd_wJ, ln_wJ, rv_wJ, iv_wJ, nI_clamp, nI_leE, nI_ltE, nI_eqE, m1_ne, bit_0, bit_1, nI_negE, leN_F, leN_T, ltN_F, ltN_T, eqN_F, or_false, false_or, or_true, true_or, not_false_eq_true, not_true_eq_false, and_true, true_and, and_false, false_and, ↓brv_mh, kd_mh, ln_mh, rv_mh, ↓bb r0, ↓bb r1, ↓bb r3, ↓bb r4, ↓bb r10, ↓bb r11, ↓bb r13, ↓bb r14, ↓bb r15, hk, k1, k2, k3, k4, k5, k6, k7, k8, k9, l1, l2, l3, l4, l5, l6, l7, l8, l9, i3, i4, iv_mh1, e92, e1]
        rfl
      · rw [if_neg e]
        obtain ⟨p1, h1, v1, v2, v3, v4⟩ := w9_delivers hM hB31 hR hQ hL (by omega) z
        obtain ⟨p', h', u1, u2, u3, u4⟩ := ih (k + 1) (by omega) h1 p1 (dlA w) fuel (by omega) (v4.M hM) v2 (WA_dl hB31 hQ (by omega)) v3
        refine ⟨p', h', ?_, u2, u3, v4.tr u4⟩
        have e1 : (nI (nm w.1.1) ≤ 0) = False := eq_false (by rw [le0E (by omega)]; omega)
        show lX9_deliversUpTo_2B _ _ _ _ _ _ = _
        obtain ⟨hk, r0, r1, r3, r4, r10, r11, r13, r14, r15, k1, k2, k3, k4, k5, k6, k7, k8, k9, l1, l2, l3, l4, l5, l6, l7, l8, l9⟩ := id hM
        simp (disch := omega) only [lX9_deliversUpTo_2B, ↓brv_wI, ↓brv_wJ, ↓gd, ↓bl, ↓on, ↓xr, ↓reduceIte, if_true, if_false, kd_wI, ln_wI, rv_wI, iv_wI, jv_wI, kd_wJ, ln_wJ, rv_wJ, iv_wJ, nI_clamp, nI_leE, nI_ltE, nI_eqE, m1_ne, bit_0, bit_1, nI_negE, leN_F, leN_T, ltN_F, ltN_T, eqN_F, or_false, false_or, or_true, true_or, not_false_eq_true, not_true_eq_false, and_true, true_and, and_false, false_and, ↓brv_mh, kd_mh, ln_mh, rv_mh, ↓bb r0, ↓bb r1, ↓bb r3, ↓bb r4, ↓bb r10, ↓bb r11, ↓bb r13, ↓bb r14, ↓bb r15, hk, k1, k2, k3, k4, k5, k6, k7, k8, k9, l1, l2, l3, l4, l5, l6, l7, l8, l9, i3, i4, iv_mh1, e92, e1, ↓bb2 v1, nI_1, u1]
        congr 3
        omega
theorem w9_deliversUpTo {h : AH} {m : Nat} (hM : MO h m) {p : Nat → Int32} {w : Ac} {B n : Nat} (hB31 : B < 2 ^ 31) (hn : n < 1000) (hR : RF p w.1.1 w.1.2.1) (hQ : WA w.1 B) (hL : LM h m w.2) (z : Nat) :
    ∃ p' h', fX9_deliversUpTo m (nI n) z (mh h m p w.1.2.2) = some (nI (dlL n w).1, z, mh h' m p' (dlL n w).2.1.2.2) ∧ RF p' (dlL n w).2.1.1 (dlL n w).2.1.2.1 ∧ LM h' m (dlL n w).2.2 ∧ Fm m h h' := by
  obtain ⟨p', h', u1, u2⟩ := e9_dl_loop hB31 hn z n 0 (by omega) h p w fu (by unfold fu; omega) hM hR hQ hL
  rw [nI_0, Nat.zero_add] at u1
  exact ⟨p', h', u1, u2⟩
