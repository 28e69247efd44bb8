/-- up to d messages are delivered: how many, and the state behind them -/
def dlL : Nat → Ac → Nat × Ac
  | 0, w => (0, w)
  | d + 1, w => if nm w.1.1 = 0 then (0, w) else ((dlL d (dlA w)).1 + 1, (dlL d (dlA w)).2)
theorem dlL_le : ∀ d w, (dlL d w).1 ≤ d := by
  intro d
  induction d with
  | zero => intro w; exact Nat.le_refl _
  | succ d ih =>
    intro w
    unfold dlL
    split
    · exact Nat.zero_le _
    · have := ih (dlA w)
      show (dlL d (dlA w)).1 + 1 ≤ d + 1
      omega
theorem e1_dl_loop {x : Nat} {B n : Nat} (hB31 : B < 2 ^ 31) (hn : n < 1000) (z : Nat) : ∀ (d k : Nat), k + d = n → ∀ (h : AH) (w : Ac) (fuel : Nat), d < fuel → WA w.1 B → CL h x w → WV h x (ng w.1.1) →
    ∃ h', lX1_deliverUpTo_13 fuel (x + 38) (nI n) (nI k) z h = some (nI (k + (dlL d w).1), z, h') ∧ Fq (PE x) h h' ∧ CL h' x (dlL d w).2 ∧ WA (dlL d w).2.1 B := by
  intro d
  induction d with
  | zero =>
    intro k hk h w fuel hf hQ hC hV
    obtain rfl : k = n := by omega
    cases fuel with
    | zero => omega
    | succ fuel =>
      refine ⟨h, ?_, Fq.rf _ h, hC, hQ⟩
      show lX1_deliverUpTo_13B _ _ _ _ _ _ = _
      simp (disch := omega) only [lX1_deliverUpTo_13B, Int32.le_refl, ↓reduceIte]
      rfl
  | succ d ih =>
    intro k hk h w fuel hf hQ hC hV
    cases fuel with
    | zero => omega
    | succ fuel =>
      obtain ⟨d1, d2, d3, d4, d5, d6, d7, d8, d9, -⟩ := id hC.1.1
      have hB := hC.1.2.1.1
      have s5 := hC.1.2.1.2.2.2.2.2.1
      have hm := hQ.2.2.2.2.2
      rw [hm.1] at s5
      have hm40 := hm.2.1
      unfold dlL
      by_cases e : nm w.1.1 = 0
      · rw [if_pos e]
        refine ⟨h, ?_, Fq.rf _ h, hC, hQ⟩
        have e1 : (nI (nm w.1.1) ≤ 0) = True := eq_true (by rw [e]; decide)
        show lX1_deliverUpTo_13B _ _ _ _ _ _ = _
        obtain ⟨bk, b0, b1, b2, b3, b4, b5, b6, b7, fk, f0, f1, f2, mk0, m0, m1, m2, m3, kf0, kf1, kf2, lf0, lf1, lf2, km0, km1, km2, km3, lm0, lm1, lm2, lm3, kb2, kb3, kb4, kb5, kb6, kb7, lb2, lb3, lb4, lb5, lb6, lb7⟩ := id hB
        simp (disch := omega) only [lX1_deliverUpTo_13B, ↓brv_wI, ↓brv_wJ, ↓gd, ↓bl, ↓on, ↓xr, ↓reduceIte, if_true, if_false, kd_wI, ln_wI, rv_wI, iv_wI, jv_wI, kd_wJ, ln_wJ, rv_wJ, iv_wJ, nI_clamp, nI_leE, nI_ltE, nI_eqE, m1_ne, bit_0, bit_1, nI_negE, leN_F, leN_T, ltN_F, ltN_T, eqN_F, or_false, false_or, or_true, true_or, not_false_eq_true, not_true_eq_false, and_true, true_and, and_false, false_and, d1, ↓bb d2, bk, ↓bb b0, ↓bb b1, ↓bb b2, ↓bb b3, ↓bb b4, ↓bb b5, ↓bb b6, ↓bb b7, fk, ↓bb f0, ↓bb f1, ↓bb f2, mk0, ↓bb m0, ↓bb m1, ↓bb m2, ↓bb m3, kf0, kf1, kf2, lf0, lf1, lf2, km0, km1, km2, km3, lm0, lm1, lm2, lm3, kb2, kb3, kb4, kb5, kb6, kb7, lb2, lb3, lb4, lb5, lb6, lb7, s5, e1]
        rfl
      · rw [if_neg e]
        obtain ⟨h1, v1, v2, v3, v4, v5⟩ := w1_deliverFirst hB31 hQ hC (by omega) hV z
        obtain ⟨h', u1, u2, u3, u4⟩ := ih (k + 1) (by omega) h1 (dlA w) fuel (by omega) v5 v3 v4
        refine ⟨h', ?_, v2.tr u2, u3, u4⟩
        have e1 : (nI (nm w.1.1) ≤ 0) = False := eq_false (by rw [le0E (by omega)]; omega)
        show lX1_deliverUpTo_13B _ _ _ _ _ _ = _
        obtain ⟨bk, b0, b1, b2, b3, b4, b5, b6, b7, fk, f0, f1, f2, mk0, m0, m1, m2, m3, kf0, kf1, kf2, lf0, lf1, lf2, km0, km1, km2, km3, lm0, lm1, lm2, lm3, kb2, kb3, kb4, kb5, kb6, kb7, lb2, lb3, lb4, lb5, lb6, lb7⟩ := id hB
        simp (disch := omega) only [lX1_deliverUpTo_13B, ↓brv_wI, ↓brv_wJ, ↓gd, ↓bl, ↓on, ↓xr, ↓reduceIte, if_true, if_false, kd_wI, ln_wI, rv_wI, iv_wI, jv_wI, kd_wJ, ln_wJ, rv_wJ, iv_wJ, nI_clamp, nI_leE, nI_ltE, nI_eqE, m1_ne, bit_0, bit_1, nI_negE, leN_F, leN_T, ltN_F, ltN_T, eqN_F, or_false, false_or, or_true, true_or, not_false_eq_true, not_true_eq_false, and_true, true_and, and_false, false_and, d1, ↓bb d2, bk, ↓bb b0, ↓bb b1, ↓bb b2, ↓bb b3, ↓bb b4, ↓bb b5, ↓bb b6, ↓bb b7, fk, ↓bb f0, ↓bb f1, ↓bb f2, mk0, ↓bb m0, ↓bb m1, ↓bb m2, ↓bb m3, kf0, kf1, kf2, lf0, lf1, lf2, km0, km1, km2, km3, lm0, lm1, lm2, lm3, kb2, kb3, kb4, kb5, kb6, kb7, lb2, lb3, lb4, lb5, lb6, lb7, s5, e1, ↓bb2 v1, nI_1, u1]
        congr 3
        omega
theorem w1_deliverUpTo {h : AH} {x : Nat} {w : Ac} {B n : Nat} (hB31 : B < 2 ^ 31) (hn : n < 1000) (hQ : WA w.1 B) (hC : CL h x w) (z : Nat) : ∃ h', fX1_deliverUpTo (x + 38) (nI n) z h = some (nI (dlL n w).1, z, h') ∧ Fq (PE x) h h' ∧ CL h' x (dlL n w).2 ∧ WA (dlL n w).2.1 B := by
  obtain ⟨h1, v1, v2, v3⟩ := w7_read hQ hC.1 z
  obtain ⟨h', u1, u2, u3, u4⟩ := e1_dl_loop hB31 hn z n 0 (by omega) h1 w fu (by unfold fu; omega) hQ ⟨CS_F hQ.1 v2 PW_ok hC.1, LT_F v2 (by unfold PW; omega) hC.2⟩ v3
  refine ⟨h', ?_, (v2.mono (fun b hb => by unfold PE; unfold PW at hb; omega)).tr u2, u3, u4⟩
  obtain ⟨d1, d2, d3, d4, d5, d6, d7, d8, d9, -⟩ := hC.1.1
  rw [nI_0, Nat.zero_add] at u1
  simp (disch := omega) only [fX1_deliverUpTo, ↓brv_wI, ↓brv_wJ, ↓gd, ↓bl, ↓on, ↓xr, ↓reduceIte, if_true, if_false, kd_wI, ln_wI, rv_wI, iv_wI, jv_wI, kd_wJ, ln_wJ, rv_wJ, iv_wJ, nI_clamp, nI_leE, nI_ltE, nI_eqE, m1_ne, bit_0, bit_1, nI_negE, leN_F, leN_T, ltN_F, ltN_T, eqN_F, or_false, false_or, or_true, true_or, not_false_eq_true, not_true_eq_false, and_true, true_and, and_false, false_and, d1, ↓bb d2, ↓bb d4, d9, ↓bb2 v1]
  exact u1
