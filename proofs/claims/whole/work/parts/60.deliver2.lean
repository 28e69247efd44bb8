theorem w1_deliverFirst {h : AH} {x : Nat} {w : Ac} {B : Nat} (hB31 : B < 2 ^ 31) (hQ : WA w.1 B) (hC : CL h x w) (h0 : 0 < nm w.1.1) (hV : WV h x (ng w.1.1)) (z : Nat) :
    ∃ h', fX1_deliverFirst (x + 38) z h = some (z, h') ∧ Fq (PE x) h h' ∧ CL h' x (dlA w) ∧ WV h' x (ng (dlA w).1.1) ∧ WA (dlA w).1 B := by
  obtain ⟨s, l⟩ := w
  obtain ⟨hS, hL⟩ := hC
  simp only at hQ hS hL h0 hV
  have hWm := hQ.2.2.2.2.2
  obtain ⟨m1, m2, m3, m4, m5, m6, m7⟩ := dM hWm h0
  obtain ⟨-, -, -, -, -, t1, g, t2, t3, t4⟩ := id hS.2.1
  obtain ⟨u1, u2, u3, u4⟩ := t4 0 h0
  have x1 : fX4_rowOf (x + 1 + 5) 0 z h = some (nI ((g + 0) % 40), z, h) := e4_rowOf (k := 0) hS.2.1.1 t2 t3 (by omega) z
  generalize hr : (g + 0) % 40 = r at x1 u1 u2 u3 u4
  have hr40 : r < 40 := by omega
  have u1 : iv h (x + 1 + 8) r = nI (dT s.1) := u1.trans m1
  have u2 : iv h (x + 1 + 9) r = nI (dH s.1) := u2.trans m3
  have u3 : iv h (x + 1 + 7) r = nI (mln s.1 0) := u3.trans m4
  generalize hy : jv h (x + 1 + 6) r = y at u4
  have hPL : PL y (mln s.1 0) (dF s.1) := ⟨u4.1, fun e he => u4.2 e he⟩
  have eY : jv h (x + 1 + 6) (Int32.toNatClampNeg (nI r)) = y := by rw [nI_clamp (by omega)]; exact hy
  have eN : iv h (x + 1 + 7) (Int32.toNatClampNeg (nI r)) = nI (mln s.1 0) := by rw [nI_clamp (by omega)]; exact u3
  have eT' : iv h (x + 1 + 8) (Int32.toNatClampNeg (nI r)) = nI (dT s.1) := by rw [nI_clamp (by omega)]; exact u1
  have eH' : iv h (x + 1 + 9) (Int32.toNatClampNeg (nI r)) = nI (dH s.1) := by rw [nI_clamp (by omega)]; exact u2
  obtain ⟨h1, y1, y2, y3⟩ := e4_dropFirst hQ.1 hS.2.1 hWm h0 z
  have hS1 := CS_bk hS y2 y3
  have hQ1 : WA (drP s.1, s.2.1, s.2.2) B := WQ_dr hQ h0
  have hF1 : Fq (PS x) h h1 := Fq.fr y2 PS_bk
  have hV1 := WV_F hF1 (fun b hb => by unfold PS at hb; unfold PW; omega) hV
  have hL1 := LT_F hF1 (by unfold PS; omega) hL
  have hlo : ∀ j, j < 92 → s.1 j = drP s.1 j := fun j hj => (drP_lo s.1 hj).symm
  have hngd : agr (ng s.1) (ng (drP s.1)) := ng_lo hlo hQ.1 hQ.w
  have hFE : Fq (PE x) h h1 := hF1.mono (fun b hb => by unfold PS at hb; unfold PE; omega)
  have x2 : fX4_taskAt y 0 z h1 = some (nI (dU s.1 0), z, h1) := by
    have := hPL.2 0 (by omega)
    rw [(m7 0 (by omega)).1] at this
    rw [← this]; rfl
  have x3 : fX4_members y (nI (mln s.1 0)) z h1 = some (pm (dF s.1) (mln s.1 0), z, h1) := by
    rw [e4_members y (by omega) z h1, pm_c _ hPL.2]
  have x4 := e7_follow hS1.1 hV1 hWm h0 hPL z
  have hdu0 := (m7 0 (by omega)).2
  have x2 : fX4_taskAt (jv h (x + 1 + 6) (Int32.toNatClampNeg (nI r))) 0 z h1 = some (nI (dU s.1 0), z, h1) := by rw [eY]; exact x2
  have x3 : fX4_members (jv h (x + 1 + 6) (Int32.toNatClampNeg (nI r))) (iv h (x + 1 + 7) (Int32.toNatClampNeg (nI r))) z h1 = some (pm (dF s.1) (mln s.1 0), z, h1) := by rw [eY, eN]; exact x3
  have x4 : fX7_follow (x + 35) (jv h (x + 1 + 6) (Int32.toNatClampNeg (nI r))) (iv h (x + 1 + 7) (Int32.toNatClampNeg (nI r))) (iv h (x + 1 + 8) (Int32.toNatClampNeg (nI r))) z h1 = some (if dSt s.1 then 0 else 1, z, h1) := by rw [eY, eN, eT']; exact x4
  obtain ⟨d1, d2, d3, d4, d5, d6, d7, d8, d9, -⟩ := hS.1
  obtain ⟨j1, j2, j3, j4, j5, j6, j7, j8, j9, -⟩ := id hS1.1
  have hk1 := hS1.2.1.1.1
  have hB := hS.2.1.1
  unfold dlA
  simp only
  cases hst : dSt s.1
  · rw [hst] at x4
    simp only [Bool.false_eq_true, if_false] at x4 ⊢
    have hth := dU_th hWm h0 hst
    by_cases eT : dT s.1 = dU s.1 0
    · rw [if_pos eT]
      obtain ⟨i1, i2, i3⟩ := vic_IM hB31 hQ h0 hst
      generalize hvv : vp s.1 (dU s.1) (mln s.1 0) = v at i1 i2 i3
      have hbt : ∀ k, bt (pm (dF s.1) (mln s.1 0)) k = anyB (mln s.1 0) (fun e => decide (dU s.1 e = k)) := fun k => bt_pm (mln s.1 0) (fun e he => m7 e he) k
      have hg : ∀ k, k < 10 → bt (pm (dF s.1) (mln s.1 0)) k = true → th (drP s.1) k = true := fun k hk hb => by
        rw [hbt k, anyB_iff] at hb
        obtain ⟨e, he, hh⟩ := hb
        rw [decide_eq_true_eq] at hh
        have := hth e he
        rw [hh] at this
        unfold th at this ⊢
        rw [← hlo _ (by omega)]
        exact this
      have hIM : IM (drP s.1) (fun u => bt (pm (dF s.1) (mln s.1 0)) u && decide (u < 10)) v := by
        refine ⟨?_, fun u hu hne => ?_⟩
        · simp only [hbt, i1.1, i2, decide_true, Bool.and_self]
        · simp only [hbt, Bool.and_eq_true, decide_eq_true_eq] at hu
          rw [← bf_lo hlo i2 hu.2]
          exact i1.2 u hu.1 hne
      have hvt : th (drP s.1) v = true := by unfold th at i3 ⊢; rw [← hlo _ (by omega)]; exact i3
      obtain ⟨h2, w1, w2, w3, w4⟩ := w1_break (s := (drP s.1, s.2.1, s.2.2)) hB31 hQ1 hS1 hg hIM i2 hvt (nI (dU s.1 0)) z
      refine ⟨h2, ?_, hFE.tr w2, w3, w4, ?_⟩
      · have eTT : (dT s.1 = dU s.1 0) = True := eq_true eT
        obtain ⟨bk, b0, b1, b2, b3, b4, b5, b6, b7, fk, f0, f1, f2, mk0, m0, m1, m2, m3, kf0, kf1, kf2, lf0, lf1, lf2, km0, km1, km2, km3, lm0, lm1, lm2, lm3, kb2, kb3, kb4, kb5, kb6, kb7, lb2, lb3, lb4, lb5, lb6, lb7⟩ := id hB
        simp (disch := omega) only [fX1_deliverFirst, ↓brv_wI, ↓brv_wJ, ↓gd, ↓bl, ↓on, ↓xr, ↓reduceIte, if_true, if_false, kd_wI, ln_wI, rv_wI, iv_wI, jv_wI, kd_wJ, ln_wJ, rv_wJ, iv_wJ, nI_clamp, nI_leE, nI_ltE, nI_eqE, m1_ne, bit_0, bit_1, nI_negE, leN_F, leN_T, ltN_F, ltN_T, eqN_F, or_false, false_or, or_true, true_or, not_false_eq_true, not_true_eq_false, and_true, true_and, and_false, false_and, d1, ↓bb d2, bk, ↓bb b0, ↓bb b1, ↓bb b2, ↓bb b3, ↓bb b4, ↓bb b5, ↓bb b6, ↓bb b7, fk, ↓bb f0, ↓bb f1, ↓bb f2, mk0, ↓bb m0, ↓bb m1, ↓bb m2, ↓bb m3, kf0, kf1, kf2, lf0, lf1, lf2, km0, km1, km2, km3, lm0, lm1, lm2, lm3, kb2, kb3, kb4, kb5, kb6, kb7, lb2, lb3, lb4, lb5, lb6, lb7, ↓bb3 x1, hy, u1, u2, u3, ↓bb2 y1, ↓bb3 x2, ↓bb3 x3, j1, ↓bb j4, j9, ↓bb3 x4, ne10, eTT, ↓bb2 w1]
      · exact WQ_stl (WQ_sk i2 hvt hQ1)
    · rw [if_neg eT]
      have eTF : (dT s.1 = dU s.1 0) = False := eq_false eT
      have x5 := e0_isIn hS1.2.1.1 hS1.2.1.2.2.1 (nI (dT s.1)) 1 z
      rw [tkI_nI m2, nI_clamp (by omega)] at x5
      have ewt : wt (drP s.1) (dT s.1) = wt s.1 (dT s.1) := by unfold wt th; rw [← hlo _ (by omega), ← hlo _ (by omega)]
      have x5 : fX0_isIn (x + 1) (nI (dT s.1)) 1 z h1 = some (if wt s.1 (dT s.1) then 1 else 0, z, h1) := by
        rw [← ewt]; exact x5
      have x5 : fX0_isIn (x + 1) (iv h (x + 1 + 8) (Int32.toNatClampNeg (nI r))) 1 z h1 = some (if wt s.1 (dT s.1) then 1 else 0, z, h1) := by rw [eT']; exact x5
      have x6 := e8_inSet (pm (dF s.1) (mln s.1 0)) (show dT s.1 < 32 by omega) z h1
      rw [bt_pm (mln s.1 0) (fun e he => m7 e he) (dT s.1)] at x6
      have x6 : fX8_inSet (pm (dF s.1) (mln s.1 0)) (iv h (x + 1 + 8) (Int32.toNatClampNeg (nI r))) z h1 = some (if anyB (mln s.1 0) (fun e => decide (dU s.1 e = dT s.1)) then 1 else 0, z, h1) := by rw [eT']; exact x6
      cases hwt : wt s.1 (dT s.1)
      · rw [hwt] at x5
        rw [if_neg (by simp)]
        refine ⟨h1, ?_, hFE, ⟨hS1, hL1⟩, WV_a hngd hV1, hQ1⟩
        obtain ⟨bk, b0, b1, b2, b3, b4, b5, b6, b7, fk, f0, f1, f2, mk0, m0, m1, m2, m3, kf0, kf1, kf2, lf0, lf1, lf2, km0, km1, km2, km3, lm0, lm1, lm2, lm3, kb2, kb3, kb4, kb5, kb6, kb7, lb2, lb3, lb4, lb5, lb6, lb7⟩ := id hB
        simp (disch := omega) only [fX1_deliverFirst, ↓brv_wI, ↓brv_wJ, ↓gd, ↓bl, ↓on, ↓xr, ↓reduceIte, if_true, if_false, kd_wI, ln_wI, rv_wI, iv_wI, jv_wI, kd_wJ, ln_wJ, rv_wJ, iv_wJ, nI_clamp, nI_leE, nI_ltE, nI_eqE, m1_ne, bit_0, bit_1, nI_negE, leN_F, leN_T, ltN_F, ltN_T, eqN_F, or_false, false_or, or_true, true_or, not_false_eq_true, not_true_eq_false, and_true, true_and, and_false, false_and, d1, ↓bb d2, bk, ↓bb b0, ↓bb b1, ↓bb b2, ↓bb b3, ↓bb b4, ↓bb b5, ↓bb b6, ↓bb b7, fk, ↓bb f0, ↓bb f1, ↓bb f2, mk0, ↓bb m0, ↓bb m1, ↓bb m2, ↓bb m3, kf0, kf1, kf2, lf0, lf1, lf2, km0, km1, km2, km3, lm0, lm1, lm2, lm3, kb2, kb3, kb4, kb5, kb6, kb7, lb2, lb3, lb4, lb5, lb6, lb7, ↓bb3 x1, hy, u1, u2, u3, ↓bb2 y1, ↓bb3 x2, ↓bb3 x3, j1, ↓bb j4, j9, ↓bb3 x4, ne10, eTF, ↓bb j2, hk1, ↓bb3 x5, Bool.false_eq_true]
      · rw [hwt] at x5
        cases hop : anyB (mln s.1 0) (fun e => decide (dU s.1 e = dT s.1))
        · rw [hop] at x6
          rw [if_pos ⟨rfl, rfl⟩]
          by_cases eH : dH s.1 = 0
          · rw [if_pos eH]
            obtain ⟨h2, w1, w2, w3⟩ := CS_add (k := 3) hQ1.1 hS1 (by omega) 1 z
            have hV2 := WV_F w2 (P := PD x) (x := x) (E := ng s.1) (h := h1) (h' := h2)
            have e2 := e6_add hS1.1 (k := 3) (by omega) 1 z
            have e3 : h2 = wI h1 (x + 34) 3 (iv h1 (x + 34) 3 + 1) := by
              rw [e2] at w1
              exact (congrArg Prod.snd (Option.some.inj w1)).symm
            have hV3 : WV h2 x (ng s.1) := by
              rw [e3]; exact WV_F (Fq.w (P := fun b => b = x + 34) h1 _ _ rfl) (fun b hb => by subst hb; unfold PW; omega) hV1
            obtain ⟨h3, v1, v2, v3⟩ := CS_add (k := 5) (s := ((drP s.1, s.2.1, upd s.2.2 3 (s.2.2 3 + 1)) : Ab)) hQ1.1 w3 (by omega) (if bt (og (rc (ng s.1))) (dU s.1 0) then 1 else 0) z
            have e4 := e6_add w3.1 (k := 5) (by omega) (if bt (og (rc (ng s.1))) (dU s.1 0) then 1 else 0) z
            have e5 : h3 = wI h2 (x + 34) 5 (iv h2 (x + 34) 5 + (if bt (og (rc (ng s.1))) (dU s.1 0) then 1 else 0)) := by
              rw [e4] at v1
              exact (congrArg Prod.snd (Option.some.inj v1)).symm
            have hV4 : WV h3 x (ng s.1) := by
              rw [e5]; exact WV_F (Fq.w (P := fun b => b = x + 34) h2 _ _ rfl) (fun b hb => by subst hb; unfold PW; omega) hV3
            refine ⟨h3, ?_, (hFE.tr (w2.mono (fun b hb => by unfold PE; unfold PD at hb; omega))).tr (v2.mono (fun b hb => by unfold PE; unfold PD at hb; omega)), ⟨v3, LT_F v2 (by unfold PD; omega) (LT_F w2 (by unfold PD; omega) hL1)⟩, WV_a hngd hV4, hQ1⟩
            have x7 := e8_inS hV3.2.2 (show dU s.1 0 < 32 by omega) z h2
            have eHH : (nI (dH s.1) ≤ 0) = True := eq_true (by rw [eH]; decide)
            obtain ⟨n1, n2, n3, n4, n5, n6, n7, n8, n9, -⟩ := w3.1
            have w1 : fX6_add (x + 33) 3 1 z h1 = some (z, h2) := w1
            have v1 : fX6_add (x + 33) 5 (if bt (og (rc (ng s.1))) (dU s.1 0) then 1 else 0) z h2 = some (z, h3) := v1
            obtain ⟨bk, b0, b1, b2, b3, b4, b5, b6, b7, fk, f0, f1, f2, mk0, m0, m1, m2, m3, kf0, kf1, kf2, lf0, lf1, lf2, km0, km1, km2, km3, lm0, lm1, lm2, lm3, kb2, kb3, kb4, kb5, kb6, kb7, lb2, lb3, lb4, lb5, lb6, lb7⟩ := id hB
            cases hbb : bt (og (rc (ng s.1))) (dU s.1 0)
            · rw [hbb] at x7 v1
              simp only [Bool.false_eq_true, if_false] at x7 v1
              simp (disch := omega) only [fX1_deliverFirst, bX1_deliverFirst_231, ↓brv_wI, ↓brv_wJ, ↓gd, ↓bl, ↓on, ↓xr, ↓reduceIte, if_true, if_false, kd_wI, ln_wI, rv_wI, iv_wI, jv_wI, kd_wJ, ln_wJ, rv_wJ, iv_wJ, nI_clamp, nI_leE, nI_ltE, nI_eqE, m1_ne, bit_0, bit_1, nI_negE, leN_F, leN_T, ltN_F, ltN_T, eqN_F, or_false, false_or, or_true, true_or, not_false_eq_true, not_true_eq_false, and_true, true_and, and_false, false_and, d1, ↓bb d2, bk, ↓bb b0, ↓bb b1, ↓bb b2, ↓bb b3, ↓bb b4, ↓bb b5, ↓bb b6, ↓bb b7, fk, ↓bb f0, ↓bb f1, ↓bb f2, mk0, ↓bb m0, ↓bb m1, ↓bb m2, ↓bb m3, kf0, kf1, kf2, lf0, lf1, lf2, km0, km1, km2, km3, lm0, lm1, lm2, lm3, kb2, kb3, kb4, kb5, kb6, kb7, lb2, lb3, lb4, lb5, lb6, lb7, ↓bb3 x1, hy, u1, u2, u3, ↓bb2 y1, ↓bb3 x2, ↓bb3 x3, j1, ↓bb j4, j9, ↓bb3 x4, ne10, eTF, ↓bb j2, hk1, ↓bb3 x5, ↓bb3 x6, Bool.false_eq_true, eHH, ↓bb j3, j5, ↓bb2 w1, n1, ↓bb n3, ↓bb n4, n9, ↓bb3 x7, n5, ↓bb2 v1]
            · rw [hbb] at x7 v1
              simp only [if_true] at x7 v1
              simp (disch := omega) only [fX1_deliverFirst, bX1_deliverFirst_231, ↓brv_wI, ↓brv_wJ, ↓gd, ↓bl, ↓on, ↓xr, ↓reduceIte, if_true, if_false, kd_wI, ln_wI, rv_wI, iv_wI, jv_wI, kd_wJ, ln_wJ, rv_wJ, iv_wJ, nI_clamp, nI_leE, nI_ltE, nI_eqE, m1_ne, bit_0, bit_1, nI_negE, leN_F, leN_T, ltN_F, ltN_T, eqN_F, or_false, false_or, or_true, true_or, not_false_eq_true, not_true_eq_false, and_true, true_and, and_false, false_and, d1, ↓bb d2, bk, ↓bb b0, ↓bb b1, ↓bb b2, ↓bb b3, ↓bb b4, ↓bb b5, ↓bb b6, ↓bb b7, fk, ↓bb f0, ↓bb f1, ↓bb f2, mk0, ↓bb m0, ↓bb m1, ↓bb m2, ↓bb m3, kf0, kf1, kf2, lf0, lf1, lf2, km0, km1, km2, km3, lm0, lm1, lm2, lm3, kb2, kb3, kb4, kb5, kb6, kb7, lb2, lb3, lb4, lb5, lb6, lb7, ↓bb3 x1, hy, u1, u2, u3, ↓bb2 y1, ↓bb3 x2, ↓bb3 x3, j1, ↓bb j4, j9, ↓bb3 x4, ne10, eTF, ↓bb j2, hk1, ↓bb3 x5, ↓bb3 x6, Bool.false_eq_true, eHH, ↓bb j3, j5, ↓bb2 w1, n1, ↓bb n3, ↓bb n4, n9, ↓bb3 x7, n5, ↓bb2 v1]
          · rw [if_neg eH]
            have hf : ∀ e, e < mln s.1 0 + 1 → ∃ u, u < 10 ∧ (fun e => if e = mln s.1 0 then nI (dT s.1) else dF s.1 e) e = nI u := fun e he => by
              by_cases ee : e = mln s.1 0
              · exact ⟨dT s.1, m2, by simp [ee]⟩
              · refine ⟨dU s.1 e, (m7 e (by omega)).2, ?_⟩
                simp only [ee, if_false]
                exact (m7 e (by omega)).1
            have hext := PL_ext hPL (by omega) m2
            obtain ⟨h2, w1, w2, w3⟩ := w1_sendToAll (g := ng s.1 (dT s.1)) (n := mln s.1 0 + 1) (hp := dH s.1 - 1) hQ1 (by omega) (by omega) hf hext hS1 z
            have hQ2 := WA_sdN (c := bt (ng s.1 (dT s.1))) (n := mln s.1 0 + 1) (hp := dH s.1 - 1) hQ1 (by omega) (by omega) hf 10 (by omega)
            refine ⟨h2, ?_, hFE.tr (w2.mono (fun b hb => by unfold PE; unfold PS at hb; omega)), ⟨w3, LT_F w2 (by unfold PS; omega) hL1⟩, ?_, hQ2⟩
            · have x7 : fX7_of (x + 35) (iv h (x + 1 + 8) (Int32.toNatClampNeg (nI r))) z h1 = some (ng s.1 (dT s.1), z, h1) := by rw [eT']; exact e7_of hS1.1 hV1 m2 z
              have x8 : fX4_extended (jv h (x + 1 + 6) (Int32.toNatClampNeg (nI r))) (iv h (x + 1 + 7) (Int32.toNatClampNeg (nI r))) (iv h (x + 1 + 8) (Int32.toNatClampNeg (nI r))) z h1 = some (y ||| ((Int32.toInt64 (nI (dT s.1))) <<< ((Int32.toInt64 (4 * nI (mln s.1 0))) &&& 63)), z, h1) := by rw [eY, eN, eT']; rfl
              have eHH : (nI (dH s.1) ≤ 0) = False := eq_false (by rw [le0E (by omega)]; omega)
              have w1 : fX1_sendToAll (x + 38) (ng s.1 (dT s.1)) (y ||| ((Int32.toInt64 (nI (dT s.1))) <<< ((Int32.toInt64 (4 * nI (mln s.1 0))) &&& 63))) ((iv h (x + 1 + 7) (Int32.toNatClampNeg (nI r))) + 1) ((iv h (x + 1 + 9) (Int32.toNatClampNeg (nI r))) - 1) z h1 = some (z, h2) := by
                rw [eN, eH', nI_1, show nI (dH s.1) - 1 = nI (dH s.1 - 1) by rw [show (1 : Int32) = nI 1 from rfl, pk_sub (by omega)]]; exact w1
              obtain ⟨bk, b0, b1, b2, b3, b4, b5, b6, b7, fk, f0, f1, f2, mk0, m0, m1, m2, m3, kf0, kf1, kf2, lf0, lf1, lf2, km0, km1, km2, km3, lm0, lm1, lm2, lm3, kb2, kb3, kb4, kb5, kb6, kb7, lb2, lb3, lb4, lb5, lb6, lb7⟩ := id hB
              simp (disch := omega) only [fX1_deliverFirst, ↓brv_wI, ↓brv_wJ, ↓gd, ↓bl, ↓on, ↓xr, ↓reduceIte, if_true, if_false, kd_wI, ln_wI, rv_wI, iv_wI, jv_wI, kd_wJ, ln_wJ, rv_wJ, iv_wJ, nI_clamp, nI_leE, nI_ltE, nI_eqE, m1_ne, bit_0, bit_1, nI_negE, leN_F, leN_T, ltN_F, ltN_T, eqN_F, or_false, false_or, or_true, true_or, not_false_eq_true, not_true_eq_false, and_true, true_and, and_false, false_and, d1, ↓bb d2, bk, ↓bb b0, ↓bb b1, ↓bb b2, ↓bb b3, ↓bb b4, ↓bb b5, ↓bb b6, ↓bb b7, fk, ↓bb f0, ↓bb f1, ↓bb f2, mk0, ↓bb m0, ↓bb m1, ↓bb m2, ↓bb m3, kf0, kf1, kf2, lf0, lf1, lf2, km0, km1, km2, km3, lm0, lm1, lm2, lm3, kb2, kb3, kb4, kb5, kb6, kb7, lb2, lb3, lb4, lb5, lb6, lb7, ↓bb3 x1, hy, u1, u2, u3, ↓bb2 y1, ↓bb3 x2, ↓bb3 x3, j1, ↓bb j4, j9, ↓bb3 x4, ne10, eTF, ↓bb j2, hk1, ↓bb3 x5, ↓bb3 x6, Bool.false_eq_true, eHH, ↓bb3 x7, ↓bb3 x8, ↓bb2 w1]
            · refine WV_a (hngd.tr (ng_lo (fun j hj => (sdN_lo (s := ((drP s.1, s.2.1, s.2.2) : Ab)) hj 10).symm) hQ1.1 hQ1.w)) (WV_F w2 (fun b hb => by unfold PS at hb; unfold PW; omega) hV1)
        · rw [hop] at x6
          rw [if_neg (by simp)]
          refine ⟨h1, ?_, hFE, ⟨hS1, hL1⟩, WV_a hngd hV1, hQ1⟩
          obtain ⟨bk, b0, b1, b2, b3, b4, b5, b6, b7, fk, f0, f1, f2, mk0, m0, m1, m2, m3, kf0, kf1, kf2, lf0, lf1, lf2, km0, km1, km2, km3, lm0, lm1, lm2, lm3, kb2, kb3, kb4, kb5, kb6, kb7, lb2, lb3, lb4, lb5, lb6, lb7⟩ := id hB
          simp (disch := omega) only [fX1_deliverFirst, ↓brv_wI, ↓brv_wJ, ↓gd, ↓bl, ↓on, ↓xr, ↓reduceIte, if_true, if_false, kd_wI, ln_wI, rv_wI, iv_wI, jv_wI, kd_wJ, ln_wJ, rv_wJ, iv_wJ, nI_clamp, nI_leE, nI_ltE, nI_eqE, m1_ne, bit_0, bit_1, nI_negE, leN_F, leN_T, ltN_F, ltN_T, eqN_F, or_false, false_or, or_true, true_or, not_false_eq_true, not_true_eq_false, and_true, true_and, and_false, false_and, d1, ↓bb d2, bk, ↓bb b0, ↓bb b1, ↓bb b2, ↓bb b3, ↓bb b4, ↓bb b5, ↓bb b6, ↓bb b7, fk, ↓bb f0, ↓bb f1, ↓bb f2, mk0, ↓bb m0, ↓bb m1, ↓bb m2, ↓bb m3, kf0, kf1, kf2, lf0, lf1, lf2, km0, km1, km2, km3, lm0, lm1, lm2, lm3, kb2, kb3, kb4, kb5, kb6, kb7, lb2, lb3, lb4, lb5, lb6, lb7, ↓bb3 x1, hy, u1, u2, u3, ↓bb2 y1, ↓bb3 x2, ↓bb3 x3, j1, ↓bb j4, j9, ↓bb3 x4, ne10, eTF, ↓bb j2, hk1, ↓bb3 x5, ↓bb3 x6]
  · rw [hst] at x4
    rw [if_pos rfl]
    obtain ⟨h2, w1, w2, w3⟩ := CS_add (k := 2) hQ1.1 hS1 (by omega) 1 z
    have e2 := e6_add hS1.1 (k := 2) (by omega) 1 z
    have e3 : h2 = wI h1 (x + 34) 2 (iv h1 (x + 34) 2 + 1) := by
      rw [e2] at w1
      exact (congrArg Prod.snd (Option.some.inj w1)).symm
    have hV3 : WV h2 x (ng s.1) := by
      rw [e3]; exact WV_F (Fq.w (P := fun b => b = x + 34) h1 _ _ rfl) (fun b hb => by subst hb; unfold PW; omega) hV1
    refine ⟨h2, ?_, hFE.tr (w2.mono (fun b hb => by unfold PE; unfold PD at hb; omega)), ⟨w3, LT_F w2 (by unfold PD; omega) hL1⟩, WV_a hngd hV3, hQ1⟩
    have w1 : fX6_add (x + 33) 2 1 z h1 = some (z, h2) := w1
    obtain ⟨bk, b0, b1, b2, b3, b4, b5, b6, b7, fk, f0, f1, f2, mk0, m0, m1, m2, m3, kf0, kf1, kf2, lf0, lf1, lf2, km0, km1, km2, km3, lm0, lm1, lm2, lm3, kb2, kb3, kb4, kb5, kb6, kb7, lb2, lb3, lb4, lb5, lb6, lb7⟩ := id hB
    simp (disch := omega) only [fX1_deliverFirst, ↓brv_wI, ↓brv_wJ, ↓gd, ↓bl, ↓on, ↓xr, ↓reduceIte, if_true, if_false, kd_wI, ln_wI, rv_wI, iv_wI, jv_wI, kd_wJ, ln_wJ, rv_wJ, iv_wJ, nI_clamp, nI_leE, nI_ltE, nI_eqE, m1_ne, bit_0, bit_1, nI_negE, leN_F, leN_T, ltN_F, ltN_T, eqN_F, or_false, false_or, or_true, true_or, not_false_eq_true, not_true_eq_false, and_true, true_and, and_false, false_and, d1, ↓bb d2, bk, ↓bb b0, ↓bb b1, ↓bb b2, ↓bb b3, ↓bb b4, ↓bb b5, ↓bb b6, ↓bb b7, fk, ↓bb f0, ↓bb f1, ↓bb f2, mk0, ↓bb m0, ↓bb m1, ↓bb m2, ↓bb m3, kf0, kf1, kf2, lf0, lf1, lf2, km0, km1, km2, km3, lm0, lm1, lm2, lm3, kb2, kb3, kb4, kb5, kb6, kb7, lb2, lb3, lb4, lb5, lb6, lb7, ↓bb3 x1, hy, u1, u2, u3, ↓bb2 y1, ↓bb3 x2, ↓bb3 x3, j1, ↓bb j4, j9, ↓bb3 x4, ↓bb j3, j5, ↓bb2 w1]
