theorem d_1_0 : ((1 : Int32) = 0) = False := eq_false (by decide)
theorem d_2_0 : ((2 : Int32) = 0) = False := eq_false (by decide)
theorem d_2_1 : ((2 : Int32) = 1) = False := eq_false (by decide)
theorem d_3_0 : ((3 : Int32) = 0) = False := eq_false (by decide)
theorem d_3_1 : ((3 : Int32) = 1) = False := eq_false (by decide)
theorem d_3_2 : ((3 : Int32) = 2) = False := eq_false (by decide)
theorem d_4_0 : ((4 : Int32) = 0) = False := eq_false (by decide)
theorem d_4_1 : ((4 : Int32) = 1) = False := eq_false (by decide)
theorem d_4_2 : ((4 : Int32) = 2) = False := eq_false (by decide)
theorem d_4_3 : ((4 : Int32) = 3) = False := eq_false (by decide)
theorem d_5_0 : ((5 : Int32) = 0) = False := eq_false (by decide)
theorem d_5_1 : ((5 : Int32) = 1) = False := eq_false (by decide)
theorem d_5_2 : ((5 : Int32) = 2) = False := eq_false (by decide)
theorem d_5_3 : ((5 : Int32) = 3) = False := eq_false (by decide)
theorem d_5_4 : ((5 : Int32) = 4) = False := eq_false (by decide)
theorem d_6_0 : ((6 : Int32) = 0) = False := eq_false (by decide)
theorem d_6_1 : ((6 : Int32) = 1) = False := eq_false (by decide)
theorem d_6_2 : ((6 : Int32) = 2) = False := eq_false (by decide)
theorem d_6_3 : ((6 : Int32) = 3) = False := eq_false (by decide)
theorem d_6_4 : ((6 : Int32) = 4) = False := eq_false (by decide)
theorem d_6_5 : ((6 : Int32) = 5) = False := eq_false (by decide)
theorem d_7_0 : ((7 : Int32) = 0) = False := eq_false (by decide)
theorem d_7_1 : ((7 : Int32) = 1) = False := eq_false (by decide)
theorem d_7_2 : ((7 : Int32) = 2) = False := eq_false (by decide)
theorem d_7_3 : ((7 : Int32) = 3) = False := eq_false (by decide)
theorem d_7_4 : ((7 : Int32) = 4) = False := eq_false (by decide)
theorem d_7_5 : ((7 : Int32) = 5) = False := eq_false (by decide)
theorem d_7_6 : ((7 : Int32) = 6) = False := eq_false (by decide)
/-! task -/
def vP (q : Nat → Int32) (L : List Nat) (t : Nat) : Nat → Int32
  | 0 => q (32 + 6 * t + 4)
  | 1 => q (32 + 6 * t + 1)
  | 2 => q (32 + 6 * t + 2)
  | 3 => q (32 + 6 * t + 3)
  | 4 => if wt q t then q (32 + 6 * t + 5) else -1
  | 5 => mk 10 (wf q t)
  | _ => plL L t
theorem n7 {j : Nat} (h : j ≤ 6) : j = 0 ∨ j = 1 ∨ j = 2 ∨ j = 3 ∨ j = 4 ∨ j = 5 ∨ j = 6 := by omega
theorem in_to {j n : Nat} (h : j ≤ n) (hn : n < 2 ^ 31) : inI (nI j) 0 (nI n) = true := by
  rw [inI_nI (by omega) hn]
  exact decide_eq_true h
theorem e8_task {h : AH} {x z : Nat} {A : TS} {B : Nat} (hC : CI h x z A) (hT : TI A B) {t j : Nat} (ht : t < 10) (hth : th A.1.1.1 t = true) (hj : j ≤ 6) : fX8_task x (nI t) (nI j) z h = some (.inl (vP A.1.1.1 A.1.1.2.1 t j), z, h) := by
  have hCB := hC.2.2.1.1.2.1
  obtain ⟨cB, cR, cT, cO, cS, cM⟩ := id hCB
  have x1 := e0_hasT cB cT ht hth z
  have x2 := e8_isWithin (nI j) 0 6 z h
  rw [show inI (nI j) 0 6 = true from in_to (n := 6) hj (by omega)] at x2
  obtain ⟨v1, v2, v3, v4⟩ := cT.2.1 t ht
  have v5 := cT.2.2 t ht hth
  have x3 := e0_waitsFor hT.1.1.1 hT.1.1.t hT.1.1.w hCB ht z
  have hF := mkp_RF hT.1.1
  have x4 := e0_positionOf (p := mkp A.1.1.1 A.1.1.2.1) hF.2.2 (by rw [hF.2.1]; exact hCB) ht z
  rw [plF_L hF.2.2, hF.2.1] at x4
  obtain ⟨o1, o2, o3, o4, o5, o6, o7, o8, o9, o10, o11, o12, o13, o14, o15, o16⟩ := id hC.1
  have hB := hC.2.2.1.1.2.1.1
  have u1 := hB.1
  have u2 := hB.2.1
  have u3 := hB.2.2.2.2.2.2.2.2.2.1
  have u4 := hC.2.2.1.1.1.1
  obtain ⟨bk, b0, b1, b2, b3, b4, b5, b6, b7, fk, f0, f1, f2, mk0, m0, m1, m2, m3, kf0, kf1, kf2, lf0, lf1, lf2, km0, km1, km2, km3, lm0, lm1, lm2, lm3, kb2, kb3, kb4, kb5, kb6, kb7, lb2, lb3, lb4, lb5, lb6, lb7⟩ := id hB
  rcases n7 hj with rfl | rfl | rfl | rfl | rfl | rfl | rfl
  · show fX8_task x (nI t) 0 z h = _
    have x2 : fX8_isWithin 0 0 6 z h = _ := x2
    simp (disch := omega) only [fX8_task, ↓gd, ↓bl, ↓xr, ↓reduceIte, o1, ↓bb o2, ↓bb o3, ↓bb o4, ↓bb o5, ↓bb o6, ↓bb o7, ↓bb o8, o9, ↓bb o10, o11, o12, o13, ↓bb o14, o15, o16, u1, ↓bb u2, u3, u4, ↓bb3 x1, ↓bb3 (nT1 _ _), ↓bb3 x2, ↓bb3 (nV1 _ _), bk, ↓bb b0, ↓bb b1, ↓bb b2, ↓bb b3, ↓bb b4, ↓bb b5, ↓bb b6, ↓bb b7, fk, ↓bb f0, ↓bb f1, ↓bb f2, mk0, ↓bb m0, ↓bb m1, ↓bb m2, ↓bb m3, kf0, kf1, kf2, lf0, lf1, lf2, km0, km1, km2, km3, lm0, lm1, lm2, lm3, kb2, kb3, kb4, kb5, kb6, kb7, lb2, lb3, lb4, lb5, lb6, lb7, d_1_0, d_2_0, d_2_1, d_3_0, d_3_1, d_3_2, d_4_0, d_4_1, d_4_2, d_4_3, d_5_0, d_5_1, d_5_2, d_5_3, d_5_4, d_6_0, d_6_1, d_6_2, d_6_3, d_6_4, d_6_5, d_7_0, d_7_1, d_7_2, d_7_3, d_7_4, d_7_5, d_7_6, nI_negE, nI_clamp, leN_F, or_false, not_false_eq_true, v4, vP]
  · show fX8_task x (nI t) 1 z h = _
    have x2 : fX8_isWithin 1 0 6 z h = _ := x2
    simp (disch := omega) only [fX8_task, ↓gd, ↓bl, ↓xr, ↓reduceIte, o1, ↓bb o2, ↓bb o3, ↓bb o4, ↓bb o5, ↓bb o6, ↓bb o7, ↓bb o8, o9, ↓bb o10, o11, o12, o13, ↓bb o14, o15, o16, u1, ↓bb u2, u3, u4, ↓bb3 x1, ↓bb3 (nT1 _ _), ↓bb3 x2, ↓bb3 (nV1 _ _), bk, ↓bb b0, ↓bb b1, ↓bb b2, ↓bb b3, ↓bb b4, ↓bb b5, ↓bb b6, ↓bb b7, fk, ↓bb f0, ↓bb f1, ↓bb f2, mk0, ↓bb m0, ↓bb m1, ↓bb m2, ↓bb m3, kf0, kf1, kf2, lf0, lf1, lf2, km0, km1, km2, km3, lm0, lm1, lm2, lm3, kb2, kb3, kb4, kb5, kb6, kb7, lb2, lb3, lb4, lb5, lb6, lb7, d_1_0, d_2_0, d_2_1, d_3_0, d_3_1, d_3_2, d_4_0, d_4_1, d_4_2, d_4_3, d_5_0, d_5_1, d_5_2, d_5_3, d_5_4, d_6_0, d_6_1, d_6_2, d_6_3, d_6_4, d_6_5, d_7_0, d_7_1, d_7_2, d_7_3, d_7_4, d_7_5, d_7_6, nI_negE, nI_clamp, leN_F, or_false, not_false_eq_true, v1, vP]
  · show fX8_task x (nI t) 2 z h = _
    have x2 : fX8_isWithin 2 0 6 z h = _ := x2
    simp (disch := omega) only [fX8_task, ↓gd, ↓bl, ↓xr, ↓reduceIte, o1, ↓bb o2, ↓bb o3, ↓bb o4, ↓bb o5, ↓bb o6, ↓bb o7, ↓bb o8, o9, ↓bb o10, o11, o12, o13, ↓bb o14, o15, o16, u1, ↓bb u2, u3, u4, ↓bb3 x1, ↓bb3 (nT1 _ _), ↓bb3 x2, ↓bb3 (nV1 _ _), bk, ↓bb b0, ↓bb b1, ↓bb b2, ↓bb b3, ↓bb b4, ↓bb b5, ↓bb b6, ↓bb b7, fk, ↓bb f0, ↓bb f1, ↓bb f2, mk0, ↓bb m0, ↓bb m1, ↓bb m2, ↓bb m3, kf0, kf1, kf2, lf0, lf1, lf2, km0, km1, km2, km3, lm0, lm1, lm2, lm3, kb2, kb3, kb4, kb5, kb6, kb7, lb2, lb3, lb4, lb5, lb6, lb7, d_1_0, d_2_0, d_2_1, d_3_0, d_3_1, d_3_2, d_4_0, d_4_1, d_4_2, d_4_3, d_5_0, d_5_1, d_5_2, d_5_3, d_5_4, d_6_0, d_6_1, d_6_2, d_6_3, d_6_4, d_6_5, d_7_0, d_7_1, d_7_2, d_7_3, d_7_4, d_7_5, d_7_6, nI_negE, nI_clamp, leN_F, or_false, not_false_eq_true, v2, vP]
  · show fX8_task x (nI t) 3 z h = _
    have x2 : fX8_isWithin 3 0 6 z h = _ := x2
    simp (disch := omega) only [fX8_task, ↓gd, ↓bl, ↓xr, ↓reduceIte, o1, ↓bb o2, ↓bb o3, ↓bb o4, ↓bb o5, ↓bb o6, ↓bb o7, ↓bb o8, o9, ↓bb o10, o11, o12, o13, ↓bb o14, o15, o16, u1, ↓bb u2, u3, u4, ↓bb3 x1, ↓bb3 (nT1 _ _), ↓bb3 x2, ↓bb3 (nV1 _ _), bk, ↓bb b0, ↓bb b1, ↓bb b2, ↓bb b3, ↓bb b4, ↓bb b5, ↓bb b6, ↓bb b7, fk, ↓bb f0, ↓bb f1, ↓bb f2, mk0, ↓bb m0, ↓bb m1, ↓bb m2, ↓bb m3, kf0, kf1, kf2, lf0, lf1, lf2, km0, km1, km2, km3, lm0, lm1, lm2, lm3, kb2, kb3, kb4, kb5, kb6, kb7, lb2, lb3, lb4, lb5, lb6, lb7, d_1_0, d_2_0, d_2_1, d_3_0, d_3_1, d_3_2, d_4_0, d_4_1, d_4_2, d_4_3, d_5_0, d_5_1, d_5_2, d_5_3, d_5_4, d_6_0, d_6_1, d_6_2, d_6_3, d_6_4, d_6_5, d_7_0, d_7_1, d_7_2, d_7_3, d_7_4, d_7_5, d_7_6, nI_negE, nI_clamp, leN_F, or_false, not_false_eq_true, v3, vP]
  · show fX8_task x (nI t) 4 z h = _
    have x2 : fX8_isWithin 4 0 6 z h = _ := x2
    simp (disch := omega) only [fX8_task, ↓gd, ↓bl, ↓xr, ↓reduceIte, o1, ↓bb o2, ↓bb o3, ↓bb o4, ↓bb o5, ↓bb o6, ↓bb o7, ↓bb o8, o9, ↓bb o10, o11, o12, o13, ↓bb o14, o15, o16, u1, ↓bb u2, u3, u4, ↓bb3 x1, ↓bb3 (nT1 _ _), ↓bb3 x2, ↓bb3 (nV1 _ _), bk, ↓bb b0, ↓bb b1, ↓bb b2, ↓bb b3, ↓bb b4, ↓bb b5, ↓bb b6, ↓bb b7, fk, ↓bb f0, ↓bb f1, ↓bb f2, mk0, ↓bb m0, ↓bb m1, ↓bb m2, ↓bb m3, kf0, kf1, kf2, lf0, lf1, lf2, km0, km1, km2, km3, lm0, lm1, lm2, lm3, kb2, kb3, kb4, kb5, kb6, kb7, lb2, lb3, lb4, lb5, lb6, lb7, d_1_0, d_2_0, d_2_1, d_3_0, d_3_1, d_3_2, d_4_0, d_4_1, d_4_2, d_4_3, d_5_0, d_5_1, d_5_2, d_5_3, d_5_4, d_6_0, d_6_1, d_6_2, d_6_3, d_6_4, d_6_5, d_7_0, d_7_1, d_7_2, d_7_3, d_7_4, d_7_5, d_7_6, nI_negE, nI_clamp, leN_F, or_false, not_false_eq_true, v5, vP]
  · show fX8_task x (nI t) 5 z h = _
    have x2 : fX8_isWithin 5 0 6 z h = _ := x2
    simp (disch := omega) only [fX8_task, ↓gd, ↓bl, ↓xr, ↓reduceIte, o1, ↓bb o2, ↓bb o3, ↓bb o4, ↓bb o5, ↓bb o6, ↓bb o7, ↓bb o8, o9, ↓bb o10, o11, o12, o13, ↓bb o14, o15, o16, u1, ↓bb u2, u3, u4, ↓bb3 x1, ↓bb3 (nT1 _ _), ↓bb3 x2, ↓bb3 (nV1 _ _), ↓bb3 x3, d_1_0, d_2_0, d_2_1, d_3_0, d_3_1, d_3_2, d_4_0, d_4_1, d_4_2, d_4_3, d_5_0, d_5_1, d_5_2, d_5_3, d_5_4, d_6_0, d_6_1, d_6_2, d_6_3, d_6_4, d_6_5, d_7_0, d_7_1, d_7_2, d_7_3, d_7_4, d_7_5, d_7_6, vP]
  · show fX8_task x (nI t) 6 z h = _
    have x2 : fX8_isWithin 6 0 6 z h = _ := x2
    simp (disch := omega) only [fX8_task, ↓gd, ↓bl, ↓xr, ↓reduceIte, o1, ↓bb o2, ↓bb o3, ↓bb o4, ↓bb o5, ↓bb o6, ↓bb o7, ↓bb o8, o9, ↓bb o10, o11, o12, o13, ↓bb o14, o15, o16, u1, ↓bb u2, u3, u4, ↓bb3 x1, ↓bb3 (nT1 _ _), ↓bb3 x2, ↓bb3 (nV1 _ _), ↓bb3 x4, d_1_0, d_2_0, d_2_1, d_3_0, d_3_1, d_3_2, d_4_0, d_4_1, d_4_2, d_4_3, d_5_0, d_5_1, d_5_2, d_5_3, d_5_4, d_6_0, d_6_1, d_6_2, d_6_3, d_6_4, d_6_5, d_7_0, d_7_1, d_7_2, d_7_3, d_7_4, d_7_5, d_7_6, vP]
theorem e9_part {h : AH} {m : Nat} {q : Nat → Int32} {L : List Nat} {B : Nat} (hM : MO h m) (hR : RF (ps h m) q L) (hQ : WQ q L B) {t j : Nat} (ht : t < 10) (hj : j ≤ 6) (z : Nat) : fX9_part m (nI t) (nI j) z h = some (vP q L t j, z, h) := by
  have hk0 := hM.1
  have hQp := hR.wq hQ
  have a1 : fX9_of m (nI t) 1 z h = some (q (32 + 6 * t + 1), z, h) := by rw [← hR.1 (32 + 6 * t + 1) (by omega)]; exact e9_of (w := 1) hM ht (by omega) z
  have a2 : fX9_of m (nI t) 2 z h = some (q (32 + 6 * t + 2), z, h) := by rw [← hR.1 (32 + 6 * t + 2) (by omega)]; exact e9_of (w := 2) hM ht (by omega) z
  have a3 : fX9_of m (nI t) 3 z h = some (q (32 + 6 * t + 3), z, h) := by rw [← hR.1 (32 + 6 * t + 3) (by omega)]; exact e9_of (w := 3) hM ht (by omega) z
  have a4 : fX9_of m (nI t) 4 z h = some (q (32 + 6 * t + 4), z, h) := by rw [← hR.1 (32 + 6 * t + 4) (by omega)]; exact e9_of (w := 4) hM ht (by omega) z
  have a5 : fX9_of m (nI t) 5 z h = some (q (32 + 6 * t + 5), z, h) := by rw [← hR.1 (32 + 6 * t + 5) (by omega)]; exact e9_of (w := 5) hM ht (by omega) z
  have x5 := e9_isWaiting hM (nI t) z
  rw [wtI_nI ht, wt_nord hR.1] at x5
  have x6 := e9_waitsFor hM hQp.1 hQp.w ht z
  rw [show mk 10 (wf (ps h m) t) = mk 10 (wf q t) from ng_nord hR.1 hQp.1 hQp.w t ht] at x6
  have x7 := e9_placeOf hM (t := t) (iv h (m + 1)) (iv h (m + 3)) hR.2.2.1 hR.2.2.2.1 z
  rw [mh_id, plF_L hR.2.2, hR.2.1] at x7
  rcases n7 hj with rfl | rfl | rfl | rfl | rfl | rfl | rfl
  · show fX9_part m (nI t) 0 z h = _
    simp (disch := omega) only [fX9_part, ↓gd, ↓reduceIte, hk0, ↓bb3 a4, vP]
  · show fX9_part m (nI t) 1 z h = _
    simp (disch := omega) only [fX9_part, ↓gd, ↓reduceIte, hk0, ↓bb3 a1, d_1_0, d_2_0, d_2_1, d_3_0, d_3_1, d_3_2, d_4_0, d_4_1, d_4_2, d_4_3, d_5_0, d_5_1, d_5_2, d_5_3, d_5_4, d_6_0, d_6_1, d_6_2, d_6_3, d_6_4, d_6_5, d_7_0, d_7_1, d_7_2, d_7_3, d_7_4, d_7_5, d_7_6, vP]
  · show fX9_part m (nI t) 2 z h = _
    simp (disch := omega) only [fX9_part, ↓gd, ↓reduceIte, hk0, ↓bb3 a2, d_1_0, d_2_0, d_2_1, d_3_0, d_3_1, d_3_2, d_4_0, d_4_1, d_4_2, d_4_3, d_5_0, d_5_1, d_5_2, d_5_3, d_5_4, d_6_0, d_6_1, d_6_2, d_6_3, d_6_4, d_6_5, d_7_0, d_7_1, d_7_2, d_7_3, d_7_4, d_7_5, d_7_6, vP]
  · show fX9_part m (nI t) 3 z h = _
    simp (disch := omega) only [fX9_part, ↓gd, ↓reduceIte, hk0, ↓bb3 a3, d_1_0, d_2_0, d_2_1, d_3_0, d_3_1, d_3_2, d_4_0, d_4_1, d_4_2, d_4_3, d_5_0, d_5_1, d_5_2, d_5_3, d_5_4, d_6_0, d_6_1, d_6_2, d_6_3, d_6_4, d_6_5, d_7_0, d_7_1, d_7_2, d_7_3, d_7_4, d_7_5, d_7_6, vP]
  · show fX9_part m (nI t) 4 z h = _
    cases hw : wt q t
    · rw [hw] at x5
      simp (disch := omega) only [fX9_part, ↓gd, ↓reduceIte, hk0, ↓bb3 x5, Bool.false_eq_true, d_1_0, d_2_0, d_2_1, d_3_0, d_3_1, d_3_2, d_4_0, d_4_1, d_4_2, d_4_3, d_5_0, d_5_1, d_5_2, d_5_3, d_5_4, d_6_0, d_6_1, d_6_2, d_6_3, d_6_4, d_6_5, d_7_0, d_7_1, d_7_2, d_7_3, d_7_4, d_7_5, d_7_6, vP, hw]
    · rw [hw] at x5
      simp (disch := omega) only [fX9_part, ↓gd, ↓reduceIte, hk0, ↓bb3 x5, ↓bb3 a5, d_1_0, d_2_0, d_2_1, d_3_0, d_3_1, d_3_2, d_4_0, d_4_1, d_4_2, d_4_3, d_5_0, d_5_1, d_5_2, d_5_3, d_5_4, d_6_0, d_6_1, d_6_2, d_6_3, d_6_4, d_6_5, d_7_0, d_7_1, d_7_2, d_7_3, d_7_4, d_7_5, d_7_6, vP, hw]
  · show fX9_part m (nI t) 5 z h = _
    simp (disch := omega) only [fX9_part, ↓gd, ↓reduceIte, hk0, ↓bb3 x6, d_1_0, d_2_0, d_2_1, d_3_0, d_3_1, d_3_2, d_4_0, d_4_1, d_4_2, d_4_3, d_5_0, d_5_1, d_5_2, d_5_3, d_5_4, d_6_0, d_6_1, d_6_2, d_6_3, d_6_4, d_6_5, d_7_0, d_7_1, d_7_2, d_7_3, d_7_4, d_7_5, d_7_6, vP]
  · show fX9_part m (nI t) 6 z h = _
    simp (disch := omega) only [fX9_part, ↓gd, ↓reduceIte, hk0, ↓bb3 x7, d_1_0, d_2_0, d_2_1, d_3_0, d_3_1, d_3_2, d_4_0, d_4_1, d_4_2, d_4_3, d_5_0, d_5_1, d_5_2, d_5_3, d_5_4, d_6_0, d_6_1, d_6_2, d_6_3, d_6_4, d_6_5, d_7_0, d_7_1, d_7_2, d_7_3, d_7_4, d_7_5, d_7_6, vP]
def kT (q : Nat → Int32) (a b : Int32) : Nat := if tkI q a = false then 1 else if inI b 0 6 = false then 2 else 0
def aT (A : TS) (a b : Int32) : Nat × Int32 × TS := (kT A.1.1.1 a b, vP A.1.1.1 A.1.1.2.1 (tn' a) (tn' b), A)
theorem kT_c (q : Nat → Int32) (a b : Int32) : (tkI q a = false ∧ kT q a b = 1) ∨ (tkI q a = true ∧ inI b 0 6 = false ∧ kT q a b = 2) ∨ (tkI q a = true ∧ inI b 0 6 = true ∧ kT q a b = 0) := by
  unfold kT
  cases h1 : tkI q a
  · exact Or.inl ⟨rfl, rfl⟩
  · cases h2 : inI b 0 6
    · exact Or.inr (Or.inl ⟨rfl, rfl, by simp⟩)
    · exact Or.inr (Or.inr ⟨rfl, rfl, by simp⟩)
theorem c_task {h : AH} {x z : Nat} {A : TS} {B : Nat} (hC : CI h x z A) (hT : TI A B) (a b : Int32) : CC (fX8_task x a b z h) h x z (aT A a b) eB eA := by
  have hCB := hC.2.2.1.1.2.1
  have x1 := e0_has hCB.1 hCB.2.2.1 a z
  have x2 := e8_isWithin b 0 6 z h
  unfold aT
  rcases kT_c A.1.1.1 a b with ⟨e1, ek⟩ | ⟨e1, e2, ek⟩ | ⟨e1, e2, ek⟩
  · refine CC_err hC hT ?_
    rw [ek]
    have x1 : fX0_has (x + 1) a z h = some (0, z, h) := by rw [x1, e1]; rfl
    obtain ⟨o1, o2, o3, o4, o5, o6, o7, o8, o9, o10, o11, o12, o13, o14, o15, o16⟩ := id hC.1
    have hB := hC.2.2.1.1.2.1.1
    have u1 := hB.1
    have u2 := hB.2.1
    have u3 := hB.2.2.2.2.2.2.2.2.2.1
    have u4 := hC.2.2.1.1.1.1
    simp (disch := omega) only [fX8_task, ↓gd, ↓bl, ↓xr, ↓reduceIte, o1, ↓bb o2, ↓bb o3, ↓bb o4, ↓bb o5, ↓bb o6, ↓bb o7, ↓bb o8, o9, ↓bb o10, o11, o12, o13, ↓bb o14, o15, o16, u1, ↓bb u2, u3, u4, ↓bb3 x1, ↓bb3 (nT0 _ _)]
    rfl
  · refine CC_err hC hT ?_
    rw [ek]
    have x1 : fX0_has (x + 1) a z h = some (1, z, h) := by rw [x1, e1]; rfl
    have x2 : fX8_isWithin b 0 6 z h = some (0, z, h) := by rw [x2, e2]; rfl
    obtain ⟨o1, o2, o3, o4, o5, o6, o7, o8, o9, o10, o11, o12, o13, o14, o15, o16⟩ := id hC.1
    have hB := hC.2.2.1.1.2.1.1
    have u1 := hB.1
    have u2 := hB.2.1
    have u3 := hB.2.2.2.2.2.2.2.2.2.1
    have u4 := hC.2.2.1.1.1.1
    simp (disch := omega) only [fX8_task, ↓gd, ↓bl, ↓xr, ↓reduceIte, o1, ↓bb o2, ↓bb o3, ↓bb o4, ↓bb o5, ↓bb o6, ↓bb o7, ↓bb o8, o9, ↓bb o10, o11, o12, o13, ↓bb o14, o15, o16, u1, ↓bb u2, u3, u4, ↓bb3 x1, ↓bb3 (nT1 _ _), ↓bb3 x2, ↓bb3 (nV0 _ _)]
    rfl
  · rw [ek]
    refine CC_ask hC ?_
    obtain ⟨t, ht, rfl, hth, et⟩ := tkI_of e1
    obtain ⟨j, hj, rfl⟩ := inI_of (n := 6) (by omega) e2
    rw [et, show tn' (nI j) = j from nI_clamp (by omega)]
    exact e8_task hC hT ht hth hj
theorem r_task {h : AH} {m z : Nat} {A : TS} {B : Nat} (hR : RI h m A) (hT : TI A B) (a b : Int32) : RR (fX9_task m a b z h) h m z (aT A a b) := by
  have hk0 := hR.1.1
  have x1 := e9_isTask hR.1 a z
  rw [tkI_nord hR.2.1.1] at x1
  have x2 := e9_in b 0 6 z h
  unfold aT
  rcases kT_c A.1.1.1 a b with ⟨e1, ek⟩ | ⟨e1, e2, ek⟩ | ⟨e1, e2, ek⟩
  · rw [ek]
    refine RR_code (v' := 0) hR (fun h9 => absurd h9 (by decide)) ?_
    rw [e1] at x1
    simp (disch := omega) only [fX9_task, bX9_task_28, ↓gd, ↓bl, ↓reduceIte, ↓bb3 x1, Bool.false_eq_true, hk0, kd_wI, iv6, li1E]
    rfl
  · rw [ek]
    refine RR_code (v' := 0) hR (fun h9 => absurd h9 (by decide)) ?_
    rw [e1] at x1
    rw [e2] at x2
    simp (disch := omega) only [fX9_task, bX9_task_28, ↓gd, ↓bl, ↓reduceIte, ↓bb3 x1, ↓bb3 x2, Bool.false_eq_true, ne10, hk0, kd_wI, iv6, li2E]
    rfl
  · rw [ek]
    obtain ⟨t, ht, rfl, hth, et⟩ := tkI_of e1
    obtain ⟨j, hj, rfl⟩ := inI_of (n := 6) (by omega) e2
    rw [et, show tn' (nI j) = j from nI_clamp (by omega)]
    refine RR_code (v' := vP A.1.1.1 A.1.1.2.1 t j) hR (fun _ => rfl) ?_
    obtain ⟨c1, c2, c3⟩ := RI_code hR (nI 0)
    have x3 := e9_part c1.1 c1.2.1 hT.1.1 ht hj z
    rw [nI_0] at x3 ⊢
    rw [e1] at x1
    rw [e2] at x2
    simp (disch := omega) only [fX9_task, bX9_task_28, ↓gd, ↓bl, ↓reduceIte, ↓bb3 x1, ↓bb3 x2, ne10, hk0, kd_wI, iv6, le00, ↓bb3 x3]
/-! message -/
def vM (q : Nat → Int32) (k : Nat) : Nat → Int32
  | 0 => q (93 + 13 * k + 3)
  | 1 => q (93 + 13 * k)
  | 2 => q (93 + 13 * k + 1)
  | 3 => q (93 + 13 * k + 2)
  | _ => pm (fun e => q (93 + 13 * k + 3 + e)) (mln q k)
theorem n5 {j : Nat} (h : j ≤ 4) : j = 0 ∨ j = 1 ∨ j = 2 ∨ j = 3 ∨ j = 4 := by omega
theorem e4_prop {h : AH} {a : Nat} {q : Nat → Int32} {L : List Nat} (hC : CB h a q L) (hWm : WFm q) {k j : Nat} (hk : k < nm q) (hj : j ≤ 4) (z : Nat) : fX4_property (a + 5) (nI k) (nI j) z h = some (vM q k j, z, h) := by
  obtain ⟨m92, f, hf, h4, hrow⟩ := id hC.2.2.2.2.2
  obtain ⟨w1, w2, w3⟩ := id hWm
  obtain ⟨r1, r2, r3, r4⟩ := hrow k hk
  obtain ⟨-, ⟨hp, s1, s2, s3, s4⟩, s5⟩ := w3 k hk
  have hB := hC.1
  have x1 := e4_rowOf hB hf h4 (k := k) (by omega) z
  have v5 : iv h (a + 5) 5 = nI (nm q) := m92.trans w1
  have t0 : fX4_taskAt (jv h (a + 6) ((f + k) % 40)) 0 z h = some (q (93 + 13 * k + 3), z, h) := by
    have := r4.2 0 (by omega)
    rw [← show tA (jv h (a + 6) ((f + k) % 40)) 0 = q (93 + 13 * k + 3) from this]
    rfl
  have x5 := e4_members (jv h (a + 6) ((f + k) % 40)) (n := mln q k) (by omega) z h
  rw [pm_c (f := tA (jv h (a + 6) ((f + k) % 40))) (mln q k) (fun e he => r4.2 e he), ← s3] at x5
  have hlt : (f + k) % 40 < 40 := by omega
  obtain ⟨bk, b0, b1, b2, b3, b4, b5, b6, b7, fk, f0, f1, f2, mk0, m0, m1, m2, m3, kf0, kf1, kf2, lf0, lf1, lf2, km0, km1, km2, km3, lm0, lm1, lm2, lm3, kb2, kb3, kb4, kb5, kb6, kb7, lb2, lb3, lb4, lb5, lb6, lb7⟩ := id hB
  rcases n5 hj with rfl | rfl | rfl | rfl | rfl
  · show fX4_property (a + 5) (nI k) 0 z h = _
    simp (disch := omega) only [fX4_property, ↓gd, ↓bl, ↓on, ↓xr, ↓reduceIte, if_true, if_false, kd_wI, ln_wI, rv_wI, iv_wI, jv_wI, kd_wJ, ln_wJ, rv_wJ, iv_wJ, nI_clamp, nI_leE, nI_ltE, nI_eqE, m1_ne, bit_0, bit_1, nI_negE, leN_F, leN_T, ltN_F, ltN_T, eqN_F, or_false, false_or, or_true, true_or, not_false_eq_true, not_true_eq_false, and_true, true_and, and_false, false_and, bk, ↓bb b0, ↓bb b1, ↓bb b2, ↓bb b3, ↓bb b4, ↓bb b5, ↓bb b6, ↓bb b7, fk, ↓bb f0, ↓bb f1, ↓bb f2, mk0, ↓bb m0, ↓bb m1, ↓bb m2, ↓bb m3, kf0, kf1, kf2, lf0, lf1, lf2, km0, km1, km2, km3, lm0, lm1, lm2, lm3, kb2, kb3, kb4, kb5, kb6, kb7, lb2, lb3, lb4, lb5, lb6, lb7, v5, ↓bb3 x1, d_1_0, d_2_0, d_2_1, d_3_0, d_3_1, d_3_2, d_4_0, d_4_1, d_4_2, d_4_3, d_5_0, d_5_1, d_5_2, d_5_3, d_5_4, d_6_0, d_6_1, d_6_2, d_6_3, d_6_4, d_6_5, d_7_0, d_7_1, d_7_2, d_7_3, d_7_4, d_7_5, d_7_6, ↓bb3 t0, vM]
  · show fX4_property (a + 5) (nI k) 1 z h = _
    simp (disch := omega) only [fX4_property, ↓gd, ↓bl, ↓on, ↓xr, ↓reduceIte, if_true, if_false, kd_wI, ln_wI, rv_wI, iv_wI, jv_wI, kd_wJ, ln_wJ, rv_wJ, iv_wJ, nI_clamp, nI_leE, nI_ltE, nI_eqE, m1_ne, bit_0, bit_1, nI_negE, leN_F, leN_T, ltN_F, ltN_T, eqN_F, or_false, false_or, or_true, true_or, not_false_eq_true, not_true_eq_false, and_true, true_and, and_false, false_and, bk, ↓bb b0, ↓bb b1, ↓bb b2, ↓bb b3, ↓bb b4, ↓bb b5, ↓bb b6, ↓bb b7, fk, ↓bb f0, ↓bb f1, ↓bb f2, mk0, ↓bb m0, ↓bb m1, ↓bb m2, ↓bb m3, kf0, kf1, kf2, lf0, lf1, lf2, km0, km1, km2, km3, lm0, lm1, lm2, lm3, kb2, kb3, kb4, kb5, kb6, kb7, lb2, lb3, lb4, lb5, lb6, lb7, v5, ↓bb3 x1, d_1_0, d_2_0, d_2_1, d_3_0, d_3_1, d_3_2, d_4_0, d_4_1, d_4_2, d_4_3, d_5_0, d_5_1, d_5_2, d_5_3, d_5_4, d_6_0, d_6_1, d_6_2, d_6_3, d_6_4, d_6_5, d_7_0, d_7_1, d_7_2, d_7_3, d_7_4, d_7_5, d_7_6, r1, vM]
  · show fX4_property (a + 5) (nI k) 2 z h = _
    simp (disch := omega) only [fX4_property, ↓gd, ↓bl, ↓on, ↓xr, ↓reduceIte, if_true, if_false, kd_wI, ln_wI, rv_wI, iv_wI, jv_wI, kd_wJ, ln_wJ, rv_wJ, iv_wJ, nI_clamp, nI_leE, nI_ltE, nI_eqE, m1_ne, bit_0, bit_1, nI_negE, leN_F, leN_T, ltN_F, ltN_T, eqN_F, or_false, false_or, or_true, true_or, not_false_eq_true, not_true_eq_false, and_true, true_and, and_false, false_and, bk, ↓bb b0, ↓bb b1, ↓bb b2, ↓bb b3, ↓bb b4, ↓bb b5, ↓bb b6, ↓bb b7, fk, ↓bb f0, ↓bb f1, ↓bb f2, mk0, ↓bb m0, ↓bb m1, ↓bb m2, ↓bb m3, kf0, kf1, kf2, lf0, lf1, lf2, km0, km1, km2, km3, lm0, lm1, lm2, lm3, kb2, kb3, kb4, kb5, kb6, kb7, lb2, lb3, lb4, lb5, lb6, lb7, v5, ↓bb3 x1, d_1_0, d_2_0, d_2_1, d_3_0, d_3_1, d_3_2, d_4_0, d_4_1, d_4_2, d_4_3, d_5_0, d_5_1, d_5_2, d_5_3, d_5_4, d_6_0, d_6_1, d_6_2, d_6_3, d_6_4, d_6_5, d_7_0, d_7_1, d_7_2, d_7_3, d_7_4, d_7_5, d_7_6, r2, vM]
  · show fX4_property (a + 5) (nI k) 3 z h = _
    simp (disch := omega) only [fX4_property, ↓gd, ↓bl, ↓on, ↓xr, ↓reduceIte, if_true, if_false, kd_wI, ln_wI, rv_wI, iv_wI, jv_wI, kd_wJ, ln_wJ, rv_wJ, iv_wJ, nI_clamp, nI_leE, nI_ltE, nI_eqE, m1_ne, bit_0, bit_1, nI_negE, leN_F, leN_T, ltN_F, ltN_T, eqN_F, or_false, false_or, or_true, true_or, not_false_eq_true, not_true_eq_false, and_true, true_and, and_false, false_and, bk, ↓bb b0, ↓bb b1, ↓bb b2, ↓bb b3, ↓bb b4, ↓bb b5, ↓bb b6, ↓bb b7, fk, ↓bb f0, ↓bb f1, ↓bb f2, mk0, ↓bb m0, ↓bb m1, ↓bb m2, ↓bb m3, kf0, kf1, kf2, lf0, lf1, lf2, km0, km1, km2, km3, lm0, lm1, lm2, lm3, kb2, kb3, kb4, kb5, kb6, kb7, lb2, lb3, lb4, lb5, lb6, lb7, v5, ↓bb3 x1, d_1_0, d_2_0, d_2_1, d_3_0, d_3_1, d_3_2, d_4_0, d_4_1, d_4_2, d_4_3, d_5_0, d_5_1, d_5_2, d_5_3, d_5_4, d_6_0, d_6_1, d_6_2, d_6_3, d_6_4, d_6_5, d_7_0, d_7_1, d_7_2, d_7_3, d_7_4, d_7_5, d_7_6, r3, vM]
  · show fX4_property (a + 5) (nI k) 4 z h = _
    simp (disch := omega) only [fX4_property, ↓gd, ↓bl, ↓on, ↓xr, ↓reduceIte, if_true, if_false, kd_wI, ln_wI, rv_wI, iv_wI, jv_wI, kd_wJ, ln_wJ, rv_wJ, iv_wJ, nI_clamp, nI_leE, nI_ltE, nI_eqE, m1_ne, bit_0, bit_1, nI_negE, leN_F, leN_T, ltN_F, ltN_T, eqN_F, or_false, false_or, or_true, true_or, not_false_eq_true, not_true_eq_false, and_true, true_and, and_false, false_and, bk, ↓bb b0, ↓bb b1, ↓bb b2, ↓bb b3, ↓bb b4, ↓bb b5, ↓bb b6, ↓bb b7, fk, ↓bb f0, ↓bb f1, ↓bb f2, mk0, ↓bb m0, ↓bb m1, ↓bb m2, ↓bb m3, kf0, kf1, kf2, lf0, lf1, lf2, km0, km1, km2, km3, lm0, lm1, lm2, lm3, kb2, kb3, kb4, kb5, kb6, kb7, lb2, lb3, lb4, lb5, lb6, lb7, v5, ↓bb3 x1, d_1_0, d_2_0, d_2_1, d_3_0, d_3_1, d_3_2, d_4_0, d_4_1, d_4_2, d_4_3, d_5_0, d_5_1, d_5_2, d_5_3, d_5_4, d_6_0, d_6_1, d_6_2, d_6_3, d_6_4, d_6_5, d_7_0, d_7_1, d_7_2, d_7_3, d_7_4, d_7_5, d_7_6, r3, ↓bb3 x5, vM]
theorem e4_prop_no {h : AH} {a : Nat} {q : Nat → Int32} {L : List Nat} (hC : CB h a q L) (hWm : WFm q) {k : Int32} (hk : ltI k (nm q) = false) (b : Int32) (z : Nat) : fX4_property (a + 5) k b z h = some (-1, z, h) := by
  obtain ⟨w1, w2, w3⟩ := id hWm
  have hB := hC.1
  have v5 : iv h (a + 5) 5 = nI (nm q) := hC.2.2.2.2.2.1.trans w1
  have mk0 : kd h (a + 5) = 5 := by
    obtain ⟨bk, b0, b1, b2, b3, b4, b5, b6, b7, fk, f0, f1, f2, mk0, m0, m1, m2, m3, kf0, kf1, kf2, lf0, lf1, lf2, km0, km1, km2, km3, lm0, lm1, lm2, lm3, kb2, kb3, kb4, kb5, kb6, kb7, lb2, lb3, lb4, lb5, lb6, lb7⟩ := id hB
    exact mk0
  by_cases e : k < 0
  · simp (disch := omega) only [fX4_property, ↓reduceIte, e]
  · obtain ⟨j, hj, rfl⟩ := nI_of e
    have hn : ¬ j < nm q := fun h9 => by
      unfold ltI at hk
      rw [nI_clamp hj] at hk
      simp [e, h9] at hk
    simp (disch := omega) only [fX4_property, ↓gd, ↓bl, ↓on, ↓xr, ↓reduceIte, if_true, if_false, kd_wI, ln_wI, rv_wI, iv_wI, jv_wI, kd_wJ, ln_wJ, rv_wJ, iv_wJ, nI_clamp, nI_leE, nI_ltE, nI_eqE, m1_ne, bit_0, bit_1, nI_negE, leN_F, leN_T, ltN_F, ltN_T, eqN_F, or_false, false_or, or_true, true_or, not_false_eq_true, not_true_eq_false, and_true, true_and, and_false, false_and, v5, mk0]
theorem m9_loop {h : AH} {m : Nat} {q : Nat → Int32} (hM : MO h m) (hn : nord (ps h m) q) (hWm : WFm q) {k j : Nat} (hk : k < nm q) (hj : j ≤ 4) (z : Nat) : ∀ (d e : Nat), e + d = mln q k → ∀ fuel, d < fuel → lX9_mail_14 fuel m (nI j) (nI (93 + 13 * k)) (pm (fun e => q (93 + 13 * k + 3 + e)) e) (nI e) z h = some (vM q k j, z, h) := by
  intro d
  obtain ⟨w1, w2, w3⟩ := id hWm
  obtain ⟨-, ⟨hp, s1, s2, s3, s4⟩, s5⟩ := w3 k hk
  have a0 : nI (93 + 13 * k) + 0 = nI (93 + 13 * k) := by rw [li0, nI_add]; rfl
  have a1 : nI (93 + 13 * k) + 1 = nI (93 + 13 * k + 1) := nI_1 _
  have a2 : nI (93 + 13 * k) + 2 = nI (93 + 13 * k + 2) := by rw [li2, nI_add]
  have a3 : nI (93 + 13 * k) + 3 = nI (93 + 13 * k + 3) := by rw [li3, nI_add]
  have b0 : iv h (m + 1) (93 + 13 * k) = q (93 + 13 * k) := hn _ (by omega)
  have b1 : iv h (m + 1) (93 + 13 * k + 1) = q (93 + 13 * k + 1) := hn _ (by omega)
  have b2 : iv h (m + 1) (93 + 13 * k + 2) = nI (mln q k) := (hn _ (by omega)).trans s3
  have b3 : iv h (m + 1) (93 + 13 * k + 3) = q (93 + 13 * k + 3) := hn _ (by omega)
  have b4 : ∀ e, iv h (m + 1) (93 + 13 * k + 3 + e) = q (93 + 13 * k + 3 + e) := fun e => hn _ (by omega)
  obtain ⟨hk, r0, r1, r3, r4, r10, r11, r13, r14, r15, k1, k2, k3, k4, k5, k6, k7, k8, k9, l1, l2, l3, l4, l5, l6, l7, l8, l9⟩ := id hM
  induction d with
  | zero =>
    intro e he fuel hf
    obtain rfl : e = mln q k := by omega
    cases fuel with
    | zero => omega
    | succ fuel =>
      rcases n5 hj with rfl | rfl | rfl | rfl | rfl
      · show lX9_mail_14B _ m 0 _ _ _ _ _ = _
        simp (disch := omega) only [lX9_mail_14B, ↓gd, ↓bl, ↓on, ↓xr, ↓reduceIte, if_true, if_false, kd_wI, ln_wI, rv_wI, iv_wI, jv_wI, kd_wJ, ln_wJ, rv_wJ, iv_wJ, nI_clamp, nI_leE, nI_ltE, nI_eqE, m1_ne, bit_0, bit_1, nI_negE, leN_F, leN_T, ltN_F, ltN_T, eqN_F, or_false, false_or, or_true, true_or, not_false_eq_true, not_true_eq_false, and_true, true_and, and_false, false_and, ↓bb r0, ↓bb r1, ↓bb r3, ↓bb r4, ↓bb r10, ↓bb r11, ↓bb r13, ↓bb r14, ↓bb r15, hk, k1, k2, k3, k4, k5, k6, k7, k8, k9, l1, l2, l3, l4, l5, l6, l7, l8, l9, a2, a3, b2, b3, Int32.le_refl, vM]
      · show lX9_mail_14B _ m 1 _ _ _ _ _ = _
        simp (disch := omega) only [lX9_mail_14B, ↓gd, ↓bl, ↓on, ↓xr, ↓reduceIte, if_true, if_false, kd_wI, ln_wI, rv_wI, iv_wI, jv_wI, kd_wJ, ln_wJ, rv_wJ, iv_wJ, nI_clamp, nI_leE, nI_ltE, nI_eqE, m1_ne, bit_0, bit_1, nI_negE, leN_F, leN_T, ltN_F, ltN_T, eqN_F, or_false, false_or, or_true, true_or, not_false_eq_true, not_true_eq_false, and_true, true_and, and_false, false_and, ↓bb r0, ↓bb r1, ↓bb r3, ↓bb r4, ↓bb r10, ↓bb r11, ↓bb r13, ↓bb r14, ↓bb r15, hk, k1, k2, k3, k4, k5, k6, k7, k8, k9, l1, l2, l3, l4, l5, l6, l7, l8, l9, a2, a0, b2, b0, Int32.le_refl, d_1_0, d_2_0, d_2_1, d_3_0, d_3_1, d_3_2, d_4_0, d_4_1, d_4_2, d_4_3, d_5_0, d_5_1, d_5_2, d_5_3, d_5_4, d_6_0, d_6_1, d_6_2, d_6_3, d_6_4, d_6_5, d_7_0, d_7_1, d_7_2, d_7_3, d_7_4, d_7_5, d_7_6, vM]
      · show lX9_mail_14B _ m 2 _ _ _ _ _ = _
        simp (disch := omega) only [lX9_mail_14B, ↓gd, ↓bl, ↓on, ↓xr, ↓reduceIte, if_true, if_false, kd_wI, ln_wI, rv_wI, iv_wI, jv_wI, kd_wJ, ln_wJ, rv_wJ, iv_wJ, nI_clamp, nI_leE, nI_ltE, nI_eqE, m1_ne, bit_0, bit_1, nI_negE, leN_F, leN_T, ltN_F, ltN_T, eqN_F, or_false, false_or, or_true, true_or, not_false_eq_true, not_true_eq_false, and_true, true_and, and_false, false_and, ↓bb r0, ↓bb r1, ↓bb r3, ↓bb r4, ↓bb r10, ↓bb r11, ↓bb r13, ↓bb r14, ↓bb r15, hk, k1, k2, k3, k4, k5, k6, k7, k8, k9, l1, l2, l3, l4, l5, l6, l7, l8, l9, a2, a1, b2, b1, Int32.le_refl, d_1_0, d_2_0, d_2_1, d_3_0, d_3_1, d_3_2, d_4_0, d_4_1, d_4_2, d_4_3, d_5_0, d_5_1, d_5_2, d_5_3, d_5_4, d_6_0, d_6_1, d_6_2, d_6_3, d_6_4, d_6_5, d_7_0, d_7_1, d_7_2, d_7_3, d_7_4, d_7_5, d_7_6, vM]
      · show lX9_mail_14B _ m 3 _ _ _ _ _ = _
        simp (disch := omega) only [lX9_mail_14B, ↓gd, ↓bl, ↓on, ↓xr, ↓reduceIte, if_true, if_false, kd_wI, ln_wI, rv_wI, iv_wI, jv_wI, kd_wJ, ln_wJ, rv_wJ, iv_wJ, nI_clamp, nI_leE, nI_ltE, nI_eqE, m1_ne, bit_0, bit_1, nI_negE, leN_F, leN_T, ltN_F, ltN_T, eqN_F, or_false, false_or, or_true, true_or, not_false_eq_true, not_true_eq_false, and_true, true_and, and_false, false_and, ↓bb r0, ↓bb r1, ↓bb r3, ↓bb r4, ↓bb r10, ↓bb r11, ↓bb r13, ↓bb r14, ↓bb r15, hk, k1, k2, k3, k4, k5, k6, k7, k8, k9, l1, l2, l3, l4, l5, l6, l7, l8, l9, a2, b2, Int32.le_refl, d_1_0, d_2_0, d_2_1, d_3_0, d_3_1, d_3_2, d_4_0, d_4_1, d_4_2, d_4_3, d_5_0, d_5_1, d_5_2, d_5_3, d_5_4, d_6_0, d_6_1, d_6_2, d_6_3, d_6_4, d_6_5, d_7_0, d_7_1, d_7_2, d_7_3, d_7_4, d_7_5, d_7_6, vM, s3]
      · show lX9_mail_14B _ m 4 _ _ _ _ _ = _
        simp (disch := omega) only [lX9_mail_14B, ↓gd, ↓bl, ↓on, ↓xr, ↓reduceIte, if_true, if_false, kd_wI, ln_wI, rv_wI, iv_wI, jv_wI, kd_wJ, ln_wJ, rv_wJ, iv_wJ, nI_clamp, nI_leE, nI_ltE, nI_eqE, m1_ne, bit_0, bit_1, nI_negE, leN_F, leN_T, ltN_F, ltN_T, eqN_F, or_false, false_or, or_true, true_or, not_false_eq_true, not_true_eq_false, and_true, true_and, and_false, false_and, ↓bb r0, ↓bb r1, ↓bb r3, ↓bb r4, ↓bb r10, ↓bb r11, ↓bb r13, ↓bb r14, ↓bb r15, hk, k1, k2, k3, k4, k5, k6, k7, k8, k9, l1, l2, l3, l4, l5, l6, l7, l8, l9, a2, b2, Int32.le_refl, d_1_0, d_2_0, d_2_1, d_3_0, d_3_1, d_3_2, d_4_0, d_4_1, d_4_2, d_4_3, d_5_0, d_5_1, d_5_2, d_5_3, d_5_4, d_6_0, d_6_1, d_6_2, d_6_3, d_6_4, d_6_5, d_7_0, d_7_1, d_7_2, d_7_3, d_7_4, d_7_5, d_7_6, vM]
  | succ d ih =>
    intro e he fuel hf
    cases fuel with
    | zero => omega
    | succ fuel =>
      have h3 := ih (e + 1) (by omega) fuel (by omega)
      rw [pm_s] at h3
      show lX9_mail_14B _ m _ _ _ _ _ _ = _
      simp (disch := omega) only [lX9_mail_14B, ↓gd, ↓bl, ↓on, ↓xr, ↓reduceIte, if_true, if_false, kd_wI, ln_wI, rv_wI, iv_wI, jv_wI, kd_wJ, ln_wJ, rv_wJ, iv_wJ, nI_clamp, nI_leE, nI_ltE, nI_eqE, m1_ne, bit_0, bit_1, nI_negE, leN_F, leN_T, ltN_F, ltN_T, eqN_F, or_false, false_or, or_true, true_or, not_false_eq_true, not_true_eq_false, and_true, true_and, and_false, false_and, ↓bb r0, ↓bb r1, ↓bb r3, ↓bb r4, ↓bb r10, ↓bb r11, ↓bb r13, ↓bb r14, ↓bb r15, hk, k1, k2, k3, k4, k5, k6, k7, k8, k9, l1, l2, l3, l4, l5, l6, l7, l8, l9, a2, a3, b2, nI_add, b4, nI_1]
      exact h3
theorem e9_mail {h : AH} {m : Nat} {q : Nat → Int32} (hM : MO h m) (hn : nord (ps h m) q) (hWm : WFm q) {k j : Nat} (hk : k < nm q) (hj : j ≤ 4) (z : Nat) : fX9_mail m (nI k) (nI j) z h = some (vM q k j, z, h) := by
  have hw := hWm.2.2 k hk
  have := m9_loop hM hn hWm hk hj z (mln q k) 0 (by omega) fu (by obtain ⟨-, ⟨hp, s1, s2, s3, s4⟩, s5⟩ := hw; unfold fu; omega)
  rw [nI_0] at this
  simp only [fX9_mail, ↓bl, ixm]
  exact this
def vMs (q : Nat → Int32) (a b : Int32) : Int32 := if ltI a (nm q) then vM q (tn' a) (tn' b) else -1
def aM (A : TS) (a b : Int32) : Nat × Int32 × TS := (kV 0 4 b, vMs A.1.1.1 a b, A)
theorem c_message {h : AH} {x z : Nat} {A : TS} {B : Nat} (hC : CI h x z A) (hT : TI A B) (a b : Int32) : CC (fX8_message x a b z h) h x z (aM A a b) eA eS := by
  have hCB := hC.2.2.1.1.2.1
  have x2 := e8_isWithin b 0 4 z h
  unfold aM
  have u5 := hCB.1.2.2.1
  have u6 : kd h (x + 1 + 5) = 5 := hCB.1.2.2.2.2.2.2.2.2.2.2.2.2.2.1
  by_cases hk : kV 0 4 b = 0
  · rw [hk]
    refine CC_ask hC ?_
    have e := kV_0 hk
    rw [e] at x2
    obtain ⟨j, hj, rfl⟩ := inI_of (n := 4) (by omega) e
    unfold vMs
    rw [show tn' (nI j) = j from nI_clamp (by omega)]
    cases e2 : ltI a (nm A.1.1.1)
    · have x3 := e4_prop_no hCB hT.1.1.2.2.2.2.2 e2 (nI j) z
      obtain ⟨o1, o2, o3, o4, o5, o6, o7, o8, o9, o10, o11, o12, o13, o14, o15, o16⟩ := id hC.1
      have hB := hC.2.2.1.1.2.1.1
      have u1 := hB.1
      have u2 := hB.2.1
      have u3 := hB.2.2.2.2.2.2.2.2.2.1
      have u4 := hC.2.2.1.1.1.1
      simp (disch := omega) only [fX8_message, ↓gd, ↓bl, ↓xr, ↓reduceIte, o1, ↓bb o2, ↓bb o3, ↓bb o4, ↓bb o5, ↓bb o6, ↓bb o7, ↓bb o8, o9, ↓bb o10, o11, o12, o13, ↓bb o14, o15, o16, u1, ↓bb u2, u3, u4, ↓bb3 x2, ↓bb3 (nV1 _ _), ↓bb u5, u6, ↓bb3 x3, Bool.false_eq_true]
    · obtain ⟨k, k1, k2, rfl, k4⟩ := ltI_of e2
      rw [k4]
      have x3 := e4_prop hCB hT.1.1.2.2.2.2.2 k1 hj z
      obtain ⟨o1, o2, o3, o4, o5, o6, o7, o8, o9, o10, o11, o12, o13, o14, o15, o16⟩ := id hC.1
      have hB := hC.2.2.1.1.2.1.1
      have u1 := hB.1
      have u2 := hB.2.1
      have u3 := hB.2.2.2.2.2.2.2.2.2.1
      have u4 := hC.2.2.1.1.1.1
      simp (disch := omega) only [fX8_message, ↓gd, ↓bl, ↓xr, ↓reduceIte, o1, ↓bb o2, ↓bb o3, ↓bb o4, ↓bb o5, ↓bb o6, ↓bb o7, ↓bb o8, o9, ↓bb o10, o11, o12, o13, ↓bb o14, o15, o16, u1, ↓bb u2, u3, u4, ↓bb3 x2, ↓bb3 (nV1 _ _), ↓bb u5, u6, ↓bb3 x3]
  · refine CC_err hC hT ?_
    obtain ⟨e1, ek⟩ := kV_1 hk
    rw [ek]
    rw [e1] at x2
    simp (disch := omega) only [fX8_message, ↓xr, ↓bb3 x2, Bool.false_eq_true, ↓reduceIte, ↓bb3 (nV0 _ _)]
    rfl
theorem r_message {h : AH} {m z : Nat} {A : TS} {B : Nat} (hR : RI h m A) (hT : TI A B) (a b : Int32) : RR (fX9_message m a b z h) h m z (aM A a b) := by
  have hk0 := hR.1.1
  have x2 := e9_in b 0 4 z h
  unfold aM
  by_cases hk : kV 0 4 b = 0
  · rw [hk]
    have e := kV_0 hk
    rw [e] at x2
    obtain ⟨j, hj, rfl⟩ := inI_of (n := 4) (by omega) e
    refine RR_code (v' := vMs A.1.1.1 a (nI j)) hR (fun _ => rfl) ?_
    unfold vMs
    rw [show tn' (nI j) = j from nI_clamp (by omega)]
    have hWm := hT.1.1.2.2.2.2.2
    obtain ⟨c1, c2, c3⟩ := RI_code hR (nI 0)
    rw [nI_0] at c1 ⊢
    have i3 : ((92 : Int32) < 0) = False := eq_false (by decide)
    have i4 : Int32.toNatClampNeg 92 = 92 := by decide
    have v92 : iv (wI h m 6 0) (m + 1) 92 = nI (nm A.1.1.1) := (c1.2.1.1 92 (by omega)).trans hWm.1
    have x1 := e9_in a 0 (nI (nm A.1.1.1) - 1) z (wI h m 6 0)
    rw [inI_m (by have := hWm.2.1; omega)] at x1
    have hM := hR.1
    obtain ⟨hk, r0, r1, r3, r4, r10, r11, r13, r14, r15, k1, k2, k3, k4, k5, k6, k7, k8, k9, l1, l2, l3, l4, l5, l6, l7, l8, l9⟩ := id hM
    cases e2 : ltI a (nm A.1.1.1)
    · rw [e2] at x1
      simp (disch := omega) only [fX9_message, bX9_message_15, ↓gd, ↓bl, ↓reduceIte, ↓bb3 x2, ne10, kd_wI, ln_wI, ↓brv_wI, ↓bb r0, ↓bb r1, ↓bb r3, ↓bb r4, ↓bb r10, ↓bb r11, ↓bb r13, ↓bb r14, ↓bb r15, hk, k1, k2, k3, k4, k5, k6, k7, k8, k9, l1, l2, l3, l4, l5, l6, l7, l8, l9, iv6, le00, i3, i4, v92, leN_F, or_false, not_false_eq_true, ↓bb3 x1, Bool.false_eq_true]
    · rw [e2] at x1
      obtain ⟨k, n1, n2, rfl, n4⟩ := ltI_of e2
      rw [n4]
      have x3 := e9_mail c1.1 c1.2.1.1 hWm n1 hj z
      simp (disch := omega) only [fX9_message, bX9_message_15, ↓gd, ↓bl, ↓reduceIte, ↓bb3 x2, ne10, kd_wI, ln_wI, ↓brv_wI, ↓bb r0, ↓bb r1, ↓bb r3, ↓bb r4, ↓bb r10, ↓bb r11, ↓bb r13, ↓bb r14, ↓bb r15, hk, k1, k2, k3, k4, k5, k6, k7, k8, k9, l1, l2, l3, l4, l5, l6, l7, l8, l9, iv6, le00, i3, i4, v92, leN_F, or_false, not_false_eq_true, ↓bb3 x1, ↓bb3 x3]
  · refine RR_code (v' := 0) hR (fun h9 => absurd h9 hk) ?_
    obtain ⟨e1, ek⟩ := kV_1 hk
    rw [e1] at x2
    simp (disch := omega) only [fX9_message, bX9_message_15, ↓gd, ↓bl, ↓reduceIte, ↓bb3 x2, Bool.false_eq_true, hk0, kd_wI, iv6, li1E, ek]
    rfl
/-! overlap -/
def kO (q : Nat → Int32) (a b : Int32) : Nat := if rsI q a && rsI q b then 0 else 1
def aV (A : TS) (a b : Int32) : Nat × Int32 × TS := (kO A.1.1.1 a b, if ov A.1.1.1 (tn' a) (tn' b) then 1 else 0, A)
theorem ov_bt {q : Nat → Int32} {r o : Nat} (hn : nr q ≤ 16) (ho : o < nr q) : bt (mk 16 (fun o => decide (o < nr q) && bel q r o) ||| mk 16 (fun o => decide (o < nr q) && bel q o r)) o = ov q r o := by
  rw [b_or, bt_mk 16 _ (by omega), bt_mk 16 _ (by omega)]
  unfold ov
  simp [ho, show o < 16 by omega]
theorem c_overlap {h : AH} {x z : Nat} {A : TS} {B : Nat} (hC : CI h x z A) (hT : TI A B) (a b : Int32) : CC (fX8_overlap x a b z h) h x z (aV A a b) eB eS := by
  have hCB := hC.2.2.1.1.2.1
  have x1 := e2_has hCB.1 hT.W hCB.2.1 a z
  have x2 := e2_has hCB.1 hT.W hCB.2.1 b z
  unfold aV
  cases e1 : rsI A.1.1.1 a
  · have ek : kO A.1.1.1 a b = 1 := by unfold kO; rw [e1]; rfl
    refine CC_err hC hT ?_
    rw [ek]
    rw [e1] at x1
    obtain ⟨o1, o2, o3, o4, o5, o6, o7, o8, o9, o10, o11, o12, o13, o14, o15, o16⟩ := id hC.1
    have hB := hC.2.2.1.1.2.1.1
    have u1 := hB.1
    have u2 := hB.2.1
    have u3 := hB.2.2.2.2.2.2.2.2.2.1
    have u4 := hC.2.2.1.1.1.1
    simp (disch := omega) only [fX8_overlap, bX8_overlap_32, bX8_overlap_33, ↓gd, ↓bl, ↓xr, ↓reduceIte, o1, ↓bb o2, ↓bb o3, ↓bb o4, ↓bb o5, ↓bb o6, ↓bb o7, ↓bb o8, o9, ↓bb o10, o11, o12, o13, ↓bb o14, o15, o16, u1, ↓bb u2, u3, u4, ↓bb3 x1, Bool.false_eq_true, ↓bb3 (nT0 _ _)]
    rfl
  · cases e2 : rsI A.1.1.1 b
    · have ek : kO A.1.1.1 a b = 1 := by unfold kO; rw [e1, e2]; rfl
      refine CC_err hC hT ?_
      rw [ek]
      rw [e1] at x1
      rw [e2] at x2
      obtain ⟨o1, o2, o3, o4, o5, o6, o7, o8, o9, o10, o11, o12, o13, o14, o15, o16⟩ := id hC.1
      have hB := hC.2.2.1.1.2.1.1
      have u1 := hB.1
      have u2 := hB.2.1
      have u3 := hB.2.2.2.2.2.2.2.2.2.1
      have u4 := hC.2.2.1.1.1.1
      simp (disch := omega) only [fX8_overlap, bX8_overlap_32, bX8_overlap_33, ↓gd, ↓bl, ↓xr, ↓reduceIte, o1, ↓bb o2, ↓bb o3, ↓bb o4, ↓bb o5, ↓bb o6, ↓bb o7, ↓bb o8, o9, ↓bb o10, o11, o12, o13, ↓bb o14, o15, o16, u1, ↓bb u2, u3, u4, ↓bb3 x1, ne10, ↓bb3 x2, Bool.false_eq_true, ↓bb3 (nT0 _ _)]
      rfl
    · have ek : kO A.1.1.1 a b = 0 := by unfold kO; rw [e1, e2]; rfl
      rw [ek]
      refine CC_ask hC ?_
      rw [e1] at x1
      rw [e2] at x2
      obtain ⟨r, r16, rfl, hr, er⟩ := rsI_of e1
      obtain ⟨o, o16, rfl, ho, eo⟩ := rsI_of e2
      rw [er, eo]
      have v1 := hCB.2.1.2.2.1 r hr
      have v2 := hCB.2.1.2.2.2.1 r hr
      have x3 := e8_inSet (mk 16 (fun o => decide (o < nr A.1.1.1) && bel A.1.1.1 r o) ||| mk 16 (fun o => decide (o < nr A.1.1.1) && bel A.1.1.1 o r)) (k := o) (by omega) z h
      rw [ov_bt hT.W.2.1 ho] at x3
      obtain ⟨o1, o2, o3, o4, o5, o6, o7, o8, o9, o10, o11, o12, o13, o14, o15, o16⟩ := id hC.1
      have hB := hC.2.2.1.1.2.1.1
      have u1 := hB.1
      have u2 := hB.2.1
      have u3 := hB.2.2.2.2.2.2.2.2.2.1
      have u4 := hC.2.2.1.1.1.1
      obtain ⟨bk, b0, b1, b2, b3, b4, b5, b6, b7, fk, f0, f1, f2, mk0, m0, m1, m2, m3, kf0, kf1, kf2, lf0, lf1, lf2, km0, km1, km2, km3, lm0, lm1, lm2, lm3, kb2, kb3, kb4, kb5, kb6, kb7, lb2, lb3, lb4, lb5, lb6, lb7⟩ := id hB
      cases e9 : ov A.1.1.1 r o
      · rw [e9] at x3
        simp (disch := omega) only [fX8_overlap, bX8_overlap_33, ↓gd, ↓bl, ↓xr, ↓reduceIte, o1, ↓bb o2, ↓bb o3, ↓bb o4, ↓bb o5, ↓bb o6, ↓bb o7, ↓bb o8, o9, ↓bb o10, o11, o12, o13, ↓bb o14, o15, o16, u1, ↓bb u2, u3, u4, ↓bb3 x1, ne10, ↓bb3 x2, ↓bb3 (nT1 _ _), bk, ↓bb b0, ↓bb b1, ↓bb b2, ↓bb b3, ↓bb b4, ↓bb b5, ↓bb b6, ↓bb b7, fk, ↓bb f0, ↓bb f1, ↓bb f2, mk0, ↓bb m0, ↓bb m1, ↓bb m2, ↓bb m3, kf0, kf1, kf2, lf0, lf1, lf2, km0, km1, km2, km3, lm0, lm1, lm2, lm3, kb2, kb3, kb4, kb5, kb6, kb7, lb2, lb3, lb4, lb5, lb6, lb7, nI_negE, nI_clamp, leN_F, or_false, not_false_eq_true, v1, v2, ↓bb3 x3, Bool.false_eq_true, true_or]
      · rw [e9] at x3
        simp (disch := omega) only [fX8_overlap, bX8_overlap_33, ↓gd, ↓bl, ↓xr, ↓reduceIte, o1, ↓bb o2, ↓bb o3, ↓bb o4, ↓bb o5, ↓bb o6, ↓bb o7, ↓bb o8, o9, ↓bb o10, o11, o12, o13, ↓bb o14, o15, o16, u1, ↓bb u2, u3, u4, ↓bb3 x1, ne10, ↓bb3 x2, ↓bb3 (nT1 _ _), bk, ↓bb b0, ↓bb b1, ↓bb b2, ↓bb b3, ↓bb b4, ↓bb b5, ↓bb b6, ↓bb b7, fk, ↓bb f0, ↓bb f1, ↓bb f2, mk0, ↓bb m0, ↓bb m1, ↓bb m2, ↓bb m3, kf0, kf1, kf2, lf0, lf1, lf2, km0, km1, km2, km3, lm0, lm1, lm2, lm3, kb2, kb3, kb4, kb5, kb6, kb7, lb2, lb3, lb4, lb5, lb6, lb7, nI_negE, nI_clamp, leN_F, or_false, not_false_eq_true, v1, v2, ↓bb3 x3, or_true]
theorem r_overlap {h : AH} {m z : Nat} {A : TS} {B : Nat} (hR : RI h m A) (hT : TI A B) (a b : Int32) : RR (fX9_overlap m a b z h) h m z (aV A a b) := by
  have hk0 := hR.1.1
  have hWp : WFr (ps h m) := (hR.2.1.wq hT.1.1).1
  have x1 := e9_isRes hR.1 hWp a z
  have x2 := e9_isRes hR.1 hWp b z
  rw [rsI_nord hR.2.1.1] at x1 x2
  unfold aV
  cases e1 : rsI A.1.1.1 a
  · have ek : kO A.1.1.1 a b = 1 := by unfold kO; rw [e1]; rfl
    rw [ek]
    refine RR_code (v' := 0) hR (fun h9 => absurd h9 (by decide)) ?_
    rw [e1] at x1
    simp (disch := omega) only [fX9_overlap, bX9_overlap_17, bX9_overlap_22, ↓gd, ↓bl, ↓reduceIte, ↓bb3 x1, Bool.false_eq_true, hk0, kd_wI, iv6, ne10]
    rfl
  · cases e2 : rsI A.1.1.1 b
    · have ek : kO A.1.1.1 a b = 1 := by unfold kO; rw [e1, e2]; rfl
      rw [ek]
      refine RR_code (v' := 0) hR (fun h9 => absurd h9 (by decide)) ?_
      rw [e1] at x1
      rw [e2] at x2
      simp (disch := omega) only [fX9_overlap, bX9_overlap_17, bX9_overlap_22, ↓gd, ↓bl, ↓reduceIte, ↓bb3 x1, ↓bb3 x2, Bool.false_eq_true, hk0, kd_wI, iv6, ne10]
      rfl
    · have ek : kO A.1.1.1 a b = 0 := by unfold kO; rw [e1, e2]; rfl
      rw [ek]
      rw [e1] at x1
      rw [e2] at x2
      obtain ⟨r, r16, rfl, hr, er⟩ := rsI_of e1
      obtain ⟨o, o16, rfl, ho, eo⟩ := rsI_of e2
      rw [er, eo]
      refine RR_code (v' := if ov A.1.1.1 r o then 1 else 0) hR (fun _ => rfl) ?_
      obtain ⟨c1, c2, c3⟩ := RI_code hR (nI 0)
      have hWc : WFr (ps (wI h m 6 (nI 0)) m) := (c1.2.1.wq hT.1.1).1
      have hnr : nr (ps (wI h m 6 (nI 0)) m) = nr A.1.1.1 := nr_nord c1.2.1.1
      have hnr2 : nr (iv (wI h m 6 (nI 0)) (m + 1)) = nr A.1.1.1 := hnr
      have x3 := e9_overlaps c1.1 hWc (r := r) (o := o) (by omega) (by omega) z
      rw [ov_nord c1.2.1.1 hWc (by omega) (by omega)] at x3
      rw [nI_0] at x3 ⊢
      cases e9 : ov A.1.1.1 r o
      · rw [e9] at x3
        simp (disch := omega) only [fX9_overlap, bX9_overlap_22, ↓gd, ↓bl, ↓reduceIte, ↓bb3 x1, ↓bb3 x2, ne10, hk0, kd_wI, iv6, ↓bb3 x3, Bool.false_eq_true]
      · rw [e9] at x3
        simp (disch := omega) only [fX9_overlap, bX9_overlap_22, ↓gd, ↓bl, ↓reduceIte, ↓bb3 x1, ↓bb3 x2, ne10, hk0, kd_wI, iv6, ↓bb3 x3]
