/-! resource -/
theorem cnt_s1 (k : Nat) (c : Nat → Bool) : cnt (k + 1) c = cnt k c + (if c k then 1 else 0) := rfl
theorem cnt_lt {n : Nat} {b : Nat → Bool} : ∀ m, n ≤ m → cnt m (fun o => decide (o < n) && b o) = cnt n b := by
  intro m
  induction m with
  | zero =>
    intro h
    obtain rfl : n = 0 := by omega
    rfl
  | succ m ih =>
    intro h
    by_cases e : n = m + 1
    · subst e
      exact cnt_congr (fun i hi => by simp [hi])
    · rw [cnt_s1, ih (by omega)]
      have : (decide (m < n) && b m) = false := by rw [decide_eq_false (by omega)]; rfl
      rw [this]; rfl
theorem cnt_rm {r : Nat} {b : Nat → Bool} (hb : b r = true) : ∀ n, r < n → cnt n b = cnt n (fun i => decide (i ≠ r) && b i) + 1 := by
  intro n
  induction n with
  | zero => intro h; omega
  | succ n ih =>
    intro h
    rw [cnt_s1, cnt_s1]
    by_cases e : r = n
    · subst e
      have e1 : cnt r b = cnt r (fun i => decide (i ≠ r) && b i) := cnt_congr (fun i hi => by
        have : i ≠ r := by omega
        simp [this])
      rw [← e1, hb]
      simp
    · rw [ih (by omega)]
      have : n ≠ r := fun h9 => e h9.symm
      simp only [this, ne_eq, not_false_eq_true, decide_true, Bool.true_and]
      omega
theorem bel_self (q : Nat → Int32) (r : Nat) : bel q r r = true := by
  unfold bel belF
  simp
def vR (q : Nat → Int32) (r : Nat) : Nat → Int32
  | 0 => q (1 + r)
  | 1 => nI (cnt (nr q) (fun i => decide (i ≠ r) && bel q r i))
  | 2 => mk (nr q) (fun i => bel q i r)
  | 3 => fn (ff (fun t => th q t && ovr q t r) 0 10)
  | _ => mk 10 (fun t => th q t && anyB (nr q) (fun i => bt (q (32 + 6 * t + 3)) i && ov q r i))
theorem e8_resource {h : AH} {x z : Nat} {A : TS} {B : Nat} (hC : CI h x z A) (hT : TI A B) {r j : Nat} (hr : r < nr A.1.1.1) (hj : j ≤ 4) : fX8_resource x (nI r) (nI j) z h = some (.inl (vR A.1.1.1 r j), z, h) := by
  have hCB := hC.2.2.1.1.2.1
  obtain ⟨cB, cR, cT, cO, cS, cM⟩ := id hCB
  have hW := hT.W
  have hn16 := hW.2.1
  have x1 := e2_hasR cB hW cR hr z
  have x2 := e8_isWithin (nI j) 0 4 z h
  rw [show inI (nI j) 0 4 = true from in_to (n := 4) hj (by omega)] at x2
  have v0 := cR.2.1 r hr
  have v1 := cR.2.2.1 r hr
  have v2 := cR.2.2.2.1 r hr
  have w2 : mk 16 (fun o => decide (o < nr A.1.1.1) && bel A.1.1.1 o r) = mk (nr A.1.1.1) (fun i => bel A.1.1.1 i r) := b_ext (fun i hi => by
    rw [bt_mk 16 _ (by omega), bt_mk (nr A.1.1.1) _ (by omega)]
    by_cases e : i < nr A.1.1.1
    · simp [e, show i < 16 by omega]
    · simp [e])
  rw [w2] at v2
  have x3 := e_bitc (x := mk 16 (fun o => decide (o < nr A.1.1.1) && bel A.1.1.1 r o)) (fun i h1 h2 => by rw [bt_mk 16 _ (by omega), decide_eq_false (by omega)]; rfl) z h
  have w1 : cnt 16 (bt (mk 16 (fun o => decide (o < nr A.1.1.1) && bel A.1.1.1 r o))) = cnt (nr A.1.1.1) (fun i => decide (i ≠ r) && bel A.1.1.1 r i) + 1 := by
    rw [← cnt_rm (bel_self A.1.1.1 r) _ hr, ← cnt_lt 16 hn16]
    exact cnt_congr (fun i hi => by rw [bt_mk 16 _ (by omega)]; simp [hi])
  rw [w1] at x3
  have w3 : nI (cnt (nr A.1.1.1) (fun i => decide (i ≠ r) && bel A.1.1.1 r i) + 1) - 1 = nI (cnt (nr A.1.1.1) (fun i => decide (i ≠ r) && bel A.1.1.1 r i)) := by
    rw [show (1 : Int32) = nI 1 from rfl, pk_sub (by omega)]; rfl
  have x4 := e0_ownerOf hW hCB hr z
  have x5 := e0_hiw cB hW hT.1.1.t cR cT (x := -1) hr z
  rw [mk_congr (d := fun t => th A.1.1.1 t && anyB (nr A.1.1.1) (fun i => bt (A.1.1.1 (32 + 6 * t + 3)) i && ov A.1.1.1 r i)) (fun k hk => by
    have : ¬ nI k = -1 := by rw [m1_ne (by omega)]; exact fun h => h
    simp [this])] at x5
  obtain ⟨o1, o2, o3, o4, o5, o6, o7, o8, o9, o10, o11, o12, o13, o14, o15, o16⟩ := id hC.1
  have hB := hC.2.2.1.1.2.1.1
  have u1 := hB.1
  have u2 := hB.2.1
  have u3 := hB.2.2.2.2.2.2.2.2.2.1
  have u4 := hC.2.2.1.1.1.1
  obtain ⟨bk, b0, b1, b2, b3, b4, b5, b6, b7, fk, f0, f1, f2, mk0, m0, m1, m2, m3, kf0, kf1, kf2, lf0, lf1, lf2, km0, km1, km2, km3, lm0, lm1, lm2, lm3, kb2, kb3, kb4, kb5, kb6, kb7, lb2, lb3, lb4, lb5, lb6, lb7⟩ := id hB
  rcases n5 hj with rfl | rfl | rfl | rfl | rfl
  · show fX8_resource x (nI r) 0 z h = _
    have x2 : fX8_isWithin 0 0 4 z h = _ := x2
    simp (disch := omega) only [fX8_resource, ↓gd, ↓bl, ↓xr, ↓reduceIte, o1, ↓bb o2, ↓bb o3, ↓bb o4, ↓bb o5, ↓bb o6, ↓bb o7, ↓bb o8, o9, ↓bb o10, o11, o12, o13, ↓bb o14, o15, o16, u1, ↓bb u2, u3, u4, ↓bb3 x1, ↓bb3 (nT1 _ _), ↓bb3 x2, ↓bb3 (nV1 _ _), bk, ↓bb b0, ↓bb b1, ↓bb b2, ↓bb b3, ↓bb b4, ↓bb b5, ↓bb b6, ↓bb b7, fk, ↓bb f0, ↓bb f1, ↓bb f2, mk0, ↓bb m0, ↓bb m1, ↓bb m2, ↓bb m3, kf0, kf1, kf2, lf0, lf1, lf2, km0, km1, km2, km3, lm0, lm1, lm2, lm3, kb2, kb3, kb4, kb5, kb6, kb7, lb2, lb3, lb4, lb5, lb6, lb7, d_1_0, d_2_0, d_2_1, d_3_0, d_3_1, d_3_2, d_4_0, d_4_1, d_4_2, d_4_3, d_5_0, d_5_1, d_5_2, d_5_3, d_5_4, d_6_0, d_6_1, d_6_2, d_6_3, d_6_4, d_6_5, d_7_0, d_7_1, d_7_2, d_7_3, d_7_4, d_7_5, d_7_6, nI_negE, nI_clamp, leN_F, or_false, not_false_eq_true, v0, vR]
  · show fX8_resource x (nI r) 1 z h = _
    have x2 : fX8_isWithin 1 0 4 z h = _ := x2
    simp (disch := omega) only [fX8_resource, ↓gd, ↓bl, ↓xr, ↓reduceIte, o1, ↓bb o2, ↓bb o3, ↓bb o4, ↓bb o5, ↓bb o6, ↓bb o7, ↓bb o8, o9, ↓bb o10, o11, o12, o13, ↓bb o14, o15, o16, u1, ↓bb u2, u3, u4, ↓bb3 x1, ↓bb3 (nT1 _ _), ↓bb3 x2, ↓bb3 (nV1 _ _), bk, ↓bb b0, ↓bb b1, ↓bb b2, ↓bb b3, ↓bb b4, ↓bb b5, ↓bb b6, ↓bb b7, fk, ↓bb f0, ↓bb f1, ↓bb f2, mk0, ↓bb m0, ↓bb m1, ↓bb m2, ↓bb m3, kf0, kf1, kf2, lf0, lf1, lf2, km0, km1, km2, km3, lm0, lm1, lm2, lm3, kb2, kb3, kb4, kb5, kb6, kb7, lb2, lb3, lb4, lb5, lb6, lb7, d_1_0, d_2_0, d_2_1, d_3_0, d_3_1, d_3_2, d_4_0, d_4_1, d_4_2, d_4_3, d_5_0, d_5_1, d_5_2, d_5_3, d_5_4, d_6_0, d_6_1, d_6_2, d_6_3, d_6_4, d_6_5, d_7_0, d_7_1, d_7_2, d_7_3, d_7_4, d_7_5, d_7_6, nI_negE, nI_clamp, leN_F, or_false, not_false_eq_true, v1, ↓bb3 x3, w3, vR]
  · show fX8_resource x (nI r) 2 z h = _
    have x2 : fX8_isWithin 2 0 4 z h = _ := x2
    simp (disch := omega) only [fX8_resource, ↓gd, ↓bl, ↓xr, ↓reduceIte, o1, ↓bb o2, ↓bb o3, ↓bb o4, ↓bb o5, ↓bb o6, ↓bb o7, ↓bb o8, o9, ↓bb o10, o11, o12, o13, ↓bb o14, o15, o16, u1, ↓bb u2, u3, u4, ↓bb3 x1, ↓bb3 (nT1 _ _), ↓bb3 x2, ↓bb3 (nV1 _ _), bk, ↓bb b0, ↓bb b1, ↓bb b2, ↓bb b3, ↓bb b4, ↓bb b5, ↓bb b6, ↓bb b7, fk, ↓bb f0, ↓bb f1, ↓bb f2, mk0, ↓bb m0, ↓bb m1, ↓bb m2, ↓bb m3, kf0, kf1, kf2, lf0, lf1, lf2, km0, km1, km2, km3, lm0, lm1, lm2, lm3, kb2, kb3, kb4, kb5, kb6, kb7, lb2, lb3, lb4, lb5, lb6, lb7, d_1_0, d_2_0, d_2_1, d_3_0, d_3_1, d_3_2, d_4_0, d_4_1, d_4_2, d_4_3, d_5_0, d_5_1, d_5_2, d_5_3, d_5_4, d_6_0, d_6_1, d_6_2, d_6_3, d_6_4, d_6_5, d_7_0, d_7_1, d_7_2, d_7_3, d_7_4, d_7_5, d_7_6, nI_negE, nI_clamp, leN_F, or_false, not_false_eq_true, v2, vR]
  · show fX8_resource x (nI r) 3 z h = _
    have x2 : fX8_isWithin 3 0 4 z h = _ := x2
    simp (disch := omega) only [fX8_resource, ↓gd, ↓bl, ↓xr, ↓reduceIte, o1, ↓bb o2, ↓bb o3, ↓bb o4, ↓bb o5, ↓bb o6, ↓bb o7, ↓bb o8, o9, ↓bb o10, o11, o12, o13, ↓bb o14, o15, o16, u1, ↓bb u2, u3, u4, ↓bb3 x1, ↓bb3 (nT1 _ _), ↓bb3 x2, ↓bb3 (nV1 _ _), ↓bb3 x4, d_1_0, d_2_0, d_2_1, d_3_0, d_3_1, d_3_2, d_4_0, d_4_1, d_4_2, d_4_3, d_5_0, d_5_1, d_5_2, d_5_3, d_5_4, d_6_0, d_6_1, d_6_2, d_6_3, d_6_4, d_6_5, d_7_0, d_7_1, d_7_2, d_7_3, d_7_4, d_7_5, d_7_6, vR]
  · show fX8_resource x (nI r) 4 z h = _
    have x2 : fX8_isWithin 4 0 4 z h = _ := x2
    simp (disch := omega) only [fX8_resource, ↓gd, ↓bl, ↓xr, ↓reduceIte, o1, ↓bb o2, ↓bb o3, ↓bb o4, ↓bb o5, ↓bb o6, ↓bb o7, ↓bb o8, o9, ↓bb o10, o11, o12, o13, ↓bb o14, o15, o16, u1, ↓bb u2, u3, u4, ↓bb3 x1, ↓bb3 (nT1 _ _), ↓bb3 x2, ↓bb3 (nV1 _ _), ↓bb3 x5, d_1_0, d_2_0, d_2_1, d_3_0, d_3_1, d_3_2, d_4_0, d_4_1, d_4_2, d_4_3, d_5_0, d_5_1, d_5_2, d_5_3, d_5_4, d_6_0, d_6_1, d_6_2, d_6_3, d_6_4, d_6_5, d_7_0, d_7_1, d_7_2, d_7_3, d_7_4, d_7_5, d_7_6, vR]
theorem ite_o1 {α : Type} (a b : Bool) (t H : α) : (if (a || b) = true then t else H) = if b = true then t else (if a = true then t else H) := by cases a <;> cases b <;> rfl
theorem ite_o2 (a b : Bool) (O B : Int32) : (if (a || b) = true then O ||| B else O) = if b = true then (if a = true then O ||| B else O) ||| B else (if a = true then O ||| B else O) := by
  cases a <;> cases b <;> simp [or_same]
theorem rs_in {h : AH} {m : Nat} {q : Nat → Int32} (hM : MO h m) (hn : nord (ps h m) q) (hW : WFr q) {r t : Nat} (hr : r < nr q) (ht : t < 10) (y x3 x4 H O : Int32) (qq : Nat → Int32 → Int32 → Int32 → Int32 → Int32 → Int32 → Int32 → Nat → AH → Option (Int32 × Nat × AH)) (z : Nat) : ∀ (d k : Nat), k + d = nr q → ∀ fuel, d < fuel →
    lX9_resource_129 qq fuel m (nI r) y x3 x4 (if anyB k (fun i => th q t && (bt (q (32 + 6 * t + 3)) i && bel q r i)) then nI t else H) (if anyB k (fun i => th q t && (bt (q (32 + 6 * t + 3)) i && ov q r i)) then O ||| ((1 : Int32) <<< (nI t &&& 31)) else O) (nI t) (nI k) z h
    = qq m (nI r) y x3 x4 (if anyB (nr q) (fun i => th q t && (bt (q (32 + 6 * t + 3)) i && bel q r i)) then nI t else H) (if anyB (nr q) (fun i => th q t && (bt (q (32 + 6 * t + 3)) i && ov q r i)) then O ||| ((1 : Int32) <<< (nI t &&& 31)) else O) (nI t + (-1)) z h := by
  intro d
  have hn16 := hW.2.1
  have hWp := WFr_nord hn.sy hW
  have hnr : nr (ps h m) = nr q := nr_nord hn
  have e0 : iv h (m + 1) 0 = nI (nr q) := (hn 0 (by omega)).trans hW.1
  have x1 := e9_isTask hM (nI t) z
  rw [tkI_nI ht, th_nord hn] at x1
  have x2 : fX9_of m (nI t) 3 z h = some (q (32 + 6 * t + 3), z, h) := by rw [← hn (32 + 6 * t + 3) (by omega)]; exact e9_of (w := 3) hM ht (by omega) z
  induction d with
  | zero =>
    intro k hk fuel hf
    obtain rfl : k = nr q := by omega
    cases fuel with
    | zero => omega
    | succ fuel =>
      obtain ⟨hk, r0, r1, r3, r4, r10, r11, r13, r14, r15, k1, k2, k3, k4, k5, k6, k7, k8, k9, l1, l2, l3, l4, l5, l6, l7, l8, l9⟩ := id hM
      show lX9_resource_129B _ _ _ _ _ _ _ _ _ _ _ _ _ = _
      simp (disch := omega) only [lX9_resource_129B, ↓gd, ↓bl, ↓on, ↓xr, ↓reduceIte, if_true, if_false, kd_wI, ln_wI, rv_wI, iv_wI, jv_wI, kd_wJ, ln_wJ, rv_wJ, iv_wJ, nI_clamp, nI_leE, nI_ltE, nI_eqE, m1_ne, bit_0, bit_1, nI_negE, leN_F, leN_T, ltN_F, ltN_T, eqN_F, or_false, false_or, or_true, true_or, not_false_eq_true, not_true_eq_false, and_true, true_and, and_false, false_and, ↓bb r0, ↓bb r1, ↓bb r3, ↓bb r4, ↓bb r10, ↓bb r11, ↓bb r13, ↓bb r14, ↓bb r15, hk, k1, k2, k3, k4, k5, k6, k7, k8, k9, l1, l2, l3, l4, l5, l6, l7, l8, l9, ix0, lt00, e0, Int32.le_refl]
  | succ d ih =>
    intro k hk fuel hf
    cases fuel with
    | zero => omega
    | succ fuel =>
      have h3 := ih (k + 1) (by omega) fuel (by omega)
      rw [anyB_s, anyB_s, ite_o1, ite_o2] at h3
      generalize (if anyB k (fun i => th q t && (bt (q (32 + 6 * t + 3)) i && bel q r i)) = true then nI t else H) = X5 at h3 ⊢
      generalize (if anyB k (fun i => th q t && (bt (q (32 + 6 * t + 3)) i && ov q r i)) = true then O ||| ((1 : Int32) <<< (nI t &&& 31)) else O) = X6 at h3 ⊢
      have x3 := e9_isBelow hM hWp (r := r) (o := k) (by omega) (by omega) z
      rw [bel_nord hn hWp k (r + 1) r (by omega) (by omega)] at x3
      have x4 := e9_overlaps hM hWp (r := r) (o := k) (by omega) (by omega) z
      rw [ov_nord hn hWp (by omega) (by omega)] at x4
      rw [← h3]
      clear h3 ih
      obtain ⟨hk, r0, r1, r3, r4, r10, r11, r13, r14, r15, k1, k2, k3, k4, k5, k6, k7, k8, k9, l1, l2, l3, l4, l5, l6, l7, l8, l9⟩ := id hM
      show lX9_resource_129B _ _ _ _ _ _ _ _ _ _ _ _ _ = _
      cases et : th q t
      · rw [et] at x1
        simp (disch := omega) only [lX9_resource_129B, bX9_resource_169, bX9_resource_170, bX9_resource_192, bX9_resource_194, bX9_resource_220, bX9_resource_221, ↓gd, ↓bl, ↓on, ↓xr, ↓reduceIte, if_true, if_false, kd_wI, ln_wI, rv_wI, iv_wI, jv_wI, kd_wJ, ln_wJ, rv_wJ, iv_wJ, nI_clamp, nI_leE, nI_ltE, nI_eqE, m1_ne, bit_0, bit_1, nI_negE, leN_F, leN_T, ltN_F, ltN_T, eqN_F, or_false, false_or, or_true, true_or, not_false_eq_true, not_true_eq_false, and_true, true_and, and_false, false_and, ↓bb r0, ↓bb r1, ↓bb r3, ↓bb r4, ↓bb r10, ↓bb r11, ↓bb r13, ↓bb r14, ↓bb r15, hk, k1, k2, k3, k4, k5, k6, k7, k8, k9, l1, l2, l3, l4, l5, l6, l7, l8, l9, ix0, lt00, e0, ↓bb3 x1, Bool.false_eq_true, Bool.false_and, or_0, nI_1]
      · rw [et] at x1
        cases eb : bt (q (32 + 6 * t + 3)) k
        · simp (disch := omega) only [lX9_resource_129B, bX9_resource_169, bX9_resource_170, bX9_resource_192, bX9_resource_194, bX9_resource_220, bX9_resource_221, ↓gd, ↓bl, ↓on, ↓xr, ↓reduceIte, if_true, if_false, kd_wI, ln_wI, rv_wI, iv_wI, jv_wI, kd_wJ, ln_wJ, rv_wJ, iv_wJ, nI_clamp, nI_leE, nI_ltE, nI_eqE, m1_ne, bit_0, bit_1, nI_negE, leN_F, leN_T, ltN_F, ltN_T, eqN_F, or_false, false_or, or_true, true_or, not_false_eq_true, not_true_eq_false, and_true, true_and, and_false, false_and, ↓bb r0, ↓bb r1, ↓bb r3, ↓bb r4, ↓bb r10, ↓bb r11, ↓bb r13, ↓bb r14, ↓bb r15, hk, k1, k2, k3, k4, k5, k6, k7, k8, k9, l1, l2, l3, l4, l5, l6, l7, l8, l9, ix0, lt00, e0, ↓bb3 x1, ne10, ↓bb3 x2, eb, Bool.false_eq_true, Bool.true_and, Bool.false_and, or_0, nI_1]
        · cases el : bel q r k
          · rw [el] at x3
            cases eo : ov q r k
            · rw [eo] at x4
              simp (disch := omega) only [lX9_resource_129B, bX9_resource_169, bX9_resource_170, bX9_resource_192, bX9_resource_194, bX9_resource_220, bX9_resource_221, ↓gd, ↓bl, ↓on, ↓xr, ↓reduceIte, if_true, if_false, kd_wI, ln_wI, rv_wI, iv_wI, jv_wI, kd_wJ, ln_wJ, rv_wJ, iv_wJ, nI_clamp, nI_leE, nI_ltE, nI_eqE, m1_ne, bit_0, bit_1, nI_negE, leN_F, leN_T, ltN_F, ltN_T, eqN_F, or_false, false_or, or_true, true_or, not_false_eq_true, not_true_eq_false, and_true, true_and, and_false, false_and, ↓bb r0, ↓bb r1, ↓bb r3, ↓bb r4, ↓bb r10, ↓bb r11, ↓bb r13, ↓bb r14, ↓bb r15, hk, k1, k2, k3, k4, k5, k6, k7, k8, k9, l1, l2, l3, l4, l5, l6, l7, l8, l9, ix0, lt00, e0, ↓bb3 x1, ne10, ↓bb3 x2, ↓bb3 x3, ↓bb3 x4, eb, Bool.false_eq_true, Bool.true_and, or_0, nI_1]
            · rw [eo] at x4
              simp (disch := omega) only [lX9_resource_129B, bX9_resource_169, bX9_resource_170, bX9_resource_192, bX9_resource_194, bX9_resource_220, bX9_resource_221, ↓gd, ↓bl, ↓on, ↓xr, ↓reduceIte, if_true, if_false, kd_wI, ln_wI, rv_wI, iv_wI, jv_wI, kd_wJ, ln_wJ, rv_wJ, iv_wJ, nI_clamp, nI_leE, nI_ltE, nI_eqE, m1_ne, bit_0, bit_1, nI_negE, leN_F, leN_T, ltN_F, ltN_T, eqN_F, or_false, false_or, or_true, true_or, not_false_eq_true, not_true_eq_false, and_true, true_and, and_false, false_and, ↓bb r0, ↓bb r1, ↓bb r3, ↓bb r4, ↓bb r10, ↓bb r11, ↓bb r13, ↓bb r14, ↓bb r15, hk, k1, k2, k3, k4, k5, k6, k7, k8, k9, l1, l2, l3, l4, l5, l6, l7, l8, l9, ix0, lt00, e0, ↓bb3 x1, ne10, ↓bb3 x2, ↓bb3 x3, ↓bb3 x4, eb, Bool.false_eq_true, Bool.true_and, or_0, nI_1]
          · rw [el] at x3
            cases eo : ov q r k
            · rw [eo] at x4
              simp (disch := omega) only [lX9_resource_129B, bX9_resource_169, bX9_resource_170, bX9_resource_192, bX9_resource_194, bX9_resource_220, bX9_resource_221, ↓gd, ↓bl, ↓on, ↓xr, ↓reduceIte, if_true, if_false, kd_wI, ln_wI, rv_wI, iv_wI, jv_wI, kd_wJ, ln_wJ, rv_wJ, iv_wJ, nI_clamp, nI_leE, nI_ltE, nI_eqE, m1_ne, bit_0, bit_1, nI_negE, leN_F, leN_T, ltN_F, ltN_T, eqN_F, or_false, false_or, or_true, true_or, not_false_eq_true, not_true_eq_false, and_true, true_and, and_false, false_and, ↓bb r0, ↓bb r1, ↓bb r3, ↓bb r4, ↓bb r10, ↓bb r11, ↓bb r13, ↓bb r14, ↓bb r15, hk, k1, k2, k3, k4, k5, k6, k7, k8, k9, l1, l2, l3, l4, l5, l6, l7, l8, l9, ix0, lt00, e0, ↓bb3 x1, ne10, ↓bb3 x2, ↓bb3 x3, ↓bb3 x4, eb, Bool.false_eq_true, Bool.true_and, or_0, nI_1]
            · rw [eo] at x4
              simp (disch := omega) only [lX9_resource_129B, bX9_resource_169, bX9_resource_170, bX9_resource_192, bX9_resource_194, bX9_resource_220, bX9_resource_221, ↓gd, ↓bl, ↓on, ↓xr, ↓reduceIte, if_true, if_false, kd_wI, ln_wI, rv_wI, iv_wI, jv_wI, kd_wJ, ln_wJ, rv_wJ, iv_wJ, nI_clamp, nI_leE, nI_ltE, nI_eqE, m1_ne, bit_0, bit_1, nI_negE, leN_F, leN_T, ltN_F, ltN_T, eqN_F, or_false, false_or, or_true, true_or, not_false_eq_true, not_true_eq_false, and_true, true_and, and_false, false_and, ↓bb r0, ↓bb r1, ↓bb r3, ↓bb r4, ↓bb r10, ↓bb r11, ↓bb r13, ↓bb r14, ↓bb r15, hk, k1, k2, k3, k4, k5, k6, k7, k8, k9, l1, l2, l3, l4, l5, l6, l7, l8, l9, ix0, lt00, e0, ↓bb3 x1, ne10, ↓bb3 x2, ↓bb3 x3, ↓bb3 x4, eb, Bool.false_eq_true, Bool.true_and, or_0, nI_1]
def pd : Nat → Int32
  | 0 => -1
  | k + 1 => nI k
theorem pd_e : ∀ t, nI t + (-1) = pd t
  | 0 => by decide
  | t + 1 => by
    show nI (t + 1) + (-1) = nI t
    rw [← nI_1, Int32.add_assoc, show (1 : Int32) + (-1) = 0 from by decide, Int32.add_zero]
theorem anyB_and (a : Bool) (b : Nat → Bool) (n : Nat) : anyB n (fun i => a && b i) = (a && anyB n b) := by
  induction n with
  | zero => cases a <;> rfl
  | succ n ih => rw [anyB_s, ih, anyB_s]; cases a <;> rfl
def oH (q : Nat → Int32) (r k : Nat) : Int32 := fn (ff (fun t => th q t && ovr q t r) k (10 - k))
def oO (q : Nat → Int32) (r k : Nat) : Int32 := mk 10 (fun t => decide (k ≤ t) && (th q t && anyB (nr q) (fun i => bt (q (32 + 6 * t + 3)) i && ov q r i)))
theorem oH_s (q : Nat → Int32) (r : Nat) {k : Nat} (hk : k < 10) : oH q r k = if (th q k && ovr q k r) = true then nI k else oH q r (k + 1) := by
  unfold oH
  rw [show 10 - k = (10 - (k + 1)) + 1 by omega]
  show fn (if (th q k && ovr q k r) = true then k else _) = _
  cases (th q k && ovr q k r)
  · rfl
  · show fn k = nI k
    unfold fn; rw [if_neg (by omega)]
theorem oO_s (q : Nat → Int32) (r : Nat) {k : Nat} (hk : k < 10) : oO q r k = if (th q k && anyB (nr q) (fun i => bt (q (32 + 6 * k + 3)) i && ov q r i)) = true then oO q r (k + 1) ||| ((1 : Int32) <<< (nI k &&& 31)) else oO q r (k + 1) := by
  unfold oO
  cases e : (th q k && anyB (nr q) (fun i => bt (q (32 + 6 * k + 3)) i && ov q r i))
  · rw [if_neg (by decide)]
    refine mk_congr (fun i hi => ?_)
    by_cases ei : i = k
    · subst ei; rw [e]; simp
    · by_cases e2 : k ≤ i
      · simp [e2, show k + 1 ≤ i by omega]
      · simp [e2, show ¬ k + 1 ≤ i by omega]
  · rw [if_pos rfl, mk_set hk]
    refine mk_congr (fun i hi => ?_)
    by_cases ei : i = k
    · subst ei; rw [e]; simp
    · by_cases e2 : k ≤ i
      · simp [e2, ei, show k + 1 ≤ i by omega]
      · simp [e2, ei, show ¬ k + 1 ≤ i by omega]
theorem rs_out {h : AH} {m : Nat} {q : Nat → Int32} (hM : MO h m) (hn : nord (ps h m) q) (hW : WFr q) {r j : Nat} (hr : r < nr q) (hj : j ≤ 4) (z : Nat) : ∀ (k : Nat), k ≤ 10 → ∀ fuel, k < fuel →
    lX9_resource_121 fuel m (nI r) (nI j) (vR q r 1) (vR q r 2) (oH q r k) (oO q r k) (pd k) z h = some (vR q r j, z, h) := by
  intro k
  have hn16 := hW.2.1
  induction k with
  | zero =>
    intro _ fuel hf
    cases fuel with
    | zero => omega
    | succ fuel =>
      have e1 : ((-1 : Int32) < 0) = True := eq_true (by decide)
      have e2 : (1 : Int32) + nI r = nI (1 + r) := nI_add 1 r
      have e3 : iv h (m + 1) (1 + r) = q (1 + r) := hn _ (by omega)
      have e4 : oH q r 0 = vR q r 3 := rfl
      have e5 : oO q r 0 = vR q r 4 := by
        unfold oO
        simp only [vR]
        exact mk_congr (fun i hi => by simp)
      have e6 : vR q r 0 = q (1 + r) := rfl
      rw [e4, e5]
      obtain ⟨hk, r0, r1, r3, r4, r10, r11, r13, r14, r15, k1, k2, k3, k4, k5, k6, k7, k8, k9, l1, l2, l3, l4, l5, l6, l7, l8, l9⟩ := id hM
      rcases n5 hj with rfl | rfl | rfl | rfl | rfl
      · show lX9_resource_121B _ m (nI r) 0 _ _ _ _ (-1) z h = _
        simp (disch := omega) only [lX9_resource_121B, ↓gd, ↓bl, ↓on, ↓xr, ↓reduceIte, if_true, if_false, kd_wI, ln_wI, rv_wI, iv_wI, jv_wI, kd_wJ, ln_wJ, rv_wJ, iv_wJ, nI_clamp, nI_leE, nI_ltE, nI_eqE, m1_ne, bit_0, bit_1, nI_negE, leN_F, leN_T, ltN_F, ltN_T, eqN_F, or_false, false_or, or_true, true_or, not_false_eq_true, not_true_eq_false, and_true, true_and, and_false, false_and, ↓bb r0, ↓bb r1, ↓bb r3, ↓bb r4, ↓bb r10, ↓bb r11, ↓bb r13, ↓bb r14, ↓bb r15, hk, k1, k2, k3, k4, k5, k6, k7, k8, k9, l1, l2, l3, l4, l5, l6, l7, l8, l9, e1, e2, e3, e6]
      · show lX9_resource_121B _ m (nI r) 1 _ _ _ _ (-1) z h = _
        simp (disch := omega) only [lX9_resource_121B, ↓reduceIte, e1, d_1_0, d_2_0, d_2_1, d_3_0, d_3_1, d_3_2, d_4_0, d_4_1, d_4_2, d_4_3, d_5_0, d_5_1, d_5_2, d_5_3, d_5_4, d_6_0, d_6_1, d_6_2, d_6_3, d_6_4, d_6_5, d_7_0, d_7_1, d_7_2, d_7_3, d_7_4, d_7_5, d_7_6]
      · show lX9_resource_121B _ m (nI r) 2 _ _ _ _ (-1) z h = _
        simp (disch := omega) only [lX9_resource_121B, ↓reduceIte, e1, d_1_0, d_2_0, d_2_1, d_3_0, d_3_1, d_3_2, d_4_0, d_4_1, d_4_2, d_4_3, d_5_0, d_5_1, d_5_2, d_5_3, d_5_4, d_6_0, d_6_1, d_6_2, d_6_3, d_6_4, d_6_5, d_7_0, d_7_1, d_7_2, d_7_3, d_7_4, d_7_5, d_7_6]
      · show lX9_resource_121B _ m (nI r) 3 _ _ _ _ (-1) z h = _
        simp (disch := omega) only [lX9_resource_121B, ↓reduceIte, e1, d_1_0, d_2_0, d_2_1, d_3_0, d_3_1, d_3_2, d_4_0, d_4_1, d_4_2, d_4_3, d_5_0, d_5_1, d_5_2, d_5_3, d_5_4, d_6_0, d_6_1, d_6_2, d_6_3, d_6_4, d_6_5, d_7_0, d_7_1, d_7_2, d_7_3, d_7_4, d_7_5, d_7_6]
      · show lX9_resource_121B _ m (nI r) 4 _ _ _ _ (-1) z h = _
        simp (disch := omega) only [lX9_resource_121B, ↓reduceIte, e1, d_1_0, d_2_0, d_2_1, d_3_0, d_3_1, d_3_2, d_4_0, d_4_1, d_4_2, d_4_3, d_5_0, d_5_1, d_5_2, d_5_3, d_5_4, d_6_0, d_6_1, d_6_2, d_6_3, d_6_4, d_6_5, d_7_0, d_7_1, d_7_2, d_7_3, d_7_4, d_7_5, d_7_6]
  | succ k ih =>
    intro hk fuel hf
    cases fuel with
    | zero => omega
    | succ fuel =>
      have h3 := ih (by omega) fuel (by omega)
      have h4 := rs_in hM hn hW hr (t := k) (by omega) (nI j) (vR q r 1) (vR q r 2) (oH q r (k + 1)) (oO q r (k + 1)) (lX9_resource_121 fuel) z (nr q) 0 (by omega) fu (by unfold fu; omega)
      simp only [anyB_and, pd_e] at h4
      rw [oH_s q r (by omega), oO_s q r (by omega)] at h3
      unfold ovr at h3
      rw [h3, nI_0] at h4
      have f0 : ∀ (b : Bool) (c : Nat → Bool), (b && anyB 0 c) = false := fun b c => by cases b <;> rfl
      simp only [f0, Bool.false_eq_true, if_false] at h4
      show lX9_resource_121B _ m (nI r) (nI j) _ _ _ _ (nI k) z h = _
      simp (disch := omega) only [lX9_resource_121B, nI_negE, ↓reduceIte]
      exact h4
theorem rs_53 {h : AH} {m : Nat} {q : Nat → Int32} (hM : MO h m) (hn : nord (ps h m) q) (hW : WFr q) {r j : Nat} (hr : r < nr q) (hj : j ≤ 4) (z : Nat) : ∀ (d k : Nat), k + d = nr q → ∀ fuel, d < fuel →
    lX9_resource_53 fuel m (nI r) (nI j) (nI (cnt k (fun i => decide (i ≠ r) && bel q r i))) (mk k (fun i => bel q i r)) (-1) 0 (nI k) z h = some (vR q r j, z, h) := by
  intro d
  have hn16 := hW.2.1
  have hWp := WFr_nord hn.sy hW
  have hnr : nr (ps h m) = nr q := nr_nord hn
  have e0 : iv h (m + 1) 0 = nI (nr q) := (hn 0 (by omega)).trans hW.1
  induction d with
  | zero =>
    intro k hk fuel hf
    obtain rfl : k = nr q := by omega
    cases fuel with
    | zero => omega
    | succ fuel =>
      have h3 := rs_out hM hn hW hr hj z 10 (by omega) fu (by unfold fu; omega)
      rw [show oH q r 10 = -1 from rfl, show oO q r 10 = 0 from (mk_0 (by omega)).mpr (fun i hi => by rw [decide_eq_false (by omega)]; rfl), show pd 10 = 9 from rfl] at h3
      obtain ⟨hk, r0, r1, r3, r4, r10, r11, r13, r14, r15, k1, k2, k3, k4, k5, k6, k7, k8, k9, l1, l2, l3, l4, l5, l6, l7, l8, l9⟩ := id hM
      show lX9_resource_53B _ _ _ _ _ _ _ _ _ _ _ = _
      simp (disch := omega) only [lX9_resource_53B, ↓gd, ↓bl, ↓on, ↓xr, ↓reduceIte, if_true, if_false, kd_wI, ln_wI, rv_wI, iv_wI, jv_wI, kd_wJ, ln_wJ, rv_wJ, iv_wJ, nI_clamp, nI_leE, nI_ltE, nI_eqE, m1_ne, bit_0, bit_1, nI_negE, leN_F, leN_T, ltN_F, ltN_T, eqN_F, or_false, false_or, or_true, true_or, not_false_eq_true, not_true_eq_false, and_true, true_and, and_false, false_and, ↓bb r0, ↓bb r1, ↓bb r3, ↓bb r4, ↓bb r10, ↓bb r11, ↓bb r13, ↓bb r14, ↓bb r15, hk, k1, k2, k3, k4, k5, k6, k7, k8, k9, l1, l2, l3, l4, l5, l6, l7, l8, l9, ix0, lt00, e0, Int32.le_refl]
      exact h3
  | succ d ih =>
    intro k hk fuel hf
    cases fuel with
    | zero => omega
    | succ fuel =>
      have h3 := ih (k + 1) (by omega) fuel (by omega)
      rw [mk_s, cnt_s1] at h3
      have x3 := e9_isBelow hM hWp (r := r) (o := k) (by omega) (by omega) z
      rw [bel_nord hn hWp k (r + 1) r (by omega) (by omega)] at x3
      have x4 := e9_isBelow hM hWp (r := k) (o := r) (by omega) (by omega) z
      rw [bel_nord hn hWp r (k + 1) k (by omega) (by omega)] at x4
      rw [← h3]
      clear h3 ih
      have a0 : ∀ n : Nat, nI n + 0 = nI (n + 0) := fun n => nI_add n 0
      obtain ⟨hk, r0, r1, r3, r4, r10, r11, r13, r14, r15, k1, k2, k3, k4, k5, k6, k7, k8, k9, l1, l2, l3, l4, l5, l6, l7, l8, l9⟩ := id hM
      show lX9_resource_53B _ _ _ _ _ _ _ _ _ _ _ = _
      by_cases ek : k = r
      · subst ek
        have e1 : (decide (k ≠ k) && true) = false := by simp
        have e2 := bel_self q k
        rw [e2] at x4
        simp (disch := omega) only [lX9_resource_53B, bX9_resource_85, bX9_resource_86, bX9_resource_108, ↓gd, ↓bl, ↓on, ↓xr, ↓reduceIte, if_true, if_false, kd_wI, ln_wI, rv_wI, iv_wI, jv_wI, kd_wJ, ln_wJ, rv_wJ, iv_wJ, nI_clamp, nI_leE, nI_ltE, nI_eqE, m1_ne, bit_0, bit_1, nI_negE, leN_F, leN_T, ltN_F, ltN_T, eqN_F, or_false, false_or, or_true, true_or, not_false_eq_true, not_true_eq_false, and_true, true_and, and_false, false_and, ↓bb r0, ↓bb r1, ↓bb r3, ↓bb r4, ↓bb r10, ↓bb r11, ↓bb r13, ↓bb r14, ↓bb r15, hk, k1, k2, k3, k4, k5, k6, k7, k8, k9, l1, l2, l3, l4, l5, l6, l7, l8, l9, ix0, lt00, e0, ↓bb3 x4, ne10, e1, e2, Bool.false_eq_true, nI_1, a0]
      · have ek2 : decide (k ≠ r) = true := decide_eq_true ek
        cases el : bel q r k
        · rw [el] at x3
          have e1 : (decide (k ≠ r) && false) = false := by simp
          cases e2 : bel q k r
          · rw [e2] at x4
            simp (disch := omega) only [lX9_resource_53B, bX9_resource_85, bX9_resource_86, bX9_resource_108, ↓gd, ↓bl, ↓on, ↓xr, ↓reduceIte, if_true, if_false, kd_wI, ln_wI, rv_wI, iv_wI, jv_wI, kd_wJ, ln_wJ, rv_wJ, iv_wJ, nI_clamp, nI_leE, nI_ltE, nI_eqE, m1_ne, bit_0, bit_1, nI_negE, leN_F, leN_T, ltN_F, ltN_T, eqN_F, or_false, false_or, or_true, true_or, not_false_eq_true, not_true_eq_false, and_true, true_and, and_false, false_and, ↓bb r0, ↓bb r1, ↓bb r3, ↓bb r4, ↓bb r10, ↓bb r11, ↓bb r13, ↓bb r14, ↓bb r15, hk, k1, k2, k3, k4, k5, k6, k7, k8, k9, l1, l2, l3, l4, l5, l6, l7, l8, l9, ix0, lt00, e0, ↓bb3 x3, ↓bb3 x4, ne10, e1, Bool.false_eq_true, nI_1, a0, or_0]
          · rw [e2] at x4
            simp (disch := omega) only [lX9_resource_53B, bX9_resource_85, bX9_resource_86, bX9_resource_108, ↓gd, ↓bl, ↓on, ↓xr, ↓reduceIte, if_true, if_false, kd_wI, ln_wI, rv_wI, iv_wI, jv_wI, kd_wJ, ln_wJ, rv_wJ, iv_wJ, nI_clamp, nI_leE, nI_ltE, nI_eqE, m1_ne, bit_0, bit_1, nI_negE, leN_F, leN_T, ltN_F, ltN_T, eqN_F, or_false, false_or, or_true, true_or, not_false_eq_true, not_true_eq_false, and_true, true_and, and_false, false_and, ↓bb r0, ↓bb r1, ↓bb r3, ↓bb r4, ↓bb r10, ↓bb r11, ↓bb r13, ↓bb r14, ↓bb r15, hk, k1, k2, k3, k4, k5, k6, k7, k8, k9, l1, l2, l3, l4, l5, l6, l7, l8, l9, ix0, lt00, e0, ↓bb3 x3, ↓bb3 x4, ne10, e1, Bool.false_eq_true, nI_1, a0]
        · rw [el] at x3
          cases e2 : bel q k r
          · rw [e2] at x4
            simp (disch := omega) only [lX9_resource_53B, bX9_resource_85, bX9_resource_86, bX9_resource_108, ↓gd, ↓bl, ↓on, ↓xr, ↓reduceIte, if_true, if_false, kd_wI, ln_wI, rv_wI, iv_wI, jv_wI, kd_wJ, ln_wJ, rv_wJ, iv_wJ, nI_clamp, nI_leE, nI_ltE, nI_eqE, m1_ne, bit_0, bit_1, nI_negE, leN_F, leN_T, ltN_F, ltN_T, eqN_F, or_false, false_or, or_true, true_or, not_false_eq_true, not_true_eq_false, and_true, true_and, and_false, false_and, ↓bb r0, ↓bb r1, ↓bb r3, ↓bb r4, ↓bb r10, ↓bb r11, ↓bb r13, ↓bb r14, ↓bb r15, hk, k1, k2, k3, k4, k5, k6, k7, k8, k9, l1, l2, l3, l4, l5, l6, l7, l8, l9, ix0, lt00, e0, ↓bb3 x3, ↓bb3 x4, ne10, ek2, Bool.and_self, Bool.false_eq_true, nI_1, or_0]
          · rw [e2] at x4
            simp (disch := omega) only [lX9_resource_53B, bX9_resource_85, bX9_resource_86, bX9_resource_108, ↓gd, ↓bl, ↓on, ↓xr, ↓reduceIte, if_true, if_false, kd_wI, ln_wI, rv_wI, iv_wI, jv_wI, kd_wJ, ln_wJ, rv_wJ, iv_wJ, nI_clamp, nI_leE, nI_ltE, nI_eqE, m1_ne, bit_0, bit_1, nI_negE, leN_F, leN_T, ltN_F, ltN_T, eqN_F, or_false, false_or, or_true, true_or, not_false_eq_true, not_true_eq_false, and_true, true_and, and_false, false_and, ↓bb r0, ↓bb r1, ↓bb r3, ↓bb r4, ↓bb r10, ↓bb r11, ↓bb r13, ↓bb r14, ↓bb r15, hk, k1, k2, k3, k4, k5, k6, k7, k8, k9, l1, l2, l3, l4, l5, l6, l7, l8, l9, ix0, lt00, e0, ↓bb3 x3, ↓bb3 x4, ne10, ek2, Bool.and_self, nI_1]
def kR (q : Nat → Int32) (a b : Int32) : Nat := if rsI q a = false then 1 else if inI b 0 4 = false then 2 else 0
def aR (A : TS) (a b : Int32) : Nat × Int32 × TS := (kR A.1.1.1 a b, vR A.1.1.1 (tn' a) (tn' b), A)
theorem kR_c (q : Nat → Int32) (a b : Int32) : (rsI q a = false ∧ kR q a b = 1) ∨ (rsI q a = true ∧ inI b 0 4 = false ∧ kR q a b = 2) ∨ (rsI q a = true ∧ inI b 0 4 = true ∧ kR q a b = 0) := by
  unfold kR
  cases h1 : rsI q a
  · exact Or.inl ⟨rfl, rfl⟩
  · cases h2 : inI b 0 4
    · exact Or.inr (Or.inl ⟨rfl, rfl, by simp⟩)
    · exact Or.inr (Or.inr ⟨rfl, rfl, by simp⟩)
theorem c_resource {h : AH} {x z : Nat} {A : TS} {B : Nat} (hC : CI h x z A) (hT : TI A B) (a b : Int32) : CC (fX8_resource x a b z h) h x z (aR A a b) eB eA := by
  have hCB := hC.2.2.1.1.2.1
  have x1 := e2_has hCB.1 hT.W hCB.2.1 a z
  have x2 := e8_isWithin b 0 4 z h
  unfold aR
  rcases kR_c A.1.1.1 a b with ⟨e1, ek⟩ | ⟨e1, e2, ek⟩ | ⟨e1, e2, ek⟩
  · refine CC_err hC hT ?_
    rw [ek]
    have x1 : fX2_has (x + 1 + 1) a z h = some (0, z, h) := by rw [x1, e1]; rfl
    obtain ⟨o1, o2, o3, o4, o5, o6, o7, o8, o9, o10, o11, o12, o13, o14, o15, o16⟩ := id hC.1
    have hB := hC.2.2.1.1.2.1.1
    have u1 := hB.1
    have u2 := hB.2.1
    have u3 := hB.2.2.2.2.2.2.2.2.2.1
    have u4 := hC.2.2.1.1.1.1
    simp (disch := omega) only [fX8_resource, ↓gd, ↓bl, ↓xr, ↓reduceIte, o1, ↓bb o2, ↓bb o3, ↓bb o4, ↓bb o5, ↓bb o6, ↓bb o7, ↓bb o8, o9, ↓bb o10, o11, o12, o13, ↓bb o14, o15, o16, u1, ↓bb u2, u3, u4, ↓bb3 x1, ↓bb3 (nT0 _ _)]
    rfl
  · refine CC_err hC hT ?_
    rw [ek]
    have x1 : fX2_has (x + 1 + 1) a z h = some (1, z, h) := by rw [x1, e1]; rfl
    have x2 : fX8_isWithin b 0 4 z h = some (0, z, h) := by rw [x2, e2]; rfl
    obtain ⟨o1, o2, o3, o4, o5, o6, o7, o8, o9, o10, o11, o12, o13, o14, o15, o16⟩ := id hC.1
    have hB := hC.2.2.1.1.2.1.1
    have u1 := hB.1
    have u2 := hB.2.1
    have u3 := hB.2.2.2.2.2.2.2.2.2.1
    have u4 := hC.2.2.1.1.1.1
    simp (disch := omega) only [fX8_resource, ↓gd, ↓bl, ↓xr, ↓reduceIte, o1, ↓bb o2, ↓bb o3, ↓bb o4, ↓bb o5, ↓bb o6, ↓bb o7, ↓bb o8, o9, ↓bb o10, o11, o12, o13, ↓bb o14, o15, o16, u1, ↓bb u2, u3, u4, ↓bb3 x1, ↓bb3 (nT1 _ _), ↓bb3 x2, ↓bb3 (nV0 _ _)]
    rfl
  · rw [ek]
    refine CC_ask hC ?_
    obtain ⟨r, r16, rfl, hr, er⟩ := rsI_of e1
    obtain ⟨j, hj, rfl⟩ := inI_of (n := 4) (by omega) e2
    rw [er, show tn' (nI j) = j from nI_clamp (by omega)]
    exact e8_resource hC hT hr hj
theorem r_resource {h : AH} {m z : Nat} {A : TS} {B : Nat} (hR : RI h m A) (hT : TI A B) (a b : Int32) : RR (fX9_resource m a b z h) h m z (aR A a b) := by
  have hk0 := hR.1.1
  have hWp : WFr (ps h m) := (hR.2.1.wq hT.1.1).1
  have x1 := e9_isRes hR.1 hWp a z
  rw [rsI_nord hR.2.1.1] at x1
  have x2 := e9_in b 0 4 z h
  unfold aR
  rcases kR_c A.1.1.1 a b with ⟨e1, ek⟩ | ⟨e1, e2, ek⟩ | ⟨e1, e2, ek⟩
  · rw [ek]
    refine RR_code (v' := 0) hR (fun h9 => absurd h9 (by decide)) ?_
    rw [e1] at x1
    simp (disch := omega) only [fX9_resource, bX9_resource_27, ↓gd, ↓bl, ↓reduceIte, ↓bb3 x1, Bool.false_eq_true, hk0, kd_wI, iv6, li1E]
    rfl
  · rw [ek]
    refine RR_code (v' := 0) hR (fun h9 => absurd h9 (by decide)) ?_
    rw [e1] at x1
    rw [e2] at x2
    simp (disch := omega) only [fX9_resource, bX9_resource_27, ↓gd, ↓bl, ↓reduceIte, ↓bb3 x1, ↓bb3 x2, Bool.false_eq_true, ne10, hk0, kd_wI, iv6, li2E]
    rfl
  · rw [ek]
    obtain ⟨r, r16, rfl, hr, er⟩ := rsI_of e1
    obtain ⟨j, hj, rfl⟩ := inI_of (n := 4) (by omega) e2
    rw [er, show tn' (nI j) = j from nI_clamp (by omega)]
    refine RR_code (v' := vR A.1.1.1 r j) hR (fun _ => rfl) ?_
    obtain ⟨c1, c2, c3⟩ := RI_code hR (nI 0)
    have x3 := rs_53 c1.1 c1.2.1.1 hT.W hr hj z (nr A.1.1.1) 0 (by omega) fu (by have := hT.W.2.1; unfold fu; omega)
    rw [show mk 0 (fun i => bel A.1.1.1 i r) = 0 from rfl, show cnt 0 (fun i => decide (i ≠ r) && bel A.1.1.1 r i) = 0 from rfl] at x3
    rw [nI_0] at x3 ⊢
    rw [e1] at x1
    rw [e2] at x2
    simp (disch := omega) only [fX9_resource, bX9_resource_27, ↓gd, ↓bl, ↓reduceIte, ↓bb3 x1, ↓bb3 x2, ne10, hk0, kd_wI, iv6, le00]
    exact x3
