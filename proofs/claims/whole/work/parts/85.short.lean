/-! shortestCycle -/
def nxE (E : Nat → Int32) (F : Int32) : Nat → Int32
  | 0 => 0
  | k + 1 => if bt F k then nxE E F k ||| E k else nxE E F k
theorem nxE_s (E : Nat → Int32) (F : Int32) (k : Nat) : nxE E F (k + 1) = if bt F k then nxE E F k ||| E k else nxE E F k := rfl
theorem bt_nxE (E : Nat → Int32) (F : Int32) (i : Nat) : ∀ n, bt (nxE E F n) i = anyB n (fun u => bt F u && bt (E u) i) := by
  intro n
  induction n with
  | zero => exact b_0 i
  | succ n ih =>
    rw [nxE_s, anyB_s, ← ih]
    cases bt F n
    · simp
    · simp [b_or]
theorem nxE_a {E E' : Nat → Int32} (h : agr E E') (F : Int32) : ∀ n, n ≤ 10 → nxE E F n = nxE E' F n := by
  intro n
  induction n with
  | zero => intro _; rfl
  | succ n ih => intro hn; rw [nxE_s, nxE_s, ih (by omega), h n (by omega)]
def scC (E : Nat → Int32) (t : Nat) : Nat → Nat → Int32 → Int32
  | 0, _, _ => -1
  | d + 1, k, F => if bt F t then nI k else scC E t d (k + 1) (nxE E F 10)
def scR (E : Nat → Int32) (t : Nat) : Nat → Nat → Int32 → Int32
  | 0, _, _ => -1
  | d + 1, k, S => if bt S t then nI k else scR E t d (k + 1) (S ||| nxE E S 10)
theorem scCR {E : Nat → Int32} {t : Nat} : ∀ (d k : Nat) (F S O : Int32), S = O ||| F → bt O t = false → (∀ u, u < 10 → bt O u = true → ∀ i, bt (E u) i = true → bt S i = true) → scC E t d k F = scR E t d k S := by
  intro d
  induction d with
  | zero => intros; rfl
  | succ d ih =>
    intro k F S O h1 h2 h3
    have e : bt S t = bt F t := by rw [h1, b_or, h2, Bool.false_or]
    show (if bt F t then nI k else scC E t d (k + 1) (nxE E F 10)) = if bt S t then nI k else scR E t d (k + 1) (S ||| nxE E S 10)
    rw [e]
    cases ef : bt F t
    · simp only [Bool.false_eq_true, if_false]
      refine ih (k + 1) _ _ S ?_ (e.trans ef) (fun u hu hb i hi => ?_)
      · refine b_ext (fun i hi => ?_)
        rw [b_or, b_or, bt_nxE, bt_nxE]
        cases es : bt S i
        · rw [Bool.false_or, Bool.false_or]
          rw [Bool.eq_iff_iff, anyB_iff, anyB_iff]
          constructor
          · rintro ⟨u, hu, hv⟩
            rw [Bool.and_eq_true] at hv
            refine ⟨u, hu, ?_⟩
            rw [Bool.and_eq_true]
            refine ⟨?_, hv.2⟩
            have hs := hv.1
            rw [h1, b_or, Bool.or_eq_true] at hs
            rcases hs with h9 | h9
            · have := h3 u hu h9 i hv.2
              rw [es] at this
              cases this
            · exact h9
          · rintro ⟨u, hu, hv⟩
            rw [Bool.and_eq_true] at hv
            refine ⟨u, hu, ?_⟩
            rw [Bool.and_eq_true, h1, b_or, hv.1, Bool.or_true]
            exact ⟨rfl, hv.2⟩
        · rfl
      · rw [b_or, bt_nxE, Bool.or_eq_true, anyB_iff]
        exact Or.inr ⟨u, hu, by rw [hb, hi]; rfl⟩
    · rfl
theorem sh_in {h : AH} {x : Nat} {E : Nat → Int32} (hD : DS h x) (hE : agr (iv h (x + 36)) E) (x1 F x3 : Int32) (qq : Nat → Int32 → Int32 → Int32 → Nat → AH → Option (Int32 × Nat × AH)) (z : Nat) : ∀ (d k : Nat), k + d = 10 → ∀ fuel, d < fuel → lX7_shortestRing_30 qq fuel (x + 35) x1 F x3 (nxE E F k) (nI k) z h = qq (x + 35) x1 (nxE E F 10) (x3 + 1) z h := by
  intro d
  obtain ⟨d1, d2, d3, d4, d5, d6, d7, d8, d9, d10, d11, d12, d13, d14, d15⟩ := id hD
  induction d with
  | zero =>
    intro k hk fuel hf
    obtain rfl : k = 10 := by omega
    cases fuel with
    | zero => omega
    | succ fuel =>
      show lX7_shortestRing_30B _ _ _ _ _ _ _ _ _ _ = _
      simp (disch := omega) only [lX7_shortestRing_30B, li10, Int32.le_refl, ↓reduceIte]
  | succ d ih =>
    intro k hk fuel hf
    cases fuel with
    | zero => omega
    | succ fuel =>
      have h3 := ih (k + 1) (by omega) fuel (by omega)
      rw [nxE_s] at h3
      have x2 := e8_inSet F (k := k) (by omega) z h
      have e1 : iv h (x + 36) k = E k := hE k (by omega)
      show lX7_shortestRing_30B _ _ _ _ _ _ _ _ _ _ = _
      cases eb : bt F k
      · rw [eb] at x2 h3
        simp only [Bool.false_eq_true, if_false] at h3
        simp (disch := omega) only [lX7_shortestRing_30B, bX7_shortestRing_58, ↓gd, ↓bl, ↓on, ↓xr, ↓reduceIte, if_true, if_false, kd_wI, ln_wI, rv_wI, iv_wI, jv_wI, kd_wJ, ln_wJ, rv_wJ, iv_wJ, nI_clamp, nI_leE, nI_ltE, nI_eqE, m1_ne, bit_0, bit_1, nI_negE, leN_F, leN_T, ltN_F, ltN_T, eqN_F, or_false, false_or, or_true, true_or, not_false_eq_true, not_true_eq_false, and_true, true_and, and_false, false_and, li10, ↓bb3 x2, Bool.false_eq_true, nI_1]
        exact h3
      · rw [eb] at x2 h3
        simp only [if_true] at h3
        simp (disch := omega) only [lX7_shortestRing_30B, bX7_shortestRing_58, ↓gd, ↓bl, ↓on, ↓xr, ↓reduceIte, if_true, if_false, kd_wI, ln_wI, rv_wI, iv_wI, jv_wI, kd_wJ, ln_wJ, rv_wJ, iv_wJ, nI_clamp, nI_leE, nI_ltE, nI_eqE, m1_ne, bit_0, bit_1, nI_negE, leN_F, leN_T, ltN_F, ltN_T, eqN_F, or_false, false_or, or_true, true_or, not_false_eq_true, not_true_eq_false, and_true, true_and, and_false, false_and, li10, ↓bb3 x2, ne10, d9, ↓bb d10, d12, d13, e1, nI_1]
        exact h3
theorem sh_out {h : AH} {x : Nat} {E : Nat → Int32} (hD : DS h x) (hE : agr (iv h (x + 36)) E) {t : Nat} (ht : t < 10) (z : Nat) : ∀ (d k : Nat) (F : Int32), k + d = 11 → ∀ fuel, d < fuel → lX7_shortestRing_8 fuel (x + 35) (nI t) F (nI k) z h = some (scC E t d k F, z, h) := by
  intro d
  induction d with
  | zero =>
    intro k F hk fuel hf
    obtain rfl : k = 11 := by omega
    cases fuel with
    | zero => omega
    | succ fuel =>
      show lX7_shortestRing_8B _ _ _ _ _ _ _ = _
      simp (disch := omega) only [lX7_shortestRing_8B, ↓gd, ↓bl, ↓on, ↓xr, ↓reduceIte, if_true, if_false, kd_wI, ln_wI, rv_wI, iv_wI, jv_wI, kd_wJ, ln_wJ, rv_wJ, iv_wJ, nI_clamp, nI_leE, nI_ltE, nI_eqE, m1_ne, bit_0, bit_1, nI_negE, leN_F, leN_T, ltN_F, ltN_T, eqN_F, or_false, false_or, or_true, true_or, not_false_eq_true, not_true_eq_false, and_true, true_and, and_false, false_and, li10]
      rfl
  | succ d ih =>
    intro k F hk fuel hf
    cases fuel with
    | zero => omega
    | succ fuel =>
      have h3 := ih (k + 1) (nxE E F 10) (by omega) fuel (by omega)
      have x2 := e8_inSet F (k := t) (by omega) z h
      have h4 := sh_in hD hE (nI t) F (nI k) (lX7_shortestRing_8 fuel) z 10 0 (by omega) fu (by unfold fu; omega)
      rw [nI_1, h3, nI_0] at h4
      show lX7_shortestRing_8B _ _ _ _ _ _ _ = some (if bt F t then nI k else scC E t d (k + 1) (nxE E F 10), z, h)
      cases eb : bt F t
      · rw [eb] at x2
        simp (disch := omega) only [lX7_shortestRing_8B, ↓gd, ↓bl, ↓on, ↓xr, ↓reduceIte, if_true, if_false, kd_wI, ln_wI, rv_wI, iv_wI, jv_wI, kd_wJ, ln_wJ, rv_wJ, iv_wJ, nI_clamp, nI_leE, nI_ltE, nI_eqE, m1_ne, bit_0, bit_1, nI_negE, leN_F, leN_T, ltN_F, ltN_T, eqN_F, or_false, false_or, or_true, true_or, not_false_eq_true, not_true_eq_false, and_true, true_and, and_false, false_and, li10, ↓bb3 x2, Bool.false_eq_true]
        exact h4
      · rw [eb] at x2
        simp (disch := omega) only [lX7_shortestRing_8B, ↓gd, ↓bl, ↓on, ↓xr, ↓reduceIte, if_true, if_false, kd_wI, ln_wI, rv_wI, iv_wI, jv_wI, kd_wJ, ln_wJ, rv_wJ, iv_wJ, nI_clamp, nI_leE, nI_ltE, nI_eqE, m1_ne, bit_0, bit_1, nI_negE, leN_F, leN_T, ltN_F, ltN_T, eqN_F, or_false, false_or, or_true, true_or, not_false_eq_true, not_true_eq_false, and_true, true_and, and_false, false_and, li10, ↓bb3 x2, ne10]
def vSc (q : Nat → Int32) (t : Nat) : Int32 := scC (ng q) t 10 1 (ng q t)
def kS (q : Nat → Int32) (a : Int32) : Nat := if tkI q a = false then 1 else 0
def aSc (A : TS) (a : Int32) : Nat × Int32 × TS := (kS A.1.1.1 a, vSc A.1.1.1 (tn' a), A)
theorem c_shortestCycle {h : AH} {x z : Nat} {A : TS} {B : Nat} (hC : CI h x z A) (hT : TI A B) (a : Int32) : CC (fX8_shortestCycle x a z h) h x z (aSc A a) eB eS := by
  have hCB := hC.2.2.1.1.2.1
  have x1 := e0_has hCB.1 hCB.2.2.1 a z
  unfold aSc
  cases e1 : tkI A.1.1.1 a
  · have ek : kS A.1.1.1 a = 1 := by unfold kS; rw [e1]; rfl
    refine CC_err hC hT ?_
    rw [ek]
    have x1 : fX0_has (x + 1) a z h = some (0, z, h) := by rw [x1, e1]; rfl
    obtain ⟨o1, o2, o3, o4, o5, o6, o7, o8, o9, o10, o11, o12, o13, o14, o15, o16⟩ := id hC.1
    have hB := hC.2.2.1.1.2.1.1
    have u1 := hB.1
    have u2 := hB.2.1
    have u3 := hB.2.2.2.2.2.2.2.2.2.1
    have u4 := hC.2.2.1.1.1.1
    simp (disch := omega) only [fX8_shortestCycle, ↓gd, ↓bl, ↓xr, ↓reduceIte, o1, ↓bb o2, ↓bb o3, ↓bb o4, ↓bb o5, ↓bb o6, ↓bb o7, ↓bb o8, o9, ↓bb o10, o11, o12, o13, ↓bb o14, o15, o16, u1, ↓bb u2, u3, u4, ↓bb3 x1, ↓bb3 (nT0 _ _)]
    rfl
  · have ek : kS A.1.1.1 a = 0 := by unfold kS; rw [e1]; rfl
    rw [ek]
    have x1 : fX0_has (x + 1) a z h = some (1, z, h) := by rw [x1, e1]; rfl
    obtain ⟨t, ht, rfl, hth, et⟩ := tkI_of e1
    rw [et]
    obtain ⟨h', v1, v2, v3, v4⟩ := c_read hC hT
    refine ⟨z, h', ?_, Nat.le_refl _, v2, v3⟩
    have hD := v2.2.2.1.1.1
    have d5 : kd h (x + 35) = 8 := hC.2.2.1.1.1.2.2.2.2.2.2.2.2.1
    have g5 : kd h' (x + 35) = 8 := hD.2.2.2.2.2.2.2.2.1
    have x2 := e7_of hD v4 ht z
    have x3 := sh_out hD v4.1 ht z 10 1 (ng A.1.1.1 t) (by omega) fu (by unfold fu; omega)
    have x4 : fX7_shortestRing (x + 35) (nI t) z h' = some (vSc A.1.1.1 t, z, h') := by
      simp (disch := omega) only [fX7_shortestRing, ↓gd, ↓reduceIte, g5, ↓bb3 x2]
      exact x3
    have hC1 := v2
    obtain ⟨o1, o2, o3, o4, o5, o6, o7, o8, o9, o10, o11, o12, o13, o14, o15, o16⟩ := id hC.1
    have hB := hC.2.2.1.1.2.1.1
    have u1 := hB.1
    have u2 := hB.2.1
    have u3 := hB.2.2.2.2.2.2.2.2.2.1
    have u4 := hC.2.2.1.1.1.1
    obtain ⟨p1, p2, p3, p4, p5, p6, p7, p8, p9, p10, p11, p12, p13, p14, p15, p16⟩ := id hC1.1
    have hB1 := hC1.2.2.1.1.2.1.1
    have y1 := hB1.1
    have y2 := hB1.2.1
    have y3 := hB1.2.2.2.2.2.2.2.2.2.1
    have y4 := hC1.2.2.1.1.1.1
    simp (disch := omega) only [fX8_shortestCycle, ↓gd, ↓bl, ↓xr, ↓reduceIte, o1, ↓bb o2, ↓bb o3, ↓bb o4, ↓bb o5, ↓bb o6, ↓bb o7, ↓bb o8, o9, ↓bb o10, o11, o12, o13, ↓bb o14, o15, o16, u1, ↓bb u2, u3, u4, ↓bb3 x1, ↓bb3 (nT1 _ _), d5, ↓bb2 v1, p1, ↓bb p2, ↓bb p3, ↓bb p4, ↓bb p5, ↓bb p6, ↓bb p7, ↓bb p8, p9, ↓bb p10, p11, p12, p13, ↓bb p14, p15, p16, y1, ↓bb y2, y3, y4, g5, ↓bb3 x4]
    rfl
theorem sr_in {h : AH} {m : Nat} {E : Nat → Int32} (hM : MO h m) (hE : agr (iv h (m + 7)) E) (x1 S x3 : Int32) (qq : Nat → Int32 → Int32 → Int32 → Nat → AH → Option (Int32 × Nat × AH)) (z : Nat) : ∀ (d k : Nat), k + d = 10 → ∀ fuel, d < fuel → lX9_shortestCycle_65 qq fuel m x1 S x3 (S ||| nxE E S k) (nI k) z h = qq m x1 (S ||| nxE E S 10) (x3 + 1) z h := by
  intro d
  obtain ⟨hk, r0, r1, r3, r4, r10, r11, r13, r14, r15, k1, k2, k3, k4, k5, k6, k7, k8, k9, l1, l2, l3, l4, l5, l6, l7, l8, l9⟩ := id hM
  induction d with
  | zero =>
    intro k hkk fuel hf
    obtain rfl : k = 10 := by omega
    cases fuel with
    | zero => omega
    | succ fuel =>
      show lX9_shortestCycle_65B _ _ _ _ _ _ _ _ _ _ = _
      simp (disch := omega) only [lX9_shortestCycle_65B, li10, Int32.le_refl, ↓reduceIte]
  | succ d ih =>
    intro k hkk fuel hf
    cases fuel with
    | zero => omega
    | succ fuel =>
      have h3 := ih (k + 1) (by omega) fuel (by omega)
      rw [nxE_s] at h3
      have e1 : iv h (m + 7) k = E k := hE k (by omega)
      show lX9_shortestCycle_65B _ _ _ _ _ _ _ _ _ _ = _
      cases eb : bt S k
      · rw [eb] at h3
        simp only [Bool.false_eq_true, if_false] at h3
        simp (disch := omega) only [lX9_shortestCycle_65B, bX9_shortestCycle_95, ↓gd, ↓bl, ↓on, ↓xr, ↓reduceIte, if_true, if_false, kd_wI, ln_wI, rv_wI, iv_wI, jv_wI, kd_wJ, ln_wJ, rv_wJ, iv_wJ, nI_clamp, nI_leE, nI_ltE, nI_eqE, m1_ne, bit_0, bit_1, nI_negE, leN_F, leN_T, ltN_F, ltN_T, eqN_F, or_false, false_or, or_true, true_or, not_false_eq_true, not_true_eq_false, and_true, true_and, and_false, false_and, li10, eb, Bool.false_eq_true, or_0, nI_1]
        exact h3
      · rw [eb] at h3
        simp only [if_true] at h3
        rw [← Int32.or_assoc] at h3
        simp (disch := omega) only [lX9_shortestCycle_65B, bX9_shortestCycle_95, ↓gd, ↓bl, ↓on, ↓xr, ↓reduceIte, if_true, if_false, kd_wI, ln_wI, rv_wI, iv_wI, jv_wI, kd_wJ, ln_wJ, rv_wJ, iv_wJ, nI_clamp, nI_leE, nI_ltE, nI_eqE, m1_ne, bit_0, bit_1, nI_negE, leN_F, leN_T, ltN_F, ltN_T, eqN_F, or_false, false_or, or_true, true_or, not_false_eq_true, not_true_eq_false, and_true, true_and, and_false, false_and, ↓bb r0, ↓bb r1, ↓bb r3, ↓bb r4, ↓bb r10, ↓bb r11, ↓bb r13, ↓bb r14, ↓bb r15, hk, k1, k2, k3, k4, k5, k6, k7, k8, k9, l1, l2, l3, l4, l5, l6, l7, l8, l9, li10, eb, e1, nI_1]
        exact h3
theorem sr_out {h : AH} {m : Nat} {E : Nat → Int32} (hM : MO h m) (hE : agr (iv h (m + 7)) E) {t : Nat} (ht : t < 10) (z : Nat) : ∀ (d k : Nat) (S : Int32), k + d = 11 → ∀ fuel, d < fuel → lX9_shortestCycle_42 fuel m (nI t) S (nI k) z h = some (scR E t d k S, z, h) := by
  intro d
  induction d with
  | zero =>
    intro k S hk fuel hf
    obtain rfl : k = 11 := by omega
    cases fuel with
    | zero => omega
    | succ fuel =>
      show lX9_shortestCycle_42B _ _ _ _ _ _ _ = _
      simp (disch := omega) only [lX9_shortestCycle_42B, ↓gd, ↓bl, ↓on, ↓xr, ↓reduceIte, if_true, if_false, kd_wI, ln_wI, rv_wI, iv_wI, jv_wI, kd_wJ, ln_wJ, rv_wJ, iv_wJ, nI_clamp, nI_leE, nI_ltE, nI_eqE, m1_ne, bit_0, bit_1, nI_negE, leN_F, leN_T, ltN_F, ltN_T, eqN_F, or_false, false_or, or_true, true_or, not_false_eq_true, not_true_eq_false, and_true, true_and, and_false, false_and, li10]
      rfl
  | succ d ih =>
    intro k S hk fuel hf
    cases fuel with
    | zero => omega
    | succ fuel =>
      have h3 := ih (k + 1) (S ||| nxE E S 10) (by omega) fuel (by omega)
      have h4 := sr_in hM hE (nI t) S (nI k) (lX9_shortestCycle_42 fuel) z 10 0 (by omega) fu (by unfold fu; omega)
      rw [nI_1, h3, nI_0, show nxE E S 0 = 0 from rfl, or_0] at h4
      show lX9_shortestCycle_42B _ _ _ _ _ _ _ = some (if bt S t then nI k else scR E t d (k + 1) (S ||| nxE E S 10), z, h)
      cases eb : bt S t
      · simp (disch := omega) only [lX9_shortestCycle_42B, ↓gd, ↓bl, ↓on, ↓xr, ↓reduceIte, if_true, if_false, kd_wI, ln_wI, rv_wI, iv_wI, jv_wI, kd_wJ, ln_wJ, rv_wJ, iv_wJ, nI_clamp, nI_leE, nI_ltE, nI_eqE, m1_ne, bit_0, bit_1, nI_negE, leN_F, leN_T, ltN_F, ltN_T, eqN_F, or_false, false_or, or_true, true_or, not_false_eq_true, not_true_eq_false, and_true, true_and, and_false, false_and, li10, eb, Bool.false_eq_true]
        exact h4
      · simp (disch := omega) only [lX9_shortestCycle_42B, ↓gd, ↓bl, ↓on, ↓xr, ↓reduceIte, if_true, if_false, kd_wI, ln_wI, rv_wI, iv_wI, jv_wI, kd_wJ, ln_wJ, rv_wJ, iv_wJ, nI_clamp, nI_leE, nI_ltE, nI_eqE, m1_ne, bit_0, bit_1, nI_negE, leN_F, leN_T, ltN_F, ltN_T, eqN_F, or_false, false_or, or_true, true_or, not_false_eq_true, not_true_eq_false, and_true, true_and, and_false, false_and, li10, eb]
theorem r_shortestCycle {h : AH} {m z : Nat} {A : TS} {B : Nat} (hR : RI h m A) (hT : TI A B) (a : Int32) : RR (fX9_shortestCycle m a z h) h m z (aSc A a) := by
  have hk0 := hR.1.1
  have x1 := e9_isTask hR.1 a z
  rw [tkI_nord hR.2.1.1] at x1
  unfold aSc
  cases e1 : tkI A.1.1.1 a
  · have ek : kS A.1.1.1 a = 1 := by unfold kS; rw [e1]; rfl
    rw [ek]
    refine RR_code (v' := 0) hR (fun h9 => absurd h9 (by decide)) ?_
    rw [e1] at x1
    simp (disch := omega) only [fX9_shortestCycle, bX9_shortestCycle_14, ↓gd, ↓bl, ↓reduceIte, ↓bb3 x1, Bool.false_eq_true, hk0, kd_wI, iv6, li1E]
    rfl
  · have ek : kS A.1.1.1 a = 0 := by unfold kS; rw [e1]; rfl
    rw [ek]
    rw [e1] at x1
    obtain ⟨t, ht, rfl, hth, et⟩ := tkI_of e1
    rw [et]
    obtain ⟨c1, c2, c3⟩ := RI_code hR (nI 0)
    rw [nI_0] at c1 c2 c3
    obtain ⟨h', v1, v2, v3, v4, -⟩ := r_lays (z := z) c1 hT 1023
    have v4 : agr (iv h' (m + 7)) (ng A.1.1.1) := v4.tr (er_all A.1.1.1)
    have x3 := sr_out v2.1 v4 ht z 10 1 (ng A.1.1.1 t) (by omega) fu (by unfold fu; omega)
    rw [← scCR 10 1 (ng A.1.1.1 t) (ng A.1.1.1 t) 0 (by rw [Int32.or_comm, or_0]) (b_0 t) (fun u _ hb => by rw [b_0] at hb; cases hb)] at x3
    have x3 : lX9_shortestCycle_42 fu m (nI t) (ng A.1.1.1 t) 1 z h' = some (vSc A.1.1.1 t, z, h') := x3
    refine ⟨vSc A.1.1.1 t, h', ?_, fun _ => rfl, v2, c2.tr (v3.mono PL2_R), ?_⟩
    · have e2 : iv h' (m + 7) t = ng A.1.1.1 t := v4 t ht
      have hM := v2.1
      obtain ⟨hk, r0, r1, r3, r4, r10, r11, r13, r14, r15, k1, k2, k3, k4, k5, k6, k7, k8, k9, l1, l2, l3, l4, l5, l6, l7, l8, l9⟩ := id hM
      simp (disch := omega) only [fX9_shortestCycle, bX9_shortestCycle_14, ↓gd, ↓bl, ↓reduceIte, ↓bb3 x1, ne10, hk0, kd_wI, iv6, le00, ↓bb2 v1, ↓bb r0, ↓bb r1, ↓bb r3, ↓bb r4, ↓bb r10, ↓bb r11, ↓bb r13, ↓bb r14, ↓bb r15, hk, k1, k2, k3, k4, k5, k6, k7, k8, k9, l1, l2, l3, l4, l5, l6, l7, l8, l9, nI_negE, nI_clamp, leN_F, or_false, not_false_eq_true, e2]
      exact x3
    · rw [iv_F v3 (by unfold PL2; omega)]; exact c3
