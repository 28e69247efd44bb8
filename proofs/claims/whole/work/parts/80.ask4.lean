/-! onCycles, stuck -/
theorem RI_f {P : Nat → Prop} {h h' : AH} {m : Nat} {A : TS} (hP : ∀ b, P b → b = m + 6 ∨ b = m + 7 ∨ b = m + 8 ∨ b = m + 9) (hF : Fq P h h') (hR : RI h m A) : RI h' m A := by
  have g : ∀ b, b ≠ m + 6 → b ≠ m + 7 → b ≠ m + 8 → b ≠ m + 9 → iv h' b = iv h b := fun b h1 h2 h3 h4 => iv_F hF (fun h9 => by have := hP b h9; omega)
  obtain ⟨r1, r2, r3, r4, r5, r6, r7, r8, r9, r10⟩ := hR
  have gm : iv h' m = iv h m := g m (by omega) (by omega) (by omega) (by omega)
  refine ⟨MO_c hF.1 hF.2.1 r1, ?_, ?_, ?_, ?_, r6, ?_, ?_, r9, ?_⟩
  · rw [g (m + 1) (by omega) (by omega) (by omega) (by omega)]; exact r2
  · rw [g (m + 3) (by omega) (by omega) (by omega) (by omega)]; exact r3
  · unfold LM at r4 ⊢; rw [gm]; exact r4
  · rw [gm]; exact r5
  · rw [g (m + 2) (by omega) (by omega) (by omega) (by omega)]; exact r7
  · rw [gm]; exact r8
  · rw [g (m + 4) (by omega) (by omega) (by omega) (by omega)]; exact r10
theorem PL2_ok {m : Nat} : ∀ b, PL2 m b → b = m + 6 ∨ b = m + 7 ∨ b = m + 8 ∨ b = m + 9 := fun b hb => by unfold PL2 at hb; omega
theorem PL2_R {m : Nat} : ∀ b, PL2 m b → PR m b := fun b hb => by unfold PL2 at hb; unfold PR; omega
theorem PW_E {x : Nat} : ∀ b, PW x b → PE x b := fun b hb => by unfold PW at hb; unfold PE; omega
/-- the class reads who waits -/
theorem c_read {h : AH} {x z : Nat} {A : TS} {B : Nat} (hC : CI h x z A) (hT : TI A B) : ∃ h', fX7_read (x + 35) (x + 1) z h = some (z, h') ∧ CI h' x z A ∧ FK x h h' ∧ WV h' x (ng A.1.1.1) := by
  obtain ⟨w, H, T⟩ := A
  obtain ⟨h', v1, v2, v3⟩ := w7_read hT.1.1 hC.2.2.1.1 z
  refine ⟨h', v1, CI_E hT.H (v2.mono PW_E) ⟨CS_F hT.W v2 PW_ok hC.2.2.1.1, LT_F v2 (by unfold PW; omega) hC.2.2.1.2⟩ hC, FK.E (v2.mono PW_E), v3⟩
/-- the reference lays who waits, among some -/
theorem r_lays {h : AH} {m z : Nat} {A : TS} {B : Nat} (hR : RI h m A) (hT : TI A B) (am : Int32) : ∃ h', fX9_lays m am z h = some (z, h') ∧ RI h' m A ∧ Fq (PL2 m) h h' ∧ agr (iv h' (m + 7)) (er A.1.1.1 am) ∧ agr (iv h' (m + 8)) (rc (er A.1.1.1 am)) := by
  have hQp := hR.2.1.wq hT.1.1
  obtain ⟨h', v1, v2, v3, v4⟩ := w9_lays hR.1 rfl hQp.1 hQp.w am z
  have e : agr (er (ps h m) am) (er A.1.1.1 am) := fun j hj => by
    unfold er
    rw [ng_nord hR.2.1.1 hQp.1 hQp.w j hj]
  exact ⟨h', v1, RI_f PL2_ok v2 hR, v2, v3.tr e, v4.tr (rc_a e)⟩
theorem r_cyclic {h : AH} {m z : Nat} {A : TS} {B : Nat} (hR : RI h m A) (hT : TI A B) (am : Int32) : ∃ h', fX9_cyclic m am z h = some (og (rc (er A.1.1.1 am)), z, h') ∧ RI h' m A ∧ Fq (PL2 m) h h' ∧ agr (iv h' (m + 7)) (er A.1.1.1 am) ∧ agr (iv h' (m + 8)) (rc (er A.1.1.1 am)) := by
  have hQp := hR.2.1.wq hT.1.1
  obtain ⟨h', v1, v2, v3, v4⟩ := w9_cyclic hR.1 rfl hQp.1 hQp.w am z
  have e : agr (er (ps h m) am) (er A.1.1.1 am) := fun j hj => by
    unfold er
    rw [ng_nord hR.2.1.1 hQp.1 hQp.w j hj]
  rw [og_a (rc_a e)] at v1
  exact ⟨h', v1, RI_f PL2_ok v2 hR, v2, v3.tr e, v4.tr (rc_a e)⟩
def vOn (q : Nat → Int32) : Int32 := og (rc (ng q))
theorem c_onCycles {h : AH} {x z : Nat} {A : TS} {B : Nat} (hC : CI h x z A) (hT : TI A B) : CP (fX8_onCycles x z h) h x z (vOn A.1.1.1, A) := by
  obtain ⟨h', v1, v2, v3, v4⟩ := c_read hC hT
  refine ⟨z, h', ?_, Nat.le_refl _, v2, v3⟩
  have d5 : kd h (x + 35) = 8 := hC.2.2.1.1.1.2.2.2.2.2.2.2.2.1
  have g5 : kd h' (x + 35) = 8 := v2.2.2.1.1.1.2.2.2.2.2.2.2.2.1
  have gg : iv h' (x + 35) 2 = vOn A.1.1.1 := v4.2.2
  have hC1 := v2
  obtain ⟨o1, o2, o3, o4, o5, o6, o7, o8, o9, o10, o11, o12, o13, o14, o15, o16⟩ := id hC.1
  have hB := hC.2.2.1.1.2.1.1
  have u1 := hB.1
  have u2 := hB.2.1
  have u3 := hB.2.2.2.2.2.2.2.2.2.1
  have u4 := hC.2.2.1.1.1.1
  obtain ⟨p1, p2, p3, p4, p5, p6, p7, p8, p9, p10, p11, p12, p13, p14, p15, p16⟩ := id hC1.1
  have hB1 := hC1.2.2.1.1.2.1.1
  have y1 := hB1.1
  have y2 := hB1.2.1
  have y3 := hB1.2.2.2.2.2.2.2.2.2.1
  have y4 := hC1.2.2.1.1.1.1
  simp (disch := omega) only [fX8_onCycles, ↓gd, ↓bl, ↓xr, ↓reduceIte, o1, ↓bb o2, ↓bb o3, ↓bb o4, ↓bb o5, ↓bb o6, ↓bb o7, ↓bb o8, o9, ↓bb o10, o11, o12, o13, ↓bb o14, o15, o16, u1, ↓bb u2, u3, u4, d5, ↓bb2 v1, p1, ↓bb p2, ↓bb p3, ↓bb p4, ↓bb p5, ↓bb p6, ↓bb p7, ↓bb p8, p9, ↓bb p10, p11, p12, p13, ↓bb p14, p15, p16, y1, ↓bb y2, y3, y4, g5, gg]
theorem r_onCycles {h : AH} {m z : Nat} {A : TS} {B : Nat} (hR : RI h m A) (hT : TI A B) : RP (fX9_onCycles m z h) h m z (vOn A.1.1.1, A) := by
  obtain ⟨c1, c2, c3⟩ := RI_code hR 0
  obtain ⟨h', v1, v2, v3, -, -⟩ := r_cyclic (z := z) c1 hT 1023
  rw [og_a (rc_a (er_all A.1.1.1))] at v1
  refine ⟨h', ?_, v2, c2.tr (v3.mono PL2_R)⟩
  have hk0 := hR.1.1
  simp (disch := omega) only [fX9_onCycles, ↓gd, ↓bl, ↓reduceIte, hk0, ↓bb3 v1]
  rfl
def sk' (R : Nat → Int32) (g : Int32) (t : Nat) : Bool := decide (¬ R t &&& g = 0)
theorem sk_c {R S : Nat → Int32} (h : agr R S) (g : Int32) : ∀ t, t < 10 → sk' R g t = sk' S g t := fun t ht => by unfold sk'; rw [h t ht]
theorem ld_loop {h : AH} {x : Nat} {R : Nat → Int32} {g : Int32} (hD : DS h x) (hR : agr (iv h (x + 37)) R) (hg : iv h (x + 35) 2 = g) (z : Nat) : ∀ (d k : Nat), k + d = 10 → ∀ fuel, d < fuel → lX7_leadingToRings_4 fuel (x + 35) (mk k (sk' R g)) (nI k) z h = some (mk 10 (sk' R g), z, h) := by
  intro d
  obtain ⟨d1, d2, d3, d4, d5, d6, d7, d8, d9, d10, d11, d12, d13, d14, d15⟩ := id hD
  induction d with
  | zero =>
    intro k hk fuel hf
    obtain rfl : k = 10 := by omega
    cases fuel with
    | zero => omega
    | succ fuel =>
      show lX7_leadingToRings_4B _ _ _ _ _ _ = _
      simp (disch := omega) only [lX7_leadingToRings_4B, li10, Int32.le_refl, ↓reduceIte]
  | succ d ih =>
    intro k hk fuel hf
    cases fuel with
    | zero => omega
    | succ fuel =>
      have h3 := ih (k + 1) (by omega) fuel (by omega)
      rw [mk_s] at h3
      have e1 : iv h (x + 37) k = R k := hR k (by omega)
      show lX7_leadingToRings_4B _ _ _ _ _ _ = _
      by_cases e : R k &&& g = 0
      · have es : sk' R g k = false := by unfold sk'; simp [e]
        rw [es] at h3
        simp only [Bool.false_eq_true, if_false] at h3
        simp (disch := omega) only [lX7_leadingToRings_4B, bX7_leadingToRings_30, ↓gd, ↓bl, ↓on, ↓xr, ↓reduceIte, if_true, if_false, kd_wI, ln_wI, rv_wI, iv_wI, jv_wI, kd_wJ, ln_wJ, rv_wJ, iv_wJ, nI_clamp, nI_leE, nI_ltE, nI_eqE, m1_ne, bit_0, bit_1, nI_negE, leN_F, leN_T, ltN_F, ltN_T, eqN_F, or_false, false_or, or_true, true_or, not_false_eq_true, not_true_eq_false, and_true, true_and, and_false, false_and, li10, d9, ↓bb d11, d14, d15, e1, hg, e, nI_1]
        exact h3
      · have es : sk' R g k = true := by unfold sk'; simp [e]
        rw [es] at h3
        simp only [if_true] at h3
        simp (disch := omega) only [lX7_leadingToRings_4B, bX7_leadingToRings_30, ↓gd, ↓bl, ↓on, ↓xr, ↓reduceIte, if_true, if_false, kd_wI, ln_wI, rv_wI, iv_wI, jv_wI, kd_wJ, ln_wJ, rv_wJ, iv_wJ, nI_clamp, nI_leE, nI_ltE, nI_eqE, m1_ne, bit_0, bit_1, nI_negE, leN_F, leN_T, ltN_F, ltN_T, eqN_F, or_false, false_or, or_true, true_or, not_false_eq_true, not_true_eq_false, and_true, true_and, and_false, false_and, li10, d9, ↓bb d11, d14, d15, e1, hg, e, nI_1]
        exact h3
theorem e7_lead {h : AH} {x : Nat} {E : Nat → Int32} (hD : DS h x) (hV : WV h x E) (z : Nat) : fX7_leadingToRings (x + 35) z h = some (mk 10 (sk' (rc E) (og (rc E))), z, h) := by
  have := ld_loop hD hV.2.1 hV.2.2 z 10 0 (by omega) fu (by unfold fu; omega)
  rw [nI_0] at this
  exact this
def vSt (q : Nat → Int32) : Int32 := mk 10 (sk' (rc (ng q)) (og (rc (ng q))))
theorem c_stuck {h : AH} {x z : Nat} {A : TS} {B : Nat} (hC : CI h x z A) (hT : TI A B) : CP (fX8_stuck x z h) h x z (vSt A.1.1.1, A) := by
  obtain ⟨h', v1, v2, v3, v4⟩ := c_read hC hT
  refine ⟨z, h', ?_, Nat.le_refl _, v2, v3⟩
  have d5 : kd h (x + 35) = 8 := hC.2.2.1.1.1.2.2.2.2.2.2.2.2.1
  have g5 : kd h' (x + 35) = 8 := v2.2.2.1.1.1.2.2.2.2.2.2.2.2.1
  have gg := e7_lead v2.2.2.1.1.1 v4 z
  have hC1 := v2
  obtain ⟨o1, o2, o3, o4, o5, o6, o7, o8, o9, o10, o11, o12, o13, o14, o15, o16⟩ := id hC.1
  have hB := hC.2.2.1.1.2.1.1
  have u1 := hB.1
  have u2 := hB.2.1
  have u3 := hB.2.2.2.2.2.2.2.2.2.1
  have u4 := hC.2.2.1.1.1.1
  obtain ⟨p1, p2, p3, p4, p5, p6, p7, p8, p9, p10, p11, p12, p13, p14, p15, p16⟩ := id hC1.1
  have hB1 := hC1.2.2.1.1.2.1.1
  have y1 := hB1.1
  have y2 := hB1.2.1
  have y3 := hB1.2.2.2.2.2.2.2.2.2.1
  have y4 := hC1.2.2.1.1.1.1
  simp (disch := omega) only [fX8_stuck, ↓gd, ↓bl, ↓xr, ↓reduceIte, o1, ↓bb o2, ↓bb o3, ↓bb o4, ↓bb o5, ↓bb o6, ↓bb o7, ↓bb o8, o9, ↓bb o10, o11, o12, o13, ↓bb o14, o15, o16, u1, ↓bb u2, u3, u4, d5, ↓bb2 v1, p1, ↓bb p2, ↓bb p3, ↓bb p4, ↓bb p5, ↓bb p6, ↓bb p7, ↓bb p8, p9, ↓bb p10, p11, p12, p13, ↓bb p14, p15, p16, y1, ↓bb y2, y3, y4, g5, ↓bb3 gg]
  rfl
theorem st9_loop {h : AH} {m : Nat} (hM : MO h m) {R : Nat → Int32} {g : Int32} (hR : agr (iv h (m + 8)) R) (z : Nat) : ∀ (d k : Nat), k + d = 10 → ∀ fuel, d < fuel → lX9_stuckTasks_12 fuel m g (g ||| mk k (sk' R g)) (nI k) z h = some (g ||| mk 10 (sk' R g), z, h) := by
  intro d
  obtain ⟨hk, r0, r1, r3, r4, r10, r11, r13, r14, r15, k1, k2, k3, k4, k5, k6, k7, k8, k9, l1, l2, l3, l4, l5, l6, l7, l8, l9⟩ := id hM
  induction d with
  | zero =>
    intro k hkk fuel hf
    obtain rfl : k = 10 := by omega
    cases fuel with
    | zero => omega
    | succ fuel =>
      show lX9_stuckTasks_12B _ _ _ _ _ _ _ = _
      simp (disch := omega) only [lX9_stuckTasks_12B, li10, Int32.le_refl, ↓reduceIte]
  | succ d ih =>
    intro k hkk fuel hf
    cases fuel with
    | zero => omega
    | succ fuel =>
      have h3 := ih (k + 1) (by omega) fuel (by omega)
      rw [mk_s] at h3
      have e1 : iv h (m + 8) k = R k := hR k (by omega)
      show lX9_stuckTasks_12B _ _ _ _ _ _ _ = _
      by_cases e : R k &&& g = 0
      · have es : sk' R g k = false := by unfold sk'; simp [e]
        rw [es] at h3
        simp only [Bool.false_eq_true, if_false] at h3
        simp (disch := omega) only [lX9_stuckTasks_12B, bX9_stuckTasks_37, ↓gd, ↓bl, ↓on, ↓xr, ↓reduceIte, if_true, if_false, kd_wI, ln_wI, rv_wI, iv_wI, jv_wI, kd_wJ, ln_wJ, rv_wJ, iv_wJ, nI_clamp, nI_leE, nI_ltE, nI_eqE, m1_ne, bit_0, bit_1, nI_negE, leN_F, leN_T, ltN_F, ltN_T, eqN_F, or_false, false_or, or_true, true_or, not_false_eq_true, not_true_eq_false, and_true, true_and, and_false, false_and, ↓bb r0, ↓bb r1, ↓bb r3, ↓bb r4, ↓bb r10, ↓bb r11, ↓bb r13, ↓bb r14, ↓bb r15, hk, k1, k2, k3, k4, k5, k6, k7, k8, k9, l1, l2, l3, l4, l5, l6, l7, l8, l9, li10, e1, e, or_0, nI_1]
        exact h3
      · have es : sk' R g k = true := by unfold sk'; simp [e]
        rw [es] at h3
        simp only [if_true] at h3
        rw [← Int32.or_assoc] at h3
        simp (disch := omega) only [lX9_stuckTasks_12B, bX9_stuckTasks_37, ↓gd, ↓bl, ↓on, ↓xr, ↓reduceIte, if_true, if_false, kd_wI, ln_wI, rv_wI, iv_wI, jv_wI, kd_wJ, ln_wJ, rv_wJ, iv_wJ, nI_clamp, nI_leE, nI_ltE, nI_eqE, m1_ne, bit_0, bit_1, nI_negE, leN_F, leN_T, ltN_F, ltN_T, eqN_F, or_false, false_or, or_true, true_or, not_false_eq_true, not_true_eq_false, and_true, true_and, and_false, false_and, ↓bb r0, ↓bb r1, ↓bb r3, ↓bb r4, ↓bb r10, ↓bb r11, ↓bb r13, ↓bb r14, ↓bb r15, hk, k1, k2, k3, k4, k5, k6, k7, k8, k9, l1, l2, l3, l4, l5, l6, l7, l8, l9, li10, e1, e, nI_1]
        exact h3
theorem og_sk (R : Nat → Int32) : og R ||| mk 10 (sk' R (og R)) = mk 10 (sk' R (og R)) := by
  refine b_ext (fun i hi => ?_)
  rw [b_or, bt_mk 10 _ (by omega)]
  cases e : bt (og R) i
  · rfl
  · have e2 := e
    unfold og at e2
    rw [bt_mk 10 _ (by omega), Bool.and_eq_true, decide_eq_true_eq] at e2
    have : sk' R (og R) i = true := by
      unfold sk'
      rw [decide_eq_true_eq]
      intro h0
      have := eq0_bt.mp h0 i hi
      rw [b_and, e2.2, e] at this
      cases this
    rw [this]
    simp [e2.1]
theorem r9_stuckTasks {h : AH} {m z : Nat} {A : TS} {B : Nat} (hR : RI h m A) (hT : TI A B) : ∃ h', fX9_stuckTasks m z h = some (vSt A.1.1.1, z, h') ∧ RI h' m A ∧ Fq (PL2 m) h h' := by
  obtain ⟨h', v1, v2, v3, -, v5⟩ := r_cyclic (z := z) hR hT 1023
  rw [og_a (rc_a (er_all A.1.1.1))] at v1
  refine ⟨h', ?_, v2, v3⟩
  have hk0 := hR.1.1
  have x1 := st9_loop v2.1 (g := og (rc (ng A.1.1.1))) (v5.tr (rc_a (er_all A.1.1.1))) z 10 0 (by omega) fu (by unfold fu; omega)
  rw [nI_0, show mk 0 (sk' (rc (ng A.1.1.1)) (og (rc (ng A.1.1.1)))) = 0 from rfl, or_0, og_sk] at x1
  simp (disch := omega) only [fX9_stuckTasks, ↓gd, ↓reduceIte, hk0, ↓bb3 v1]
  exact x1
theorem r_stuck {h : AH} {m z : Nat} {A : TS} {B : Nat} (hR : RI h m A) (hT : TI A B) : RP (fX9_stuck m z h) h m z (vSt A.1.1.1, A) := by
  obtain ⟨c1, c2, c3⟩ := RI_code hR 0
  obtain ⟨h', v1, v2, v3⟩ := r9_stuckTasks (z := z) c1 hT
  refine ⟨h', ?_, v2, c2.tr (v3.mono PL2_R)⟩
  have hk0 := hR.1.1
  simp (disch := omega) only [fX9_stuck, ↓gd, ↓bl, ↓reduceIte, hk0, ↓bb3 v1]
/-! the text -/
theorem CI_tx {h h' : AH} {x z : Nat} {w : Ac} {H : List Rec} {T T' : List Nat} {B : Nat} (hT : TI (w, H, T) B) (hC : CI h x z (w, H, T)) (hF : Fq (fun b => b = x + 41 ∨ b = x + 42) h h') (hX : TX h' x T') : CI h' x z (w, H, T') ∧ FK x h h' := by
  have hL : CL h' x w := CL_x hT.W (fun b hb => sc.fq hF (by omega)) hC.2.2.1
  have hH : HI h' x H := by
    obtain ⟨c7, c8, c9⟩ := hC.2.2.2.2.1
    refine ⟨by rw [iv_F hF (by omega)]; exact c7, c8, fun i r hr => ?_⟩
    obtain ⟨a, ha, hCB⟩ := c9 i r hr
    have hi : i < 5 := by
      have h9 : i < H.length := (List.getElem?_eq_some_iff.mp hr).1
      have h8 : H.length ≤ 5 := c8
      omega
    obtain ⟨a1, a2, -⟩ := hC.2.2.2.1.1 i a hi ha
    refine ⟨a, ?_, CB_x (hT.H r (List.mem_of_getElem? hr)) (fun b hb => sc.fq hF (by omega)) hCB⟩
    have : rv h' (x + 40) = rv h (x + 40) := by unfold rv; rw [hF.2.1]
    rw [this]; exact ha
  exact ⟨CI_s hF.1 hF.2.1 hC hL hH hX, fun b h1 h2 => sc.fq hF (by omega)⟩
theorem RI_tx {h h' : AH} {m : Nat} {w : Ac} {H : List Rec} {T T' : List Nat} (hR : RI h m (w, H, T)) (hF : Fq (fun b => b = m ∨ b = m + 4) h h') (e : ∀ j, j ≠ 5 → j ≠ 6 → iv h' m j = iv h m j) (e5 : iv h' m 5 = nI T'.length) (hl : T'.length ≤ 120) (et : ∀ i c, T'[i]? = some c → iv h' (m + 4) i = nI c) : RI h' m (w, H, T') := by
  obtain ⟨r1, r2, r3, r4, r5, r6, r7, r8, r9, r10⟩ := hR
  refine ⟨MO_c hF.1 hF.2.1 r1, ?_, ?_, ?_, ?_, r6, ?_, e5, hl, et⟩
  · rw [iv_F hF (by omega)]; exact r2
  · rw [iv_F hF (by omega)]; exact r3
  · unfold LM at r4 ⊢; rw [e 7 (by omega) (by omega), e 8 (by omega) (by omega), e 9 (by omega) (by omega)]; exact r4
  · rw [e 2 (by omega) (by omega)]; exact r5
  · rw [iv_F hF (by omega)]; exact r7
theorem in_ch {a : Int32} (h : inI a 32 126 = true) : ∃ c, 32 ≤ c ∧ c ≤ 126 ∧ a = nI c := by
  unfold inI at h
  rw [decide_eq_true_eq] at h
  obtain ⟨h1, h2⟩ := h
  have h0 : ¬ a < 0 := fun h9 => h1 (Int32.lt_trans h9 (by decide))
  obtain ⟨j, hj, rfl⟩ := nI_of h0
  rw [show (32 : Int32) = nI 32 from rfl, nI_ltE hj (by omega)] at h1
  rw [show (126 : Int32) = nI 126 from rfl, nI_ltE (by omega) hj] at h2
  exact ⟨j, by omega, by omega, rfl⟩
theorem nar_c : ∀ c, c < 127 → vp_nar .char (((Int32.toUInt32 (nI c)) % 65536).toInt32) = nI c := by decide +kernel
theorem nar_b : ∀ c, c < 127 → vp_nar .byte ((Int32.toInt8 (nI c)).toInt32) = nI c := by decide +kernel
def kY (T : List Nat) (a : Int32) : Nat := if inI a 32 126 = false then 1 else if T.length = 120 then 2 else 0
def aY (A : TS) (a : Int32) : Nat × Int32 × TS := (kY A.2.2 a, nI (A.2.2.length + 1), if kY A.2.2 a = 0 then (A.1, A.2.1, A.2.2 ++ [tn' a]) else A)
theorem kY_c (T : List Nat) (a : Int32) : (inI a 32 126 = false ∧ kY T a = 1) ∨ (inI a 32 126 = true ∧ T.length = 120 ∧ kY T a = 2) ∨ (inI a 32 126 = true ∧ T.length ≠ 120 ∧ kY T a = 0) := by
  unfold kY
  cases h1 : inI a 32 126
  · exact Or.inl ⟨rfl, rfl⟩
  · by_cases h2 : T.length = 120
    · exact Or.inr (Or.inl ⟨rfl, h2, by simp [h2]⟩)
    · exact Or.inr (Or.inr ⟨rfl, h2, by simp [h2]⟩)
theorem snoc_get {T : List Nat} {c i d : Nat} (h : (T ++ [c])[i]? = some d) : T[i]? = some d ∨ (i = T.length ∧ d = c) := by
  by_cases e : i < T.length
  · rw [List.getElem?_append_left e] at h
    exact Or.inl h
  · rw [List.getElem?_append_right (by omega)] at h
    by_cases e2 : i = T.length
    · subst e2
      simp at h
      exact Or.inr ⟨rfl, h.symm⟩
    · rw [List.getElem?_eq_none (by simp; omega)] at h
      cases h
theorem TI_Y {A : TS} {B : Nat} (hT : TI A B) (a : Int32) : TI (aY A a).2.2 B := by
  unfold aY
  rcases kY_c A.2.2 a with ⟨e1, ek⟩ | ⟨e1, e2, ek⟩ | ⟨e1, e2, ek⟩
  · rw [if_neg (by omega)]; exact hT
  · rw [if_neg (by omega)]; exact hT
  · rw [if_pos ek]
    obtain ⟨c, c1, c2, rfl⟩ := in_ch e1
    refine ⟨hT.1, hT.2.1, fun d hd => ?_⟩
    rcases List.mem_append.mp hd with h9 | h9
    · exact hT.2.2 d h9
    · rw [List.mem_singleton.mp h9, show tn' (nI c) = c from nI_clamp (by omega)]; exact ⟨c1, c2⟩
theorem c_type {h : AH} {x z : Nat} {A : TS} {B : Nat} (hC : CI h x z A) (hT : TI A B) (a : Int32) : CC (fX8_type x a z h) h x z (aY A a) eA eS := by
  obtain ⟨w, H, T⟩ := A
  obtain ⟨t1, t2, t3⟩ : TX h x T := hC.2.2.2.2.2.1
  have x1 := e8_isWithin a 32 126 z h
  have l120 : (120 : Int32) = nI 120 := rfl
  unfold aY
  rcases kY_c T a with ⟨e1, ek⟩ | ⟨e1, e2, ek⟩ | ⟨e1, e2, ek⟩
  · show CC _ h x z (kY T a, _, if kY T a = 0 then _ else _) _ _
    rw [ek, if_neg (by omega)]
    refine CC_err hC hT ?_
    rw [e1] at x1
    simp (disch := omega) only [fX8_type, ↓xr, ↓bb3 x1, Bool.false_eq_true, ↓reduceIte, ↓bb3 (nV0 _ _)]
    rfl
  · show CC _ h x z (kY T a, _, if kY T a = 0 then _ else _) _ _
    rw [ek, if_neg (by omega)]
    refine CC_err hC hT ?_
    rw [e1] at x1
    have e3 : (120 ≤ nI T.length) = True := by rw [l120, nI_leE (by omega) (by omega)]; exact eq_true (by omega)
    obtain ⟨o1, o2, o3, o4, o5, o6, o7, o8, o9, o10, o11, o12, o13, o14, o15, o16⟩ := id hC.1
    have hB := hC.2.2.1.1.2.1.1
    have u1 := hB.1
    have u2 := hB.2.1
    have u3 := hB.2.2.2.2.2.2.2.2.2.1
    have u4 := hC.2.2.1.1.1.1
    simp (disch := omega) only [fX8_type, bX8_type_28, ↓gd, ↓bl, ↓xr, ↓reduceIte, o1, ↓bb o2, ↓bb o3, ↓bb o4, ↓bb o5, ↓bb o6, ↓bb o7, ↓bb o8, o9, ↓bb o10, o11, o12, o13, ↓bb o14, o15, o16, u1, ↓bb u2, u3, u4, ↓bb3 x1, ↓bb3 (nV1 _ _), t1, e3, ↓bb3 (nS0 _ _)]
    rfl
  · show CC _ h x z (kY T a, _, if kY T a = 0 then _ else _) _ _
    rw [ek, if_pos rfl]
    rw [e1] at x1
    obtain ⟨c, c1, c2, rfl⟩ := in_ch e1
    rw [show tn' (nI c) = c from nI_clamp (by omega)]
    have e3 : (120 ≤ nI T.length) = False := by rw [l120, nI_leE (by omega) (by omega)]; exact eq_false (by omega)
    have hF : Fq (fun b => b = x + 41 ∨ b = x + 42) h (wI (wI h (x + 42) T.length (nI c)) (x + 41) 1 (nI (T.length + 1))) := (Fq.w h _ _ (Or.inr rfl)).tr (Fq.w _ _ _ (Or.inl rfl))
    obtain ⟨k1, k2⟩ := CI_tx (T' := T ++ [c]) hT hC hF ⟨by rw [iv_wI, if_pos rfl, if_pos rfl, List.length_append]; rfl, by rw [List.length_append]; show T.length + 1 ≤ 120; omega, fun i d hd => by
      rw [iv_wI_ne _ _ _ (by omega), iv_wI, if_pos rfl]
      rcases snoc_get hd with h9 | ⟨h9, h8⟩
      · have : i < T.length := (List.getElem?_eq_some_iff.mp h9).1
        rw [if_neg (by omega)]; exact t3 i d h9
      · rw [if_pos h9, h8]⟩
    refine ⟨z, _, ?_, Nat.le_refl _, k1, k2⟩
    have g1 : iv (wI h (x + 42) T.length (nI c)) (x + 41) 1 = nI T.length := by rw [iv_wI_ne _ _ _ (by omega)]; exact t1
    have g2 : iv (wI (wI h (x + 42) T.length (nI c)) (x + 41) 1 (nI (T.length + 1))) (x + 41) 1 = nI (T.length + 1) := by rw [iv_wI, if_pos rfl, if_pos rfl]
    have nc := nar_c c (by omega)
    obtain ⟨o1, o2, o3, o4, o5, o6, o7, o8, o9, o10, o11, o12, o13, o14, o15, o16⟩ := id hC.1
    have hB := hC.2.2.1.1.2.1.1
    have u1 := hB.1
    have u2 := hB.2.1
    have u3 := hB.2.2.2.2.2.2.2.2.2.1
    have u4 := hC.2.2.1.1.1.1
    have x3 : fX5_append (x + 41) (nI c) z h = some (nI (T.length + 1), z, wI (wI h (x + 42) T.length (nI c)) (x + 41) 1 (nI (T.length + 1))) := by
      simp (disch := omega) only [fX5_append, bX5_append_30, ↓gd, ↓bl, ↓xr, ↓reduceIte, o1, ↓bb o2, ↓bb o3, ↓bb o4, ↓bb o5, ↓bb o6, ↓bb o7, ↓bb o8, o9, ↓bb o10, o11, o12, o13, ↓bb o14, o15, o16, u1, ↓bb u2, u3, u4, t1, e3, nI_negE, nI_clamp, leN_F, or_false, not_false_eq_true, nc, kd_wI, g1, nI_1, g2]
    have x1 : fX8_isWithin (nI c) 32 126 z h = some (1, z, h) := by rw [x1]; rfl
    simp (disch := omega) only [fX8_type, bX8_type_28, ↓gd, ↓bl, ↓xr, ↓reduceIte, o1, ↓bb o2, ↓bb o3, ↓bb o4, ↓bb o5, ↓bb o6, ↓bb o7, ↓bb o8, o9, ↓bb o10, o11, o12, o13, ↓bb o14, o15, o16, u1, ↓bb u2, u3, u4, ↓bb3 x1, ↓bb3 (nV1 _ _), t1, e3, ↓bb3 (nS1 _ _), ↓bb3 x3]
    rfl
theorem r_type {h : AH} {m z : Nat} {A : TS} (hR : RI h m A) (a : Int32) : RR (fX9_type m a z h) h m z (aY A a) := by
  obtain ⟨w, H, T⟩ := A
  obtain ⟨r1, r2, r3, r4, r5, r6, r7, r8, r9, r10⟩ := id hR
  have hk0 := r1.1
  have x1 := e9_in a 32 126 z h
  unfold aY
  rcases kY_c T a with ⟨e1, ek⟩ | ⟨e1, e2, ek⟩ | ⟨e1, e2, ek⟩
  · show RR _ h m z (kY T a, _, if kY T a = 0 then _ else _)
    rw [ek, if_neg (by omega)]
    refine RR_code (v' := 0) hR (fun h9 => absurd h9 (by decide)) ?_
    rw [e1] at x1
    simp (disch := omega) only [fX9_type, bX9_type_30, ↓gd, ↓bl, ↓reduceIte, ↓bb3 x1, Bool.false_eq_true, hk0, kd_wI, iv6, li1E]
    rfl
  · show RR _ h m z (kY T a, _, if kY T a = 0 then _ else _)
    rw [ek, if_neg (by omega)]
    refine RR_code (v' := 0) hR (fun h9 => absurd h9 (by decide)) ?_
    rw [e1] at x1
    have e3 : (nI T.length = 120) = True := by rw [e2]; exact eq_true rfl
    have r8 : iv h m 5 = nI T.length := r8
    simp (disch := omega) only [fX9_type, bX9_type_30, ↓gd, ↓bl, ↓reduceIte, ↓bb3 x1, ne10, hk0, r8, e3, kd_wI, iv6, li2E]
    rfl
  · show RR _ h m z (kY T a, _, if kY T a = 0 then _ else _)
    rw [ek, if_pos rfl]
    rw [e1] at x1
    obtain ⟨c, c1, c2, rfl⟩ := in_ch e1
    rw [show tn' (nI c) = c from nI_clamp (by omega)]
    have r8 : iv h m 5 = nI T.length := r8
    have r9 : T.length ≤ 120 := r9
    have e3 : (nI T.length = 120) = False := by rw [show (120 : Int32) = nI 120 from rfl, nI_eqE (by omega) (by omega)]; exact eq_false e2
    have hF : Fq (fun b => b = m ∨ b = m + 4) h (wI (wI (wI h m 6 0) (m + 4) T.length (nI c)) m 5 (nI (T.length + 1))) := ((Fq.w h _ _ (Or.inl rfl)).tr (Fq.w _ _ _ (Or.inr rfl))).tr (Fq.w _ _ _ (Or.inl rfl))
    have k1 := RI_tx (T' := T ++ [c]) hR hF (fun j h1 h2 => by rw [iv_wI, if_pos rfl, if_neg h1, iv_wI_ne _ _ _ (by omega), iv_wI, if_pos rfl, if_neg h2]) (by rw [iv_wI, if_pos rfl, if_pos rfl, List.length_append]; rfl) (by rw [List.length_append]; show T.length + 1 ≤ 120; omega) (fun i d hd => by
      rw [iv_wI_ne _ _ _ (by omega), iv_wI, if_pos rfl]
      rcases snoc_get hd with h9 | ⟨h9, h8⟩
      · have : i < T.length := (List.getElem?_eq_some_iff.mp h9).1
        rw [if_neg (by omega), iv_wI_ne _ _ _ (by omega)]; exact r10 i d h9
      · rw [if_pos h9, h8])
    have g1 : iv (wI (wI h m 6 0) (m + 4) T.length (nI c)) m 5 = nI T.length := by rw [iv_wI_ne _ _ _ (by omega), iv_wI, if_pos rfl, if_neg (by omega)]; exact r8
    have g0 : iv (wI h m 6 0) m 5 = nI T.length := by rw [iv_wI, if_pos rfl, if_neg (by omega)]; exact r8
    have g2 : iv (wI (wI (wI h m 6 0) (m + 4) T.length (nI c)) m 5 (nI (T.length + 1))) m 5 = nI (T.length + 1) := by rw [iv_wI, if_pos rfl, if_pos rfl]
    have nb := nar_b c (by omega)
    refine ⟨nI (T.length + 1), _, ?_, fun _ => rfl, k1, hF.mono (fun b hb => by unfold PR; omega), by rw [iv_wI, if_pos rfl, if_neg (by omega), iv_wI_ne _ _ _ (by omega), iv_wI, if_pos rfl, if_pos rfl]; rfl⟩
    have hM := hR.1
    obtain ⟨hk, r0, r1, r3, r4, r10, r11, r13, r14, r15, k1, k2, k3, k4, k5, k6, k7, k8, k9, l1, l2, l3, l4, l5, l6, l7, l8, l9⟩ := id hM
    simp (disch := omega) only [fX9_type, bX9_type_30, ↓gd, ↓bl, ↓reduceIte, ↓bb3 x1, ne10, r8, e3, kd_wI, ln_wI, ↓brv_wI, ↓bb r0, ↓bb r1, ↓bb r3, ↓bb r4, ↓bb r10, ↓bb r11, ↓bb r13, ↓bb r14, ↓bb r15, hk, k1, k2, k3, k4, k5, k6, k7, k8, k9, l1, l2, l3, l4, l5, l6, l7, l8, l9, iv6, le00, g0, nI_negE, nI_clamp, leN_F, or_false, not_false_eq_true, nb, g1, nI_1, g2]
theorem c_clearText {h : AH} {x z : Nat} {A : TS} {B : Nat} (hC : CI h x z A) (hT : TI A B) : CP (fX8_clearText x z h) h x z (nI A.2.2.length, (A.1, A.2.1, [])) := by
  obtain ⟨w, H, T⟩ := A
  obtain ⟨t1, t2, t3⟩ : TX h x T := hC.2.2.2.2.2.1
  have hF : Fq (fun b => b = x + 41 ∨ b = x + 42) h (wI h (x + 41) 1 0) := Fq.w h _ _ (Or.inl rfl)
  obtain ⟨k1, k2⟩ := CI_tx (T' := []) hT hC hF ⟨by rw [iv_wI, if_pos rfl, if_pos rfl]; rfl, by show 0 ≤ 120; omega, fun i d hd => by simp at hd⟩
  refine ⟨z, _, ?_, Nat.le_refl _, k1, k2⟩
  obtain ⟨o1, o2, o3, o4, o5, o6, o7, o8, o9, o10, o11, o12, o13, o14, o15, o16⟩ := id hC.1
  have hB := hC.2.2.1.1.2.1.1
  have u1 := hB.1
  have u2 := hB.2.1
  have u3 := hB.2.2.2.2.2.2.2.2.2.1
  have u4 := hC.2.2.1.1.1.1
  simp (disch := omega) only [fX8_clearText, ↓gd, ↓bl, ↓xr, ↓reduceIte, o1, ↓bb o2, ↓bb o3, ↓bb o4, ↓bb o5, ↓bb o6, ↓bb o7, ↓bb o8, o9, ↓bb o10, o11, o12, o13, ↓bb o14, o15, o16, u1, ↓bb u2, u3, u4, t1]
theorem r_clearText {h : AH} {m z : Nat} {A : TS} (hR : RI h m A) : RP (fX9_clearText m z h) h m z (nI A.2.2.length, (A.1, A.2.1, [])) := by
  obtain ⟨w, H, T⟩ := A
  have r8 : iv h m 5 = nI T.length := hR.2.2.2.2.2.2.2.1
  have hk0 := hR.1.1
  have hF : Fq (fun b => b = m ∨ b = m + 4) h (wI (wI h m 6 0) m 5 0) := (Fq.w h _ _ (Or.inl rfl)).tr (Fq.w _ _ _ (Or.inl rfl))
  have k1 := RI_tx (T' := []) hR hF (fun j h1 h2 => by rw [iv_wI, if_pos rfl, if_neg h1, iv_wI, if_pos rfl, if_neg h2]) (by rw [iv_wI, if_pos rfl, if_pos rfl]; rfl) (by show 0 ≤ 120; omega) (fun i d hd => by simp at hd)
  refine ⟨_, ?_, k1, hF.mono (fun b hb => by unfold PR; omega)⟩
  have g0 : iv (wI h m 6 0) m 5 = nI T.length := by rw [iv_wI, if_pos rfl, if_neg (by omega)]; exact r8
  simp (disch := omega) only [fX9_clearText, ↓gd, ↓bl, ↓reduceIte, hk0, g0]
theorem TI_Z {A : TS} {B : Nat} (hT : TI A B) : TI (A.1, A.2.1, []) B := ⟨hT.1, hT.2.1, fun d hd => by cases hd⟩
