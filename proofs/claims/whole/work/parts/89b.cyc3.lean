/-! the reference counts ways -/
section CR
variable {m : Nat} {E : Nat → Int32}
/-- the ways that stand: of all sets below S, and of S up to t -/
def WT (E : Nat → Int32) (S t : Nat) (r : Nat → Int32) : Prop := ∀ S' t', 1 ≤ S' → S' < 1024 → t' < 10 → lo S' ≤ t' → (S' < S ∨ (S' = S ∧ t' < t)) → r (10 * S' + t') = V E S' t'
def RGr (h : AH) (m : Nat) (E : Nat → Int32) : Prop := MO h m ∧ agr (iv h (m + 7)) E
theorem RGr.F {h h' : AH} (hF : Fq (fun b => b = m + 9) h h') (hG : RGr h m E) : RGr h' m E := ⟨MO_c hF.1 hF.2.1 hG.1, by rw [iv_F hF (by omega)]; exact hG.2⟩
theorem V_no {S t : Nat} (hS : S < 1024) (ht : t < 10) (h : t ≤ lo S ∨ bt (nI S) t = false) : V E S t = if nI S = ((1 : Int32) <<< (nI (lo S) &&& 31)) ∧ t = lo S then 1 else 0 := by
  rw [V_eq E hS ht, if_pos h]
theorem V_yes {S t : Nat} (hS : S < 1024) (ht : t < 10) (h1 : lo S < t) (h2 : bt (nI S) t = true) : V E S t = sm 10 (fun b => if (bt (nI (rm S t)) b && bt (E b) t) = true then V E (rm S t) b else 0) := by
  rw [V_eq E hS ht, if_neg (fun h => by
    rcases h with h | h
    · omega
    · rw [h2] at h; cases h)]
theorem c94 {S t : Nat} (hS : S < 1024) (h0 : S ≠ 0) (ht : t < 10) (h1 : lo S < t) (h2 : bt (nI S) t = true) (x1 : Int32) (qq : Nat → Int32 → Int32 → Int32 → Int32 → Nat → AH → Option (Int32 × Nat × AH)) (z : Nat) {h : AH} (hG : RGr h m E) (hW : WT E S t (iv h (m + 9))) : ∀ (d k : Nat), k + d = 10 → ∀ fuel, d < fuel →
    lX9_cycles_94 qq fuel m x1 (nI S) (nI (lo S)) (nI t) (sm k (fun b => if (bt (nI (rm S t)) b && bt (E b) t) = true then V E (rm S t) b else 0)) (nI (rm S t)) (nI k) z h = bX9_cycles_172 qq m x1 (nI S) (nI (lo S)) (nI t) (V E S t) z h := by
  intro d
  obtain ⟨l1, l2, l3⟩ := lo_sp hS h0
  have hr := (rm_e hS t).1
  have hrl := rm_lt hS ht h2
  have hM := hG.1
  obtain ⟨hk, r0, r1, r3, r4, r10, r11, r13, r14, r15, k1, k2, k3, k4, k5, k6, k7, k8, k9, l1, l2, l3, l4, l5, l6, l7, l8, l9⟩ := id hM
  induction d with
  | zero =>
    intro k hkk fuel hf
    obtain rfl : k = 10 := by omega
    cases fuel with
    | zero => omega
    | succ fuel =>
      rw [← V_yes hS ht h1 h2]
      show lX9_cycles_94B _ _ _ _ _ _ _ _ _ _ _ _ = _
      simp (disch := omega) only [lX9_cycles_94B, li10, Int32.le_refl, ↓reduceIte]
  | succ d ih =>
    intro k hkk fuel hf
    cases fuel with
    | zero => omega
    | succ fuel =>
      have h3 := ih (k + 1) (by omega) fuel (by omega)
      rw [sm_s] at h3
      have e1 : (nI t ≤ nI (lo S)) = False := by rw [nI_leE (by omega) (by omega)]; exact eq_false (by omega)
      have ev : iv h (m + 7) k = E k := hG.2 k (by omega)
      show lX9_cycles_94B _ _ _ _ _ _ _ _ _ _ _ _ = _
      cases eb : bt (nI (rm S t)) k
      · rw [eb, Bool.false_and, if_neg (by decide)] at h3
        simp (disch := omega) only [lX9_cycles_94B, bX9_cycles_162, bX9_cycles_163, ↓gd, ↓bl, ↓on, ↓xr, ↓reduceIte, if_true, if_false, kd_wI, ln_wI, rv_wI, iv_wI, jv_wI, kd_wJ, ln_wJ, rv_wJ, iv_wJ, nI_clamp, nI_leE, nI_ltE, nI_eqE, m1_ne, bit_0, bit_1, nI_negE, leN_F, leN_T, ltN_F, ltN_T, eqN_F, or_false, false_or, or_true, true_or, not_false_eq_true, not_true_eq_false, and_true, true_and, and_false, false_and, li10, e1, h2, eb, Bool.false_eq_true, nI_1]
        exact h3
      · cases ee : bt (E k) t
        · rw [eb, ee, Bool.and_false, if_neg (by decide)] at h3
          simp (disch := omega) only [lX9_cycles_94B, bX9_cycles_162, bX9_cycles_163, ↓gd, ↓bl, ↓on, ↓xr, ↓reduceIte, if_true, if_false, kd_wI, ln_wI, rv_wI, iv_wI, jv_wI, kd_wJ, ln_wJ, rv_wJ, iv_wJ, nI_clamp, nI_leE, nI_ltE, nI_eqE, m1_ne, bit_0, bit_1, nI_negE, leN_F, leN_T, ltN_F, ltN_T, eqN_F, or_false, false_or, or_true, true_or, not_false_eq_true, not_true_eq_false, and_true, true_and, and_false, false_and, ↓bb r0, ↓bb r1, ↓bb r3, ↓bb r4, ↓bb r10, ↓bb r11, ↓bb r13, ↓bb r14, ↓bb r15, hk, k1, k2, k3, k4, k5, k6, k7, k8, k9, l1, l2, l3, l4, l5, l6, l7, l8, l9, li10, e1, h2, eb, ev, ee, Bool.false_eq_true, nI_1]
          exact h3
        · rw [eb, ee, Bool.and_self, if_pos rfl] at h3
          have hr0 : rm S t ≠ 0 := fun e0 => by rw [e0, nI_0, b_0] at eb; cases eb
          have hlo : lo (rm S t) ≤ k := Decidable.byContradiction (fun e => by
            have := (lo_sp hr hr0).2.2 k (by omega)
            rw [eb] at this; cases this)
          have hv : iv h (m + 9) (10 * rm S t + k) = V E (rm S t) k := hW (rm S t) k (by omega) hr (by omega) hlo (Or.inl hrl)
          have ei : (10 : Int32) * nI (rm S t) + nI k = nI (10 * rm S t + k) := by rw [li10, pk_mul, nI_add]
          have e10 : ((10 : Int32) ≤ nI k) = False := by rw [li10, nI_leE (by omega) (by omega)]; exact eq_false (by omega)
          simp (disch := omega) only [lX9_cycles_94B, bX9_cycles_163, ↓gd, ↓bl, ↓on, ↓xr, ↓reduceIte, if_true, if_false, kd_wI, ln_wI, rv_wI, iv_wI, jv_wI, kd_wJ, ln_wJ, rv_wJ, iv_wJ, nI_clamp, nI_leE, nI_ltE, nI_eqE, m1_ne, bit_0, bit_1, nI_negE, leN_F, leN_T, ltN_F, ltN_T, eqN_F, or_false, false_or, or_true, true_or, not_false_eq_true, not_true_eq_false, and_true, true_and, and_false, false_and, ↓bb r0, ↓bb r1, ↓bb r3, ↓bb r4, ↓bb r10, ↓bb r11, ↓bb r13, ↓bb r14, ↓bb r15, hk, k1, k2, k3, k4, k5, k6, k7, k8, k9, l1, l2, l3, l4, l5, l6, l7, l8, l9, e10, e1, h2, eb, ev, ee, ei, hv, nI_1]
          exact h3
theorem c172 {S t : Nat} (hS : S < 1024) (h0 : S ≠ 0) (ht : t < 10) (hlt : lo S ≤ t) (N : Int32) (qq : Nat → Int32 → Int32 → Int32 → Int32 → Nat → AH → Option (Int32 × Nat × AH)) (z : Nat) {h : AH} (hG : RGr h m E) (hW : WT E S t (iv h (m + 9))) :
    ∃ h', bX9_cycles_172 qq m N (nI S) (nI (lo S)) (nI t) (V E S t) z h = qq m (N + (if bt (E t) (lo S) = true then V E S t else 0)) (nI S) (nI (lo S)) (nI (t + 1)) z h' ∧ Fq (fun b => b = m + 9) h h' ∧ WT E S (t + 1) (iv h' (m + 9)) := by
  have hl := (lo_sp hS h0).1
  refine ⟨wI h (m + 9) (10 * S + t) (V E S t), ?_, Fq.w h _ _ rfl, fun S' t' a b c d e => ?_⟩
  · have ei : (10 : Int32) * nI S + nI t = nI (10 * S + t) := by rw [li10, pk_mul, nI_add]
    have ev : iv (wI h (m + 9) (10 * S + t) (V E S t)) (m + 7) t = E t := by rw [iv_wI_ne _ _ _ (by omega)]; exact hG.2 t ht
    have hM := hG.1
    obtain ⟨hk, r0, r1, r3, r4, r10, r11, r13, r14, r15, k1, k2, k3, k4, k5, k6, k7, k8, k9, l1, l2, l3, l4, l5, l6, l7, l8, l9⟩ := id hM
    cases ee : bt (E t) (lo S)
    · simp (disch := omega) only [bX9_cycles_172, bX9_cycles_208, ↓gd, ↓bl, ↓reduceIte, ↓bb r0, ↓bb r1, ↓bb r3, ↓bb r4, ↓bb r10, ↓bb r11, ↓bb r13, ↓bb r14, ↓bb r15, hk, k1, k2, k3, k4, k5, k6, k7, k8, k9, l1, l2, l3, l4, l5, l6, l7, l8, l9, ei, nI_negE, nI_clamp, leN_F, or_false, not_false_eq_true, kd_wI, ln_wI, ↓brv_wI, ev, bit_1, ee, Bool.false_eq_true, nI_1]
    · simp (disch := omega) only [bX9_cycles_172, bX9_cycles_208, ↓gd, ↓bl, ↓reduceIte, ↓bb r0, ↓bb r1, ↓bb r3, ↓bb r4, ↓bb r10, ↓bb r11, ↓bb r13, ↓bb r14, ↓bb r15, hk, k1, k2, k3, k4, k5, k6, k7, k8, k9, l1, l2, l3, l4, l5, l6, l7, l8, l9, ei, nI_negE, nI_clamp, leN_F, or_false, not_false_eq_true, kd_wI, ln_wI, ↓brv_wI, ev, bit_1, ee, nI_1]
  · rw [iv_wI, if_pos rfl]
    by_cases e1 : 10 * S' + t' = 10 * S + t
    · rw [if_pos e1, show S' = S by omega, show t' = t by omega]
    · rw [if_neg e1]
      exact hW S' t' a b c d (by omega)
theorem c42 {S : Nat} (hS : S < 1024) (h0 : S ≠ 0) (N : Int32) (q16 : Nat → Int32 → Int32 → Nat → AH → Option (Int32 × Nat × AH)) (z : Nat) : ∀ (d t : Nat), t + d = 10 → lo S ≤ t → ∀ (h : AH) (fuel : Nat), d < fuel → RGr h m E → WT E S t (iv h (m + 9)) →
    ∃ h', lX9_cycles_42 q16 fuel m (N + sm t (fun t => if bt (E t) (lo S) = true then V E S t else 0)) (nI S) (nI (lo S)) (nI t) z h = q16 m (N + gS E S) (nI (S + 1)) z h' ∧ Fq (fun b => b = m + 9) h h' ∧ WT E (S + 1) 0 (iv h' (m + 9)) := by
  obtain ⟨l1, l2, l3⟩ := lo_sp hS h0
  intro d
  induction d with
  | zero =>
    intro t htt hlt h fuel hf hG hW
    obtain rfl : t = 10 := by omega
    cases fuel with
    | zero => omega
    | succ fuel =>
      refine ⟨h, ?_, Fq.rf _ h, fun S' t' a b c d e => hW S' t' a b c d (by omega)⟩
      show lX9_cycles_42B _ _ _ _ _ _ _ _ _ = _
      simp (disch := omega) only [lX9_cycles_42B, li10, Int32.le_refl, ↓reduceIte, nI_1]
      rfl
  | succ d ih =>
    intro t htt hlt h fuel hf hG hW
    cases fuel with
    | zero => omega
    | succ fuel =>
      have ht : t < 10 := by omega
      obtain ⟨h1, w1, w2, w3⟩ := c172 hS h0 ht hlt (N + sm t (fun t => if bt (E t) (lo S) = true then V E S t else 0)) (lX9_cycles_42 q16 fuel) z hG hW
      obtain ⟨h', v1, v2, v3⟩ := ih (t + 1) (by omega) (by omega) h1 fuel (by omega) (hG.F w2) w3
      refine ⟨h', ?_, w2.tr v2, v3⟩
      rw [← v1, sm_s, ← Int32.add_assoc, ← w1]
      have e10 : ((10 : Int32) ≤ nI t) = False := by rw [li10, nI_leE (by omega) (by omega)]; exact eq_false (by omega)
      have e10' : ((10 : Int32) ≤ nI (lo S)) = False := by rw [li10, nI_leE (by omega) (by omega)]; exact eq_false (by omega)
      generalize N + sm t (fun t => if bt (E t) (lo S) = true then V E S t else 0) = X
      have er : nI S &&& (((1 : Int32) <<< (nI t &&& 31)) ^^^ (-1)) = nI (rm S t) := (rm_e hS t).2.symm
      show lX9_cycles_42B _ _ _ _ _ _ _ _ _ = _
      by_cases c : t ≤ lo S ∨ bt (nI S) t = false
      · have key : ∀ s0 : Int32, s0 = V E S t → lX9_cycles_94 (lX9_cycles_42 q16 fuel) fu m X (nI S) (nI (lo S)) (nI t) s0 (nI (rm S t)) (nI (lo S)) z h = bX9_cycles_172 (lX9_cycles_42 q16 fuel) m X (nI S) (nI (lo S)) (nI t) (V E S t) z h := by
          intro s0 hs0
          rw [hs0]
          show lX9_cycles_94B _ _ _ _ _ _ _ _ _ _ _ _ = _
          by_cases c1 : t ≤ lo S
          · have e1 : (nI t ≤ nI (lo S)) = True := by rw [nI_leE (by omega) (by omega)]; exact eq_true c1
            simp (disch := omega) only [lX9_cycles_94B, ↓reduceIte, e10', e1]
          · have c2 : bt (nI S) t = false := by rcases c with c | c; exact absurd c c1; exact c
            have e1 : (nI t ≤ nI (lo S)) = False := by rw [nI_leE (by omega) (by omega)]; exact eq_false c1
            simp (disch := omega) only [lX9_cycles_94B, ↓reduceIte, e10', e1, bit_1, c2, Bool.false_eq_true]
        have hVn := V_no (E := E) hS ht c
        by_cases c3 : nI S = ((1 : Int32) <<< (nI (lo S) &&& 31))
        · by_cases c4 : t = lo S
          · rw [if_pos ⟨c3, c4⟩] at hVn
            have e4 : (nI t = nI (lo S)) = True := by rw [c4]; exact eq_self _
            have e3 : (nI S = ((1 : Int32) <<< (nI (lo S) &&& 31))) = True := eq_true c3
            simp (disch := omega) only [lX9_cycles_42B, bX9_cycles_67, bX9_cycles_79, ↓bl, ↓reduceIte, e10, e3, e4, ne10, er]
            exact key 1 hVn.symm
          · rw [if_neg (fun h9 => c4 h9.2)] at hVn
            have e4 : (nI t = nI (lo S)) = False := by rw [nI_eqE (by omega) (by omega)]; exact eq_false c4
            have e3 : (nI S = ((1 : Int32) <<< (nI (lo S) &&& 31))) = True := eq_true c3
            simp (disch := omega) only [lX9_cycles_42B, bX9_cycles_66, bX9_cycles_67, bX9_cycles_79, ↓bl, ↓reduceIte, e10, e3, e4, er]
            exact key 0 hVn.symm
        · rw [if_neg (fun h9 => c3 h9.1)] at hVn
          have e3 : (nI S = ((1 : Int32) <<< (nI (lo S) &&& 31))) = False := eq_false c3
          simp (disch := omega) only [lX9_cycles_42B, bX9_cycles_66, bX9_cycles_67, bX9_cycles_79, ↓bl, ↓reduceIte, e10, e3, er]
          exact key 0 hVn.symm
      · have c1 : lo S < t := Decidable.byContradiction (fun h9 => c (Or.inl (by omega)))
        have c2 : bt (nI S) t = true := by
          cases e : bt (nI S) t
          · exact absurd (Or.inr e) c
          · rfl
        have k1 := c94 hS h0 ht c1 c2 X (lX9_cycles_42 q16 fuel) z hG hW (10 - lo S) (lo S) (by omega) fu (by unfold fu; omega)
        rw [sm_z (lo S) (fun b hb => by
          rw [rm_bt hS (by omega) (by omega), l3 b hb]; simp)] at k1
        have e4 : (nI t = nI (lo S)) = False := by rw [nI_eqE (by omega) (by omega)]; exact eq_false (by omega)
        by_cases c3 : nI S = ((1 : Int32) <<< (nI (lo S) &&& 31))
        · have e3 : (nI S = ((1 : Int32) <<< (nI (lo S) &&& 31))) = True := eq_true c3
          simp (disch := omega) only [lX9_cycles_42B, bX9_cycles_66, bX9_cycles_67, bX9_cycles_79, ↓bl, ↓reduceIte, e10, e3, e4, er]
          exact k1
        · have e3 : (nI S = ((1 : Int32) <<< (nI (lo S) &&& 31))) = False := eq_false c3
          simp (disch := omega) only [lX9_cycles_42B, bX9_cycles_66, bX9_cycles_67, bX9_cycles_79, ↓bl, ↓reduceIte, e10, e3, er]
          exact k1
theorem c25 {S : Nat} (hS : S < 1024) (h0 : S ≠ 0) (N : Int32) (q16 : Nat → Int32 → Int32 → Nat → AH → Option (Int32 × Nat × AH)) (z : Nat) (h : AH) : ∀ (d k : Nat), k + d = lo S → ∀ fuel, d < fuel → lX9_cycles_25 q16 fuel m N (nI S) (nI k) z h = lX9_cycles_42 q16 fu m N (nI S) (nI (lo S)) (nI (lo S)) z h := by
  obtain ⟨l1, l2, l3⟩ := lo_sp hS h0
  intro d
  induction d with
  | zero =>
    intro k hk fuel hf
    obtain rfl : k = lo S := by omega
    cases fuel with
    | zero => omega
    | succ fuel =>
      show lX9_cycles_25B _ _ _ _ _ _ _ _ = _
      simp (disch := omega) only [lX9_cycles_25B, ↓reduceIte, bit_0, l2, Bool.true_eq_false]
  | succ d ih =>
    intro k hk fuel hf
    cases fuel with
    | zero => omega
    | succ fuel =>
      have h3 := ih (k + 1) (by omega) fuel (by omega)
      have e := l3 k (by omega)
      show lX9_cycles_25B _ _ _ _ _ _ _ _ = _
      simp (disch := omega) only [lX9_cycles_25B, ↓reduceIte, bit_0, e, nI_1]
      exact h3
theorem c16 (z : Nat) : ∀ (d S : Nat), S + d = 1024 → 1 ≤ S → ∀ (h : AH) (fuel : Nat), d < fuel → RGr h m E → WT E S 0 (iv h (m + 9)) →
    ∃ h', lX9_cycles_16 fuel m (sm S (fun S => if S = 0 then 0 else gS E S)) (nI S) z h = some (sm 1024 (fun S => if S = 0 then 0 else gS E S), z, h') ∧ Fq (fun b => b = m + 9) h h' := by
  intro d
  induction d with
  | zero =>
    intro S hS h1 h fuel hf hG hW
    obtain rfl : S = 1024 := by omega
    cases fuel with
    | zero => omega
    | succ fuel =>
      refine ⟨h, ?_, Fq.rf _ h⟩
      show lX9_cycles_16B _ _ _ _ _ _ = _
      simp (disch := omega) only [lX9_cycles_16B, show (1024 : Int32) = nI 1024 from rfl, Int32.le_refl, ↓reduceIte]
  | succ d ih =>
    intro S hS h1 h fuel hf hG hW
    cases fuel with
    | zero => omega
    | succ fuel =>
      have hS' : S < 1024 := by omega
      have h0 : S ≠ 0 := by omega
      obtain ⟨l1, l2, l3⟩ := lo_sp hS' h0
      have hW2 : WT E S (lo S) (iv h (m + 9)) := fun S' t' a b c d e => hW S' t' a b c d (by
        rcases e with e | ⟨e1, e2⟩
        · exact Or.inl e
        · rw [e1] at d; omega)
      generalize hX : sm S (fun S => if S = 0 then 0 else gS E S) = X
      have k1 := c25 (m := m) hS' h0 X (lX9_cycles_16 fuel) z h (lo S) 0 (by omega) fu (by unfold fu; omega)
      obtain ⟨h1', w1, w2, w3⟩ := c42 (m := m) (E := E) hS' h0 X (lX9_cycles_16 fuel) z (10 - lo S) (lo S) (by omega) (Nat.le_refl _) h fu (by unfold fu; omega) hG hW2
      rw [sm_z (lo S) (fun t ht => by
        have hv : V E S t = 0 := by rw [V_no hS' (by omega) (Or.inl (by omega)), if_neg (by omega)]
        rw [hv]; simp), Int32.add_zero] at w1
      obtain ⟨h', v1, v2⟩ := ih (S + 1) (by omega) (by omega) h1' fuel (by omega) (hG.F w2) w3
      rw [sm_s, hX, if_neg h0] at v1
      refine ⟨h', ?_, w2.tr v2⟩
      rw [← v1, ← w1]
      rw [nI_0] at k1
      have e0 : ((1024 : Int32) ≤ nI S) = False := by rw [show (1024 : Int32) = nI 1024 from rfl, nI_leE (by omega) (by omega)]; exact eq_false (by omega)
      show lX9_cycles_16B _ _ _ _ _ _ = _
      simp (disch := omega) only [lX9_cycles_16B, ↓reduceIte, e0]
      exact k1
end CR
theorem r_cycles {h : AH} {m z : Nat} {A : TS} {B : Nat} (hR : RI h m A) (hT : TI A B) : RP (fX9_cycles m z h) h m z (vCy (ng A.1.1.1), A) := by
  obtain ⟨c1, c2, c3⟩ := RI_code hR 0
  obtain ⟨h1, v1, v2, v3, v4, -⟩ := r_lays (z := z) c1 hT 1023
  have hG : RGr h1 m (ng A.1.1.1) := ⟨v2.1, v4.tr (er_all A.1.1.1)⟩
  obtain ⟨h', w1, w2⟩ := c16 (m := m) (E := ng A.1.1.1) z 1023 1 (by omega) (by omega) h1 fu (by unfold fu; omega) hG (fun S' t' a b c d e => by omega)
  rw [vCy_S (fun t ht => ng_self A.1.1.1 ht)] at w1
  refine ⟨h', ?_, RI_f (P := fun b => b = m + 9) (fun b hb => by omega) w2 v2, (c2.tr (v3.mono PL2_R)).tr (w2.mono (fun b hb => by unfold PR; omega))⟩
  have hk0 := hR.1.1
  have es : sm 1 (fun S => if S = 0 then 0 else gS (ng A.1.1.1) S) = 0 := by
    rw [sm_s]
    show 0 + (if 0 = 0 then 0 else gS (ng A.1.1.1) 0) = (0 : Int32)
    rw [if_pos rfl]; rfl
  rw [es] at w1
  simp (disch := omega) only [fX9_cycles, ↓gd, ↓bl, ↓reduceIte, hk0, ↓bb2 v1]
  exact w1
