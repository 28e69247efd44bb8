/-- the order of Books a is the list L -/
def RBo (h : AH) (a : Nat) (L : List Nat) : Prop := iv h a 8 = nI L.length ∧ ∀ j x, L[j]? = some x → iv h (a + 15) j = nI x
theorem e0_lo_loop {a : Nat} {t : Nat} (ht : t < 10) (z : Nat) : ∀ (B K : List Nat) (i : Nat) (h : AH) (fuel : Nat), BO h a → iv h a 8 = nI (i + B.length) → i + B.length ≤ 10 → K.length ≤ i → (∀ x ∈ B, x < 10) →
    (∀ j x, K[j]? = some x → iv h (a + 15) j = nI x) → (∀ j x, B[j]? = some x → iv h (a + 15) (i + j) = nI x) → B.length < fuel →
    ∃ h', lX0_leaveOrder_4 fuel a (nI t) (nI K.length) (nI i) z h = some (z, h') ∧ Fr h h' a ∧ RBo h' a (K ++ B.filter (fun x => decide (x ≠ t))) ∧ (∀ j, j ≠ 8 → iv h' a j = iv h a j) ∧ (∀ b, a < b → b < a + 15 → iv h' b = iv h b) ∧ h'.2.2.1 = h.2.2.1 := by
  intro B
  induction B with
  | nil =>
    intro K i h fuel hB hq h10 hK hB10 hKo hBo hfu
    cases fuel with
    | zero => simp at hfu
    | succ fuel =>
      simp only [List.length_nil, Nat.add_zero] at hq h10
      refine ⟨wI h a 8 (nI K.length), ?_, Fr.w h _ _ (by omega) (by omega), ⟨?_, ?_⟩, ?_, ?_, rfl⟩
      · show lX0_leaveOrder_4B _ _ _ _ _ _ _ = _
        have hk := hB.1
        simp (disch := omega) only [lX0_leaveOrder_4B, bX0_leaveOrder_49, ↓gd, ↓bl, ↓reduceIte, hk, hq, Int32.le_refl]
      · rw [iv_wI, if_pos rfl, if_pos rfl]; simp
      · intro j x hj
        rw [iv_wI_ne _ _ _ (by omega)]
        exact hKo j x (by simpa using hj)
      · intro j hj; rw [iv_wI, if_pos rfl, if_neg hj]
      · intro b h1 h2; exact iv_wI_ne _ _ _ (by omega)
  | cons x B ih =>
    intro K i h fuel hB hq h10 hK hB10 hKo hBo hfu
    simp only [List.length_cons] at hq h10 hfu
    have e1 : iv h (a + 15) i = nI x := hBo 0 x rfl
    have hx := hB10 x List.mem_cons_self
    cases fuel with
    | zero => omega
    | succ fuel =>
      by_cases e : x = t
      · subst e
        obtain ⟨h', w1, w2, w3, w4, w5, w6⟩ := ih K (i + 1) h fuel hB (by rw [hq]; congr 1; omega) (by omega) (by omega) (fun u hu => hB10 u (List.mem_cons_of_mem _ hu)) hKo (fun j y hj => by rw [show i + 1 + j = i + (j + 1) by omega]; exact hBo (j + 1) y (by simpa using hj)) (by omega)
        refine ⟨h', ?_, w2, by simpa using w3, w4, w5, w6⟩
        show lX0_leaveOrder_4B _ _ _ _ _ _ _ = _
        obtain ⟨bk, b0, b1, b2, b3, b4, b5, b6, b7, fk, f0, f1, f2, mk0, m0, m1, m2, m3, kf0, kf1, kf2, lf0, lf1, lf2, km0, km1, km2, km3, lm0, lm1, lm2, lm3, kb2, kb3, kb4, kb5, kb6, kb7, lb2, lb3, lb4, lb5, lb6, lb7⟩ := id hB
        simp (disch := omega) only [lX0_leaveOrder_4B, bX0_leaveOrder_43, ↓gd, ↓bl, ↓on, ↓xr, ↓reduceIte, if_true, if_false, kd_wI, ln_wI, rv_wI, iv_wI, jv_wI, kd_wJ, ln_wJ, rv_wJ, iv_wJ, nI_clamp, nI_leE, nI_ltE, nI_eqE, m1_ne, bit_0, bit_1, nI_negE, leN_F, leN_T, ltN_F, ltN_T, eqN_F, or_false, false_or, or_true, true_or, not_false_eq_true, not_true_eq_false, and_true, true_and, and_false, false_and, bk, ↓bb b0, ↓bb b1, ↓bb b2, ↓bb b3, ↓bb b4, ↓bb b5, ↓bb b6, ↓bb b7, fk, ↓bb f0, ↓bb f1, ↓bb f2, mk0, ↓bb m0, ↓bb m1, ↓bb m2, ↓bb m3, kf0, kf1, kf2, lf0, lf1, lf2, km0, km1, km2, km3, lm0, lm1, lm2, lm3, kb2, kb3, kb4, kb5, kb6, kb7, lb2, lb3, lb4, lb5, lb6, lb7, hq, li10, e1, nI_1]
        exact w1
      · obtain ⟨h', w1, w2, w3, w4, w5, w6⟩ := ih (K ++ [x]) (i + 1) (wI h (a + 15) K.length (nI x)) fuel (BO_c rfl rfl hB) (by rw [iv_wI_ne _ _ _ (by omega), hq]; congr 1; omega) (by omega) (by simp; omega) (fun u hu => hB10 u (List.mem_cons_of_mem _ hu))
          (fun j y hj => by
            rw [iv_wI, if_pos rfl]
            by_cases e : j = K.length
            · subst e
              simp at hj
              rw [if_pos rfl, hj]
            · rw [if_neg e]
              have hl := (List.getElem?_eq_some_iff.mp hj).1
              simp at hl
              rw [List.getElem?_append_left (by omega)] at hj
              exact hKo j y hj)
          (fun j y hj => by
            rw [iv_wI, if_pos rfl, if_neg (by omega), show i + 1 + j = i + (j + 1) by omega]
            exact hBo (j + 1) y (by simpa using hj)) (by omega)
        refine ⟨h', ?_, (Fr.w h _ _ (by omega) (by omega)).tr w2, by simpa [e] using w3, fun j hj => by rw [w4 j hj, iv_wI_ne _ _ _ (by omega)], fun b h1 h2 => by rw [w5 b h1 h2, iv_wI_ne _ _ _ (by omega)], w6⟩
        show lX0_leaveOrder_4B _ _ _ _ _ _ _ = _
        obtain ⟨bk, b0, b1, b2, b3, b4, b5, b6, b7, fk, f0, f1, f2, mk0, m0, m1, m2, m3, kf0, kf1, kf2, lf0, lf1, lf2, km0, km1, km2, km3, lm0, lm1, lm2, lm3, kb2, kb3, kb4, kb5, kb6, kb7, lb2, lb3, lb4, lb5, lb6, lb7⟩ := id hB
        simp (disch := omega) only [lX0_leaveOrder_4B, bX0_leaveOrder_43, ↓gd, ↓bl, ↓on, ↓xr, ↓reduceIte, if_true, if_false, kd_wI, ln_wI, rv_wI, iv_wI, jv_wI, kd_wJ, ln_wJ, rv_wJ, iv_wJ, nI_clamp, nI_leE, nI_ltE, nI_eqE, m1_ne, bit_0, bit_1, nI_negE, leN_F, leN_T, ltN_F, ltN_T, eqN_F, or_false, false_or, or_true, true_or, not_false_eq_true, not_true_eq_false, and_true, true_and, and_false, false_and, bk, ↓bb b0, ↓bb b1, ↓bb b2, ↓bb b3, ↓bb b4, ↓bb b5, ↓bb b6, ↓bb b7, fk, ↓bb f0, ↓bb f1, ↓bb f2, mk0, ↓bb m0, ↓bb m1, ↓bb m2, ↓bb m3, kf0, kf1, kf2, lf0, lf1, lf2, km0, km1, km2, km3, lm0, lm1, lm2, lm3, kb2, kb3, kb4, kb5, kb6, kb7, lb2, lb3, lb4, lb5, lb6, lb7, hq, li10, e1, nI_1, e]
        simpa using w1
theorem e0_leaveOrder {h : AH} {a : Nat} (hB : BO h a) {L : List Nat} (hL : L.length ≤ 10) (hL10 : ∀ x ∈ L, x < 10) (hO : RBo h a L) {t : Nat} (ht : t < 10) (z : Nat) :
    ∃ h', fX0_leaveOrder a (nI t) z h = some (z, h') ∧ Fr h h' a ∧ RBo h' a (L.filter (fun x => decide (x ≠ t))) ∧ (∀ j, j ≠ 8 → iv h' a j = iv h a j) ∧ (∀ b, a < b → b < a + 15 → iv h' b = iv h b) ∧ h'.2.2.1 = h.2.2.1 := by
  obtain ⟨h', w1, w2, w3, w4⟩ := e0_lo_loop ht z L [] 0 h fu hB (by rw [hO.1]; congr 1; omega) (by omega) (by simp) hL10 (fun j x hj => by simp at hj) (fun j x hj => by rw [Nat.zero_add]; exact hO.2 j x hj) (by unfold fu; omega)
  exact ⟨h', w1, w2, w3, w4⟩
theorem RBt_c {h h' : AH} {a : Nat} {p q : Nat → Int32} (e9 : iv h' a 9 = iv h a 9) (e : ∀ b, a + 10 ≤ b → b < a + 15 → iv h' b = iv h b) (en : ∀ j, 32 ≤ j → j < 92 → p j = q j) (hT : RBt h a p) : RBt h' a q := by
  have eth : ∀ t, t < 10 → th p t = th q t := fun t ht => by unfold th; rw [en (32 + 6 * t) (by omega) (by omega)]
  have ewt : ∀ t, t < 10 → wt p t = wt q t := fun t ht => by unfold wt; rw [eth t ht, en (32 + 6 * t + 4) (by omega) (by omega)]
  obtain ⟨t1, t2, t3⟩ := hT
  refine ⟨?_, fun t ht => ?_, fun t ht h9 => ?_⟩
  · rw [e9, t1]; exact mk_congr (fun i hi => eth i hi)
  · rw [e (a + 10) (by omega) (by omega), e (a + 11) (by omega) (by omega), e (a + 13) (by omega) (by omega), e (a + 12) (by omega) (by omega), ← en (32 + 6 * t + 1) (by omega) (by omega), ← en (32 + 6 * t + 2) (by omega) (by omega), ← en (32 + 6 * t + 3) (by omega) (by omega), ← en (32 + 6 * t + 4) (by omega) (by omega)]
    exact t2 t ht
  · rw [e (a + 14) (by omega) (by omega), ← ewt t ht, ← en (32 + 6 * t + 5) (by omega) (by omega)]
    exact t3 t ht (by rw [eth t ht]; exact h9)
/-- a task is struck: it holds nothing, is aborted (but for the order) -/
def skP (p : Nat → Int32) (t : Nat) : Nat → Int32 := upd (upd p (32 + 6 * t + 3) 0) (32 + 6 * t + 4) 2
theorem skP_at (p : Nat → Int32) (t j : Nat) : skP p t j = if j = 32 + 6 * t + 4 then 2 else if j = 32 + 6 * t + 3 then 0 else p j := rfl
theorem skP_th (p : Nat → Int32) (t k : Nat) : th (skP p t) k = th p k := by unfold th; rw [skP_at, if_neg (by omega), if_neg (by omega)]
theorem skP_wt (p : Nat → Int32) (t k : Nat) : wt (skP p t) k = (wt p k && decide (k ≠ t)) := by
  unfold wt
  rw [skP_th, skP_at]
  by_cases e : k = t
  · subst e; simp
  · rw [if_neg (by omega), if_neg (by omega)]; simp [e]
theorem skP_sres (p : Nat → Int32) (t : Nat) : sres p (skP p t) := fun j hj => by rw [skP_at, if_neg (by omega), if_neg (by omega)]
/-- Books.strike -/
theorem e0_strike {h : AH} {a : Nat} {p : Nat → Int32} (hB : BO h a) (hW : WFr p) (hR : RBr h a p) (hT : RBt h a p) {L : List Nat} (hL : L.length ≤ 10) (hL10 : ∀ x ∈ L, x < 10) (hO : RBo h a L) {t : Nat} (ht : t < 10) (hth : th p t = true) (z : Nat) :
    ∃ h', fX0_strike a (nI t) z h = some (z, h') ∧ Fr h h' a ∧ RBr h' a (skP p t) ∧ RBt h' a (skP p t) ∧ RBo h' a (L.filter (fun x => decide (x ≠ t))) ∧ (∀ j, j ≠ 8 → iv h' a j = iv h a j) ∧ (∀ b, a + 5 ≤ b → b < a + 10 → iv h' b = iv h b) ∧ h'.2.2.1 = h.2.2.1 := by
  have x1 := e0_has hB hT (nI t) z
  rw [tkI_nI ht, hth] at x1
  simp only [if_true] at x1
  obtain ⟨h1, v1, v2, v3, v4, v5, v6⟩ := e0_leaveOrder hB hL hL10 hO ht z
  refine ⟨wI (wI (wI h1 (a + 13) t 0) (a + 14) t (-1)) (a + 12) t 2, ?_, ?_, ?_, ?_, ?_, ?_, ?_, v6⟩
  · have hB1 := BO_f v2 hB
    have hk0 := hB.1
    clear hB
    have hB := hB1
    obtain ⟨bk, b0, b1, b2, b3, b4, b5, b6, b7, fk, f0, f1, f2, mk0, m0, m1, m2, m3, kf0, kf1, kf2, lf0, lf1, lf2, km0, km1, km2, km3, lm0, lm1, lm2, lm3, kb2, kb3, kb4, kb5, kb6, kb7, lb2, lb3, lb4, lb5, lb6, lb7⟩ := id hB
    simp (disch := omega) only [fX0_strike, ↓gd, ↓bl, ↓on, ↓xr, ↓reduceIte, if_true, if_false, kd_wI, ln_wI, rv_wI, iv_wI, jv_wI, kd_wJ, ln_wJ, rv_wJ, iv_wJ, nI_clamp, nI_leE, nI_ltE, nI_eqE, m1_ne, bit_0, bit_1, nI_negE, leN_F, leN_T, ltN_F, ltN_T, eqN_F, or_false, false_or, or_true, true_or, not_false_eq_true, not_true_eq_false, and_true, true_and, and_false, false_and, hk0, ↓bb3 x1, ne10, ↓bb2 v1, bk, ↓bb b0, ↓bb b1, ↓bb b2, ↓bb b3, ↓bb b4, ↓bb b5, ↓bb b6, ↓bb b7, fk, ↓bb f0, ↓bb f1, ↓bb f2, mk0, ↓bb m0, ↓bb m1, ↓bb m2, ↓bb m3, kf0, kf1, kf2, lf0, lf1, lf2, km0, km1, km2, km3, lm0, lm1, lm2, lm3, kb2, kb3, kb4, kb5, kb6, kb7, lb2, lb3, lb4, lb5, lb6, lb7]
  · exact ((v2.tr (Fr.w h1 _ _ (by omega) (by omega))).tr (Fr.w _ _ _ (by omega) (by omega))).tr (Fr.w _ _ _ (by omega) (by omega))
  · refine RBr_s hW (fun b y1 y2 => ?_) (skP_sres p t) hR
    rw [iv_wI_ne _ _ _ (by omega), iv_wI_ne _ _ _ (by omega), iv_wI_ne _ _ _ (by omega), v5 b y1 (by omega)]
  · have hT1 : RBt h1 a p := RBt_c (v4 9 (by omega)) (fun b y1 y2 => v5 b (by omega) y2) (fun _ _ _ => rfl) hT
    obtain ⟨t1, t2, t3⟩ := hT1
    refine ⟨?_, fun k hk => ?_, fun k hk hkt => ?_⟩
    · simp (disch := omega) only [iv_wI, eqN_F, if_false]
      rw [t1]
      exact mk_congr (fun k _ => (skP_th p t k).symm)
    · obtain ⟨y1, y2, y3, y4⟩ := t2 k hk
      simp (disch := omega) only [iv_wI, eqN_F, if_false, if_true, skP_at, y1, y2, y3, y4]
      refine ⟨trivial, trivial, ?_, ?_⟩
      · by_cases e : k = t
        · subst e; simp
        · rw [if_neg e, if_neg (by omega)]
      · by_cases e : k = t
        · subst e; simp
        · rw [if_neg e, if_neg (by omega)]
    · rw [skP_th] at hkt
      have y := t3 k hk hkt
      simp (disch := omega) only [iv_wI, eqN_F, if_false, if_true, skP_wt, skP_at, y]
      by_cases e : k = t
      · subst e; simp
      · simp [e]
  · refine ⟨by rw [iv_wI_ne _ _ _ (by omega), iv_wI_ne _ _ _ (by omega), iv_wI_ne _ _ _ (by omega)]; exact v3.1, fun j x hj => ?_⟩
    rw [iv_wI_ne _ _ _ (by omega), iv_wI_ne _ _ _ (by omega), iv_wI_ne _ _ _ (by omega)]
    exact v3.2 j x hj
  · intro j hj
    rw [iv_wI_ne _ _ _ (by omega), iv_wI_ne _ _ _ (by omega), iv_wI_ne _ _ _ (by omega), v4 j hj]
  · intro b y1 y2
    rw [iv_wI_ne _ _ _ (by omega), iv_wI_ne _ _ _ (by omega), iv_wI_ne _ _ _ (by omega), v5 b (by omega) (by omega)]
