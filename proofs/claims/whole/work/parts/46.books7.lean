theorem e2_hasR {h : AH} {a : Nat} {q : Nat → Int32} (hB : BO h a) (hW : WFr q) (hR : RBr h a q) {r : Nat} (hr : r < nr q) (z : Nat) : fX2_has (a + 1) (nI r) z h = some (1, z, h) := by
  have hn := hW.2.1
  rw [e2_has hB hW hR (nI r) z, rsI_nI hn (by omega)]
  simp [hr]
theorem ovr_0 {q : Nat → Int32} (hn : nr q ≤ 16) {t r : Nat} : (q (32 + 6 * t + 3) &&& mk 16 (fun o => decide (o < nr q) && bel q r o) = 0) = (ovr q t r = false) := by
  apply propext
  unfold ovr
  rw [eq0_bt, anyB_false]
  constructor
  · intro h i hi
    have := h i (by omega)
    rw [b_and, bt_mk 16 _ (by omega)] at this
    simpa [show i < 16 by omega, hi] using this
  · intro h i hi
    rw [b_and, bt_mk 16 _ (by omega)]
    by_cases e : i < nr q
    · have := h i e
      simpa [show i < 16 by omega, e] using this
    · simp [e]
theorem e0_covers {h : AH} {a : Nat} {q : Nat → Int32} {L : List Nat} (hW : WFr q) (hC : CB h a q L) {t r : Nat} (ht : t < 10) (hr : r < nr q) (z : Nat) : fX0_covers a (nI t) (nI r) z h = some (if th q t && ovr q t r then 1 else 0, z, h) := by
  obtain ⟨hB, hR, hT, -⟩ := hC
  have hn := hW.2.1
  have x1 := e0_has hB hT (nI t) z
  rw [tkI_nI ht] at x1
  have x2 := e2_hasR hB hW hR hr z
  have h5 := (hT.2.1 t ht).2.2.1
  have h3 := hR.2.2.1 r hr
  obtain ⟨bk, b0, b1, b2, b3, b4, b5, b6, b7, fk, f0, f1, f2, mk0, m0, m1, m2, m3, kf0, kf1, kf2, lf0, lf1, lf2, km0, km1, km2, km3, lm0, lm1, lm2, lm3, kb2, kb3, kb4, kb5, kb6, kb7, lb2, lb3, lb4, lb5, lb6, lb7⟩ := id hB
  cases e : th q t
  · rw [e] at x1
    simp (disch := omega) only [fX0_covers, ↓brv_wI, ↓brv_wJ, ↓gd, ↓bl, ↓on, ↓xr, ↓reduceIte, if_true, if_false, kd_wI, ln_wI, rv_wI, iv_wI, jv_wI, kd_wJ, ln_wJ, rv_wJ, iv_wJ, nI_clamp, nI_leE, nI_ltE, nI_eqE, m1_ne, bit_0, bit_1, nI_negE, leN_F, leN_T, ltN_F, ltN_T, eqN_F, or_false, false_or, or_true, true_or, not_false_eq_true, not_true_eq_false, and_true, true_and, and_false, false_and, ↓bb3 x1, bk, ↓bb b0, ↓bb b1, ↓bb b2, ↓bb b3, ↓bb b4, ↓bb b5, ↓bb b6, ↓bb b7, fk, ↓bb f0, ↓bb f1, ↓bb f2, mk0, ↓bb m0, ↓bb m1, ↓bb m2, ↓bb m3, kf0, kf1, kf2, lf0, lf1, lf2, km0, km1, km2, km3, lm0, lm1, lm2, lm3, kb2, kb3, kb4, kb5, kb6, kb7, lb2, lb3, lb4, lb5, lb6, lb7, Bool.false_eq_true, Bool.false_and]
  · rw [e] at x1
    simp (disch := omega) only [fX0_covers, ↓brv_wI, ↓brv_wJ, ↓gd, ↓bl, ↓on, ↓xr, ↓reduceIte, if_true, if_false, kd_wI, ln_wI, rv_wI, iv_wI, jv_wI, kd_wJ, ln_wJ, rv_wJ, iv_wJ, nI_clamp, nI_leE, nI_ltE, nI_eqE, m1_ne, bit_0, bit_1, nI_negE, leN_F, leN_T, ltN_F, ltN_T, eqN_F, or_false, false_or, or_true, true_or, not_false_eq_true, not_true_eq_false, and_true, true_and, and_false, false_and, ↓bb3 x1, ↓bb3 x2, ne10, bk, ↓bb b0, ↓bb b1, ↓bb b2, ↓bb b3, ↓bb b4, ↓bb b5, ↓bb b6, ↓bb b7, fk, ↓bb f0, ↓bb f1, ↓bb f2, mk0, ↓bb m0, ↓bb m1, ↓bb m2, ↓bb m3, kf0, kf1, kf2, lf0, lf1, lf2, km0, km1, km2, km3, lm0, lm1, lm2, lm3, kb2, kb3, kb4, kb5, kb6, kb7, lb2, lb3, lb4, lb5, lb6, lb7, h5, h3, ovr_0, Bool.true_and]
    cases ovr q t r <;> simp
theorem e0_own_loop {h : AH} {a : Nat} {q : Nat → Int32} {L : List Nat} (hW : WFr q) (hC : CB h a q L) {r : Nat} (hr : r < nr q) (z : Nat) : ∀ (d k : Nat), k + d = 10 → ∀ fuel, d < fuel → lX0_ownerOf_2 fuel a (nI r) (nI k) z h = some (fn (ff (fun t => th q t && ovr q t r) k d), z, h) := by
  intro d
  have hk := hC.1.1
  induction d with
  | zero =>
    intro k hk fuel hf
    obtain rfl : k = 10 := by omega
    cases fuel with
    | zero => omega
    | succ fuel =>
      show lX0_ownerOf_2B _ _ _ _ _ _ = _
      simp (disch := omega) only [lX0_ownerOf_2B, ↓brv_wI, ↓brv_wJ, ↓gd, ↓bl, ↓on, ↓xr, ↓reduceIte, if_true, if_false, kd_wI, ln_wI, rv_wI, iv_wI, jv_wI, kd_wJ, ln_wJ, rv_wJ, iv_wJ, nI_clamp, nI_leE, nI_ltE, nI_eqE, m1_ne, bit_0, bit_1, nI_negE, leN_F, leN_T, ltN_F, ltN_T, eqN_F, or_false, false_or, or_true, true_or, not_false_eq_true, not_true_eq_false, and_true, true_and, and_false, false_and, li10]
      rfl
  | succ d ih =>
    intro k hkd fuel hf
    cases fuel with
    | zero => omega
    | succ fuel =>
      have h3 := ih (k + 1) (by omega) fuel (by omega)
      have x1 := e0_covers hW hC (t := k) (by omega) hr z
      show lX0_ownerOf_2B _ _ _ _ _ _ = _
      simp (disch := omega) only [lX0_ownerOf_2B, ↓brv_wI, ↓brv_wJ, ↓gd, ↓bl, ↓on, ↓xr, ↓reduceIte, if_true, if_false, kd_wI, ln_wI, rv_wI, iv_wI, jv_wI, kd_wJ, ln_wJ, rv_wJ, iv_wJ, nI_clamp, nI_leE, nI_ltE, nI_eqE, m1_ne, bit_0, bit_1, nI_negE, leN_F, leN_T, ltN_F, ltN_T, eqN_F, or_false, false_or, or_true, true_or, not_false_eq_true, not_true_eq_false, and_true, true_and, and_false, false_and, li10, hk, ↓bb3 x1, nI_1]
      unfold ff
      cases e : (th q k && ovr q k r)
      · simpa using h3
      · have : ¬ k = 10 := by omega
        simp [fn, this]
theorem e0_ownerOf {h : AH} {a : Nat} {q : Nat → Int32} {L : List Nat} (hW : WFr q) (hC : CB h a q L) {r : Nat} (hr : r < nr q) (z : Nat) : fX0_ownerOf a (nI r) z h = some (fn (ff (fun t => th q t && ovr q t r) 0 10), z, h) := by
  have := e0_own_loop hW hC hr z 10 0 (by omega) fu (by unfold fu; omega)
  rw [nI_0] at this
  exact this
theorem e0_young_loop {h : AH} {a : Nat} {q : Nat → Int32} {L : List Nat} (hC : CB h a q L) {t : Nat} (ht : t < 10) (s : Int32) (z : Nat) : ∀ (d k : Nat), k + d = 10 → ∀ fuel, d < fuel → lX0_youngerThan_15 fuel a (nI t) s (mk k (yg q t (bt s))) (nI k) z h = some (mk 10 (yg q t (bt s)), z, h) := by
  intro d
  obtain ⟨hB, hR, hT, -⟩ := hC
  have ht2 := (hT.2.1 t ht).2.1
  induction d with
  | zero =>
    intro k hk fuel hf
    obtain rfl : k = 10 := by omega
    cases fuel with
    | zero => omega
    | succ fuel =>
      show lX0_youngerThan_15B _ _ _ _ _ _ _ _ = _
      simp (disch := omega) only [lX0_youngerThan_15B, ↓brv_wI, ↓brv_wJ, ↓gd, ↓bl, ↓on, ↓xr, ↓reduceIte, if_true, if_false, kd_wI, ln_wI, rv_wI, iv_wI, jv_wI, kd_wJ, ln_wJ, rv_wJ, iv_wJ, nI_clamp, nI_leE, nI_ltE, nI_eqE, m1_ne, bit_0, bit_1, nI_negE, leN_F, leN_T, ltN_F, ltN_T, eqN_F, or_false, false_or, or_true, true_or, not_false_eq_true, not_true_eq_false, and_true, true_and, and_false, false_and, li10]
  | succ d ih =>
    intro k hk fuel hf
    cases fuel with
    | zero => omega
    | succ fuel =>
      have h3 := ih (k + 1) (by omega) fuel (by omega)
      rw [mk_s] at h3
      have hk2 := (hT.2.1 k (by omega)).2.1
      show lX0_youngerThan_15B _ _ _ _ _ _ _ _ = _
      obtain ⟨bk, b0, b1, b2, b3, b4, b5, b6, b7, fk, f0, f1, f2, mk0, m0, m1, m2, m3, kf0, kf1, kf2, lf0, lf1, lf2, km0, km1, km2, km3, lm0, lm1, lm2, lm3, kb2, kb3, kb4, kb5, kb6, kb7, lb2, lb3, lb4, lb5, lb6, lb7⟩ := id hB
      simp (disch := omega) only [lX0_youngerThan_15B, bX0_youngerThan_54, ↓brv_wI, ↓brv_wJ, ↓gd, ↓bl, ↓on, ↓xr, ↓reduceIte, if_true, if_false, kd_wI, ln_wI, rv_wI, iv_wI, jv_wI, kd_wJ, ln_wJ, rv_wJ, iv_wJ, nI_clamp, nI_leE, nI_ltE, nI_eqE, m1_ne, bit_0, bit_1, nI_negE, leN_F, leN_T, ltN_F, ltN_T, eqN_F, or_false, false_or, or_true, true_or, not_false_eq_true, not_true_eq_false, and_true, true_and, and_false, false_and, bk, ↓bb b0, ↓bb b1, ↓bb b2, ↓bb b3, ↓bb b4, ↓bb b5, ↓bb b6, ↓bb b7, fk, ↓bb f0, ↓bb f1, ↓bb f2, mk0, ↓bb m0, ↓bb m1, ↓bb m2, ↓bb m3, kf0, kf1, kf2, lf0, lf1, lf2, km0, km1, km2, km3, lm0, lm1, lm2, lm3, kb2, kb3, kb4, kb5, kb6, kb7, lb2, lb3, lb4, lb5, lb6, lb7, li10, ↓bb3 (e8_inSet _ (show k < 32 by omega) _ _), nI_1, hk2, ht2]
      cases hb : bt s k
      · simp only [yg, hb, Bool.false_and, Bool.false_eq_true, if_false] at h3 ⊢
        exact h3
      · by_cases e : q (32 + 6 * k + 2) ≤ q (32 + 6 * t + 2)
        · simp only [yg, hb, e, not_true_eq_false, decide_false, Bool.and_false, Bool.false_eq_true, if_false, if_true, ne10] at h3 ⊢
          exact h3
        · simp only [yg, hb, e, not_false_eq_true, decide_true, Bool.and_true, if_true, if_false, ne10] at h3 ⊢
          exact h3
theorem e0_youngerThan {h : AH} {a : Nat} {q : Nat → Int32} {L : List Nat} (hC : CB h a q L) {t : Nat} (ht : t < 10) (hth : th q t = true) (s : Int32) (z : Nat) : fX0_youngerThan a (nI t) s z h = some (mk 10 (yg q t (bt s)), z, h) := by
  have h1 := e0_young_loop hC ht s z 10 0 (by omega) fu (by unfold fu; omega)
  rw [nI_0] at h1
  have hk := hC.1.1
  simp (disch := omega) only [fX0_youngerThan, ↓brv_wI, ↓brv_wJ, ↓gd, ↓bl, ↓on, ↓xr, ↓reduceIte, if_true, if_false, kd_wI, ln_wI, rv_wI, iv_wI, jv_wI, kd_wJ, ln_wJ, rv_wJ, iv_wJ, nI_clamp, nI_leE, nI_ltE, nI_eqE, m1_ne, bit_0, bit_1, nI_negE, leN_F, leN_T, ltN_F, ltN_T, eqN_F, or_false, false_or, or_true, true_or, not_false_eq_true, not_true_eq_false, and_true, true_and, and_false, false_and, hk, ↓bb3 (e0_hasT hC.1 hC.2.2.1 ht hth z), ne10]
  exact h1
theorem e0_pos_loop {h : AH} {a : Nat} {p q : Nat → Int32} (hO : WFo p) (hC : CB h a q (od p)) {t : Nat} (ht : t < 10) (z : Nat) : ∀ (d k : Nat), k + d = oq p → (∀ i, i < k → oi p i ≠ t) → ∀ fuel, d < fuel → lX0_positionOf_2 fuel a (nI t) (nI k) z h = some (plF p t (oq p), z, h) := by
  intro d
  obtain ⟨hB, hR, hT, hOr, -⟩ := hC
  have h8 := hOr.1
  rw [od_len] at h8
  obtain ⟨o1, o2, o3, o4, o5⟩ := id hO
  induction d with
  | zero =>
    intro k hk hlt fuel hf
    obtain rfl : k = oq p := by omega
    cases fuel with
    | zero => omega
    | succ fuel =>
      show lX0_positionOf_2B _ _ _ _ _ _ = _
      have hk := hB.1
      have e : plF p t (oq p) = -1 := by
        rcases plF_ge (p := p) (t := t) (oq p) with e | ⟨b, hb, -, e⟩
        · exact e
        · exfalso
          obtain ⟨h1, h2⟩ := o3 b hb
          rw [h2, nI_eqE (by omega) (by omega)] at e
          exact hlt b hb e
      simp (disch := omega) only [lX0_positionOf_2B, ↓gd, ↓reduceIte, hk, h8, Int32.le_refl, e]
  | succ d ih =>
    intro k hk hlt fuel hf
    cases fuel with
    | zero => omega
    | succ fuel =>
      have hk' : k < oq p := by omega
      have e1 : iv h (a + 15) k = nI (oi p k) := hOr.2 k _ (od_get hk')
      have hoi := (o3 k hk').1
      show lX0_positionOf_2B _ _ _ _ _ _ = _
      obtain ⟨bk, b0, b1, b2, b3, b4, b5, b6, b7, fk, f0, f1, f2, mk0, m0, m1, m2, m3, kf0, kf1, kf2, lf0, lf1, lf2, km0, km1, km2, km3, lm0, lm1, lm2, lm3, kb2, kb3, kb4, kb5, kb6, kb7, lb2, lb3, lb4, lb5, lb6, lb7⟩ := id hB
      simp (disch := omega) only [lX0_positionOf_2B, ↓brv_wI, ↓brv_wJ, ↓gd, ↓bl, ↓on, ↓xr, ↓reduceIte, if_true, if_false, kd_wI, ln_wI, rv_wI, iv_wI, jv_wI, kd_wJ, ln_wJ, rv_wJ, iv_wJ, nI_clamp, nI_leE, nI_ltE, nI_eqE, m1_ne, bit_0, bit_1, nI_negE, leN_F, leN_T, ltN_F, ltN_T, eqN_F, or_false, false_or, or_true, true_or, not_false_eq_true, not_true_eq_false, and_true, true_and, and_false, false_and, bk, ↓bb b0, ↓bb b1, ↓bb b2, ↓bb b3, ↓bb b4, ↓bb b5, ↓bb b6, ↓bb b7, fk, ↓bb f0, ↓bb f1, ↓bb f2, mk0, ↓bb m0, ↓bb m1, ↓bb m2, ↓bb m3, kf0, kf1, kf2, lf0, lf1, lf2, km0, km1, km2, km3, lm0, lm1, lm2, lm3, kb2, kb3, kb4, kb5, kb6, kb7, lb2, lb3, lb4, lb5, lb6, lb7, h8, li10, e1, nI_1]
      by_cases e : oi p k = t
      · rw [if_pos e, plF_at (a := k) _ hk' (by rw [(o3 k hk').2, e]) (fun i hi h9 => ?_)]
        rw [(o3 i hi).2] at h9
        have := (o3 i hi).1
        rw [nI_eqE (by omega) (by omega)] at h9
        exact nodup_get o4 ((od_get hi).trans (by rw [h9])) ((od_get hk').trans (by rw [e]))
      · rw [if_neg e]
        exact ih (k + 1) (by omega) (fun i hi => by
          by_cases e2 : i = k
          · subst e2; exact e
          · exact hlt i (by omega)) fuel (by omega)
theorem e0_positionOf {h : AH} {a : Nat} {p q : Nat → Int32} (hO : WFo p) (hC : CB h a q (od p)) {t : Nat} (ht : t < 10) (z : Nat) : fX0_positionOf a (nI t) z h = some (plF p t (oq p), z, h) := by
  have h10 := hO.2.1
  have := e0_pos_loop hO hC ht z (oq p) 0 (by omega) (fun i hi => by omega) fu (by unfold fu; omega)
  rw [nI_0] at this
  exact this
theorem e0_waitsFor {h : AH} {a : Nat} {q : Nat → Int32} {L : List Nat} (hW : WFr q) (hF : WFt q) (hw : WFw q) (hC : CB h a q L) {t : Nat} (ht : t < 10) (z : Nat) : fX0_waitsFor a (nI t) z h = some (mk 10 (wf q t), z, h) := by
  obtain ⟨hB, hR, hT, -⟩ := hC
  have x1 := e0_isIn hB hT (nI t) 1 z
  rw [tkI_nI ht, nI_clamp (by omega)] at x1
  have x1 : fX0_isIn a (nI t) 1 z h = some (if wt q t then 1 else 0, z, h) := x1
  cases e : wt q t
  · rw [e] at x1
    have hk := hB.1
    simp (disch := omega) only [fX0_waitsFor, ↓brv_wI, ↓brv_wJ, ↓gd, ↓bl, ↓on, ↓xr, ↓reduceIte, if_true, if_false, kd_wI, ln_wI, rv_wI, iv_wI, jv_wI, kd_wJ, ln_wJ, rv_wJ, iv_wJ, nI_clamp, nI_leE, nI_ltE, nI_eqE, m1_ne, bit_0, bit_1, nI_negE, leN_F, leN_T, ltN_F, ltN_T, eqN_F, or_false, false_or, or_true, true_or, not_false_eq_true, not_true_eq_false, and_true, true_and, and_false, false_and, hk, ↓bb3 x1, Bool.false_eq_true]
    have : wf q t = fun _ => false := by funext k; simp [wf, e]
    rw [this, mk_F]
  · rw [e] at x1
    obtain ⟨h1, h2⟩ := hw t ht e
    have e2 : iv h (a + 14) t = nI (wan q t) := by rw [hT.2.2 t ht (wt_th e), if_pos e, h2]
    have x2 : fX0_holdersInWay a (nI t) (iv h (a + 14) (Int32.toNatClampNeg (nI t))) z h = some (mk 10 (way q t (wan q t)), z, h) := by
      rw [nI_clamp (by omega), e2]; exact e0_hiw_t hB hW hF hR hT ht h1 z
    obtain ⟨bk, b0, b1, b2, b3, b4, b5, b6, b7, fk, f0, f1, f2, mk0, m0, m1, m2, m3, kf0, kf1, kf2, lf0, lf1, lf2, km0, km1, km2, km3, lm0, lm1, lm2, lm3, kb2, kb3, kb4, kb5, kb6, kb7, lb2, lb3, lb4, lb5, lb6, lb7⟩ := id hB
    simp (disch := omega) only [fX0_waitsFor, ↓brv_wI, ↓brv_wJ, ↓gd, ↓bl, ↓on, ↓xr, ↓reduceIte, if_true, if_false, kd_wI, ln_wI, rv_wI, iv_wI, jv_wI, kd_wJ, ln_wJ, rv_wJ, iv_wJ, nI_clamp, nI_leE, nI_ltE, nI_eqE, m1_ne, bit_0, bit_1, nI_negE, leN_F, leN_T, ltN_F, ltN_T, eqN_F, or_false, false_or, or_true, true_or, not_false_eq_true, not_true_eq_false, and_true, true_and, and_false, false_and, bk, ↓bb b0, ↓bb b1, ↓bb b2, ↓bb b3, ↓bb b4, ↓bb b5, ↓bb b6, ↓bb b7, fk, ↓bb f0, ↓bb f1, ↓bb f2, mk0, ↓bb m0, ↓bb m1, ↓bb m2, ↓bb m3, kf0, kf1, kf2, lf0, lf1, lf2, km0, km1, km2, km3, lm0, lm1, lm2, lm3, kb2, kb3, kb4, kb5, kb6, kb7, lb2, lb3, lb4, lb5, lb6, lb7, ↓bb3 x1, ne10, ↓bb3 x2]
    have : wf q t = way q t (wan q t) := by funext k; simp [wf, e]
    rw [this]
theorem e0_heldBy {h : AH} {a : Nat} {q : Nat → Int32} {L : List Nat} (hW : WFr q) (hF : WFt q) (hC : CB h a q L) {t : Nat} (ht : t < 10) (hth : th q t = true) (z : Nat) : fX0_heldBy a (nI t) z h = some (nI (cnt 16 (bt (q (32 + 6 * t + 3)))), z, h) := by
  obtain ⟨hB, hR, hT, -⟩ := hC
  have hn := hW.2.1
  have h5 := (hT.2.1 t ht).2.2.1
  have x1 := e0_hasT hB hT ht hth z
  have x2 : fJ6_bitCount_0f7a4 (iv h (a + 13) (Int32.toNatClampNeg (nI t))) z h = some (nI (cnt 16 (bt (q (32 + 6 * t + 3)))), z, h) := by
    rw [nI_clamp (by omega), h5]; exact e_bitc (fun i h1 h2 => (hF t ht).2 i (by omega) h2) z h
  obtain ⟨bk, b0, b1, b2, b3, b4, b5, b6, b7, fk, f0, f1, f2, mk0, m0, m1, m2, m3, kf0, kf1, kf2, lf0, lf1, lf2, km0, km1, km2, km3, lm0, lm1, lm2, lm3, kb2, kb3, kb4, kb5, kb6, kb7, lb2, lb3, lb4, lb5, lb6, lb7⟩ := id hB
  simp (disch := omega) only [fX0_heldBy, ↓brv_wI, ↓brv_wJ, ↓gd, ↓bl, ↓on, ↓xr, ↓reduceIte, if_true, if_false, kd_wI, ln_wI, rv_wI, iv_wI, jv_wI, kd_wJ, ln_wJ, rv_wJ, iv_wJ, nI_clamp, nI_leE, nI_ltE, nI_eqE, m1_ne, bit_0, bit_1, nI_negE, leN_F, leN_T, ltN_F, ltN_T, eqN_F, or_false, false_or, or_true, true_or, not_false_eq_true, not_true_eq_false, and_true, true_and, and_false, false_and, bk, ↓bb b0, ↓bb b1, ↓bb b2, ↓bb b3, ↓bb b4, ↓bb b5, ↓bb b6, ↓bb b7, fk, ↓bb f0, ↓bb f1, ↓bb f2, mk0, ↓bb m0, ↓bb m1, ↓bb m2, ↓bb m3, kf0, kf1, kf2, lf0, lf1, lf2, km0, km1, km2, km3, lm0, lm1, lm2, lm3, kb2, kb3, kb4, kb5, kb6, kb7, lb2, lb3, lb4, lb5, lb6, lb7, ↓bb3 x1, ne10, ↓bb3 x2]
