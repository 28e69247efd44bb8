theorem nI_0E {n : Nat} (h : n < 2 ^ 31) : (nI n = 0) = (n = 0) := by rw [show (0 : Int32) = nI 0 from rfl, nI_eqE h (by omega)]
theorem stl_th : ∀ (L : List Nat) (q : Nat → Int32) (k : Nat), th (stl L q).2.1 k = th q k
  | [], q, k => rfl
  | t :: L, q, k => by
    unfold stl
    split
    · show th (stl L (grP q t (wan q t))).2.1 k = _
      rw [stl_th L _ k, grP_th]
    · exact stl_th L q k
theorem ask_th (s : Ab) (t r k : Nat) : th (askA s t r).1 k = th s.1 k := by
  unfold askA
  split
  · split
    · rfl
    · exact grP_th _ _ _ _
  · split
    · exact wqP_th _ _ _ _
    · split
      · exact (stl_th _ _ _).trans (skP_th _ _ _)
      · split
        · exact (stl_th _ _ _).trans ((grP_th _ _ _ _).trans (skN_th _ _ _ _))
        · exact (stl_th _ _ _).trans ((wqP_th _ _ _ _).trans (skN_th _ _ _ _))
theorem ovT {q : Nat → Int32} {t r : Nat} (hth : th q t = true) : (th q t && ovr q t r) = ovr q t r := by rw [hth]; rfl
theorem w1_outcomeOf {h : AH} {x : Nat} {s : Ab} {B : Nat} (hQ : WA s B) (hS : CS h x s) {t r : Nat} (ht : t < 10) (hth : th s.1 t = true) (hr : r < nr s.1) (z : Nat) : fX1_outcomeOf (x + 38) (nI t) (nI r) z h = some (nI (hpA s.1 t r), z, h) := by
  obtain ⟨d1, d2, d3, d4, d5, -⟩ := hS.1
  have hC := hS.2.1
  have hk1 := hC.1.1
  have h10 := hC.2.2.2.2.1.1
  have x1 := e0_hiw_t hC.1 hQ.1 hQ.t hC.2.1 hC.2.2.1 ht hr z
  have x2 := e0_covers hQ.1 hC ht hr z
  rw [ovT hth] at x2
  have x3 := e0_youngerThan hC ht hth (mk 10 (way s.1 t r)) z
  have x3 : fX0_youngerThan (x + 1) (nI t) (mk 10 (way s.1 t r)) z h = some (gnA s.1 t r, z, h) := x3
  have h17 := hQ.2.2.2.2.1.1
  unfold hpA
  by_cases e1 : mk 10 (way s.1 t r) = 0
  · simp (disch := omega) only [fX1_outcomeOf, ↓brv_wI, ↓brv_wJ, ↓gd, ↓bl, ↓on, ↓xr, ↓reduceIte, if_true, if_false, kd_wI, ln_wI, rv_wI, iv_wI, jv_wI, kd_wJ, ln_wJ, rv_wJ, iv_wJ, nI_clamp, nI_leE, nI_ltE, nI_eqE, m1_ne, bit_0, bit_1, nI_negE, leN_F, leN_T, ltN_F, ltN_T, eqN_F, or_false, false_or, or_true, true_or, not_false_eq_true, not_true_eq_false, and_true, true_and, and_false, false_and, d1, ↓bb d2, hk1, ↓bb3 x1, e1]
    rfl
  · cases e : ovr s.1 t r
    · rw [e] at x2
      have e9 : ¬ ((false = true) ∨ mk 10 (way s.1 t r) = 0) := by simp [e1]
      rw [if_neg e9]
      simp (disch := omega) only [fX1_outcomeOf, ↓brv_wI, ↓brv_wJ, ↓gd, ↓bl, ↓on, ↓xr, ↓reduceIte, if_true, if_false, kd_wI, ln_wI, rv_wI, iv_wI, jv_wI, kd_wJ, ln_wJ, rv_wJ, iv_wJ, nI_clamp, nI_leE, nI_ltE, nI_eqE, m1_ne, bit_0, bit_1, nI_negE, leN_F, leN_T, ltN_F, ltN_T, eqN_F, or_false, false_or, or_true, true_or, not_false_eq_true, not_true_eq_false, and_true, true_and, and_false, false_and, d1, ↓bb d2, hk1, ↓bb3 x1, e1, ↓bb3 x2, ↓bb3 x3, Bool.false_eq_true, h10]
      rcases h17 with e2 | e2 | e2
      · rw [e2]; rfl
      · rw [e2]
        by_cases e4 : gnA s.1 t r = mk 10 (way s.1 t r)
        · simp [e4]; rfl
        · simp [e4]; rfl
      · rw [e2]
        by_cases e4 : gnA s.1 t r = 0
        · simp [e4]; rfl
        · by_cases e5 : gnA s.1 t r = mk 10 (way s.1 t r)
          · rw [e5] at e4 ⊢
            simp [e4]; rfl
          · simp [e4, e5]; rfl
    · rw [e] at x2
      rw [if_pos (Or.inl rfl)]
      simp (disch := omega) only [fX1_outcomeOf, ↓brv_wI, ↓brv_wJ, ↓gd, ↓bl, ↓on, ↓xr, ↓reduceIte, if_true, if_false, kd_wI, ln_wI, rv_wI, iv_wI, jv_wI, kd_wJ, ln_wJ, rv_wJ, iv_wJ, nI_clamp, nI_leE, nI_ltE, nI_eqE, m1_ne, bit_0, bit_1, nI_negE, leN_F, leN_T, ltN_F, ltN_T, eqN_F, or_false, false_or, or_true, true_or, not_false_eq_true, not_true_eq_false, and_true, true_and, and_false, false_and, d1, ↓bb d2, hk1, ↓bb3 x1, e1, ↓bb3 x2, ne10]
      rfl
theorem w1_136 {h : AH} {x : Nat} {s : Ab} (hS : CS h x s) {t : Nat} (ht : t < 10) (hth : th s.1 t = true) (z : Nat) : bX1_ask_136 (x + 38) (nI t) z h = some (s.1 (32 + 6 * t + 4), z, h) := by
  obtain ⟨d1, d2, d3, d4, d5, -⟩ := hS.1
  have hC := hS.2.1
  have h4 := (hC.2.2.1.2.1 t ht).2.2.2
  have x1 := e0_hasT hC.1 hC.2.2.1 ht hth z
  have hB := hC.1
  obtain ⟨bk, b0, b1, b2, b3, b4, b5, b6, b7, fk, f0, f1, f2, mk0, m0, m1, m2, m3, kf0, kf1, kf2, lf0, lf1, lf2, km0, km1, km2, km3, lm0, lm1, lm2, lm3, kb2, kb3, kb4, kb5, kb6, kb7, lb2, lb3, lb4, lb5, lb6, lb7⟩ := id hB
  simp (disch := omega) only [bX1_ask_136, ↓brv_wI, ↓brv_wJ, ↓gd, ↓bl, ↓on, ↓xr, ↓reduceIte, if_true, if_false, kd_wI, ln_wI, rv_wI, iv_wI, jv_wI, kd_wJ, ln_wJ, rv_wJ, iv_wJ, nI_clamp, nI_leE, nI_ltE, nI_eqE, m1_ne, bit_0, bit_1, nI_negE, leN_F, leN_T, ltN_F, ltN_T, eqN_F, or_false, false_or, or_true, true_or, not_false_eq_true, not_true_eq_false, and_true, true_and, and_false, false_and, d1, ↓bb d2, bk, ↓bb b0, ↓bb b1, ↓bb b2, ↓bb b3, ↓bb b4, ↓bb b5, ↓bb b6, ↓bb b7, fk, ↓bb f0, ↓bb f1, ↓bb f2, mk0, ↓bb m0, ↓bb m1, ↓bb m2, ↓bb m3, kf0, kf1, kf2, lf0, lf1, lf2, km0, km1, km2, km3, lm0, lm1, lm2, lm3, kb2, kb3, kb4, kb5, kb6, kb7, lb2, lb3, lb4, lb5, lb6, lb7, ↓bb3 x1, ne10, h4]
theorem w1_111 {h : AH} {x : Nat} {s : Ab} {B : Nat} (hQ : WA s B) (hS : CS h x s) {t n : Nat} (hn : 1 < n) (hn4 : n ≤ 4) (ht : t < 10) (hth : th s.1 t = true) (z : Nat) : ∃ h', bX1_ask_111 (x + 38) (nI t) (nI n) z h = some ((seA s).1 (32 + 6 * t + 4), z, h') ∧ Fq (PD x) h h' ∧ CS h' x (seA s) := by
  obtain ⟨v, h1, h2, y1, y2, y3, y4, y5, y6⟩ := w1_settle hQ hS z
  refine ⟨h2, ?_, y5, y6⟩
  obtain ⟨d1, d2, d3, d4, d5, -⟩ := hS.1
  obtain ⟨f1, f2, f3, f4, f5, -⟩ := y4
  have hk1 := hS.2.1.1.1
  have e0 : (nI n = 0) = False := eq_false (by rw [← nI_0, nI_eqE (by omega) (by omega)]; omega)
  have e1 : (nI n = 1) = False := eq_false (by rw [li1, nI_eqE (by omega) (by omega)]; omega)
  simp (disch := omega) only [bX1_ask_111, ↓brv_wI, ↓brv_wJ, ↓gd, ↓bl, ↓on, ↓xr, ↓reduceIte, if_true, if_false, kd_wI, ln_wI, rv_wI, iv_wI, jv_wI, kd_wJ, ln_wJ, rv_wJ, iv_wJ, nI_clamp, nI_leE, nI_ltE, nI_eqE, m1_ne, bit_0, bit_1, nI_negE, leN_F, leN_T, ltN_F, ltN_T, eqN_F, or_false, false_or, or_true, true_or, not_false_eq_true, not_true_eq_false, and_true, true_and, and_false, false_and, e0, e1, d1, ↓bb d2, ↓bb d3, hk1, ↓bb3 y1, f5, ↓bb2 y2]
  exact w1_136 y6 ht ((stl_th _ _ _).trans hth) z
theorem w1_ask {h : AH} {x : Nat} {s : Ab} {B : Nat} (hQ : WA s B) (hS : CS h x s) {t r : Nat} (ht : t < 10) (hth : th s.1 t = true) (hru : s.1 (32 + 6 * t + 4) = 0) (hr : r < nr s.1) (z : Nat) :
    ∃ h', fX1_ask (x + 38) (nI t) (nI r) z h = some ((askA s t r).1 (32 + 6 * t + 4), z, h') ∧ Fq (PD x) h h' ∧ CS h' x (askA s t r) := by
  have hwt : wt s.1 t = false := by unfold wt; rw [hru]; simp
  obtain ⟨d1, d2, d3, d4, d5, -⟩ := id hS.1
  have hC := hS.2.1
  have hk1 := hC.1.1
  have x2 := e0_covers hQ.1 hC ht hr z
  rw [ovT hth] at x2
  have x1 := w1_outcomeOf hQ hS ht hth hr z
  have x3 := e0_hiw_t hC.1 hQ.1 hQ.t hC.2.1 hC.2.2.1 ht hr z
  have x4 : fX0_youngerThan (x + 1) (nI t) (mk 10 (way s.1 t r)) z h = some (gnA s.1 t r, z, h) := e0_youngerThan hC ht hth (mk 10 (way s.1 t r)) z
  have hgt : bt (gnA s.1 t r) t = false := by
    cases e : bt (gnA s.1 t r) t
    · rfl
    · exact absurd rfl (gn_th ht e).2
  have hN := WA_skN hQ (c := bt (gnA s.1 t r)) (fun k hk e => (gn_th hk e).1) 10 (by omega)
  have hth' : th (skN 10 (bt (gnA s.1 t r)) s).1 t = true := by rw [skN_th]; exact hth
  have hwt' : wt (skN 10 (bt (gnA s.1 t r)) s).1 t = false := by rw [skN_wt _ _ hgt]; exact hwt
  have hr' : r < nr (skN 10 (bt (gnA s.1 t r)) s).1 := by rw [skN_nr]; exact hr
  have hle := hp_le s.1 t r
  unfold askA
  cases eo : ovr s.1 t r
  · rw [eo] at x2
    by_cases e0 : hpA s.1 t r = 0
    · rw [e0] at x1
      rw [if_pos e0]
      obtain ⟨h1, y1, y2, y3⟩ := w0_grant hQ.1 hC ht hth hr z
      have hS1 := CS_bk hS y2 y3
      obtain ⟨h2, u1, u2, u3⟩ := CS_add (k := 7) (grP_WFr hQ.1 _ _) hS1 (by omega) 1 z
      refine ⟨h2, ?_, (Fq.fr y2 PD_bk).tr u2, u3⟩
      obtain ⟨f1, f2, f3, f4, f5, -⟩ := hS1.1
      have y9 := w1_136 u3 ht ((grP_th _ _ _ _).trans hth) z
      simp (disch := omega) only [fX1_ask, bX1_ask_33, bX1_ask_64, bX1_ask_73, bX1_ask_92, bX1_ask_111, ↓brv_wI, ↓brv_wJ, ↓gd, ↓bl, ↓on, ↓xr, ↓reduceIte, if_true, if_false, kd_wI, ln_wI, rv_wI, iv_wI, jv_wI, kd_wJ, ln_wJ, rv_wJ, iv_wJ, nI_clamp, nI_leE, nI_ltE, nI_eqE, m1_ne, bit_0, bit_1, nI_negE, leN_F, leN_T, ltN_F, ltN_T, eqN_F, or_false, false_or, or_true, true_or, not_false_eq_true, not_true_eq_false, and_true, true_and, and_false, false_and, d1, ↓bb d2, hk1, ↓bb3 x2, Bool.false_eq_true, ↓bb3 x1, li2, li3, li4, li1, nI_0E, ↓bb2 y1, f1, ↓bb f3, f5, ↓li7, ↓bb2 u1, y9]
      exact (bb2 u1 _).trans y9
    · by_cases e1 : hpA s.1 t r = 1
      · rw [e1] at x1
        rw [if_neg e0, if_pos e1]
        obtain ⟨h1, y1, y2, y3⟩ := e0_queueUp hQ.1 hC (len_lt hQ ht hwt) (r := r) ht hth z
        have hS1 := CS_bk hS y2 y3
        refine ⟨h1, ?_, Fq.fr y2 PD_bk, hS1⟩
        have y9 := w1_136 hS1 ht ((wqP_th _ _ _ _).trans hth) z
        simp (disch := omega) only [fX1_ask, bX1_ask_33, bX1_ask_64, bX1_ask_92, bX1_ask_102, bX1_ask_111, ↓brv_wI, ↓brv_wJ, ↓gd, ↓bl, ↓on, ↓xr, ↓reduceIte, if_true, if_false, kd_wI, ln_wI, rv_wI, iv_wI, jv_wI, kd_wJ, ln_wJ, rv_wJ, iv_wJ, nI_clamp, nI_leE, nI_ltE, nI_eqE, m1_ne, bit_0, bit_1, nI_negE, leN_F, leN_T, ltN_F, ltN_T, eqN_F, or_false, false_or, or_true, true_or, not_false_eq_true, not_true_eq_false, and_true, true_and, and_false, false_and, d1, ↓bb d2, hk1, ↓bb3 x2, Bool.false_eq_true, ↓bb3 x1, li2, li3, li4, li1, nI_0E, ↓bb2 y1, y9]
        rfl
      · by_cases e2 : hpA s.1 t r = 2
        · rw [e2] at x1
          rw [if_neg e0, if_neg e1, if_pos e2]
          obtain ⟨h1, y1, y2, y3⟩ := w1_strikeOne hQ ht hth hS z
          obtain ⟨h2, u1, u2, u3⟩ := w1_111 (s := skA s t) (B := B) (n := 2) (WQ_sk ht hth hQ) y3 (by omega) (by omega) ht ((skP_th _ _ _).trans hth) z
          refine ⟨h2, ?_, y2.tr u2, u3⟩
          simp (disch := omega) only [fX1_ask, bX1_ask_33, bX1_ask_64, bX1_ask_92, ↓brv_wI, ↓brv_wJ, ↓gd, ↓bl, ↓on, ↓xr, ↓reduceIte, if_true, if_false, kd_wI, ln_wI, rv_wI, iv_wI, jv_wI, kd_wJ, ln_wJ, rv_wJ, iv_wJ, nI_clamp, nI_leE, nI_ltE, nI_eqE, m1_ne, bit_0, bit_1, nI_negE, leN_F, leN_T, ltN_F, ltN_T, eqN_F, or_false, false_or, or_true, true_or, not_false_eq_true, not_true_eq_false, and_true, true_and, and_false, false_and, d1, ↓bb d2, hk1, ↓bb3 x2, Bool.false_eq_true, ↓bb3 x1, li2, li3, li4, li1, ↓bb2 y1, nI_0E]
          exact u1
        · obtain ⟨h1, y1, y2, y3⟩ := w1_strikeAll (g := gnA s.1 t r) hQ (fun k hk e => (gn_th hk e).1) hS z
          obtain ⟨f1, f2, f3, f4, f5, -⟩ := id y3.1
          have hk2 := y3.2.1.1.1
          by_cases e3 : hpA s.1 t r = 3
          · rw [e3] at x1
            rw [if_neg e0, if_neg e1, if_neg e2, if_pos e3]
            obtain ⟨h3, w1, w2, w3⟩ := w0_grant hN.1 y3.2.1 ht hth' hr' z
            have hS1 := CS_bk y3 w2 w3
            obtain ⟨h4, v1, v2, v3⟩ := CS_add (k := 7) (grP_WFr hN.1 _ _) hS1 (by omega) 1 z
            obtain ⟨g1, g2, g3, g4, g5, -⟩ := id hS1.1
            obtain ⟨h2, u1, u2, u3⟩ := w1_111 (s := grA (skN 10 (bt (gnA s.1 t r)) s) t r) (B := B) (n := 3) (WQ_gr0 ht hth' hwt' hr' hN) v3 (by omega) (by omega) ht ((grP_th _ _ _ _).trans hth') z
            refine ⟨h2, ?_, ((y2.tr (Fq.fr w2 PD_bk)).tr v2).tr u2, u3⟩
            simp (disch := omega) only [fX1_ask, bX1_ask_33, bX1_ask_43, bX1_ask_64, bX1_ask_73, bX1_ask_92, ↓brv_wI, ↓brv_wJ, ↓gd, ↓bl, ↓on, ↓xr, ↓reduceIte, if_true, if_false, kd_wI, ln_wI, rv_wI, iv_wI, jv_wI, kd_wJ, ln_wJ, rv_wJ, iv_wJ, nI_clamp, nI_leE, nI_ltE, nI_eqE, m1_ne, bit_0, bit_1, nI_negE, leN_F, leN_T, ltN_F, ltN_T, eqN_F, or_false, false_or, or_true, true_or, not_false_eq_true, not_true_eq_false, and_true, true_and, and_false, false_and, d1, ↓bb d2, hk1, ↓bb3 x2, Bool.false_eq_true, ↓bb3 x1, li2, li3, ↓bb3 x3, ↓bb3 x4, ↓bb2 y1, f1, ↓bb f2, hk2, ↓bb2 w1, g1, ↓bb g3, g5, ↓li7, ↓bb2 v1, nI_0E, li1, li4]
            exact (bb2 v1 _).trans u1
          · have e4 : hpA s.1 t r = 4 := by omega
            rw [e4] at x1
            rw [if_neg e0, if_neg e1, if_neg e2, if_neg e3]
            obtain ⟨h3, w1, w2, w3⟩ := e0_queueUp hN.1 y3.2.1 (len_lt hN ht hwt') (r := r) ht hth' z
            have hS1 := CS_bk y3 w2 w3
            obtain ⟨h2, u1, u2, u3⟩ := w1_111 (s := wqA (skN 10 (bt (gnA s.1 t r)) s) t r) (B := B) (n := 4) (WQ_wq ht hth' hwt' hr' hN) hS1 (by omega) (by omega) ht ((wqP_th _ _ _ _).trans hth') z
            refine ⟨h2, ?_, (y2.tr (Fq.fr w2 PD_bk)).tr u2, u3⟩
            simp (disch := omega) only [fX1_ask, bX1_ask_33, bX1_ask_43, bX1_ask_64, bX1_ask_92, bX1_ask_102, ↓brv_wI, ↓brv_wJ, ↓gd, ↓bl, ↓on, ↓xr, ↓reduceIte, if_true, if_false, kd_wI, ln_wI, rv_wI, iv_wI, jv_wI, kd_wJ, ln_wJ, rv_wJ, iv_wJ, nI_clamp, nI_leE, nI_ltE, nI_eqE, m1_ne, bit_0, bit_1, nI_negE, leN_F, leN_T, ltN_F, ltN_T, eqN_F, or_false, false_or, or_true, true_or, not_false_eq_true, not_true_eq_false, and_true, true_and, and_false, false_and, d1, ↓bb d2, hk1, ↓bb3 x2, Bool.false_eq_true, ↓bb3 x1, li2, li3, li4, ↓bb3 x3, ↓bb3 x4, ↓bb2 y1, f1, ↓bb f2, hk2, ↓bb2 w1, nI_0E, li1]
            exact u1
  · rw [eo] at x2
    have e0 : hpA s.1 t r = 0 := by unfold hpA; rw [if_pos (Or.inl eo)]
    rw [if_pos e0, if_pos rfl, hru]
    refine ⟨h, ?_, Fq.rf _ h, hS⟩
    simp (disch := omega) only [fX1_ask, ↓brv_wI, ↓brv_wJ, ↓gd, ↓bl, ↓on, ↓xr, ↓reduceIte, if_true, if_false, kd_wI, ln_wI, rv_wI, iv_wI, jv_wI, kd_wJ, ln_wJ, rv_wJ, iv_wJ, nI_clamp, nI_leE, nI_ltE, nI_eqE, m1_ne, bit_0, bit_1, nI_negE, leN_F, leN_T, ltN_F, ltN_T, eqN_F, or_false, false_or, or_true, true_or, not_false_eq_true, not_true_eq_false, and_true, true_and, and_false, false_and, d1, ↓bb d2, hk1, ↓bb3 x2, ne10]
theorem w1_giveBack {h : AH} {x : Nat} {s : Ab} {B : Nat} (hQ : WA s B) (hS : CS h x s) {t r : Nat} (ht : t < 10) (hth : th s.1 t = true) (hr : r < nr s.1) (hb : bt (s.1 (32 + 6 * t + 3)) r = true) (z : Nat) :
    ∃ h', fX1_giveBack (x + 38) (nI t) (nI r) z h = some (nI (cnt 16 (bt ((seA (lgP s.1 t r, s.2.1, s.2.2)).1 (32 + 6 * t + 3)))), z, h') ∧ Fq (PD x) h h' ∧ CS h' x (seA (lgP s.1 t r, s.2.1, s.2.2)) := by
  obtain ⟨h1, y1, y2, y3⟩ := e0_letGo hQ.1 hS.2.1 ht hth hr hb z
  have hS1 := CS_bk hS y2 y3
  have hQ1 : WA (lgP s.1 t r, s.2.1, s.2.2) B := WQ_lg ht hQ
  obtain ⟨v, h3, h2, w1, w2, w3, w4, w5, w6⟩ := w1_settle hQ1 hS1 z
  have hQ2 := WQ_stl hQ1
  have x9 := e0_heldBy hQ2.1 hQ2.t w6.2.1 ht ((stl_th _ _ _).trans ((lgP_th _ _ _ _).trans hth)) z
  refine ⟨h2, ?_, (Fq.fr y2 PD_bk).tr w5, w6⟩
  obtain ⟨d1, d2, d3, d4, d5, -⟩ := hS.1
  obtain ⟨f1, f2, f3, f4, f5, -⟩ := hS1.1
  obtain ⟨g1, g2, g3, g4, g5, -⟩ := w4
  obtain ⟨i1, i2, i3, i4, i5, -⟩ := w6.1
  have hk1 := hS.2.1.1.1
  have hk2 := hS1.2.1.1.1
  have hk3 := w6.2.1.1.1
  simp (disch := omega) only [fX1_giveBack, ↓brv_wI, ↓brv_wJ, ↓gd, ↓bl, ↓on, ↓xr, ↓reduceIte, if_true, if_false, kd_wI, ln_wI, rv_wI, iv_wI, jv_wI, kd_wJ, ln_wJ, rv_wJ, iv_wJ, nI_clamp, nI_leE, nI_ltE, nI_eqE, m1_ne, bit_0, bit_1, nI_negE, leN_F, leN_T, ltN_F, ltN_T, eqN_F, or_false, false_or, or_true, true_or, not_false_eq_true, not_true_eq_false, and_true, true_and, and_false, false_and, d1, ↓bb d2, hk1, ↓bb2 y1, f1, ↓bb f2, ↓bb f3, hk2, ↓bb3 w1, g5, ↓bb2 w2, i1, ↓bb i2, hk3, ↓bb3 x9]
  rfl
theorem w1_end {h : AH} {x : Nat} {s : Ab} {B : Nat} (hQ : WA s B) (hS : CS h x s) {t : Nat} (ht : t < 10) (hth : th s.1 t = true) (hwt : wt s.1 t = false) (z : Nat) :
    ∃ h', fX1_end (x + 38) (nI t) z h = some (nI (cnt 16 (bt (s.1 (32 + 6 * t + 3)))), z, h') ∧ Fq (PD x) h h' ∧ CS h' x (seA (dsP s.1 t, s.2.1, s.2.2)) := by
  have x9 := e0_heldBy hQ.1 hQ.t hS.2.1 ht hth z
  obtain ⟨h1, y1, y2, y3⟩ := e0_dismiss hQ.1 hS.2.1 ht hth z
  have hS1 := CS_bk hS y2 y3
  have hQ1 : WA (dsP s.1 t, s.2.1, s.2.2) B := WQ_ds ht hwt hQ
  obtain ⟨v, h3, h2, w1, w2, w3, w4, w5, w6⟩ := w1_settle hQ1 hS1 z
  refine ⟨h2, ?_, (Fq.fr y2 PD_bk).tr w5, w6⟩
  obtain ⟨d1, d2, d3, d4, d5, -⟩ := hS.1
  obtain ⟨f1, f2, f3, f4, f5, -⟩ := hS1.1
  obtain ⟨g1, g2, g3, g4, g5, -⟩ := w4
  have hk1 := hS.2.1.1.1
  have hk2 := hS1.2.1.1.1
  simp (disch := omega) only [fX1_end, ↓brv_wI, ↓brv_wJ, ↓gd, ↓bl, ↓on, ↓xr, ↓reduceIte, if_true, if_false, kd_wI, ln_wI, rv_wI, iv_wI, jv_wI, kd_wJ, ln_wJ, rv_wJ, iv_wJ, nI_clamp, nI_leE, nI_ltE, nI_eqE, m1_ne, bit_0, bit_1, nI_negE, leN_F, leN_T, ltN_F, ltN_T, eqN_F, or_false, false_or, or_true, true_or, not_false_eq_true, not_true_eq_false, and_true, true_and, and_false, false_and, d1, ↓bb d2, hk1, ↓bb3 x9, ↓bb2 y1, f1, ↓bb f2, ↓bb f3, hk2, ↓bb3 w1, g5, ↓bb2 w2]
theorem w1_kill {h : AH} {x : Nat} {s : Ab} {B : Nat} (hQ : WA s B) (hS : CS h x s) {t : Nat} (ht : t < 10) (hth : th s.1 t = true) (z : Nat) :
    ∃ h', fX1_kill (x + 38) (nI t) z h = some (nI (cnt 16 (bt (s.1 (32 + 6 * t + 3)))), z, h') ∧ Fq (PD x) h h' ∧ CS h' x (seA (skA s t)) := by
  have x9 := e0_heldBy hQ.1 hQ.t hS.2.1 ht hth z
  obtain ⟨h1, y1, y2, hS1⟩ := w1_strikeOne hQ ht hth hS z
  have hQ1 : WA (skA s t) B := WQ_sk ht hth hQ
  obtain ⟨v, h3, h2, w1, w2, w3, w4, w5, w6⟩ := w1_settle hQ1 hS1 z
  refine ⟨h2, ?_, y2.tr w5, w6⟩
  obtain ⟨d1, d2, d3, d4, d5, -⟩ := hS.1
  obtain ⟨f1, f2, f3, f4, f5, -⟩ := hS1.1
  obtain ⟨g1, g2, g3, g4, g5, -⟩ := w4
  have hk1 := hS.2.1.1.1
  have hk2 := hS1.2.1.1.1
  simp (disch := omega) only [fX1_kill, ↓brv_wI, ↓brv_wJ, ↓gd, ↓bl, ↓on, ↓xr, ↓reduceIte, if_true, if_false, kd_wI, ln_wI, rv_wI, iv_wI, jv_wI, kd_wJ, ln_wJ, rv_wJ, iv_wJ, nI_clamp, nI_leE, nI_ltE, nI_eqE, m1_ne, bit_0, bit_1, nI_negE, leN_F, leN_T, ltN_F, ltN_T, eqN_F, or_false, false_or, or_true, true_or, not_false_eq_true, not_true_eq_false, and_true, true_and, and_false, false_and, d1, ↓bb d2, hk1, ↓bb3 x9, ↓bb2 y1, f1, ↓bb f2, ↓bb f3, hk2, ↓bb3 w1, g5, ↓bb2 w2]
