/-- nothing has changed but cells a .. a + 15 -/
def Fr (h h' : AH) (a : Nat) : Prop := h'.1 = h.1 ∧ h'.2.2.2 = h.2.2.2 ∧ ∀ b, b < a ∨ a + 16 ≤ b → h'.2.1 b = h.2.1 b ∧ h'.2.2.1 b = h.2.2.1 b
theorem Fr.rf (h : AH) (a : Nat) : Fr h h a := ⟨rfl, rfl, fun _ _ => ⟨rfl, rfl⟩⟩
theorem Fr.tr {h1 h2 h3 : AH} {a : Nat} (x : Fr h1 h2 a) (y : Fr h2 h3 a) : Fr h1 h3 a := ⟨y.1.trans x.1, y.2.1.trans x.2.1, fun b hb => ⟨(y.2.2 b hb).1.trans (x.2.2 b hb).1, (y.2.2 b hb).2.trans (x.2.2 b hb).2⟩⟩
theorem Fr.w (h : AH) {a b : Nat} (k : Nat) (x : Int32) (h1 : a ≤ b) (h2 : b < a + 16) : Fr h (wI h b k x) a := ⟨rfl, rfl, fun c hc => ⟨u2_ne _ _ _ (by omega), rfl⟩⟩
theorem BO_c {h h' : AH} {a : Nat} (e1 : h'.1 = h.1) (e2 : h'.2.2.2 = h.2.2.2) (hB : BO h a) : BO h' a := by
  unfold BO kd ln rv at hB ⊢
  rw [e1, e2]
  exact hB
theorem BO_f {h h' : AH} {a : Nat} (hF : Fr h h' a) (hB : BO h a) : BO h' a := BO_c hF.1 hF.2.1 hB
theorem RBr_c {h h' : AH} {a : Nat} {p q : Nat → Int32} (hW : WFr p) (e : ∀ b, a < b → b < a + 5 → iv h' b = iv h b) (en : nord p q) (hR : RBr h a p) : RBr h' a q := by
  obtain ⟨r1, r2, r3, r4, r5⟩ := hR
  have hn := hW.2.1
  refine ⟨?_, fun r hr => ?_, fun r hr => ?_, fun r hr => ?_, fun r h1 h2 => ?_⟩
  · rw [e (a + 1) (by omega) (by omega), r1, en 0 (by omega)]
  · rw [← nr_nord en] at hr
    rw [e (a + 2) (by omega) (by omega), r2 r hr, en (1 + r) (by omega)]
  · rw [← nr_nord en] at hr
    rw [e (a + 3) (by omega) (by omega), r3 r hr]
    refine mk_congr (fun o ho => ?_)
    rw [← nr_nord en]
    by_cases h9 : o < nr p
    · rw [bel_nord en hW o (r + 1) r (by omega) hr]
    · simp [h9]
  · rw [← nr_nord en] at hr
    rw [e (a + 4) (by omega) (by omega), r4 r hr]
    refine mk_congr (fun o ho => ?_)
    rw [← nr_nord en]
    by_cases h9 : o < nr p
    · rw [bel_nord en hW r (o + 1) o (by omega) h9]
    · simp [h9]
  · rw [← nr_nord en] at h1
    rw [e (a + 4) (by omega) (by omega), r5 r h1 h2]
/-- the resources are the same in two states -/
def sres (p q : Nat → Int32) : Prop := ∀ j, j < 17 → p j = q j
theorem sres_nr {p q : Nat → Int32} (h : sres p q) : nr p = nr q := by unfold nr; rw [h 0 (by omega)]
theorem sres_WFr {p q : Nat → Int32} (h : sres p q) (hW : WFr p) : WFr q := by
  obtain ⟨h1, h2, h3⟩ := hW
  refine ⟨?_, ?_, fun r hr => ?_⟩
  · rw [← h 0 (by omega), ← sres_nr h]; exact h1
  · rw [← sres_nr h]; exact h2
  · rw [← sres_nr h] at hr
    rw [← h (1 + r) (by omega)]
    exact h3 r hr
theorem sres_bel {p q : Nat → Int32} (h : sres p q) (hW : WFr p) (o : Nat) : ∀ (b r : Nat), r < b → r < nr p → bel p r o = bel q r o := by
  intro b
  have hn := hW.2.1
  induction b with
  | zero => intro r hb; omega
  | succ b ih =>
    intro r hb hr
    rw [bel_eq hW hr, bel_eq (sres_WFr h hW) (by rw [← sres_nr h]; exact hr), ← h (1 + r) (by omega)]
    rcases hW.2.2 r hr with e | ⟨k, hk, e⟩
    · simp [e]
    · rw [e, nI_clamp (by omega), ih k (by omega) (by omega)]
theorem RBr_s {h h' : AH} {a : Nat} {p q : Nat → Int32} (hW : WFr p) (e : ∀ b, a < b → b < a + 5 → iv h' b = iv h b) (en : sres p q) (hR : RBr h a p) : RBr h' a q := by
  obtain ⟨r1, r2, r3, r4, r5⟩ := hR
  have hn := hW.2.1
  refine ⟨?_, fun r hr => ?_, fun r hr => ?_, fun r hr => ?_, fun r h1 h2 => ?_⟩
  · rw [e (a + 1) (by omega) (by omega), r1, en 0 (by omega)]
  · rw [← sres_nr en] at hr
    rw [e (a + 2) (by omega) (by omega), r2 r hr, en (1 + r) (by omega)]
  · rw [← sres_nr en] at hr
    rw [e (a + 3) (by omega) (by omega), r3 r hr]
    refine mk_congr (fun o ho => ?_)
    rw [← sres_nr en, sres_bel en hW o (r + 1) r (by omega) hr]
  · rw [← sres_nr en] at hr
    rw [e (a + 4) (by omega) (by omega), r4 r hr]
    refine mk_congr (fun o ho => ?_)
    rw [← sres_nr en]
    by_cases h9 : o < nr p
    · rw [sres_bel en hW r (o + 1) o (by omega) h9]
    · simp [h9]
  · rw [← sres_nr en] at h1
    rw [e (a + 4) (by omega) (by omega), r5 r h1 h2]
theorem grP_sres (p : Nat → Int32) (t r : Nat) : sres p (grP p t r) := fun j hj => (grP_lo p t r (by omega)).symm
theorem rsI_nI {p : Nat → Int32} {r : Nat} (hn : nr p ≤ 16) (hr : r < 2 ^ 31) : rsI p (nI r) = decide (r < nr p) := by
  unfold rsI
  rw [show (15 : Int32) = nI 15 from rfl, inI_nI hr (by omega), nI_clamp hr]
  by_cases e : r < nr p
  · simp [e, show r ≤ 15 by omega]
  · simp [e]
theorem m1_nI : ((-1 : Int32) = 0) = False := eq_false (by decide)
/-- Books.grant -/
theorem e0_grant {h : AH} {a : Nat} {p : Nat → Int32} (hB : BO h a) (hW : WFr p) (hR : RBr h a p) (hT : RBt h a p) {t r : Nat} (ht : t < 10) (hth : th p t = true) (hr : r < nr p) (z : Nat) :
    ∃ h', fX0_grant a (nI t) (nI r) z h = some (z, h') ∧ Fr h h' a ∧ RBr h' a (grP p t r) ∧ RBt h' a (grP p t r) ∧ iv h' a = iv h a ∧ iv h' (a + 15) = iv h (a + 15) ∧ (∀ b, a + 5 ≤ b → b < a + 10 → iv h' b = iv h b) ∧ h'.2.2.1 = h.2.2.1 := by
  have hn := hW.2.1
  have h5 := (hT.2.1 t ht).2.2.1
  refine ⟨wI (wI (wI h (a + 13) t (p (32 + 6 * t + 3) ||| ((1 : Int32) <<< (nI r &&& 31)))) (a + 12) t 0) (a + 14) t (-1), ?_, ?_, ?_, ?_, ?_, ?_, ?_, rfl⟩
  · have x1 := e0_has hB hT (nI t) z
    have x2 := e2_has hB hW hR (nI r) z
    rw [tkI_nI ht, hth] at x1
    rw [rsI_nI hn (by omega)] at x2
    simp only [hr, decide_true, if_true] at x1 x2
    obtain ⟨bk, b0, b1, b2, b3, b4, b5, b6, b7, fk, f0, f1, f2, mk0, m0, m1, m2, m3, kf0, kf1, kf2, lf0, lf1, lf2, km0, km1, km2, km3, lm0, lm1, lm2, lm3, kb2, kb3, kb4, kb5, kb6, kb7, lb2, lb3, lb4, lb5, lb6, lb7⟩ := id hB
    simp (disch := omega) only [fX0_grant, ↓gd, ↓bl, ↓on, ↓xr, ↓reduceIte, if_true, if_false, kd_wI, ln_wI, rv_wI, iv_wI, jv_wI, kd_wJ, ln_wJ, rv_wJ, iv_wJ, nI_clamp, nI_leE, nI_ltE, nI_eqE, m1_ne, bit_0, bit_1, nI_negE, leN_F, leN_T, ltN_F, ltN_T, eqN_F, or_false, false_or, or_true, true_or, not_false_eq_true, not_true_eq_false, and_true, true_and, and_false, false_and, ↓bb3 x1, ↓bb3 x2, ne10, bk, ↓bb b0, ↓bb b1, ↓bb b2, ↓bb b3, ↓bb b4, ↓bb b5, ↓bb b6, ↓bb b7, fk, ↓bb f0, ↓bb f1, ↓bb f2, mk0, ↓bb m0, ↓bb m1, ↓bb m2, ↓bb m3, kf0, kf1, kf2, lf0, lf1, lf2, km0, km1, km2, km3, lm0, lm1, lm2, lm3, kb2, kb3, kb4, kb5, kb6, kb7, lb2, lb3, lb4, lb5, lb6, lb7, h5]
  · exact ((Fr.w h _ _ (by omega) (by omega)).tr (Fr.w _ _ _ (by omega) (by omega))).tr (Fr.w _ _ _ (by omega) (by omega))
  · refine RBr_s hW (fun b h1 h2 => ?_) (grP_sres p t r) hR
    rw [iv_wI_ne _ _ _ (by omega), iv_wI_ne _ _ _ (by omega), iv_wI_ne _ _ _ (by omega)]
  · obtain ⟨t1, t2, t3⟩ := hT
    refine ⟨?_, fun k hk => ?_, fun k hk hkt => ?_⟩
    · simp (disch := omega) only [iv_wI, eqN_F, if_false]
      rw [t1]
      exact mk_congr (fun k _ => (grP_th p t r k).symm)
    · obtain ⟨y1, y2, y3, y4⟩ := t2 k hk
      simp (disch := omega) only [iv_wI, eqN_F, if_false, if_true, grP_at, y1, y2, y3, y4]
      refine ⟨trivial, trivial, ?_, ?_⟩
      · by_cases e : k = t
        · subst e; simp
        · rw [if_neg e, if_neg (by omega)]
      · by_cases e : k = t
        · subst e; simp
        · rw [if_neg e, if_neg (by omega)]
    · rw [grP_th] at hkt
      have y := t3 k hk hkt
      simp (disch := omega) only [iv_wI, eqN_F, if_false, if_true, grP_wt, grP_at, y]
      by_cases e : k = t
      · subst e; simp
      · simp [e]
  · rw [iv_wI_ne _ _ _ (by omega), iv_wI_ne _ _ _ (by omega), iv_wI_ne _ _ _ (by omega)]
  · rw [iv_wI_ne _ _ _ (by omega), iv_wI_ne _ _ _ (by omega), iv_wI_ne _ _ _ (by omega)]
  · intro b h1 h2
    rw [iv_wI_ne _ _ _ (by omega), iv_wI_ne _ _ _ (by omega), iv_wI_ne _ _ _ (by omega)]
