/-! a copy of Books -/
theorem kd_wRowI (h : AH) (a : Nat) (r : Nat → Int32) (b : Nat) : kd (wRowI h a r) b = kd h b := rfl
theorem ln_wRowI (h : AH) (a : Nat) (r : Nat → Int32) (b : Nat) : ln (wRowI h a r) b = ln h b := rfl
theorem brv_wRowI {β : Type} (h : AH) (a : Nat) (r : Nat → Int32) (b j : Nat) (f : Nat → Option β) : Option.bind (rv (wRowI h a r) b j) f = Option.bind (rv h b j) f := rfl
theorem kd_wRowJ (h : AH) (a : Nat) (r : Nat → Int64) (b : Nat) : kd (wRowJ h a r) b = kd h b := rfl
theorem ln_wRowJ (h : AH) (a : Nat) (r : Nat → Int64) (b : Nat) : ln (wRowJ h a r) b = ln h b := rfl
theorem brv_wRowJ {β : Type} (h : AH) (a : Nat) (r : Nat → Int64) (b j : Nat) (f : Nat → Option β) : Option.bind (rv (wRowJ h a r) b j) f = Option.bind (rv h b j) f := rfl
def cI (h : AH) (b a n : Nat) : AH := wRowI h b (va_cpy (iv h a) (iv h b) 0 0 n)
def cJ (h : AH) (b a n : Nat) : AH := wRowJ h b (va_cpy (jv h a) (jv h b) 0 0 n)
theorem cI_at (h : AH) (b a : Nat) {n k : Nat} (hk : k < n) : iv (cI h b a n) b k = iv h a k := by
  show u1 h.2.1 b (va_cpy (iv h a) (iv h b) 0 0 n) b k = _
  rw [u1_self]
  unfold va_cpy
  rw [if_pos (by omega)]
  simp
theorem cI_ne (h : AH) (a n : Nat) {b c : Nat} (hc : c ≠ b) : iv (cI h b a n) c = iv h c := u1_ne _ _ hc
theorem cI_jv (h : AH) (b a n : Nat) : jv (cI h b a n) = jv h := rfl
theorem cJ_at (h : AH) (b a : Nat) {n k : Nat} (hk : k < n) : jv (cJ h b a n) b k = jv h a k := by
  show u1 h.2.2.1 b (va_cpy (jv h a) (jv h b) 0 0 n) b k = _
  rw [u1_self]
  unfold va_cpy
  rw [if_pos (by omega)]
  simp
theorem cJ_ne (h : AH) (a n : Nat) {b c : Nat} (hc : c ≠ b) : jv (cJ h b a n) c = jv h c := u1_ne _ _ hc
theorem cJ_iv (h : AH) (b a n : Nat) : iv (cJ h b a n) = iv h := rfl
theorem Fr.cI (h : AH) {a b : Nat} (s n : Nat) (h1 : a ≤ b) (h2 : b < a + 16) : Fr h (cI h b s n) a := ⟨rfl, rfl, fun c hc => ⟨u1_ne _ _ (by omega), rfl⟩⟩
theorem Fr.cJ (h : AH) {a b : Nat} (s n : Nat) (h1 : a ≤ b) (h2 : b < a + 16) : Fr h (cJ h b s n) a := ⟨rfl, rfl, fun c hc => ⟨rfl, u1_ne _ _ (by omega)⟩⟩
theorem t10 : Int32.toNatClampNeg 10 = 10 := by decide
theorem t16 : Int32.toNatClampNeg 16 = 16 := by decide
theorem t40 : Int32.toNatClampNeg 40 = 40 := by decide
def cf2 (h : AH) (b a : Nat) : AH := wI (cI (cI (cI h (b + 2) (a + 2) 16) (b + 3) (a + 3) 16) (b + 4) (a + 4) 16) (b + 1) 3 (iv (cI (cI (cI h (b + 2) (a + 2) 16) (b + 3) (a + 3) 16) (b + 4) (a + 4) 16) (a + 1) 3)
theorem e2_copyFrom {h : AH} {a b : Nat} (hB : BO h a) (hB2 : BO h b) (z : Nat) : fX2_copyFrom (b + 1) (a + 1) z h = some (z, cf2 h b a) := by
  obtain ⟨bk, b0, b1, b2, b3, b4, b5, b6, b7, fk, f0, f1, f2, mk0, m0, m1, m2, m3, kf0, kf1, kf2, lf0, lf1, lf2, km0, km1, km2, km3, lm0, lm1, lm2, lm3, kb2, kb3, kb4, kb5, kb6, kb7, lb2, lb3, lb4, lb5, lb6, lb7⟩ := id hB
  obtain ⟨wbk, wb0, wb1, wb2, wb3, wb4, wb5, wb6, wb7, wfk, wf0, wf1, wf2, wmk0, wm0, wm1, wm2, wm3, wkf0, wkf1, wkf2, wlf0, wlf1, wlf2, wkm0, wkm1, wkm2, wkm3, wlm0, wlm1, wlm2, wlm3, wkb2, wkb3, wkb4, wkb5, wkb6, wkb7, wlb2, wlb3, wlb4, wlb5, wlb6, wlb7⟩ := id hB2
  simp (disch := omega) only [fX2_copyFrom, ↓gd, ↓bl, ↓reduceIte, kd_wRowI, ln_wRowI, ↓brv_wRowI, kd_wRowJ, ln_wRowJ, ↓brv_wRowJ, bk, ↓bb b0, ↓bb b1, ↓bb b2, ↓bb b3, ↓bb b4, ↓bb b5, ↓bb b6, ↓bb b7, fk, ↓bb f0, ↓bb f1, ↓bb f2, mk0, ↓bb m0, ↓bb m1, ↓bb m2, ↓bb m3, kf0, kf1, kf2, lf0, lf1, lf2, km0, km1, km2, km3, lm0, lm1, lm2, lm3, kb2, kb3, kb4, kb5, kb6, kb7, lb2, lb3, lb4, lb5, lb6, lb7, wbk, ↓bb wb0, ↓bb wb1, ↓bb wb2, ↓bb wb3, ↓bb wb4, ↓bb wb5, ↓bb wb6, ↓bb wb7, wfk, ↓bb wf0, ↓bb wf1, ↓bb wf2, wmk0, ↓bb wm0, ↓bb wm1, ↓bb wm2, ↓bb wm3, wkf0, wkf1, wkf2, wlf0, wlf1, wlf2, wkm0, wkm1, wkm2, wkm3, wlm0, wlm1, wlm2, wlm3, wkb2, wkb3, wkb4, wkb5, wkb6, wkb7, wlb2, wlb3, wlb4, wlb5, wlb6, wlb7, ix0, t16, leN_T, and_true, true_and]
  rfl
def cf4 (h : AH) (b a : Nat) : AH :=
  let g := cI (cI (cI (cJ h (b + 6) (a + 6) 40) (b + 7) (a + 7) 40) (b + 8) (a + 8) 40) (b + 9) (a + 9) 40
  wI (wI g (b + 5) 4 (iv g (a + 5) 4)) (b + 5) 5 (iv g (a + 5) 5)
theorem e4_copyFrom {h : AH} {a b : Nat} (hB : BO h a) (hB2 : BO h b) (hd : a + 16 ≤ b ∨ b + 16 ≤ a) (z : Nat) : fX4_copyFrom (b + 5) (a + 5) z h = some (z, cf4 h b a) := by
  obtain ⟨bk, b0, b1, b2, b3, b4, b5, b6, b7, fk, f0, f1, f2, mk0, m0, m1, m2, m3, kf0, kf1, kf2, lf0, lf1, lf2, km0, km1, km2, km3, lm0, lm1, lm2, lm3, kb2, kb3, kb4, kb5, kb6, kb7, lb2, lb3, lb4, lb5, lb6, lb7⟩ := id hB
  obtain ⟨wbk, wb0, wb1, wb2, wb3, wb4, wb5, wb6, wb7, wfk, wf0, wf1, wf2, wmk0, wm0, wm1, wm2, wm3, wkf0, wkf1, wkf2, wlf0, wlf1, wlf2, wkm0, wkm1, wkm2, wkm3, wlm0, wlm1, wlm2, wlm3, wkb2, wkb3, wkb4, wkb5, wkb6, wkb7, wlb2, wlb3, wlb4, wlb5, wlb6, wlb7⟩ := id hB2
  simp (disch := omega) only [fX4_copyFrom, ↓gd, ↓bl, ↓reduceIte, kd_wRowI, ln_wRowI, ↓brv_wRowI, kd_wRowJ, ln_wRowJ, ↓brv_wRowJ, bk, ↓bb b0, ↓bb b1, ↓bb b2, ↓bb b3, ↓bb b4, ↓bb b5, ↓bb b6, ↓bb b7, fk, ↓bb f0, ↓bb f1, ↓bb f2, mk0, ↓bb m0, ↓bb m1, ↓bb m2, ↓bb m3, kf0, kf1, kf2, lf0, lf1, lf2, km0, km1, km2, km3, lm0, lm1, lm2, lm3, kb2, kb3, kb4, kb5, kb6, kb7, lb2, lb3, lb4, lb5, lb6, lb7, wbk, ↓bb wb0, ↓bb wb1, ↓bb wb2, ↓bb wb3, ↓bb wb4, ↓bb wb5, ↓bb wb6, ↓bb wb7, wfk, ↓bb wf0, ↓bb wf1, ↓bb wf2, wmk0, ↓bb wm0, ↓bb wm1, ↓bb wm2, ↓bb wm3, wkf0, wkf1, wkf2, wlf0, wlf1, wlf2, wkm0, wkm1, wkm2, wkm3, wlm0, wlm1, wlm2, wlm3, wkb2, wkb3, wkb4, wkb5, wkb6, wkb7, wlb2, wlb3, wlb4, wlb5, wlb6, wlb7, ix0, t40, leN_T, and_true, true_and, iv_wI, eqN_F, if_false]
  rfl
def cf0 (h : AH) (b a : Nat) : AH :=
  let g := cI (cI (cI (cI (cI (cI h (b + 10) (a + 10) 10) (b + 11) (a + 11) 10) (b + 12) (a + 12) 10) (b + 13) (a + 13) 10) (b + 14) (a + 14) 10) (b + 15) (a + 15) 10
  wI (wI (wI (wI (wI (wI g b 8 (iv g a 8)) b 9 (iv g a 9)) b 10 (iv g a 10)) b 11 (iv g a 11)) b 12 (iv g a 12)) b 13 (iv g a 13)
theorem e0_copyFrom {h : AH} {a b : Nat} (hB : BO h a) (hB2 : BO h b) (hd : a + 16 ≤ b ∨ b + 16 ≤ a) (z : Nat) : fX0_copyFrom b a z h = some (z, cf0 (cf4 (cf2 h b a) b a) b a) := by
  have x1 := e2_copyFrom hB hB2 z
  have x2 := e4_copyFrom (h := cf2 h b a) (BO_c rfl rfl hB) (BO_c rfl rfl hB2) hd z
  generalize hg : cf4 (cf2 h b a) b a = g at x2
  have hBg : BO g a := by rw [← hg]; exact BO_c rfl rfl hB
  have hBg2 : BO g b := by rw [← hg]; exact BO_c rfl rfl hB2
  have y0 := hB.1
  have y1 := hB.2.1
  have y2 := hB2.1
  have y3 := hB2.2.1
  have y4 : kd h (b + 1) = 3 := hB2.2.2.2.2.2.2.2.2.2.1
  have k0 : kd (cf2 h b a) a = 1 := y0
  have k1 : kd (cf2 h b a) b = 1 := y2
  have k2 : rv (cf2 h b a) b 1 = some (b + 5) := hB2.2.2.1
  have k3 : rv (cf2 h b a) a 1 = some (a + 5) := hB.2.2.1
  have k4 : kd (cf2 h b a) (b + 5) = 5 := hB2.2.2.2.2.2.2.2.2.2.2.2.2.2.1
  have hstep : fX0_copyFrom b a z h = some (z, cf0 g b a) := by
    clear hB hB2
    have hB := hBg
    have hB2 := hBg2
    obtain ⟨bk, b0, b1, b2, b3, b4, b5, b6, b7, fk, f0, f1, f2, mk0, m0, m1, m2, m3, kf0, kf1, kf2, lf0, lf1, lf2, km0, km1, km2, km3, lm0, lm1, lm2, lm3, kb2, kb3, kb4, kb5, kb6, kb7, lb2, lb3, lb4, lb5, lb6, lb7⟩ := id hB
    obtain ⟨wbk, wb0, wb1, wb2, wb3, wb4, wb5, wb6, wb7, wfk, wf0, wf1, wf2, wmk0, wm0, wm1, wm2, wm3, wkf0, wkf1, wkf2, wlf0, wlf1, wlf2, wkm0, wkm1, wkm2, wkm3, wlm0, wlm1, wlm2, wlm3, wkb2, wkb3, wkb4, wkb5, wkb6, wkb7, wlb2, wlb3, wlb4, wlb5, wlb6, wlb7⟩ := id hB2
    simp (disch := omega) only [fX0_copyFrom, ↓gd, ↓bl, ↓reduceIte, y0, ↓bb y1, y2, ↓bb y3, y4, ↓bb2 x1, k0, k1, ↓bb k2, ↓bb k3, k4, ↓bb2 x2, kd_wRowI, ln_wRowI, ↓brv_wRowI, kd_wRowJ, ln_wRowJ, ↓brv_wRowJ, bk, ↓bb b0, ↓bb b1, ↓bb b2, ↓bb b3, ↓bb b4, ↓bb b5, ↓bb b6, ↓bb b7, fk, ↓bb f0, ↓bb f1, ↓bb f2, mk0, ↓bb m0, ↓bb m1, ↓bb m2, ↓bb m3, kf0, kf1, kf2, lf0, lf1, lf2, km0, km1, km2, km3, lm0, lm1, lm2, lm3, kb2, kb3, kb4, kb5, kb6, kb7, lb2, lb3, lb4, lb5, lb6, lb7, wbk, ↓bb wb0, ↓bb wb1, ↓bb wb2, ↓bb wb3, ↓bb wb4, ↓bb wb5, ↓bb wb6, ↓bb wb7, wfk, ↓bb wf0, ↓bb wf1, ↓bb wf2, wmk0, ↓bb wm0, ↓bb wm1, ↓bb wm2, ↓bb wm3, wkf0, wkf1, wkf2, wlf0, wlf1, wlf2, wkm0, wkm1, wkm2, wkm3, wlm0, wlm1, wlm2, wlm3, wkb2, wkb3, wkb4, wkb5, wkb6, wkb7, wlb2, wlb3, wlb4, wlb5, wlb6, wlb7, ix0, t10, leN_T, and_true, true_and, iv_wI, eqN_F, if_false]
    rfl
  exact hstep
theorem Fr_cf {h : AH} {a b : Nat} : Fr h (cf0 (cf4 (cf2 h b a) b a) b a) b := by
  have h2 : Fr h (cf2 h b a) b := (((Fr.cI h _ _ (by omega) (by omega)).tr (Fr.cI _ _ _ (by omega) (by omega))).tr (Fr.cI _ _ _ (by omega) (by omega))).tr (Fr.w _ _ _ (by omega) (by omega))
  have h4 : Fr (cf2 h b a) (cf4 (cf2 h b a) b a) b := (((((Fr.cJ _ _ _ (by omega) (by omega)).tr (Fr.cI _ _ _ (by omega) (by omega))).tr (Fr.cI _ _ _ (by omega) (by omega))).tr (Fr.cI _ _ _ (by omega) (by omega))).tr (Fr.w _ _ _ (by omega) (by omega))).tr (Fr.w _ _ _ (by omega) (by omega))
  refine (h2.tr h4).tr ?_
  exact (((((((((((Fr.cI _ _ _ (by omega) (by omega)).tr (Fr.cI _ _ _ (by omega) (by omega))).tr (Fr.cI _ _ _ (by omega) (by omega))).tr (Fr.cI _ _ _ (by omega) (by omega))).tr (Fr.cI _ _ _ (by omega) (by omega))).tr (Fr.cI _ _ _ (by omega) (by omega))).tr (Fr.w _ _ _ (by omega) (by omega))).tr (Fr.w _ _ _ (by omega) (by omega))).tr (Fr.w _ _ _ (by omega) (by omega))).tr (Fr.w _ _ _ (by omega) (by omega))).tr (Fr.w _ _ _ (by omega) (by omega))).tr (Fr.w _ _ _ (by omega) (by omega))
/-- what a copy has -/
theorem cf2_at {h : AH} {a b : Nat} (hd : a + 16 ≤ b ∨ b + 16 ≤ a) : (∀ r, r < 16 → iv (cf2 h b a) (b + 2) r = iv h (a + 2) r ∧ iv (cf2 h b a) (b + 3) r = iv h (a + 3) r ∧ iv (cf2 h b a) (b + 4) r = iv h (a + 4) r) ∧ iv (cf2 h b a) (b + 1) 3 = iv h (a + 1) 3 ∧ (∀ c, c < b + 1 ∨ b + 5 ≤ c → iv (cf2 h b a) c = iv h c) ∧ jv (cf2 h b a) = jv h := by
  unfold cf2
  generalize hg1 : cI h (b + 2) (a + 2) 16 = g1
  generalize hg2 : cI g1 (b + 3) (a + 3) 16 = g2
  generalize hg3 : cI g2 (b + 4) (a + 4) 16 = g3
  have f1 : ∀ c, c ≠ b + 2 → iv g1 c = iv h c := fun c hc => by rw [← hg1]; exact cI_ne _ _ _ hc
  have f2 : ∀ c, c ≠ b + 3 → iv g2 c = iv g1 c := fun c hc => by rw [← hg2]; exact cI_ne _ _ _ hc
  have f3 : ∀ c, c ≠ b + 4 → iv g3 c = iv g2 c := fun c hc => by rw [← hg3]; exact cI_ne _ _ _ hc
  refine ⟨fun r hr => ⟨?_, ?_, ?_⟩, ?_, fun c hc => ?_, ?_⟩
  · rw [iv_wI_ne _ _ _ (by omega), f3 _ (by omega), f2 _ (by omega), ← hg1, cI_at _ _ _ hr]
  · rw [iv_wI_ne _ _ _ (by omega), f3 _ (by omega), ← hg2, cI_at _ _ _ hr, f1 _ (by omega)]
  · rw [iv_wI_ne _ _ _ (by omega), ← hg3, cI_at _ _ _ hr, f2 _ (by omega), f1 _ (by omega)]
  · rw [iv_wI, if_pos rfl, if_pos rfl, f3 _ (by omega), f2 _ (by omega), f1 _ (by omega)]
  · rw [iv_wI_ne _ _ _ (by omega), f3 _ (by omega), f2 _ (by omega), f1 _ (by omega)]
  · rw [← hg3, ← hg2, ← hg1]; rfl
theorem cf4_at {h : AH} {a b : Nat} (hd : a + 16 ≤ b ∨ b + 16 ≤ a) : (∀ r, r < 40 → jv (cf4 h b a) (b + 6) r = jv h (a + 6) r ∧ iv (cf4 h b a) (b + 7) r = iv h (a + 7) r ∧ iv (cf4 h b a) (b + 8) r = iv h (a + 8) r ∧ iv (cf4 h b a) (b + 9) r = iv h (a + 9) r) ∧ iv (cf4 h b a) (b + 5) 4 = iv h (a + 5) 4 ∧ iv (cf4 h b a) (b + 5) 5 = iv h (a + 5) 5 ∧ (∀ c, c < b + 5 ∨ b + 10 ≤ c → iv (cf4 h b a) c = iv h c) := by
  unfold cf4
  generalize hg0 : cJ h (b + 6) (a + 6) 40 = g0
  generalize hg1 : cI g0 (b + 7) (a + 7) 40 = g1
  generalize hg2 : cI g1 (b + 8) (a + 8) 40 = g2
  generalize hg3 : cI g2 (b + 9) (a + 9) 40 = g3
  show (∀ r, r < 40 → jv (wI (wI g3 (b + 5) 4 (iv g3 (a + 5) 4)) (b + 5) 5 (iv g3 (a + 5) 5)) (b + 6) r = _ ∧ _) ∧ _
  have f0 : ∀ c, iv g0 c = iv h c := fun c => by rw [← hg0]; rfl
  have f1 : ∀ c, c ≠ b + 7 → iv g1 c = iv h c := fun c hc => by rw [← hg1, cI_ne _ _ _ hc, f0]
  have f2 : ∀ c, c ≠ b + 8 → iv g2 c = iv g1 c := fun c hc => by rw [← hg2]; exact cI_ne _ _ _ hc
  have f3 : ∀ c, c ≠ b + 9 → iv g3 c = iv g2 c := fun c hc => by rw [← hg3]; exact cI_ne _ _ _ hc
  refine ⟨fun r hr => ⟨?_, ?_, ?_, ?_⟩, ?_, ?_, fun c hc => ?_⟩
  · show jv g3 (b + 6) r = _
    rw [← hg3, ← hg2, ← hg1, cI_jv, cI_jv, cI_jv, ← hg0, cJ_at _ _ _ hr]
  · rw [iv_wI_ne _ _ _ (by omega), iv_wI_ne _ _ _ (by omega), f3 _ (by omega), f2 _ (by omega), ← hg1, cI_at _ _ _ hr, f0]
  · rw [iv_wI_ne _ _ _ (by omega), iv_wI_ne _ _ _ (by omega), f3 _ (by omega), ← hg2, cI_at _ _ _ hr, f1 _ (by omega)]
  · rw [iv_wI_ne _ _ _ (by omega), iv_wI_ne _ _ _ (by omega), ← hg3, cI_at _ _ _ hr, f2 _ (by omega), f1 _ (by omega)]
  · rw [iv_wI, if_pos rfl, if_neg (by omega), iv_wI, if_pos rfl, if_pos rfl, f3 _ (by omega), f2 _ (by omega), f1 _ (by omega)]
  · rw [iv_wI, if_pos rfl, if_pos rfl, f3 _ (by omega), f2 _ (by omega), f1 _ (by omega)]
  · rw [iv_wI_ne _ _ _ (by omega), iv_wI_ne _ _ _ (by omega), f3 _ (by omega), f2 _ (by omega), f1 _ (by omega)]
theorem cf0_at {h : AH} {a b : Nat} (hd : a + 16 ≤ b ∨ b + 16 ≤ a) : (∀ t, t < 10 → iv (cf0 h b a) (b + 10) t = iv h (a + 10) t ∧ iv (cf0 h b a) (b + 11) t = iv h (a + 11) t ∧ iv (cf0 h b a) (b + 12) t = iv h (a + 12) t ∧ iv (cf0 h b a) (b + 13) t = iv h (a + 13) t ∧ iv (cf0 h b a) (b + 14) t = iv h (a + 14) t ∧ iv (cf0 h b a) (b + 15) t = iv h (a + 15) t) ∧ (∀ j, 8 ≤ j → j < 14 → iv (cf0 h b a) b j = iv h a j) ∧ (∀ c, b < c → c < b + 10 → iv (cf0 h b a) c = iv h c) ∧ jv (cf0 h b a) = jv h := by
  unfold cf0
  generalize hg1 : cI h (b + 10) (a + 10) 10 = g1
  generalize hg2 : cI g1 (b + 11) (a + 11) 10 = g2
  generalize hg3 : cI g2 (b + 12) (a + 12) 10 = g3
  generalize hg4 : cI g3 (b + 13) (a + 13) 10 = g4
  generalize hg5 : cI g4 (b + 14) (a + 14) 10 = g5
  generalize hg6 : cI g5 (b + 15) (a + 15) 10 = g6
  generalize hh : wI (wI (wI (wI (wI (wI g6 b 8 (iv g6 a 8)) b 9 (iv g6 a 9)) b 10 (iv g6 a 10)) b 11 (iv g6 a 11)) b 12 (iv g6 a 12)) b 13 (iv g6 a 13) = h'
  show (∀ t, t < 10 → iv h' (b + 10) t = _ ∧ _) ∧ _
  have f1 : ∀ c, c ≠ b + 10 → iv g1 c = iv h c := fun c hc => by rw [← hg1]; exact cI_ne _ _ _ hc
  have f2 : ∀ c, c ≠ b + 11 → iv g2 c = iv g1 c := fun c hc => by rw [← hg2]; exact cI_ne _ _ _ hc
  have f3 : ∀ c, c ≠ b + 12 → iv g3 c = iv g2 c := fun c hc => by rw [← hg3]; exact cI_ne _ _ _ hc
  have f4 : ∀ c, c ≠ b + 13 → iv g4 c = iv g3 c := fun c hc => by rw [← hg4]; exact cI_ne _ _ _ hc
  have f5 : ∀ c, c ≠ b + 14 → iv g5 c = iv g4 c := fun c hc => by rw [← hg5]; exact cI_ne _ _ _ hc
  have f6 : ∀ c, c ≠ b + 15 → iv g6 c = iv g5 c := fun c hc => by rw [← hg6]; exact cI_ne _ _ _ hc
  have fh : ∀ c, c ≠ b → iv h' c = iv g6 c := fun c hc => by rw [← hh, iv_wI_ne _ _ _ hc, iv_wI_ne _ _ _ hc, iv_wI_ne _ _ _ hc, iv_wI_ne _ _ _ hc, iv_wI_ne _ _ _ hc, iv_wI_ne _ _ _ hc]
  have fa : ∀ c, c < b + 10 ∨ b + 16 ≤ c → iv g6 c = iv h c := fun c hc => by rw [f6 _ (by omega), f5 _ (by omega), f4 _ (by omega), f3 _ (by omega), f2 _ (by omega), f1 _ (by omega)]
  refine ⟨fun t ht => ⟨?_, ?_, ?_, ?_, ?_, ?_⟩, fun j j1 j2 => ?_, fun c c1 c2 => ?_, ?_⟩
  · rw [fh _ (by omega), f6 _ (by omega), f5 _ (by omega), f4 _ (by omega), f3 _ (by omega), f2 _ (by omega), ← hg1, cI_at _ _ _ ht]
  · rw [fh _ (by omega), f6 _ (by omega), f5 _ (by omega), f4 _ (by omega), f3 _ (by omega), ← hg2, cI_at _ _ _ ht, f1 _ (by omega)]
  · rw [fh _ (by omega), f6 _ (by omega), f5 _ (by omega), f4 _ (by omega), ← hg3, cI_at _ _ _ ht, f2 _ (by omega), f1 _ (by omega)]
  · rw [fh _ (by omega), f6 _ (by omega), f5 _ (by omega), ← hg4, cI_at _ _ _ ht, f3 _ (by omega), f2 _ (by omega), f1 _ (by omega)]
  · rw [fh _ (by omega), f6 _ (by omega), ← hg5, cI_at _ _ _ ht, f4 _ (by omega), f3 _ (by omega), f2 _ (by omega), f1 _ (by omega)]
  · rw [fh _ (by omega), ← hg6, cI_at _ _ _ ht, f5 _ (by omega), f4 _ (by omega), f3 _ (by omega), f2 _ (by omega), f1 _ (by omega)]
  · rw [← fa a (by omega), ← hh]
    simp only [iv_wI, if_true]
    by_cases e13 : j = 13
    · subst e13; rfl
    · rw [if_neg e13]
      by_cases e12 : j = 12
      · subst e12; rfl
      · rw [if_neg e12]
        by_cases e11 : j = 11
        · subst e11; rfl
        · rw [if_neg e11]
          by_cases e10 : j = 10
          · subst e10; rfl
          · rw [if_neg e10]
            by_cases e9 : j = 9
            · subst e9; rfl
            · rw [if_neg e9]
              obtain rfl : j = 8 := by omega
              rfl
  · rw [fh _ (by omega), fa _ (by omega)]
  · rw [← hh, ← hg6, ← hg5, ← hg4, ← hg3, ← hg2, ← hg1]; rfl
theorem cf_at {h : AH} {a b : Nat} (hd : a + 16 ≤ b ∨ b + 16 ≤ a) {h' : AH} (e : h' = cf0 (cf4 (cf2 h b a) b a) b a) :
    (∀ r, r < 16 → iv h' (b + 2) r = iv h (a + 2) r ∧ iv h' (b + 3) r = iv h (a + 3) r ∧ iv h' (b + 4) r = iv h (a + 4) r) ∧ iv h' (b + 1) 3 = iv h (a + 1) 3 ∧
    (∀ r, r < 40 → jv h' (b + 6) r = jv h (a + 6) r ∧ iv h' (b + 7) r = iv h (a + 7) r ∧ iv h' (b + 8) r = iv h (a + 8) r ∧ iv h' (b + 9) r = iv h (a + 9) r) ∧ iv h' (b + 5) 4 = iv h (a + 5) 4 ∧ iv h' (b + 5) 5 = iv h (a + 5) 5 ∧
    (∀ t, t < 10 → iv h' (b + 10) t = iv h (a + 10) t ∧ iv h' (b + 11) t = iv h (a + 11) t ∧ iv h' (b + 12) t = iv h (a + 12) t ∧ iv h' (b + 13) t = iv h (a + 13) t ∧ iv h' (b + 14) t = iv h (a + 14) t ∧ iv h' (b + 15) t = iv h (a + 15) t) ∧
    iv h' b 8 = iv h a 8 ∧ iv h' b 9 = iv h a 9 ∧ iv h' b 10 = iv h a 10 ∧ iv h' b 11 = iv h a 11 ∧ iv h' b 12 = iv h a 12 ∧ iv h' b 13 = iv h a 13 := by
  obtain ⟨a1, a2, a3, a4⟩ := cf2_at (h := h) hd
  generalize cf2 h b a = h2 at a1 a2 a3 a4 e
  obtain ⟨b1, b2, b3, b4⟩ := cf4_at (h := h2) hd
  generalize cf4 h2 b a = h4 at b1 b2 b3 b4 e
  obtain ⟨c1, c2, c3, c4⟩ := cf0_at (h := h4) hd
  rw [← e] at c1 c2 c3 c4
  have g : ∀ c, a ≤ c → c < a + 16 → c < a + 5 ∨ a + 10 ≤ c → iv h4 c = iv h c := fun c h1 h2' h3 => by rw [b4 c (by omega), a3 c (by omega)]
  have g8 : ∀ j, 8 ≤ j → j < 14 → iv h' b j = iv h a j := fun j j1 j2 => by rw [c2 j j1 j2, g a (by omega) (by omega) (by omega)]
  refine ⟨fun r hr => ?_, ?_, fun r hr => ?_, ?_, ?_, fun t ht => ?_, g8 8 (by omega) (by omega), g8 9 (by omega) (by omega), g8 10 (by omega) (by omega), g8 11 (by omega) (by omega), g8 12 (by omega) (by omega), g8 13 (by omega) (by omega)⟩
  · rw [c3 _ (by omega) (by omega), c3 _ (by omega) (by omega), c3 _ (by omega) (by omega), b4 _ (by omega), b4 _ (by omega), b4 _ (by omega)]
    exact a1 r hr
  · rw [c3 _ (by omega) (by omega), b4 _ (by omega)]; exact a2
  · rw [c4, c3 _ (by omega) (by omega), c3 _ (by omega) (by omega), c3 _ (by omega) (by omega)]
    obtain ⟨d1, d2, d3, d4⟩ := b1 r hr
    rw [d1, d2, d3, d4, a4, a3 _ (by omega), a3 _ (by omega), a3 _ (by omega)]
    exact ⟨rfl, rfl, rfl, rfl⟩
  · rw [c3 _ (by omega) (by omega), b2, a3 _ (by omega)]
  · rw [c3 _ (by omega) (by omega), b3, a3 _ (by omega)]
  · obtain ⟨d1, d2, d3, d4, d5, d6⟩ := c1 t ht
    rw [d1, d2, d3, d4, d5, d6, g _ (by omega) (by omega) (by omega), g _ (by omega) (by omega) (by omega), g _ (by omega) (by omega) (by omega), g _ (by omega) (by omega) (by omega), g _ (by omega) (by omega) (by omega), g _ (by omega) (by omega) (by omega)]
    exact ⟨rfl, rfl, rfl, rfl, rfl, rfl⟩
theorem CB_copy {h : AH} {a b : Nat} {q : Nat → Int32} {L : List Nat} (hW : WFr q) (hL : L.length ≤ 10) (hC : CB h a q L) (hB2 : BO h b) (hd : a + 16 ≤ b ∨ b + 16 ≤ a) (z : Nat) : ∃ h', fX0_copyFrom b a z h = some (z, h') ∧ Fr h h' b ∧ CB h' b q L ∧ CB h' a q L := by
  have hF := Fr_cf (h := h) (a := a) (b := b)
  refine ⟨_, e0_copyFrom hC.1 hB2 hd z, hF, ?_, ?_⟩
  · have hc := cf_at (h := h) hd rfl
    generalize hg : cf0 (cf4 (cf2 h b a) b a) b a = h' at hF hc
    obtain ⟨c1, c2, c3, c4, c5, c6, c8, c9, c10, c11, c12, c13⟩ := hc
    obtain ⟨hB, ⟨r1, r2, r3, r4, r5⟩, ⟨t1, t2, t3⟩, ⟨o1, o2⟩, ⟨s1, s2, s3, s4⟩, m1, f, m2, m3, m4⟩ := hC
    have hn := hW.2.1
    refine ⟨BO_f hF hB2, ⟨by rw [c2]; exact r1, fun r hr => by rw [(c1 r (by omega)).1]; exact r2 r hr, fun r hr => by rw [(c1 r (by omega)).2.1]; exact r3 r hr, fun r hr => by rw [(c1 r (by omega)).2.2]; exact r4 r hr, fun r h1 h2 => by rw [(c1 r (by omega)).2.2]; exact r5 r h1 h2⟩, ⟨by rw [c9]; exact t1, fun t ht => ?_, fun t ht hth => ?_⟩, ⟨by rw [c8]; exact o1, fun j y hj => ?_⟩, ⟨by rw [c10]; exact s1, by rw [c11]; exact s2, by rw [c12]; exact s3, by rw [c13]; exact s4⟩, by rw [c5]; exact m1, f, m2, by rw [c4]; exact m3, fun k hk => ?_⟩
    · obtain ⟨d1, d2, d3, d4, d5, d6⟩ := c6 t ht
      rw [d1, d2, d3, d4]
      exact t2 t ht
    · rw [(c6 t ht).2.2.2.2.1]; exact t3 t ht hth
    · have := (List.getElem?_eq_some_iff.mp hj).1
      rw [(c6 j (by omega)).2.2.2.2.2]; exact o2 j y hj
    · obtain ⟨d1, d2, d3, d4⟩ := c3 ((f + k) % 40) (by omega)
      rw [d1, d2, d3, d4]
      exact m4 k hk
  · refine CB_c (BO_c hF.1 hF.2.1 hC.1) hW (fun c h1 h2 => (hF.2.2 c (by omega)).1) (hF.2.2 (a + 6) (by omega)).2 (nord.rf q) hC
