/-- the first message is taken away -/
def drP (q : Nat → Int32) : Nat → Int32 := fun j =>
  if j = 92 then q 92 - 1 else if 93 ≤ j ∧ j < 93 + 13 * (nm q - 1) then q (j + 13) else if 93 + 13 * (nm q - 1) ≤ j ∧ j < 93 + 13 * (nm q - 1) + 13 then 0 else q j
theorem drP_lo (q : Nat → Int32) {j : Nat} (hj : j < 92) : drP q j = q j := by unfold drP; rw [if_neg (by omega), if_neg (by omega), if_neg (by omega)]
theorem drP_92 {q : Nat → Int32} (h : q 92 = nI (nm q)) (h0 : 0 < nm q) : drP q 92 = nI (nm q - 1) := by
  unfold drP
  rw [if_pos rfl, h, show (1 : Int32) = nI 1 from rfl, pk_sub h0]
theorem drP_nm {q : Nat → Int32} (h : q 92 = nI (nm q)) (h0 : 0 < nm q) (h40 : nm q ≤ 40) : nm (drP q) = nm q - 1 := by
  have := drP_92 h h0
  show (drP q 92).toNatClampNeg = _
  rw [this, nI_clamp (by omega)]
theorem drP_at (q : Nat → Int32) {k j : Nat} (hk : k < nm q - 1) (hj : j < 13) : drP q (93 + 13 * k + j) = q (93 + 13 * (k + 1) + j) := by
  unfold drP
  rw [if_neg (by omega), if_pos (by omega)]
  congr 1; omega
theorem drP_WFm {q : Nat → Int32} (h : WFm q) (h0 : 0 < nm q) : WFm (drP q) := by
  obtain ⟨h1, h2, h3⟩ := h
  have e := drP_nm h1 h0 h2
  refine ⟨by rw [e]; exact drP_92 h1 h0, by omega, fun k hk => ?_⟩
  rw [e] at hk
  have h4 := h3 (k + 1) (by omega)
  have el : mln (drP q) k = mln q (k + 1) := by unfold mln; rw [drP_at q hk (by omega)]
  obtain ⟨⟨t, a1, a2⟩, ⟨hp, a3, a4, a5, a6⟩, a7⟩ := h4
  refine ⟨⟨t, a1, ?_⟩, ⟨hp, ?_, by omega, by rw [el, drP_at q hk (by omega)]; exact a5, by omega⟩, fun i hi => ?_⟩
  · rw [← a2]; exact drP_at q hk (j := 0) (by omega)
  · rw [← a3]; exact drP_at q hk (j := 1) (by omega)
  · rw [el] at hi
    obtain ⟨u, hu, a8⟩ := a7 i hi
    refine ⟨u, hu, ?_⟩
    rw [← a8, Nat.add_assoc (93 + 13 * k) 3 i, drP_at q hk (by omega)]
    exact congrArg q (by omega)
theorem drP_nord {p q : Nat → Int32} (h : nord p q) : nord (drP p) (drP q) := by
  intro j hj
  have e : nm p = nm q := by unfold nm; rw [h 92 (by omega)]
  unfold drP
  rw [e, h j hj, h 92 (by omega)]
  by_cases e1 : j = 92
  · simp [e1]
  · rw [if_neg e1, if_neg e1]
    by_cases e2 : 93 ≤ j ∧ j < 93 + 13 * (nm q - 1)
    · rw [if_pos e2, if_pos e2, h (j + 13) (by omega)]
    · rw [if_neg e2, if_neg e2]
theorem RF_dr {p q : Nat → Int32} {L : List Nat} (hR : RF p q L) : RF (drP p) (drP q) L := by
  refine RF_keep hR (drP_nord hR.1) (fun j _ _ => drP_lo _ (by omega)) (fun k hk => ?_)
  unfold wt th
  rw [drP_lo _ (by omega), drP_lo _ (by omega)]
theorem WQ_dr {q : Nat → Int32} {L : List Nat} {B : Nat} (h : WQ q L B) (h0 : 0 < nm q) : WQ (drP q) L B :=
  WQ_mail h (fun j hj => (drP_lo q hj).symm) (drP_WFm h.2.2.2.2.2 h0)
theorem e4_dropFirst {h : AH} {a : Nat} {q : Nat → Int32} {L : List Nat} (hW : WFr q) (hC : CB h a q L) (hWm : WFm q) (h0 : 0 < nm q) (z : Nat) : ∃ h', fX4_dropFirst (a + 5) z h = some (z, h') ∧ Fr h h' a ∧ CB h' a (drP q) L := by
  obtain ⟨hB, c1, c2, c3, c4, s1, g, s2, s3, s4⟩ := id hC
  obtain ⟨hm, hn40, hms⟩ := id hWm
  rw [hm] at s1
  have x1 : fX4_rowOf (a + 5) 1 z h = some (nI ((g + 1) % 40), z, h) := e4_rowOf (k := 1) hB s2 s3 (by omega) z
  have hF : Fr h (wI (wI h (a + 5) 4 (nI ((g + 1) % 40))) (a + 5) 5 (nI (nm q - 1))) a := (Fr.w h _ _ (by omega) (by omega)).tr (Fr.w _ _ _ (by omega) (by omega))
  refine ⟨_, ?_, hF, CB_mail hW hC (BO_f hF hB) (fun b h1 h2 h3 => by rw [iv_wI_ne _ _ _ (by omega), iv_wI_ne _ _ _ (by omega)]) (fun j hj => (drP_lo q hj).symm) ⟨?_, (g + 1) % 40, by omega, ?_, fun k hk => ?_⟩⟩
  · have e1 : nI (nm q) - 1 = nI (nm q - 1) := by rw [show (1 : Int32) = nI 1 from rfl, pk_sub h0]
    obtain ⟨bk, b0, b1, b2, b3, b4, b5, b6, b7, fk, f0, f1, f2, mk0, m0, m1, m2, m3, kf0, kf1, kf2, lf0, lf1, lf2, km0, km1, km2, km3, lm0, lm1, lm2, lm3, kb2, kb3, kb4, kb5, kb6, kb7, lb2, lb3, lb4, lb5, lb6, lb7⟩ := id hB
    simp (disch := omega) only [fX4_dropFirst, ↓brv_wI, ↓brv_wJ, ↓gd, ↓bl, ↓on, ↓xr, ↓reduceIte, if_true, if_false, kd_wI, ln_wI, rv_wI, iv_wI, jv_wI, kd_wJ, ln_wJ, rv_wJ, iv_wJ, nI_clamp, nI_leE, nI_ltE, nI_eqE, m1_ne, bit_0, bit_1, nI_negE, leN_F, leN_T, ltN_F, ltN_T, eqN_F, or_false, false_or, or_true, true_or, not_false_eq_true, not_true_eq_false, and_true, true_and, and_false, false_and, bk, ↓bb b0, ↓bb b1, ↓bb b2, ↓bb b3, ↓bb b4, ↓bb b5, ↓bb b6, ↓bb b7, fk, ↓bb f0, ↓bb f1, ↓bb f2, mk0, ↓bb m0, ↓bb m1, ↓bb m2, ↓bb m3, kf0, kf1, kf2, lf0, lf1, lf2, km0, km1, km2, km3, lm0, lm1, lm2, lm3, kb2, kb3, kb4, kb5, kb6, kb7, lb2, lb3, lb4, lb5, lb6, lb7, s1, le0E, ↓bb3 x1, e1]
  · rw [iv_wI, if_pos rfl, if_pos rfl, drP_92 hm h0]
  · rw [iv_wI_k _ _ _ (by omega), iv_wI, if_pos rfl, if_pos rfl]
  · rw [drP_nm hm h0 hn40] at hk
    have er : ((g + 1) % 40 + k) % 40 = (g + (k + 1)) % 40 := by omega
    obtain ⟨u1, u2, u3, u4⟩ := s4 (k + 1) (by omega)
    have el : mln (drP q) k = mln q (k + 1) := by unfold mln; rw [drP_at q hk (by omega)]
    obtain ⟨hp', -, -, -, hl⟩ := (hms (k + 1) (by omega)).2.1
    have d0 : drP q (93 + 13 * k) = q (93 + 13 * (k + 1)) := drP_at q hk (j := 0) (by omega)
    have d1 : drP q (93 + 13 * k + 1) = q (93 + 13 * (k + 1) + 1) := drP_at q hk (by omega)
    have d2 : drP q (93 + 13 * k + 2) = q (93 + 13 * (k + 1) + 2) := drP_at q hk (by omega)
    rw [er, el, d0, d1, d2, iv_wI_ne (b := a + 8) _ _ _ (by omega), iv_wI_ne (b := a + 8) _ _ _ (by omega), iv_wI_ne (b := a + 9) _ _ _ (by omega), iv_wI_ne (b := a + 9) _ _ _ (by omega), iv_wI_ne (b := a + 7) _ _ _ (by omega), iv_wI_ne (b := a + 7) _ _ _ (by omega)]
    refine ⟨u1, u2, u3, u4.1, fun i hi => ?_⟩
    show tA (jv h (a + 6) ((g + (k + 1)) % 40)) i = drP q (93 + 13 * k + 3 + i)
    rw [u4.2 i hi, Nat.add_assoc (93 + 13 * k) 3 i, drP_at q hk (by omega)]
    exact congrArg q (by omega)
/-! what a message says -/
def dT (q : Nat → Int32) : Nat := (q 93).toNatClampNeg
def dH (q : Nat → Int32) : Nat := (q 94).toNatClampNeg
def dF (q : Nat → Int32) (e : Nat) : Int32 := q (96 + e)
def dU (q : Nat → Int32) (e : Nat) : Nat := (q (96 + e)).toNatClampNeg
theorem dM {q : Nat → Int32} (h : WFm q) (h0 : 0 < nm q) : q 93 = nI (dT q) ∧ dT q < 10 ∧ q 94 = nI (dH q) ∧ q 95 = nI (mln q 0) ∧ 1 ≤ mln q 0 ∧ mln q 0 + dH q ≤ 9 ∧ ∀ e, e < mln q 0 → dF q e = nI (dU q e) ∧ dU q e < 10 := by
  obtain ⟨⟨t, a1, a2⟩, ⟨hp, a3, a4, a5, a6⟩, a7⟩ := h.2.2 0 h0
  have a2 : q 93 = nI t := a2
  have a3 : q 94 = nI hp := a3
  have a5 : q 95 = nI (mln q 0) := a5
  have et : dT q = t := by unfold dT; rw [a2, nI_clamp (by omega)]
  have eh : dH q = hp := by unfold dH; rw [a3, nI_clamp (by omega)]
  refine ⟨by rw [et]; exact a2, by omega, by rw [eh]; exact a3, a5, a4, by omega, fun e he => ?_⟩
  obtain ⟨u, hu, a8⟩ := a7 e he
  have a8 : q (96 + e) = nI u := a8
  have eu : dU q e = u := by unfold dU; rw [a8, nI_clamp (by omega)]
  rw [eu]
  exact ⟨a8, hu⟩
def dBad (q : Nat → Int32) (i : Nat) : Bool := !bt (ng q (dU q i)) (if i + 1 < mln q 0 then dU q (i + 1) else dT q)
def dSt (q : Nat → Int32) : Bool := anyB (mln q 0) (dBad q)
theorem ng_lo {p q : Nat → Int32} (h : ∀ j, j < 92 → p j = q j) (hW : WFr p) (hw : WFw p) : agr (ng p) (ng q) := by
  have hs : sres p q := fun j hj => h j (by omega)
  have hth : ∀ k, k < 10 → th p k = th q k := fun k hk => by unfold th; rw [h _ (by omega)]
  intro t ht
  refine mk_congr (fun k hk => ?_)
  have hwt : wt p t = wt q t := by unfold wt; rw [hth t ht, h _ (by omega)]
  have hwan : wan p t = wan q t := by unfold wan; rw [h _ (by omega)]
  unfold wf
  rw [← hwt]
  cases e : wt p t
  · rw [Bool.false_and, Bool.false_and]
  · have hr := (hw t ht e).1
    rw [← hwan]
    unfold way
    rw [hth k hk, ← sres_nr hs, h (32 + 6 * k + 3) (by omega)]
    congr 3
    refine anyB_congr (fun i hi => ?_)
    unfold ov
    rw [sres_bel hs hW i (wan p t + 1) _ (by omega) hr, sres_bel hs hW (wan p t) (i + 1) i (by omega) hi]
theorem fl_loop {h : AH} {x : Nat} {q : Nat → Int32} (hD : DS h x) (hV : WV h x (ng q)) (hWm : WFm q) (h0 : 0 < nm q) {y : Int64} (hy : PL y (mln q 0) (dF q)) (z : Nat) : ∀ (d k : Nat), k + d = mln q 0 → anyB k (dBad q) = false → ∀ fuel, d < fuel →
    lX7_follow_3 fuel (x + 35) y (nI (mln q 0)) (nI (dT q)) (nI k) z h = some (if dSt q then 0 else 1, z, h) := by
  intro d
  obtain ⟨m1, m2, m3, m4, m5, m6, m7⟩ := dM hWm h0
  have hk8 := hD.2.2.2.2.2.2.2.2.1
  induction d with
  | zero =>
    intro k hk hb fuel hf
    obtain rfl : k = mln q 0 := by omega
    cases fuel with
    | zero => omega
    | succ fuel =>
      show lX7_follow_3B _ _ _ _ _ _ _ _ = _
      have : dSt q = false := hb
      simp (disch := omega) only [lX7_follow_3B, Int32.le_refl, ↓reduceIte, this, Bool.false_eq_true]
  | succ d ih =>
    intro k hk hb fuel hf
    cases fuel with
    | zero => omega
    | succ fuel =>
      obtain ⟨e1, e2⟩ := m7 k (by omega)
      have x1 : fX4_taskAt y (nI k) z h = some (nI (dU q k), z, h) := by rw [← e1, ← hy.2 k (by omega)]; rfl
      have x2 := e7_of hD hV e2 z
      have nx : (if i1 : k + 1 < mln q 0 then dU q (k + 1) else dT q) < 10 := by
        split
        · rename_i h9; exact (m7 (k + 1) h9).2
        · exact m2
      have key : ∀ s0, s0 < 10 → s0 = (if k + 1 < mln q 0 then dU q (k + 1) else dT q) → bX7_follow_30 (lX7_follow_3 fuel) (x + 35) y (nI (mln q 0)) (nI (dT q)) (nI k) (nI s0) z h = some (if dSt q then 0 else 1, z, h) := by
        intro s0 hs0 es0
        have x3 := e8_inSet (ng q (dU q k)) (show s0 < 32 by omega) z h
        have eb : dBad q k = !bt (ng q (dU q k)) s0 := by unfold dBad; rw [← es0]
        cases hbit : bt (ng q (dU q k)) s0
        · rw [hbit] at x3
          have : dSt q = true := by
            unfold dSt
            rw [anyB_iff]
            exact ⟨k, by omega, by rw [eb, hbit]; rfl⟩
          simp (disch := omega) only [bX7_follow_30, ↓brv_wI, ↓brv_wJ, ↓gd, ↓bl, ↓on, ↓xr, ↓reduceIte, if_true, if_false, kd_wI, ln_wI, rv_wI, iv_wI, jv_wI, kd_wJ, ln_wJ, rv_wJ, iv_wJ, nI_clamp, nI_leE, nI_ltE, nI_eqE, m1_ne, bit_0, bit_1, nI_negE, leN_F, leN_T, ltN_F, ltN_T, eqN_F, or_false, false_or, or_true, true_or, not_false_eq_true, not_true_eq_false, and_true, true_and, and_false, false_and, ↓bb3 x1, hk8, ↓bb3 x2, ↓bb3 x3, Bool.false_eq_true, this]
        · rw [hbit] at x3
          have h3 := ih (k + 1) (by omega) (by rw [anyB_s, hb, eb, hbit]; rfl) fuel (by omega)
          simp (disch := omega) only [bX7_follow_30, ↓brv_wI, ↓brv_wJ, ↓gd, ↓bl, ↓on, ↓xr, ↓reduceIte, if_true, if_false, kd_wI, ln_wI, rv_wI, iv_wI, jv_wI, kd_wJ, ln_wJ, rv_wJ, iv_wJ, nI_clamp, nI_leE, nI_ltE, nI_eqE, m1_ne, bit_0, bit_1, nI_negE, leN_F, leN_T, ltN_F, ltN_T, eqN_F, or_false, false_or, or_true, true_or, not_false_eq_true, not_true_eq_false, and_true, true_and, and_false, false_and, ↓bb3 x1, hk8, ↓bb3 x2, ↓bb3 x3, ne10, nI_1]
          exact h3
      show lX7_follow_3B _ _ _ _ _ _ _ _ = _
      by_cases e : k + 1 < mln q 0
      · have x4 : fX4_taskAt y (nI k + 1) z h = some (nI (dU q (k + 1)), z, h) := by
          rw [nI_1, ← (m7 (k + 1) e).1, ← hy.2 (k + 1) e]; rfl
        have h9 := key (dU q (k + 1)) (m7 (k + 1) e).2 (by rw [if_pos e])
        have e5 : nI (mln q 0) ≤ nI k + 1 ↔ False := by rw [nI_1, nI_leE (by omega) (by omega)]; simp; omega
        simp (disch := omega) only [lX7_follow_3B, ↓brv_wI, ↓brv_wJ, ↓gd, ↓bl, ↓on, ↓xr, ↓reduceIte, if_true, if_false, kd_wI, ln_wI, rv_wI, iv_wI, jv_wI, kd_wJ, ln_wJ, rv_wJ, iv_wJ, nI_clamp, nI_leE, nI_ltE, nI_eqE, m1_ne, bit_0, bit_1, nI_negE, leN_F, leN_T, ltN_F, ltN_T, eqN_F, or_false, false_or, or_true, true_or, not_false_eq_true, not_true_eq_false, and_true, true_and, and_false, false_and, e5, ↓bb3 x4]
        exact h9
      · have h9 := key (dT q) m2 (by rw [if_neg e])
        have e5 : nI (mln q 0) ≤ nI k + 1 ↔ True := by rw [nI_1, nI_leE (by omega) (by omega)]; simp; omega
        simp (disch := omega) only [lX7_follow_3B, ↓brv_wI, ↓brv_wJ, ↓gd, ↓bl, ↓on, ↓xr, ↓reduceIte, if_true, if_false, kd_wI, ln_wI, rv_wI, iv_wI, jv_wI, kd_wJ, ln_wJ, rv_wJ, iv_wJ, nI_clamp, nI_leE, nI_ltE, nI_eqE, m1_ne, bit_0, bit_1, nI_negE, leN_F, leN_T, ltN_F, ltN_T, eqN_F, or_false, false_or, or_true, true_or, not_false_eq_true, not_true_eq_false, and_true, true_and, and_false, false_and, e5]
        exact h9
theorem e7_follow {h : AH} {x : Nat} {q : Nat → Int32} (hD : DS h x) (hV : WV h x (ng q)) (hWm : WFm q) (h0 : 0 < nm q) {y : Int64} (hy : PL y (mln q 0) (dF q)) (z : Nat) : fX7_follow (x + 35) y (nI (mln q 0)) (nI (dT q)) z h = some (if dSt q then 0 else 1, z, h) := by
  obtain ⟨m1, m2, m3, m4, m5, m6, m7⟩ := dM hWm h0
  have := fl_loop hD hV hWm h0 hy z (mln q 0) 0 (by omega) rfl fu (by unfold fu; omega)
  rw [nI_0] at this
  exact this
theorem bt_pm {f : Nat → Int32} {u : Nat → Nat} : ∀ (n : Nat), (∀ e, e < n → f e = nI (u e) ∧ u e < 10) → ∀ k, bt (pm f n) k = anyB n (fun e => decide (u e = k)) := by
  intro n
  induction n with
  | zero => intro _ k; exact b_0 k
  | succ n ih =>
    intro h k
    obtain ⟨e1, e2⟩ := h n (by omega)
    unfold pm
    rw [b_or, ih (fun e he => h e (by omega)) k, e1, bt_pow (u n) (by omega), anyB_s]
    congr 1
    simp only [eq_comm]
