/-! addResource -/
def adP (q : Nat → Int32) (v : Int32) : Nat → Int32 := upd (upd q (1 + nr q) v) 0 (nI (nr q + 1))
theorem adP_at (q : Nat → Int32) (v : Int32) (j : Nat) : adP q v j = if j = 0 then nI (nr q + 1) else if j = 1 + nr q then v else q j := rfl
theorem ad_nr {q : Nat → Int32} (h : nr q < 16) (v : Int32) : nr (adP q v) = nr q + 1 := by
  show (adP q v 0).toNatClampNeg = _
  rw [adP_at, if_pos rfl, nI_clamp (by omega)]
theorem ad_hi {q : Nat → Int32} (h : nr q < 16) (v : Int32) {j : Nat} (hj : 17 ≤ j) : adP q v j = q j := by rw [adP_at, if_neg (by omega), if_neg (by omega)]
theorem ad_p {q : Nat → Int32} (v : Int32) {r : Nat} (hr : r < nr q) : adP q v (1 + r) = q (1 + r) := by rw [adP_at, if_neg (by omega), if_neg (by omega)]
theorem ad_n {q : Nat → Int32} (v : Int32) : adP q v (1 + nr q) = v := by rw [adP_at, if_neg (by omega), if_pos rfl]
def okP (q : Nat → Int32) (v : Int32) : Prop := v = -1 ∨ ∃ u, u < nr q ∧ v = nI u
theorem ad_WFr {q : Nat → Int32} (hW : WFr q) (h : nr q < 16) {v : Int32} (hv : okP q v) : WFr (adP q v) := by
  refine ⟨?_, by rw [ad_nr h]; omega, fun r hr => ?_⟩
  · rw [ad_nr h, adP_at, if_pos rfl]
  · rw [ad_nr h] at hr
    by_cases e : r = nr q
    · subst e
      rw [ad_n]
      exact hv
    · rw [ad_p v (by omega)]
      exact hW.2.2 r (by omega)
theorem ad_bel {q : Nat → Int32} (hW : WFr q) (h : nr q < 16) {v : Int32} (hv : okP q v) (o : Nat) : ∀ b r, r < b → r < nr q → bel (adP q v) r o = bel q r o := by
  intro b
  induction b with
  | zero => intro r hr; omega
  | succ b ih =>
    intro r hr hrn
    rw [bel_eq (ad_WFr hW h hv) (by rw [ad_nr h]; omega), bel_eq hW hrn, ad_p v hrn]
    rcases hW.2.2 r hrn with e | ⟨k, hk, e⟩
    · simp [e]
    · rw [e, nI_clamp (by omega), ih k (by omega) (by omega)]
theorem ad_beln {q : Nat → Int32} (hW : WFr q) (h : nr q < 16) {v : Int32} (hv : okP q v) (o : Nat) : bel (adP q v) (nr q) o = (decide (nr q = o) || (decide (v ≠ -1) && bel q (tn' v) o)) := by
  rw [bel_eq (ad_WFr hW h hv) (by rw [ad_nr h]; omega), ad_n]
  rcases hv with rfl | ⟨u, hu, rfl⟩
  · simp
  · rw [show tn' (nI u) = u from nI_clamp (by omega), nI_clamp (by omega), ad_bel hW h (Or.inr ⟨u, hu, rfl⟩) o (u + 1) u (by omega) hu]
theorem bel_hi {q : Nat → Int32} (hW : WFr q) (o : Nat) : ∀ b r, r < b → r < nr q → bel q r o = true → o ≤ r := by
  intro b
  induction b with
  | zero => intro r hr; omega
  | succ b ih =>
    intro r hr hrn hb
    rw [bel_eq hW hrn] at hb
    by_cases e : r = o
    · omega
    · rcases hW.2.2 r hrn with e1 | ⟨k, hk, e1⟩
      · simp [e, e1] at hb
      · have hn := hW.2.1
        rw [e1, nI_clamp (by omega)] at hb
        have hb2 : bel q k o = true := by
          simp only [e, decide_false, Bool.false_or, Bool.and_eq_true] at hb
          exact hb.2
        have := ih k (by omega) (by omega) hb2
        omega
theorem ad_TK {q : Nat → Int32} (h : nr q < 16) (v : Int32) {S k : Nat} (hT : TK q S k) : TK (adP q v) S k := by
  have e : ∀ w, adP q v (32 + 6 * k + w) = q (32 + 6 * k + w) := fun w => ad_hi h v (by omega)
  have eth : th (adP q v) k = th q k := by unfold th; rw [ad_hi h v (by omega)]
  have ewt : wt (adP q v) k = wt q k := by unfold wt; rw [eth, e 4]
  have ewa : wan (adP q v) k = wan q k := by unfold wan; rw [e 5]
  unfold TK
  rw [eth, ewt, ewa, ad_nr h, e 1, e 2, e 3, e 4, e 5]
  obtain ⟨h1, h2, h3, h4⟩ := hT
  exact ⟨h1, fun i hi hi2 => h2 i (by omega) hi2, h3, fun h5 => ⟨by have := (h4 h5).1; omega, (h4 h5).2⟩⟩
theorem ad_wt {q : Nat → Int32} (h : nr q < 16) (v : Int32) (k : Nat) : wt (adP q v) k = wt q k := by
  unfold wt th
  rw [ad_hi h v (by omega), ad_hi h v (by omega)]
theorem WQ_ad {q : Nat → Int32} {L : List Nat} {B : Nat} (hQ : WQ q L B) (h : nr q < 16) {v : Int32} (hv : okP q v) : WQ (adP q v) L B := by
  obtain ⟨h1, ⟨S, h2, h3, h4⟩, h5, h6, h7, h8⟩ := hQ
  refine ⟨ad_WFr h1 h hv, ⟨S, h2, by rw [ad_hi h v (by omega)]; exact h3, fun k hk => ad_TK h v (h4 k hk)⟩, Ages_c (fun k hk hkt => ?_) h5, LO_same h6 (fun k => ad_wt h v k), WFs_c (fun j h9 _ => (ad_hi h v h9).symm) h7, WFm_c (fun j h9 => (ad_hi h v (by omega)).symm) h8⟩
  unfold th at hkt ⊢
  rw [ad_hi h v (by omega)] at hkt
  exact ⟨hkt, ad_hi h v (by omega)⟩
theorem RF_ad {p q : Nat → Int32} {L : List Nat} (hR : RF p q L) (h : nr q < 16) (v : Int32) : RF (adP p v) (adP q v) L := by
  have hp : nr p = nr q := nr_nord hR.1
  refine RF_keep hR (fun j hj => ?_) (fun j h1 _ => ad_hi (by omega) v (by omega)) (fun k _ => ad_wt (by omega) v k)
  rw [adP_at, adP_at, hp, hR.1 j hj]
def adA (w : Ac) (v : Int32) : Ac := ((adP w.1.1 v, w.1.2.1, w.1.2.2), w.2)
theorem WS_Ad {w : Ac} {B : Nat} {v : Int32} (h : WS w B) (hn : nr w.1.1 < 16) (hv : okP w.1.1 v) : WS (adA w v) B :=
  ⟨WQ_ad h.1 hn hv, Zq_c (fun j hj => ad_hi hn v (by omega)) h.2⟩
theorem gr_loop {a n : Nat} (hn : n < 16) (ab : Int32) (Bl : Nat → Int32) (z : Nat) : ∀ (d k : Nat), k + d = n + 1 → ∀ (h : AH) (fuel : Nat), d < fuel → BO h a → iv h (a + 3) n = ab → (∀ j, iv h (a + 4) j = if j < k ∧ bt ab j = true then Bl j ||| ((1 : Int32) <<< (nI n &&& 31)) else Bl j) →
    ∃ h', lX2_grow_50 fuel (a + 1) (nI n) (nI k) z h = some (nI n, z, h') ∧ Fr h h' a ∧ iv h' (a + 1) 3 = nI (n + 1) ∧ (∀ j, iv h' (a + 4) j = if j < n + 1 ∧ bt ab j = true then Bl j ||| ((1 : Int32) <<< (nI n &&& 31)) else Bl j) ∧ (∀ b, b ≠ a + 1 → b ≠ a + 4 → iv h' b = iv h b) ∧ jv h' = jv h := by
  intro d
  induction d with
  | zero =>
    intro k hk h fuel hf hB h3 h4
    obtain rfl : k = n + 1 := by omega
    cases fuel with
    | zero => omega
    | succ fuel =>
      refine ⟨wI h (a + 1) 3 (nI (n + 1)), ?_, Fr.w h _ _ (by omega) (by omega), by rw [iv_wI, if_pos rfl, if_pos rfl], fun j => by rw [iv_wI_ne _ _ _ (by omega)]; exact h4 j, fun b h1 _ => iv_wI_ne _ _ _ h1, rfl⟩
      have fk : kd h (a + 1) = 3 := by
        obtain ⟨bk, b0, b1, b2, b3, b4, b5, b6, b7, fk, f0, f1, f2, mk0, m0, m1, m2, m3, kf0, kf1, kf2, lf0, lf1, lf2, km0, km1, km2, km3, lm0, lm1, lm2, lm3, kb2, kb3, kb4, kb5, kb6, kb7, lb2, lb3, lb4, lb5, lb6, lb7⟩ := id hB
        exact fk
      show lX2_grow_50B _ _ _ _ _ _ = _
      simp (disch := omega) only [lX2_grow_50B, ↓gd, ↓bl, ↓on, ↓xr, ↓reduceIte, if_true, if_false, kd_wI, ln_wI, rv_wI, iv_wI, jv_wI, kd_wJ, ln_wJ, rv_wJ, iv_wJ, nI_clamp, nI_leE, nI_ltE, nI_eqE, m1_ne, bit_0, bit_1, nI_negE, leN_F, leN_T, ltN_F, ltN_T, eqN_F, or_false, false_or, or_true, true_or, not_false_eq_true, not_true_eq_false, and_true, true_and, and_false, false_and, fk, nI_1]
  | succ d ih =>
    intro k hk h fuel hf hB h3 h4
    cases fuel with
    | zero => omega
    | succ fuel =>
      have x1 := e8_inSet ab (k := k) (by omega) z h
      cases eb : bt ab k
      · rw [eb] at x1
        obtain ⟨h', v1, v2, v3, v4, v5, v6⟩ := ih (k + 1) (by omega) h fuel (by omega) hB h3 (fun j => by
          rw [h4 j]
          by_cases ej : j = k
          · subst ej; rw [eb]; simp
          · by_cases e2 : j < k
            · simp [e2, show j < k + 1 by omega]
            · simp [e2, show ¬ j < k + 1 by omega])
        refine ⟨h', ?_, v2, v3, v4, v5, v6⟩
        obtain ⟨bk, b0, b1, b2, b3, b4, b5, b6, b7, fk, f0, f1, f2, mk0, m0, m1, m2, m3, kf0, kf1, kf2, lf0, lf1, lf2, km0, km1, km2, km3, lm0, lm1, lm2, lm3, kb2, kb3, kb4, kb5, kb6, kb7, lb2, lb3, lb4, lb5, lb6, lb7⟩ := id hB
        show lX2_grow_50B _ _ _ _ _ _ = _
        simp (disch := omega) only [lX2_grow_50B, bX2_grow_80, ↓gd, ↓bl, ↓on, ↓xr, ↓reduceIte, if_true, if_false, kd_wI, ln_wI, rv_wI, iv_wI, jv_wI, kd_wJ, ln_wJ, rv_wJ, iv_wJ, nI_clamp, nI_leE, nI_ltE, nI_eqE, m1_ne, bit_0, bit_1, nI_negE, leN_F, leN_T, ltN_F, ltN_T, eqN_F, or_false, false_or, or_true, true_or, not_false_eq_true, not_true_eq_false, and_true, true_and, and_false, false_and, bk, ↓bb b0, ↓bb b1, ↓bb b2, ↓bb b3, ↓bb b4, ↓bb b5, ↓bb b6, ↓bb b7, fk, ↓bb f0, ↓bb f1, ↓bb f2, mk0, ↓bb m0, ↓bb m1, ↓bb m2, ↓bb m3, kf0, kf1, kf2, lf0, lf1, lf2, km0, km1, km2, km3, lm0, lm1, lm2, lm3, kb2, kb3, kb4, kb5, kb6, kb7, lb2, lb3, lb4, lb5, lb6, lb7, h3, ↓bb3 x1, Bool.false_eq_true, nI_1]
        exact v1
      · rw [eb] at x1
        have g4 : iv h (a + 4) k = Bl k := by rw [h4 k, if_neg (by omega)]
        obtain ⟨h', v1, v2, v3, v4, v5, v6⟩ := ih (k + 1) (by omega) (wI h (a + 4) k (Bl k ||| ((1 : Int32) <<< (nI n &&& 31)))) fuel (by omega) (BO_c rfl rfl hB) (by rw [iv_wI_ne _ _ _ (by omega)]; exact h3) (fun j => by
          rw [iv_wI, if_pos rfl]
          by_cases ej : j = k
          · subst ej; rw [if_pos rfl, if_pos ⟨by omega, eb⟩]
          · rw [if_neg ej, h4 j]
            by_cases e2 : j < k
            · simp [e2, show j < k + 1 by omega]
            · simp [e2, show ¬ j < k + 1 by omega])
        refine ⟨h', ?_, (Fr.w h _ _ (by omega) (by omega)).tr v2, v3, v4, fun b h1 h2 => (v5 b h1 h2).trans (iv_wI_ne _ _ _ h2), v6⟩
        obtain ⟨bk, b0, b1, b2, b3, b4, b5, b6, b7, fk, f0, f1, f2, mk0, m0, m1, m2, m3, kf0, kf1, kf2, lf0, lf1, lf2, km0, km1, km2, km3, lm0, lm1, lm2, lm3, kb2, kb3, kb4, kb5, kb6, kb7, lb2, lb3, lb4, lb5, lb6, lb7⟩ := id hB
        show lX2_grow_50B _ _ _ _ _ _ = _
        simp (disch := omega) only [lX2_grow_50B, bX2_grow_80, ↓gd, ↓bl, ↓on, ↓xr, ↓reduceIte, if_true, if_false, kd_wI, ln_wI, rv_wI, iv_wI, jv_wI, kd_wJ, ln_wJ, rv_wJ, iv_wJ, nI_clamp, nI_leE, nI_ltE, nI_eqE, m1_ne, bit_0, bit_1, nI_negE, leN_F, leN_T, ltN_F, ltN_T, eqN_F, or_false, false_or, or_true, true_or, not_false_eq_true, not_true_eq_false, and_true, true_and, and_false, false_and, bk, ↓bb b0, ↓bb b1, ↓bb b2, ↓bb b3, ↓bb b4, ↓bb b5, ↓bb b6, ↓bb b7, fk, ↓bb f0, ↓bb f1, ↓bb f2, mk0, ↓bb m0, ↓bb m1, ↓bb m2, ↓bb m3, kf0, kf1, kf2, lf0, lf1, lf2, km0, km1, km2, km3, lm0, lm1, lm2, lm3, kb2, kb3, kb4, kb5, kb6, kb7, lb2, lb3, lb4, lb5, lb6, lb7, h3, ↓bb3 x1, ne10, nI_1, g4]
        exact v1
theorem RBr_ad {h' : AH} {a : Nat} {q : Nat → Int32} (hW : WFr q) (hn : nr q < 16) {v : Int32} (hv : okP q v) (ab : Int32) (Bl : Nat → Int32) (hab : ∀ o, o < 32 → bt ab o = (decide (nr q = o) || (decide (v ≠ -1) && (decide (o < nr q) && bel q (tn' v) o))))
    (hBl : ∀ r, r < nr q → Bl r = mk 16 (fun o => decide (o < nr q) && bel q o r)) (hB0 : ∀ r, nr q ≤ r → r < 16 → Bl r = 0) (g1 : iv h' (a + 1) 3 = nI (nr q + 1)) (g2 : ∀ r, r < nr q → iv h' (a + 2) r = q (1 + r)) (g2n : iv h' (a + 2) (nr q) = v)
    (g3 : ∀ r, r < nr q → iv h' (a + 3) r = mk 16 (fun o => decide (o < nr q) && bel q r o)) (g3n : iv h' (a + 3) (nr q) = ab) (g4 : ∀ j, iv h' (a + 4) j = if j < nr q + 1 ∧ bt ab j = true then Bl j ||| ((1 : Int32) <<< (nI (nr q) &&& 31)) else Bl j) : RBr h' a (adP q v) := by
  have hbn : ∀ o, o < 32 → bt ab o = bel (adP q v) (nr q) o := fun o ho => by
    rw [hab o ho, ad_beln hW hn hv]
    rcases hv with rfl | ⟨u, hu, rfl⟩
    · simp
    · rw [show tn' (nI u) = u from nI_clamp (by omega)]
      cases e : bel q u o
      · simp
      · have := bel_hi hW o (u + 1) u (by omega) hu e
        simp [show o < nr q by omega]
  unfold RBr
  rw [ad_nr hn]
  refine ⟨by rw [g1, adP_at, if_pos rfl], fun r hr => ?_, fun r hr => ?_, fun r hr => ?_, fun r hr h16 => ?_⟩
  · by_cases e : r = nr q
    · subst e; rw [g2n, ad_n]
    · rw [g2 r (by omega), ad_p v (by omega)]
  · by_cases e : r = nr q
    · rw [e, g3n]
      refine b_ext (fun i hi => ?_)
      rw [bt_mk 16 _ (by omega), hbn i hi]
      cases e2 : bel (adP q v) (nr q) i
      · simp
      · have := bel_hi (ad_WFr hW hn hv) i (nr q + 1) (nr q) (by omega) (by rw [ad_nr hn]; omega) e2
        simp [show i < 16 by omega, show i < nr q + 1 by omega]
    · rw [g3 r (by omega)]
      refine mk_congr (fun i hi => ?_)
      rw [ad_bel hW hn hv i (r + 1) r (by omega) (by omega)]
      cases e2 : bel q r i
      · simp
      · have := bel_hi hW i (r + 1) r (by omega) (by omega) e2
        simp [show i < nr q by omega, show i < nr q + 1 by omega]
  · rw [g4 r]
    refine b_ext (fun i hi => ?_)
    rw [bt_mk 16 _ (by omega)]
    by_cases ei : i = nr q
    · rw [ei, ← hbn r (by omega)]
      cases eb : bt ab r
      · rw [if_neg (by simp)]
        by_cases e : r = nr q
        · rw [e, hB0 (nr q) (by omega) hn, b_0]; simp
        · rw [hBl r (by omega), bt_mk 16 _ (by omega)]; simp
      · rw [if_pos ⟨hr, rfl⟩, b_or, bt_pow _ (by omega)]
        simp [hn]
    · have e9 : bt (if r < nr q + 1 ∧ bt ab r = true then Bl r ||| ((1 : Int32) <<< (nI (nr q) &&& 31)) else Bl r) i = bt (Bl r) i := by
        split
        · rw [b_or, bt_pow _ (by omega), decide_eq_false ei, Bool.or_false]
        · rfl
      rw [e9]
      by_cases e : r = nr q
      · rw [e, hB0 (nr q) (by omega) hn, b_0]
        cases e2 : bel (adP q v) i (nr q)
        · simp
        · by_cases e3 : i < nr q
          · have := bel_hi (ad_WFr hW hn hv) (nr q) (i + 1) i (by omega) (by rw [ad_nr hn]; omega) e2
            omega
          · simp [show ¬ i < nr q + 1 by omega]
      · rw [hBl r (by omega), bt_mk 16 _ (by omega)]
        by_cases e3 : i < nr q
        · rw [ad_bel hW hn hv r (i + 1) i (by omega) e3]
          simp [e3, show i < nr q + 1 by omega]
        · simp [e3, show ¬ i < nr q + 1 by omega]
  · rw [g4 r, if_neg (by omega)]
    exact hB0 r (by omega) h16
theorem e2_grow {h : AH} {a : Nat} {q : Nat → Int32} {L : List Nat} (hW : WFr q) (hC : CB h a q L) (hn : nr q < 16) {v : Int32} (hv : okP q v) (z : Nat) : ∃ h', fX2_grow (a + 1) v z h = some (nI (nr q), z, h') ∧ Fr h h' a ∧ CB h' a (adP q v) L := by
  obtain ⟨cB, cR, cT, cO, cS, cM⟩ := id hC
  obtain ⟨R1, R2, R3, R4, R5⟩ := id cR
  have i3 : iv h (a + 1) 3 = nI (nr q) := R1.trans hW.1
  have hB := cB
  have lt16 : (nI (nr q) < 16) = True := by rw [li16, nI_ltE (by omega) (by omega)]; exact eq_true hn
  have key : ∀ (ab : Int32), (∀ o, o < 32 → bt ab o = (decide (nr q = o) || (decide (v ≠ -1) && (decide (o < nr q) && bel q (tn' v) o)))) →
      ∃ h', lX2_grow_50 fu (a + 1) (nI (nr q)) 0 z (wI (wI h (a + 2) (nr q) v) (a + 3) (nr q) ab) = some (nI (nr q), z, h') ∧ Fr h h' a ∧ CB h' a (adP q v) L := by
    intro ab hab
    obtain ⟨h', v1, v2, v3, v4, v5, v6⟩ := gr_loop (a := a) hn ab (iv h (a + 4)) z (nr q + 1) 0 (by omega) (wI (wI h (a + 2) (nr q) v) (a + 3) (nr q) ab) fu (by unfold fu; omega) (BO_c rfl rfl cB) (by rw [iv_wI, if_pos rfl, if_pos rfl]) (fun j => by rw [iv_wI_ne _ _ _ (by omega), iv_wI_ne _ _ _ (by omega), if_neg (by omega)])
    rw [nI_0] at v1
    have hF : Fr h h' a := ((Fr.w h _ _ (by omega) (by omega)).tr (Fr.w _ _ _ (by omega) (by omega))).tr v2
    have g : ∀ b, b ≠ a + 1 → b ≠ a + 2 → b ≠ a + 3 → b ≠ a + 4 → iv h' b = iv h b := fun b h1 h2 h3 h4 => by rw [v5 b h1 h4, iv_wI_ne _ _ _ h3, iv_wI_ne _ _ _ h2]
    refine ⟨h', v1, hF, BO_f hF cB, ?_, ?_, ?_, ?_, ?_⟩
    · refine RBr_ad hW hn hv ab (iv h (a + 4)) hab R4 R5 v3 (fun r hr => ?_) ?_ (fun r hr => ?_) ?_ v4
      · rw [v5 _ (by omega) (by omega), iv_wI_ne _ _ _ (by omega), iv_wI, if_pos rfl, if_neg (by omega)]; exact R2 r hr
      · rw [v5 _ (by omega) (by omega), iv_wI_ne _ _ _ (by omega), iv_wI, if_pos rfl, if_pos rfl]
      · rw [v5 _ (by omega) (by omega), iv_wI, if_pos rfl, if_neg (by omega), iv_wI_ne _ _ _ (by omega)]; exact R3 r hr
      · rw [v5 _ (by omega) (by omega), iv_wI, if_pos rfl, if_pos rfl]
    · exact RBt_c (by rw [g a (by omega) (by omega) (by omega) (by omega)]) (fun b h1 h2 => g b (by omega) (by omega) (by omega) (by omega)) (fun j h1 _ => (ad_hi hn v (by omega)).symm) cT
    · exact RBo_c (by rw [g a (by omega) (by omega) (by omega) (by omega)]) (g _ (by omega) (by omega) (by omega) (by omega)) cO
    · exact RBs_c (fun j _ _ => by rw [g a (by omega) (by omega) (by omega) (by omega)]) (fun j h1 _ => (ad_hi hn v h1).symm) cS
    · exact RBm_c (fun b h1 h2 => g b (by omega) (by omega) (by omega) (by omega)) (by rw [v6]; rfl) (fun j h1 => (ad_hi hn v (by omega)).symm) cM
  have hR2 : RBr (wI h (a + 2) (nr q) v) a q := by
    refine ⟨by rw [iv_wI_ne _ _ _ (by omega)]; exact R1, fun r hr => ?_, fun r hr => by rw [iv_wI_ne _ _ _ (by omega)]; exact R3 r hr, fun r hr => by rw [iv_wI_ne _ _ _ (by omega)]; exact R4 r hr, fun r h1 h2 => by rw [iv_wI_ne _ _ _ (by omega)]; exact R5 r h1 h2⟩
    rw [iv_wI, if_pos rfl, if_neg (by omega)]; exact R2 r hr
  have x1 := e2_has (h := wI h (a + 2) (nr q) v) (BO_c rfl rfl cB) hW hR2 v z
  rcases hv with rfl | ⟨u, hu, rfl⟩
  · have e1 : rsI q (-1) = false := rfl
    rw [e1] at x1
    obtain ⟨h', v1, v2, v3⟩ := key (((1 : Int32) <<< (nI (nr q) &&& 31)) ||| 0) (fun o ho => by
      rw [or_0, bt_pow _ (by omega)]
      simp [eq_comm])
    refine ⟨h', ?_, v2, v3⟩
    obtain ⟨bk, b0, b1, b2, b3, b4, b5, b6, b7, fk, f0, f1, f2, mk0, m0, m1, m2, m3, kf0, kf1, kf2, lf0, lf1, lf2, km0, km1, km2, km3, lm0, lm1, lm2, lm3, kb2, kb3, kb4, kb5, kb6, kb7, lb2, lb3, lb4, lb5, lb6, lb7⟩ := id hB
    simp (disch := omega) only [fX2_grow, bX2_grow_46, ↓brv_wI, ↓brv_wJ, ↓gd, ↓bl, ↓on, ↓xr, ↓reduceIte, if_true, if_false, kd_wI, ln_wI, rv_wI, iv_wI, jv_wI, kd_wJ, ln_wJ, rv_wJ, iv_wJ, nI_clamp, nI_leE, nI_ltE, nI_eqE, m1_ne, bit_0, bit_1, nI_negE, leN_F, leN_T, ltN_F, ltN_T, eqN_F, or_false, false_or, or_true, true_or, not_false_eq_true, not_true_eq_false, and_true, true_and, and_false, false_and, bk, ↓bb b0, ↓bb b1, ↓bb b2, ↓bb b3, ↓bb b4, ↓bb b5, ↓bb b6, ↓bb b7, fk, ↓bb f0, ↓bb f1, ↓bb f2, mk0, ↓bb m0, ↓bb m1, ↓bb m2, ↓bb m3, kf0, kf1, kf2, lf0, lf1, lf2, km0, km1, km2, km3, lm0, lm1, lm2, lm3, kb2, kb3, kb4, kb5, kb6, kb7, lb2, lb3, lb4, lb5, lb6, lb7, i3, lt16, ↓bb3 x1, Bool.false_eq_true]
    exact v1
  · have e1 : rsI q (nI u) = true := by rw [rsI_nI (by omega) (by omega)]; exact decide_eq_true hu
    rw [e1] at x1
    obtain ⟨h', v1, v2, v3⟩ := key (((1 : Int32) <<< (nI (nr q) &&& 31)) ||| mk 16 (fun o => decide (o < nr q) && bel q u o)) (fun o ho => by
      rw [b_or, bt_pow _ (by omega), bt_mk 16 _ (by omega), show tn' (nI u) = u from nI_clamp (by omega)]
      have : nI u ≠ -1 := by rw [ne_eq, m1_ne (by omega)]; exact fun h => h
      by_cases e3 : o < nr q
      · simp [e3, this, show o < 16 by omega, eq_comm]
      · simp [e3, eq_comm])
    refine ⟨h', ?_, v2, v3⟩
    have g3 : iv (wI h (a + 2) (nr q) (nI u)) (a + 3) u = mk 16 (fun o => decide (o < nr q) && bel q u o) := by rw [iv_wI_ne _ _ _ (by omega)]; exact R3 u hu
    obtain ⟨bk, b0, b1, b2, b3, b4, b5, b6, b7, fk, f0, f1, f2, mk0, m0, m1, m2, m3, kf0, kf1, kf2, lf0, lf1, lf2, km0, km1, km2, km3, lm0, lm1, lm2, lm3, kb2, kb3, kb4, kb5, kb6, kb7, lb2, lb3, lb4, lb5, lb6, lb7⟩ := id hB
    simp (disch := omega) only [fX2_grow, bX2_grow_46, ↓brv_wI, ↓gd, ↓bl, ↓reduceIte, kd_wI, ln_wI, nI_clamp, nI_negE, leN_F, or_false, not_false_eq_true, bk, ↓bb b0, ↓bb b1, ↓bb b2, ↓bb b3, ↓bb b4, ↓bb b5, ↓bb b6, ↓bb b7, fk, ↓bb f0, ↓bb f1, ↓bb f2, mk0, ↓bb m0, ↓bb m1, ↓bb m2, ↓bb m3, kf0, kf1, kf2, lf0, lf1, lf2, km0, km1, km2, km3, lm0, lm1, lm2, lm3, kb2, kb3, kb4, kb5, kb6, kb7, lb2, lb3, lb4, lb5, lb6, lb7, i3, lt16, ↓bb3 x1, ne10, g3]
    exact v1
def kN (q : Nat → Int32) (a : Int32) : Nat := if (decide (a = -1) || rsI q a) = false then 1 else if nr q = 16 then 2 else 0
def aI (A : TS) (a : Int32) : Nat × Int32 × TS := oU (kN A.1.1.1 a) (nI (nr A.1.1.1)) (adA A.1 a) A
theorem okP_of {q : Nat → Int32} {a : Int32} (h : (decide (a = -1) || rsI q a) = true) : okP q a := by
  by_cases e : a = -1
  · exact Or.inl e
  · rw [decide_eq_false e, Bool.false_or] at h
    obtain ⟨r, r16, e1, hr, er⟩ := rsI_of h
    exact Or.inr ⟨r, hr, e1⟩
theorem kN_0 {q : Nat → Int32} {a : Int32} (hW : WFr q) (h : kN q a = 0) : nr q < 16 ∧ okP q a := by
  unfold kN at h
  cases e : (decide (a = -1) || rsI q a)
  · rw [e] at h; simp at h
  · rw [e] at h
    by_cases e2 : nr q = 16
    · simp [e2] at h
    · have := hW.2.1
      exact ⟨by omega, okP_of e⟩
theorem TI_I {A : TS} {B : Nat} (hT : TI A B) (a : Int32) : TI (aI A a).2.2 B :=
  TI_U hT (Nat.le_refl _) (fun hk => WS_Ad hT.1 (kN_0 hT.W hk).1 (kN_0 hT.W hk).2)
theorem c_add24 {h : AH} {x z : Nat} {A : TS} {B : Nat} (hC : CI h x z A) (hT : TI A B) {a : Int32} (hv : okP A.1.1.1 a) : CC (bX8_addResource_24 x a 1 z h) h x z (oU (if nr A.1.1.1 = 16 then 2 else 0) (nI (nr A.1.1.1)) (adA A.1 a) A) eB eS := by
  obtain ⟨w, H, T⟩ := A
  have v : iv h (x + 1 + 1) 3 = nI (nr w.1.1) := hC.2.2.1.1.2.1.2.1.1.trans hT.W.1
  have hn := hT.W.2.1
  by_cases e : nr w.1.1 = 16
  · have e1 : (16 ≤ nI (nr w.1.1)) = True := by rw [li16, nI_leE (by omega) (by omega)]; exact eq_true (by omega)
    rw [if_pos e, oU_1 (by omega)]
    refine CC_err hC hT ?_
    obtain ⟨o1, o2, o3, o4, o5, o6, o7, o8, o9, o10, o11, o12, o13, o14, o15, o16⟩ := id hC.1
    have hB := hC.2.2.1.1.2.1.1
    have u1 := hB.1
    have u2 := hB.2.1
    have u3 := hB.2.2.2.2.2.2.2.2.2.1
    have u4 := hC.2.2.1.1.1.1
    simp (disch := omega) only [bX8_addResource_24, bX8_addResource_47, ↓gd, ↓bl, ↓xr, ↓reduceIte, o1, ↓bb o2, ↓bb o3, ↓bb o4, ↓bb o5, ↓bb o6, ↓bb o7, ↓bb o8, o9, ↓bb o10, o11, o12, o13, ↓bb o14, o15, o16, u1, ↓bb u2, u3, u4, ↓bb3 (nT1 _ _), v, e1, ↓bb3 (nS0 _ _)]
    rfl
  · have hn2 : nr w.1.1 < 16 := by have : nr w.1.1 ≤ 16 := hn; omega
    have e1 : (16 ≤ nI (nr w.1.1)) = False := by rw [li16, nI_leE (by omega) (by omega)]; exact eq_false (by omega)
    rw [if_neg e, oU_0 rfl]
    refine CC_ok hC hT (fun z1 h1 hk1 hC1 => ?_)
    obtain ⟨h', v1, v2, v3⟩ := e2_grow hT.W hC1.2.2.1.1.2.1 hn2 hv z1
    have hF := Fq.fr v2 (PD_bk (x := x))
    refine ⟨h', ?_, hF.mono PD_E, CL_D hC1.2.2.1 hF (CS_bk hC1.2.2.1.1 v2 v3)⟩
    obtain ⟨o1, o2, o3, o4, o5, o6, o7, o8, o9, o10, o11, o12, o13, o14, o15, o16⟩ := id hC.1
    have hB := hC.2.2.1.1.2.1.1
    have u1 := hB.1
    have u2 := hB.2.1
    have u3 := hB.2.2.2.2.2.2.2.2.2.1
    have u4 := hC.2.2.1.1.1.1
    obtain ⟨p1, p2, p3, p4, p5, p6, p7, p8, p9, p10, p11, p12, p13, p14, p15, p16⟩ := id hC1.1
    have hB1 := hC1.2.2.1.1.2.1.1
    have y1 := hB1.1
    have y2 := hB1.2.1
    have y3 := hB1.2.2.2.2.2.2.2.2.2.1
    have y4 := hC1.2.2.1.1.1.1
    simp (disch := omega) only [bX8_addResource_24, bX8_addResource_47, ↓gd, ↓bl, ↓xr, ↓reduceIte, o1, ↓bb o2, ↓bb o3, ↓bb o4, ↓bb o5, ↓bb o6, ↓bb o7, ↓bb o8, o9, ↓bb o10, o11, o12, o13, ↓bb o14, o15, o16, u1, ↓bb u2, u3, u4, ↓bb3 (nT1 _ _), v, e1, ↓bb3 (nS1 _ _), ↓bb2 hk1, p1, ↓bb p2, ↓bb p3, ↓bb p4, ↓bb p5, ↓bb p6, ↓bb p7, ↓bb p8, p9, ↓bb p10, p11, p12, p13, ↓bb p14, p15, p16, y1, ↓bb y2, y3, y4, ↓bb3 v1]
theorem c_addResource {h : AH} {x z : Nat} {A : TS} {B : Nat} (hC : CI h x z A) (hT : TI A B) (a : Int32) : CC (fX8_addResource x a z h) h x z (aI A a) eB eS := by
  unfold aI
  have hCB := hC.2.2.1.1.2.1
  have x1 := e2_has hCB.1 hT.W hCB.2.1 a z
  by_cases e : a = -1
  · have ek : kN A.1.1.1 a = if nr A.1.1.1 = 16 then 2 else 0 := by unfold kN; rw [decide_eq_true e]; rfl
    have := c_add24 hC hT (Or.inl e)
    rw [ek]
    have ef : fX8_addResource x a z h = bX8_addResource_24 x a 1 z h := by
      unfold fX8_addResource
      rw [if_pos e]; rfl
    rw [ef]
    exact this
  · cases e1 : rsI A.1.1.1 a
    · have ek : kN A.1.1.1 a = 1 := by unfold kN; rw [decide_eq_false e, e1]; rfl
      rw [oU_1 (by omega)]
      refine CC_err hC hT ?_
      rw [ek]
      rw [e1] at x1
      obtain ⟨o1, o2, o3, o4, o5, o6, o7, o8, o9, o10, o11, o12, o13, o14, o15, o16⟩ := id hC.1
      have hB := hC.2.2.1.1.2.1.1
      have u1 := hB.1
      have u2 := hB.2.1
      have u3 := hB.2.2.2.2.2.2.2.2.2.1
      have u4 := hC.2.2.1.1.1.1
      simp (disch := omega) only [fX8_addResource, bX8_addResource_24, e, ↓gd, ↓bl, ↓xr, ↓reduceIte, o1, ↓bb o2, ↓bb o3, ↓bb o4, ↓bb o5, ↓bb o6, ↓bb o7, ↓bb o8, o9, ↓bb o10, o11, o12, o13, ↓bb o14, o15, o16, u1, ↓bb u2, u3, u4, ↓bb3 x1, Bool.false_eq_true, ↓bb3 (nT0 _ _)]
      rfl
    · have ek : kN A.1.1.1 a = if nr A.1.1.1 = 16 then 2 else 0 := by unfold kN; rw [e1, Bool.or_true]; rfl
      have := c_add24 hC hT (okP_of (a := a) (by rw [e1, Bool.or_true]))
      rw [ek]
      rw [e1] at x1
      have ef : fX8_addResource x a z h = bX8_addResource_24 x a 1 z h := by
        obtain ⟨o1, o2, o3, o4, o5, o6, o7, o8, o9, o10, o11, o12, o13, o14, o15, o16⟩ := id hC.1
        have hB := hC.2.2.1.1.2.1.1
        have u1 := hB.1
        have u2 := hB.2.1
        have u3 := hB.2.2.2.2.2.2.2.2.2.1
        have u4 := hC.2.2.1.1.1.1
        simp (disch := omega) only [fX8_addResource, bX8_addResource_19, e, ↓gd, ↓bl, ↓xr, ↓reduceIte, o1, ↓bb o2, ↓bb o3, ↓bb o4, ↓bb o5, ↓bb o6, ↓bb o7, ↓bb o8, o9, ↓bb o10, o11, o12, o13, ↓bb o14, o15, o16, u1, ↓bb u2, u3, u4, ↓bb3 x1, ne10]
      rw [ef]
      exact this
theorem r_add18 {h : AH} {m z : Nat} {A : TS} {B : Nat} (hR : RI h m A) (hT : TI A B) {a : Int32} (hv : okP A.1.1.1 a) : RR (bX9_addResource_18 m a m z h) h m z (oU (if nr A.1.1.1 = 16 then 2 else 0) (nI (nr A.1.1.1)) (adA A.1 a) A) := by
  obtain ⟨w, H, T⟩ := A
  have hk0 := hR.1.1
  have hn : nr w.1.1 ≤ 16 := hT.W.2.1
  have v : iv h (m + 1) 0 = nI (nr w.1.1) := (hR.2.1.1 0 (by omega)).trans hT.W.1
  have hM0 := hR.1
  by_cases e : nr w.1.1 = 16
  · have e1 : (nI (nr w.1.1) = 16) = True := by rw [e]; exact eq_true rfl
    rw [if_pos e, oU_1 (by omega)]
    refine RR_code (v' := 0) hR (fun h9 => absurd h9 (by decide)) ?_
    have hM := hR.1
    obtain ⟨hk, r0, r1, r3, r4, r10, r11, r13, r14, r15, k1, k2, k3, k4, k5, k6, k7, k8, k9, l1, l2, l3, l4, l5, l6, l7, l8, l9⟩ := id hM
    simp (disch := omega) only [bX9_addResource_18, bX9_addResource_34, ↓gd, ↓bl, ↓reduceIte, ↓bb r0, ↓bb r1, ↓bb r3, ↓bb r4, ↓bb r10, ↓bb r11, ↓bb r13, ↓bb r14, ↓bb r15, hk, k1, k2, k3, k4, k5, k6, k7, k8, k9, l1, l2, l3, l4, l5, l6, l7, l8, l9, ix0, lt00, leN_F, or_false, not_false_eq_true, v, e1, kd_wI, iv6, li2E]
    rfl
  · have e1 : (nI (nr w.1.1) = 16) = False := by rw [li16, nI_eqE (by omega) (by omega)]; exact eq_false e
    rw [if_neg e, oU_0 rfl]
    refine RR_ok hR hT (fun h2 v1 v2 v3 => ?_)
    have em := RI_mh v2
    simp only at em
    have hp : nr (iv h2 (m + 1)) = nr w.1.1 := nr_nord v2.2.1.1
    have hn2 : nr w.1.1 < 16 := by omega
    refine ⟨adP (iv h2 (m + 1)) a, h2, RF_ad v2.2.1 hn2 a, v2.2.2.2.1, Fm.rf m h2, fun h4 k1 k2 k3 => ?_⟩
    have vv : iv h2 (m + 1) 0 = nI (nr w.1.1) := (v2.2.1.1 0 (by omega)).trans hT.W.1
    have i1 : (1 : Int32) + nI (nr w.1.1) = nI (1 + nr w.1.1) := nI_add _ _
    have kk : fX9_records m z (wI (wI h2 (m + 1) (1 + nr w.1.1) a) (m + 1) 0 (nI (nr w.1.1 + 1))) = some (z, h4) := by
      rw [← k1]
      show _ = fX9_records m z (mh h2 m (adP (iv h2 (m + 1)) a) w.1.2.2)
      unfold adP
      rw [hp, ← mh_w1, ← mh_w1, ← em]
    have g0 : iv (wI h2 (m + 1) (1 + nr w.1.1) a) (m + 1) 0 = nI (nr w.1.1) := by rw [iv_wI, if_pos rfl, if_neg (by omega)]; exact vv
    have g4 : iv h4 (m + 1) 0 = nI (nr w.1.1 + 1) := by rw [k3, adP_at, if_pos rfl, hp]
    have g5 : nI (nr w.1.1 + 1) - 1 = nI (nr w.1.1) := by rw [show (1 : Int32) = nI 1 from rfl, pk_sub (by omega)]; rfl
    have hM := v2.1
    have hM0 := hR.1
    have y0 := hM0.2.1
    have y1 : kd h (m + 1) = 13 := hM0.2.2.2.2.2.2.2.2.2.2.1
    have y2 : ln h (m + 1) = 613 := hM0.2.2.2.2.2.2.2.2.2.2.2.2.2.2.2.2.2.2.2.1
    have t0 := k2.1
    have t1 := k2.2.1
    have t2 : kd h4 (m + 1) = 13 := k2.2.2.2.2.2.2.2.2.2.2.1
    have t3 : ln h4 (m + 1) = 613 := k2.2.2.2.2.2.2.2.2.2.2.2.2.2.2.2.2.2.2.2.1
    clear k1 k3 k2 em
    obtain ⟨hk, r0, r1, r3, r4, r10, r11, r13, r14, r15, k1, k2, k3, k4, k5, k6, k7, k8, k9, l1, l2, l3, l4, l5, l6, l7, l8, l9⟩ := id hM
    simp (disch := omega) only [bX9_addResource_18, bX9_addResource_34, ↓gd, ↓bl, ↓reduceIte, hk0, ↓bb y0, y1, y2, ix0, lt00, leN_F, or_false, not_false_eq_true, v, e1, kd_wI, ln_wI, ↓brv_wI, iv6, le00, ↓bb2 v1, ↓bb r0, ↓bb r1, ↓bb r3, ↓bb r4, ↓bb r10, ↓bb r11, ↓bb r13, ↓bb r14, ↓bb r15, hk, k1, k2, k3, k4, k5, k6, k7, k8, k9, l1, l2, l3, l4, l5, l6, l7, l8, l9, vv, i1, nI_negE, nI_clamp, g0, nI_1, ↓bb2 kk, t0, ↓bb t1, t2, t3, g4, g5]
theorem r_addResource {h : AH} {m z : Nat} {A : TS} {B : Nat} (hR : RI h m A) (hT : TI A B) (a : Int32) : RR (fX9_addResource m a z h) h m z (aI A a) := by
  unfold aI
  have hk0 := hR.1.1
  have hWp : WFr (ps h m) := (hR.2.1.wq hT.1.1).1
  have x1 := e9_isRes hR.1 hWp a z
  rw [rsI_nord hR.2.1.1] at x1
  by_cases e : a = -1
  · have ek : kN A.1.1.1 a = if nr A.1.1.1 = 16 then 2 else 0 := by unfold kN; rw [decide_eq_true e]; rfl
    have := r_add18 (z := z) hR hT (Or.inl e)
    rw [ek]
    have ef : fX9_addResource m a z h = bX9_addResource_18 m a m z h := by
      unfold fX9_addResource
      rw [if_pos e]
    rw [ef]
    exact this
  · cases e1 : rsI A.1.1.1 a
    · have ek : kN A.1.1.1 a = 1 := by unfold kN; rw [decide_eq_false e, e1]; rfl
      rw [oU_1 (by omega), ek]
      refine RR_code (v' := 0) hR (fun h9 => absurd h9 (by decide)) ?_
      rw [e1] at x1
      simp (disch := omega) only [fX9_addResource, bX9_addResource_34, e, ↓gd, ↓bl, ↓reduceIte, ↓bb3 x1, Bool.false_eq_true, hk0, kd_wI, iv6, li1E]
      rfl
    · have ek : kN A.1.1.1 a = if nr A.1.1.1 = 16 then 2 else 0 := by unfold kN; rw [e1, Bool.or_true]; rfl
      have := r_add18 (z := z) hR hT (okP_of (a := a) (by rw [e1, Bool.or_true]))
      rw [ek]
      rw [e1] at x1
      have ef : fX9_addResource m a z h = bX9_addResource_18 m a m z h := by
        simp (disch := omega) only [fX9_addResource, e, ↓gd, ↓reduceIte, hk0, ↓bb3 x1, ne10]
      rw [ef]
      exact this
