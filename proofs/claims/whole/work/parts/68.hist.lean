/-! the class's records -/
theorem CI_s {h h' : AH} {x z : Nat} {A A' : TS} (e1 : h'.1 = h.1) (e2 : h'.2.2.2 = h.2.2.2) (hC : CI h x z A) (hL : CL h' x A'.1) (hH : HI h' x A'.2.1) (hT : TX h' x A'.2.2) : CI h' x z A' := by
  obtain ⟨c1, c2, -, ⟨c4, c5, c6⟩, -, -, c13⟩ := hC
  have er : ∀ b, rv h' b = rv h b := fun b => by unfold rv; rw [e2]
  have ek : ∀ b, kd h' b = kd h b := fun b => by unfold kd; rw [e1]
  have el : ∀ b, ln h' b = ln h b := fun b => by unfold ln; rw [e1]
  refine ⟨?_, BO_c e1 e2 c2, hL, ⟨fun i a hi ha => ?_, fun i j a b hi hj hij ha hb => ?_, fun w hw => ?_⟩, hH, hT, c13⟩
  · unfold CO at c1 ⊢
    simp only [er, ek, el]
    exact c1
  · rw [er] at ha
    obtain ⟨a1, a2, a3⟩ := c4 i a hi ha
    exact ⟨a1, a2, BO_c e1 e2 a3⟩
  · rw [er] at ha hb
    exact c5 i j a b hi hj hij ha hb
  · rw [er] at hw
    rw [ek, el]
    simp only [er]
    exact c6 w hw
theorem TX_x {h h' : AH} {x : Nat} {T : List Nat} (e1 : iv h' (x + 41) = iv h (x + 41)) (e2 : iv h' (x + 42) = iv h (x + 42)) (hT : TX h x T) : TX h' x T := by
  unfold TX at hT ⊢
  rw [e1, e2]
  exact hT
theorem k_44 {h : AH} {x z a : Nat} {w : Ac} {H : List Rec} {T : List Nat} (hW : WFr w.1.1) (hLen : w.1.2.1.length ≤ 10) (hH : ∀ r ∈ H, WFr r.1) (hC : CI h x z (w, H, T)) (hn : H.length < 5) (ha : rv h (x + 40) H.length = some a) :
    ∃ h', bX3_keep_44 (x + 39) (x + 1) a z h = some (z, h') ∧ CI h' x z (w, H ++ [(w.1.1, w.1.2.1)], T) ∧ FK x h h' := by
  obtain ⟨c1, c2, c3, ⟨c4, c5, c6⟩, ⟨c7, c8, c9⟩, c10, c13⟩ := id hC
  obtain ⟨a1, a2, a3⟩ := c4 _ a hn ha
  obtain ⟨h1, v1, v2, v3, v4⟩ := CB_copy hW hLen c3.1.2.1 a3 (by omega) z
  have e39 : iv h1 (x + 39) = iv h (x + 39) := (v2.2.2 (x + 39) (by omega)).1
  have g1 : iv h1 (x + 39) 1 + 1 = nI (H.length + 1) := by rw [e39, c7]; exact nI_1 _
  have hs : ∀ b, b < a ∨ a + 16 ≤ b → b ≠ x + 39 → sc h (wI h1 (x + 39) 1 (nI (H.length + 1))) b := fun b h1 h2 => (sc.fr v2 h1).tr (sc.wI _ _ _ h2)
  refine ⟨wI h1 (x + 39) 1 (nI (H.length + 1)), ?_, CI_s v2.1 v2.2.1 hC (CL_x hW (fun b hb => hs b (by omega) (by omega)) c3) ⟨?_, ?_, fun i r hr => ?_⟩ (TX_x (sc_iv (hs _ (by omega) (by omega))) (sc_iv (hs _ (by omega) (by omega))) c10), fun b h1 h2 => hs b (by omega) (by omega)⟩
  · have k1 : kd h1 (x + 39) = 4 := by
      have := c1.2.2.2.2.2.2.2.2.1
      unfold kd at this ⊢
      rw [v2.1]; exact this
    have k2 := a3.1
    simp (disch := omega) only [bX3_keep_44, ↓gd, ↓bl, ↓reduceIte, k2, ↓bb2 v1, k1, g1]
  · rw [iv_wI, if_pos rfl, if_pos rfl, List.length_append]; rfl
  · rw [List.length_append]; show H.length + 1 ≤ 5; omega
  · have er : rv (wI h1 (x + 39) 1 (nI (H.length + 1))) (x + 40) = rv h (x + 40) := by show h1.2.2.2 _ = _; rw [v2.2.1]
    rw [er]
    by_cases e : i < H.length
    · rw [List.getElem?_append_left e] at hr
      obtain ⟨b, hb, hCB⟩ := c9 i r hr
      have := c5 i H.length b a (by omega) hn (by omega) hb ha
      obtain ⟨b1, b2, -⟩ := c4 i b (by omega) hb
      exact ⟨b, hb, CB_x (hH r (List.mem_of_getElem? hr)) (fun d hd => hs d (by omega) (by omega)) hCB⟩
    · have hi := (List.getElem?_eq_some_iff.mp hr).1
      rw [List.length_append] at hi
      have hi : i < H.length + 1 := hi
      obtain rfl : i = H.length := by omega
      simp at hr
      subst hr
      exact ⟨a, ha, CB_x hW (fun d hd => sc.wI _ _ _ (by omega)) v3⟩
theorem k_12 {h : AH} {x z : Nat} {w : Ac} {H : List Rec} {T : List Nat} (hW : WFr w.1.1) (hLen : w.1.2.1.length ≤ 10) (hH : ∀ r ∈ H, WFr r.1) (hC : CI h x z (w, H, T)) (hn : H.length < 5) :
    ∃ z' h', bX3_keep_12 (x + 39) (x + 1) z h = some (z', h') ∧ z ≤ z' ∧ CI h' x z' (w, H ++ [(w.1.1, w.1.2.1)], T) ∧ FK x h h' := by
  obtain ⟨c1, c2, c3, ⟨c4, c5, c6⟩, ⟨c7, c8, c9⟩, c10, c13⟩ := id hC
  have c7 : iv h (x + 39) 1 = nI H.length := c7
  obtain ⟨o1, o2, o3, o4, o5, o6, o7, o8, o9, o10, o11, o12, -⟩ := id c1
  cases hs : rv h (x + 40) H.length with
  | some a =>
    obtain ⟨h', v1, v2, v3⟩ := k_44 hW hLen hH hC hn hs
    refine ⟨z, h', ?_, Nat.le_refl _, v2, v3⟩
    have hs' : rv h (x + 40) (Int32.toNatClampNeg (nI H.length)) = some a := by rw [nI_clamp (by omega)]; exact hs
    simp (disch := omega) only [bX3_keep_12, ↓gd, ↓reduceIte, o9, ↓bb o10, o11, o12, c7, nI_negE, nI_clamp, leN_F, or_false, not_false_eq_true, hs, ↓on, v1]
  | none =>
    generalize hg : nb4 (nb3 (nb2 (wNew h z 1 0) z) z) z = g
    have hk0 : kd (wNew h z 1 0) z = 1 := by rw [kd_wN, if_pos rfl]
    have x1 := e0_init hk0
    rw [hg] at x1
    have hsc : ∀ b, b < z → sc h g b := fun b hb => by rw [← hg]; exact (sc.wN h _ _ (by omega)).tr (nb_sc (by omega))
    have hBz : BO g z := by rw [← hg]; exact nb_BO hk0
    have hCg : CI g x (z + 16) (w, H, T) := CI_x hW hH (by omega) (fun b hb => hsc b (by omega)) hC
    obtain ⟨d1, d2, d3, ⟨d4, d5, d6⟩, ⟨d7, d8, d9⟩, d10, d13⟩ := id hCg
    obtain ⟨p1, p2, p3, p4, p5, p6, p7, p8, p9, p10, p11, p12, -⟩ := id d1
    have d7 : iv g (x + 39) 1 = nI H.length := d7
    have es : ∀ i, i ≠ H.length → rv (wR g (x + 40) H.length (some z)) (x + 40) i = rv h (x + 40) i := fun i hi => by
      rw [rv_wR, if_pos rfl, if_neg hi, sc_rv (hsc (x + 40) (by omega))]
    have es0 : rv (wR g (x + 40) H.length (some z)) (x + 40) H.length = some z := by rw [rv_wR, if_pos rfl, if_pos rfl]
    have hsw : ∀ b, b ≠ x + 40 → sc g (wR g (x + 40) H.length (some z)) b := fun b hb => sc.wR g _ _ hb
    have hC3 : CI (wR g (x + 40) H.length (some z)) x (z + 16) (w, H, T) := by
      refine ⟨?_, BO_x (fun b hb => hsw b (by omega)) d2, CL_x hW (fun b hb => hsw b (by omega)) d3, ⟨fun i a hi ha => ?_, fun i j a b hi hj hij ha hb => ?_, fun w hw => ?_⟩, ⟨?_, d8, fun i r hr => ?_⟩, TX_x rfl rfl d10, d13⟩
      · unfold CO at d1 ⊢
        simp (disch := omega) only [kd_wR, ln_wR, rv_wR, eqN_F, if_false]
        exact d1
      · by_cases e : i = H.length
        · subst e
          rw [es0] at ha
          obtain rfl := Option.some.inj ha
          exact ⟨by omega, Nat.le_refl _, BO_x (fun b hb => hsw b (by omega)) hBz⟩
        · rw [es i e] at ha
          obtain ⟨a1, a2, a3⟩ := c4 i a hi ha
          exact ⟨a1, by omega, BO_x (fun b hb => (hsc b (by omega)).tr (hsw b (by omega))) a3⟩
      · by_cases e : i = H.length
        · subst e
          rw [es0] at ha
          obtain rfl := Option.some.inj ha
          rw [es j (by omega)] at hb
          have := c4 j b hj hb
          omega
        · rw [es i e] at ha
          by_cases e2 : j = H.length
          · subst e2
            rw [es0] at hb
            obtain rfl := Option.some.inj hb
            have := c4 i a hi ha
            omega
          · rw [es j e2] at hb
            exact c5 i j a b hi hj hij ha hb
      · have hw : rv g (x + 35) 3 = some w := by rw [rv_wR, if_neg (by omega)] at hw; exact hw
        rw [sc_rv (hsc (x + 35) (by omega))] at hw
        obtain ⟨a1, a2, a3, a4, a5⟩ := c6 w hw
        have ew := hsc w (by omega)
        refine ⟨a1, by omega, (sc_kd ew).trans a3, (sc_ln ew).trans a4, fun i a hi ha => ?_⟩
        by_cases e : i = H.length
        · subst e
          rw [es0] at ha
          obtain rfl := Option.some.inj ha
          omega
        · rw [es i e] at ha
          exact a5 i a hi ha
      · exact d7
      · have hi : i < H.length := (List.getElem?_eq_some_iff.mp hr).1
        obtain ⟨b, hb, hCB⟩ := c9 i r hr
        obtain ⟨b1, b2, -⟩ := c4 i b (by omega) hb
        exact ⟨b, by rw [es i (by omega)]; exact hb, CB_x (hH r (List.mem_of_getElem? hr)) (fun d hd => (hsc d (by omega)).tr (hsw d (by omega))) hCB⟩
    obtain ⟨h', v1, v2, v3⟩ := k_44 hW hLen hH hC3 hn es0
    refine ⟨z + 16, h', ?_, by omega, v2, FK.tr (fun b h1 h2 => (hsc b (by omega)).tr (hsw b (by omega))) v3⟩
    have hok : (okq g (some z) = true) = True := eq_true (by show ((g.1 z).1 == 1) = true; rw [show (g.1 z).1 = 1 from hBz.1]; rfl)
    simp (disch := omega) only [bX3_keep_12, ↓gd, ↓bl, ↓reduceIte, o9, ↓bb o10, o11, o12, c7, nI_negE, nI_clamp, leN_F, or_false, not_false_eq_true, hs, ↓on, ↓bb2 x1, p9, ↓bb p10, p11, p12, d7, hok, v1]
theorem k_dstep {h : AH} {x z i : Nat} (hO : CO h x) (h1 : 1 ≤ i) (h5 : i < 5) (hok : okq h (rv h (x + 40) i) = true) (r : Option Nat) (fuel : Nat) :
    lX3_dropOldest_9 (fuel + 1) (x + 39) r (nI i) z h = lX3_dropOldest_9 fuel (x + 39) r (nI (i + 1)) z (wR h (x + 40) (i - 1) (rv h (x + 40) i)) := by
  obtain ⟨o1, o2, o3, o4, o5, o6, o7, o8, o9, o10, o11, o12, -⟩ := id hO
  have e1 : nI i - 1 = nI (i - 1) := by rw [show (1 : Int32) = nI 1 from rfl, pk_sub h1]
  have hok' : (okq h (rv h (x + 40) i) = true) = True := eq_true hok
  show lX3_dropOldest_9B _ _ _ _ _ _ = _
  simp (disch := omega) only [lX3_dropOldest_9B, ↓gd, ↓bl, ↓reduceIte, li5, nI_leE, leN_F, o9, ↓bb o10, o11, o12, nI_negE, nI_clamp, or_false, not_false_eq_true, e1, hok', nI_1, if_false]
theorem CO_r {h : AH} {x k : Nat} (v : Option Nat) (hO : CO h x) : CO (wR h (x + 40) k v) x := by
  unfold CO at hO ⊢
  simp (disch := omega) only [kd_wR, ln_wR, rv_wR, eqN_F, if_false]
  exact hO
/-- the slots one further -/
def drS (h : AH) (x : Nat) : AH := wI (wR (wR (wR (wR (wR h (x + 40) 0 (rv h (x + 40) 1)) (x + 40) 1 (rv h (x + 40) 2)) (x + 40) 2 (rv h (x + 40) 3)) (x + 40) 3 (rv h (x + 40) 4)) (x + 40) 4 (rv h (x + 40) 0)) (x + 39) 1 4
theorem drS_rv (h : AH) (x : Nat) : ∀ i, i < 5 → rv (drS h x) (x + 40) i = rv h (x + 40) (if i = 4 then 0 else i + 1) := by
  intro i hi
  unfold drS
  simp (disch := omega) only [rv_wI, rv_wR, if_true]
  match i, hi with
  | 0, _ => rfl
  | 1, _ => rfl
  | 2, _ => rfl
  | 3, _ => rfl
  | 4, _ => rfl
theorem drS_sc (h : AH) (x : Nat) {b : Nat} (h1 : b ≠ x + 39) (h2 : b ≠ x + 40) : sc h (drS h x) b :=
  (((((sc.wR h _ _ h2).tr (sc.wR _ _ _ h2)).tr (sc.wR _ _ _ h2)).tr (sc.wR _ _ _ h2)).tr (sc.wR _ _ _ h2)).tr (sc.wI _ _ _ h1)
theorem k_drop {h : AH} {x z : Nat} {w : Ac} {H : List Rec} {T : List Nat} (hW : WFr w.1.1) (hH : ∀ r ∈ H, WFr r.1) (hC : CI h x z (w, H, T)) (hn : H.length = 5) :
    ∃ h', fX3_dropOldest (x + 39) z h = some (z, h') ∧ CI h' x z (w, H.tail, T) ∧ FK x h h' := by
  obtain ⟨c1, c2, c3, ⟨c4, c5, c6⟩, ⟨c7, c8, c9⟩, c10, c13⟩ := id hC
  obtain ⟨o1, o2, o3, o4, o5, o6, o7, o8, o9, o10, o11, o12, -⟩ := id c1
  have hok : ∀ i, i < 5 → okq h (rv h (x + 40) i) = true := fun i hi => by
    cases hs : rv h (x + 40) i with
    | none => rfl
    | some a => show ((h.1 a).1 == 1) = true; rw [show (h.1 a).1 = 1 from (c4 i a hi hs).2.2.1]; rfl
  refine ⟨drS h x, ?_, ⟨?_, BO_x (fun b hb => drS_sc h x (by omega) (by omega)) c2, CL_x hW (fun b hb => drS_sc h x (by omega) (by omega)) c3, ⟨fun i a hi ha => ?_, fun i j a b hi hj hij ha hb => ?_, fun w hw => ?_⟩, ⟨?_, ?_, fun i r hr => ?_⟩, TX_x (sc_iv (drS_sc h x (by omega) (by omega))) (sc_iv (drS_sc h x (by omega) (by omega))) c10, c13⟩, fun b h1 h2 => drS_sc h x (by omega) (by omega)⟩
  · have s1 := k_dstep (z := z) (i := 1) c1 (by omega) (by omega) (hok 1 (by omega)) (rv h (x + 40) 0) 19999
    have g1 := CO_r (k := 0) (rv h (x + 40) 1) c1
    have r2 : rv (wR h (x + 40) 0 (rv h (x + 40) 1)) (x + 40) 2 = rv h (x + 40) 2 := by rw [rv_wR, if_pos rfl, if_neg (by omega)]
    have s2 := k_dstep (z := z) (i := 2) g1 (by omega) (by omega) (by rw [r2]; exact hok 2 (by omega)) (rv h (x + 40) 0) 19998
    rw [r2] at s2
    have g2 := CO_r (k := 1) (rv h (x + 40) 2) g1
    have r3 : rv (wR (wR h (x + 40) 0 (rv h (x + 40) 1)) (x + 40) 1 (rv h (x + 40) 2)) (x + 40) 3 = rv h (x + 40) 3 := by rw [rv_wR, if_pos rfl, if_neg (by omega), rv_wR, if_pos rfl, if_neg (by omega)]
    have s3 := k_dstep (z := z) (i := 3) g2 (by omega) (by omega) (by rw [r3]; exact hok 3 (by omega)) (rv h (x + 40) 0) 19997
    rw [r3] at s3
    have g3 := CO_r (k := 2) (rv h (x + 40) 3) g2
    have r4 : rv (wR (wR (wR h (x + 40) 0 (rv h (x + 40) 1)) (x + 40) 1 (rv h (x + 40) 2)) (x + 40) 2 (rv h (x + 40) 3)) (x + 40) 4 = rv h (x + 40) 4 := by rw [rv_wR, if_pos rfl, if_neg (by omega), rv_wR, if_pos rfl, if_neg (by omega), rv_wR, if_pos rfl, if_neg (by omega)]
    have s4 := k_dstep (z := z) (i := 4) g3 (by omega) (by omega) (by rw [r4]; exact hok 4 (by omega)) (rv h (x + 40) 0) 19996
    rw [r4] at s4
    have g4 := CO_r (k := 3) (rv h (x + 40) 4) g3
    have st : lX3_dropOldest_9 fu (x + 39) (rv h (x + 40) 0) 1 z h = lX3_dropOldest_9 19996 (x + 39) (rv h (x + 40) 0) (nI 5) z (wR (wR (wR (wR h (x + 40) 0 (rv h (x + 40) 1)) (x + 40) 1 (rv h (x + 40) 2)) (x + 40) 2 (rv h (x + 40) 3)) (x + 40) 3 (rv h (x + 40) 4)) := s1.trans (s2.trans (s3.trans s4))
    have i4 : Int32.toNatClampNeg 4 = 4 := by decide
    have i3 : ((4 : Int32) < 0) = False := eq_false (by decide)
    have hok' : ∀ g : AH, g.1 = h.1 → (okq g (rv h (x + 40) 0) = true) = True := fun g hg => eq_true (by
      have := hok 0 (by omega)
      unfold okq at this ⊢
      rw [hg]; exact this)
    have fin : lX3_dropOldest_9 19996 (x + 39) (rv h (x + 40) 0) (nI 5) z (wR (wR (wR (wR h (x + 40) 0 (rv h (x + 40) 1)) (x + 40) 1 (rv h (x + 40) 2)) (x + 40) 2 (rv h (x + 40) 3)) (x + 40) 3 (rv h (x + 40) 4)) = some (z, drS h x) := by
      obtain ⟨-, -, -, -, -, -, -, -, q9, q10, q11, q12, -⟩ := g4
      have q := hok' (wR (wR (wR (wR h (x + 40) 0 (rv h (x + 40) 1)) (x + 40) 1 (rv h (x + 40) 2)) (x + 40) 2 (rv h (x + 40) 3)) (x + 40) 3 (rv h (x + 40) 4)) rfl
      show lX3_dropOldest_9B _ _ _ _ _ _ = _
      unfold lX3_dropOldest_9B
      rw [if_pos (by decide)]
      simp (disch := omega) only [↓gd, ↓bl, ↓reduceIte, q9, ↓bb q10, q11, q12, i3, i4, leN_F, or_false, not_false_eq_true, q]
      rfl
    simp (disch := omega) only [fX3_dropOldest, ↓gd, ↓reduceIte, o9, ↓bb o10, o11, o12, ix0, lt00, leN_F, or_false, not_false_eq_true]
    exact st.trans fin
  · unfold CO at c1 ⊢
    simp (disch := omega) only [drS, kd_wI, ln_wI, rv_wI, kd_wR, ln_wR, rv_wR, eqN_F, if_false]
    exact c1
  · rw [drS_rv h x i hi] at ha
    obtain ⟨a1, a2, a3⟩ := c4 _ a (by split <;> omega) ha
    exact ⟨a1, a2, BO_x (fun b hb => drS_sc h x (by omega) (by omega)) a3⟩
  · rw [drS_rv h x i hi] at ha
    rw [drS_rv h x j hj] at hb
    exact c5 _ _ a b (by split <;> omega) (by split <;> omega) (by split <;> split <;> omega) ha hb
  · rw [sc_rv (drS_sc h x (by omega) (by omega))] at hw
    obtain ⟨a1, a2, a3, a4, a5⟩ := c6 w hw
    have ew := drS_sc h x (b := w) (by omega) (by omega)
    refine ⟨a1, a2, (sc_kd ew).trans a3, (sc_ln ew).trans a4, fun i a hi ha => ?_⟩
    rw [drS_rv h x i hi] at ha
    exact a5 _ a (by split <;> omega) ha
  · have : H.tail.length = 4 := by rw [List.length_tail]; omega
    simp only [this]
    unfold drS
    rw [iv_wI, if_pos rfl, if_pos rfl]; rfl
  · have : H.tail.length = 4 := by rw [List.length_tail]; omega
    simp only [this]; omega
  · have hi := (List.getElem?_eq_some_iff.mp hr).1
    have hl : H.tail.length = 4 := by rw [List.length_tail]; omega
    simp only [hl] at hi
    rw [List.getElem?_tail] at hr
    obtain ⟨b, hb, hCB⟩ := c9 (i + 1) r hr
    obtain ⟨b1, b2, -⟩ := c4 (i + 1) b (by omega) hb
    exact ⟨b, by rw [drS_rv h x i (by omega), if_neg (by omega)]; exact hb, CB_x (hH r (List.mem_of_getElem? hr)) (fun d hd => drS_sc h x (by omega) (by omega)) hCB⟩
def pushH (H : List Rec) (r : Rec) : List Rec := (if H.length = 5 then H.tail else H) ++ [r]
theorem k_keep {h : AH} {x z : Nat} {w : Ac} {H : List Rec} {T : List Nat} (hW : WFr w.1.1) (hLen : w.1.2.1.length ≤ 10) (hH : ∀ r ∈ H, WFr r.1) (hC : CI h x z (w, H, T)) :
    ∃ z' h', fX3_keep (x + 39) (x + 1) z h = some (z', h') ∧ z ≤ z' ∧ CI h' x z' (w, pushH H (w.1.1, w.1.2.1), T) ∧ FK x h h' := by
  have c7 : iv h (x + 39) 1 = nI H.length := hC.2.2.2.2.1.1
  have c8 : H.length ≤ 5 := hC.2.2.2.2.1.2.1
  have o9 := hC.1.2.2.2.2.2.2.2.2.1
  unfold pushH
  by_cases e : H.length = 5
  · rw [if_pos e]
    obtain ⟨h1, v1, v2, v3⟩ := k_drop hW hH hC e
    obtain ⟨z', h', u1, u2, u3, u4⟩ := k_12 hW hLen (fun r hr => hH r (List.mem_of_mem_tail hr)) v2 (by rw [List.length_tail]; omega)
    refine ⟨z', h', ?_, u2, u3, v3.tr u4⟩
    simp (disch := omega) only [fX3_keep, ↓gd, ↓reduceIte, o9, c7, li5, nI_ltE, ltN_F, if_false, ↓bb2 v1, u1]
  · rw [if_neg e]
    obtain ⟨z', h', u1, u2, u3, u4⟩ := k_12 hW hLen hH hC (by omega)
    refine ⟨z', h', ?_, u2, u3, u4⟩
    simp (disch := omega) only [fX3_keep, ↓gd, ↓reduceIte, o9, c7, li5, nI_ltE, ltN_T, if_true, u1]
theorem k_back {h : AH} {x z : Nat} {w : Ac} {H : List Rec} {T : List Nat} {r : Rec} (hW : WFr w.1.1) (hWr : WFr r.1) (hLen : r.2.length ≤ 10) (hH : ∀ r ∈ H, WFr r.1) (hC : CI h x z (w, H ++ [r], T)) :
    ∃ h', fX3_bringBack (x + 39) (x + 1) z h = some (z, h') ∧ CI h' x z (((r.1, r.2, w.1.2.2), w.2), H, T) ∧ FK x h h' := by
  obtain ⟨c1, c2, c3, ⟨c4, c5, c6⟩, ⟨c7, c8, c9⟩, c10, c13⟩ := id hC
  obtain ⟨o1, o2, o3, o4, o5, o6, o7, o8, o9, o10, o11, o12, -⟩ := id c1
  have hl : (H ++ [r]).length = H.length + 1 := by rw [List.length_append]; rfl
  have c8 : H.length + 1 ≤ 5 := by rw [← hl]; exact c8
  have c7 : iv h (x + 39) 1 = nI (H.length + 1) := by rw [← hl]; exact c7
  obtain ⟨a, ha, hCa⟩ := c9 H.length r (by simp)
  obtain ⟨a1, a2, a3⟩ := c4 H.length a (by omega) ha
  have hCa1 : CB (wI h (x + 39) 1 (nI H.length)) a r.1 r.2 := CB_x hWr (fun b hb => sc.wI h _ _ (by omega)) hCa
  have hB1 : BO (wI h (x + 39) 1 (nI H.length)) (x + 1) := c3.1.2.1.1
  obtain ⟨h1, v1, v2, v3, v4⟩ := CB_copy hWr hLen hCa1 hB1 (by omega) z
  have hs : ∀ b, b < x + 1 ∨ x + 17 ≤ b → b ≠ x + 39 → sc h h1 b := fun b p1 p2 => (sc.wI h _ _ p2).tr (sc.fr v2 (by omega))
  have q1 : h1.1 = h.1 := v2.1
  have q2 : h1.2.2.2 = h.2.2.2 := v2.2.1
  refine ⟨h1, ?_, CI_s q1 q2 hC ⟨⟨?_, v3, fun k hk => ?_⟩, ?_⟩ ⟨?_, by show H.length ≤ 5; omega, fun i r' hr => ?_⟩ (TX_x (sc_iv (hs _ (by omega) (by omega))) (sc_iv (hs _ (by omega) (by omega))) c10), fun b p1 p2 => hs b (by omega) (by omega)⟩
  · have e1 : nI (H.length + 1) - 1 = nI H.length := by rw [show (1 : Int32) = nI 1 from rfl, pk_sub (by omega)]; rfl
    have e2 : (nI (H.length + 1) ≤ 0) = False := eq_false (by rw [le0E (by omega)]; omega)
    have e3 : iv (wI h (x + 39) 1 (nI H.length)) (x + 39) 1 = nI H.length := by rw [iv_wI, if_pos rfl, if_pos rfl]
    have k1 : kd (wI h (x + 39) 1 (nI H.length)) (x + 1) = 1 := hB1.1
    simp (disch := omega) only [fX3_bringBack, ↓gd, ↓bl, ↓reduceIte, o9, c7, e2, li5, nI_ltE, ltN_F, if_false, e1, ↓brv_wI, ↓bb o10, kd_wI, ln_wI, rv_wI, o11, o12, e3, nI_negE, nI_clamp, leN_F, or_false, not_false_eq_true, ha, ↓on, hB1.1, ↓bb2 v1]
    rw [kd_wI] at k1
    rw [if_pos k1]
  · exact DS_x (fun b hb => hs b (by omega) (by omega)) c3.1.1
  · rw [sc_iv (hs (x + 34) (by omega) (by omega))]
    exact c3.1.2.2 k hk
  · have := c3.2
    unfold LT at this ⊢
    rw [sc_iv (hs (x + 33) (by omega) (by omega))]
    exact this
  · show iv h1 (x + 39) 1 = nI H.length
    have e9 : iv h1 (x + 39) = iv (wI h (x + 39) 1 (nI H.length)) (x + 39) := (v2.2.2 (x + 39) (by omega)).1
    rw [e9]
    exact (by rw [iv_wI, if_pos rfl, if_pos rfl] : iv (wI h (x + 39) 1 (nI H.length)) (x + 39) 1 = nI H.length)
  · have hi := (List.getElem?_eq_some_iff.mp hr).1
    have hr' : H[i]? = some r' := hr
    have hi' : i < H.length := hi
    obtain ⟨b, hb, hCB⟩ := c9 i r' (by rw [List.getElem?_append_left hi']; exact hr')
    obtain ⟨b1, b2, -⟩ := c4 i b (by omega) hb
    refine ⟨b, ?_, CB_x (hH r' (List.mem_of_getElem? hr')) (fun d hd => hs d (by omega) (by omega)) hCB⟩
    show h1.2.2.2 (x + 40) i = some b
    rw [v2.2.1]
    exact hb
