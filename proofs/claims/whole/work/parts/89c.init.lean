/-! new objects -/
def ni6 (h : AH) (a : Nat) : AH := wI (wI (wI (wR (wNew h (a + 1) 13 8) a 0 (some (a + 1))) a 1 (-1)) a 2 (-1)) a 3 (-1)
theorem e6_init {h : AH} {a : Nat} (hk : kd h a = 7) : fX6_init a (a + 1) h = some (a + 2, ni6 h a) := by
  simp (disch := omega) only [fX6_init, ↓gd, ↓bl, ↓reduceIte, kd_wR, kd_wN, kd_wI, eqN_F, hk]
  rfl
def ni7 (h : AH) (a : Nat) : AH := wR (wNew (wR (wNew h (a + 1) 13 10) a 0 (some (a + 1))) (a + 2) 13 10) a 1 (some (a + 2))
theorem e7_init {h : AH} {a : Nat} (hk : kd h a = 8) : fX7_init a (a + 1) h = some (a + 3, ni7 h a) := by
  simp (disch := omega) only [fX7_init, ↓gd, ↓bl, ↓reduceIte, kd_wR, kd_wN, kd_wI, eqN_F, hk]
  rfl
def ni1 (h : AH) (a b c d : Nat) : AH := wR (wR (wR h a 0 (some b)) a 1 (some c)) a 2 (some d)
theorem e1_init {h : AH} {a b c d z : Nat} (hk : kd h a = 2) : fX1_init a b c d z h = some (z, ni1 h a b c d) := by
  simp (disch := omega) only [fX1_init, ↓gd, ↓bl, ↓reduceIte, kd_wR, hk]
  rfl
def ni3 (h : AH) (a : Nat) : AH := wR (wNew h (a + 1) 15 5) a 0 (some (a + 1))
theorem e3_init {h : AH} {a : Nat} (hk : kd h a = 4) : fX3_init a (a + 1) h = some (a + 2, ni3 h a) := by
  simp (disch := omega) only [fX3_init, ↓gd, ↓bl, ↓reduceIte, kd_wR, kd_wN, eqN_F, hk]
  rfl
def ni5 (h : AH) (a : Nat) : AH := wR (wNew h (a + 1) 12 120) a 0 (some (a + 1))
theorem e5_init {h : AH} {a : Nat} (hk : kd h a = 6) : fX5_init a (a + 1) h = some (a + 2, ni5 h a) := by
  simp (disch := omega) only [fX5_init, ↓gd, ↓bl, ↓reduceIte, kd_wR, kd_wN, eqN_F, hk]
  rfl
def A0 : TS := (((q0, [], fun _ => 0), -1, -1, -1), [], [])
theorem q0_th2 (t : Nat) : th q0 t = false := q0_th t
theorem q0_hi {j : Nat} (hj : 21 ≤ j) : q0 j = 0 := by unfold q0; rw [if_neg (by omega), if_neg (by omega)]
theorem A0_TI : TI A0 1 := by
  refine ⟨⟨⟨⟨rfl, by show nr q0 ≤ 16; rw [q0_nr]; omega, fun r hr => ?_⟩, ⟨1, Nat.le_refl _, rfl, fun t ht => ?_⟩, fun k l hk hl hkl h1 => ?_, ⟨List.nodup_nil, fun t => ?_⟩, ⟨Or.inl rfl, Or.inl rfl, 4, by omega, by omega, rfl⟩, ⟨rfl, by show nm q0 ≤ 40; rw [q0_nm]; omega, fun k hk => ?_⟩⟩, fun j hj => ?_⟩, fun r hr => ?_, fun c hc => ?_⟩
  · have : nr q0 = 0 := q0_nr
    exact absurd hr (by show ¬ r < nr q0; omega)
  · refine ⟨fun _ => q0_hi (by omega), fun i h1 h2 => by show bt (q0 (32 + 6 * t + 3)) i = false; rw [q0_hi (by omega), b_0], fun h => ?_, fun h => ?_⟩
    · have : th q0 t = true := h
      rw [q0_th] at this; cases this
    · have : wt q0 t = true := h
      rw [q0_wt] at this; cases this
  · have : th q0 k = true := h1
    rw [q0_th] at this; cases this
  · refine ⟨fun h => (by cases h), fun h => ?_⟩
    have : wt q0 t = true := h.2
    rw [q0_wt] at this; cases this
  · have : nm q0 = 0 := q0_nm
    exact absurd hk (by show ¬ k < nm q0; omega)
  · exact q0_hi (by omega)
  · cases hr
  · cases hc
theorem new8 {h : AH} {x : Nat} (hk : kd h x = 9) : ∃ h', fX8_init x (x + 1) h = some (x + 43, h') ∧ CI h' x (x + 54) A0 := by
  generalize hG1 : nb4 (nb3 (nb2 (wNew h (x + 1) 1 0) (x + 1)) (x + 1)) (x + 1) = G1
  have x1 : fX0_init (x + 1) (x + 1 + 1) (wNew h (x + 1) 1 0) = some (x + 17, G1) := by
    rw [← hG1]; exact e0_init (by rw [kd_wN, if_pos rfl])
  have c1 : CB G1 (x + 1) q0 [] := by
    rw [← hG1]; exact nb_CB (by rw [kd_wN, if_pos rfl]) (fun j _ _ => by rw [iv_wN, if_pos rfl])
  have s1 : sc h G1 x := by rw [← hG1]; exact (sc.wN h _ _ (by omega)).tr (nb_sc (by omega))
  have k1 : kd G1 x = 9 := (sc_kd s1).trans hk
  clear hG1
  generalize hG3 : nb4 (nb3 (nb2 (wNew (wR G1 x 0 (some (x + 1))) (x + 17) 1 0) (x + 17)) (x + 17)) (x + 17) = G3
  have x2 : fX0_init (x + 17) (x + 17 + 1) (wNew (wR G1 x 0 (some (x + 1))) (x + 17) 1 0) = some (x + 33, G3) := by
    rw [← hG3]; exact e0_init (by rw [kd_wN, if_pos rfl])
  have b3 : BO G3 (x + 17) := by rw [← hG3]; exact nb_BO (by rw [kd_wN, if_pos rfl])
  have t3 : ∀ b, b < x + 17 → sc (wR G1 x 0 (some (x + 1))) G3 b := fun b hb => by rw [← hG3]; exact (sc.wN _ _ _ (by omega)).tr (nb_sc (by omega))
  have s3 : ∀ b, b ≠ x → b < x + 17 → sc G1 G3 b := fun b h1 h2 => (sc.wR G1 _ _ h1).tr (t3 b h2)
  have k3 : kd G3 x = 9 := (sc_kd (t3 x (by omega))).trans k1
  have r30 : rv G3 x 0 = some (x + 1) := by rw [sc_rv (t3 x (by omega)), rv_wR, if_pos rfl, if_pos rfl]
  clear hG3
  generalize hG5 : ni6 (wNew (wR G3 x 1 (some (x + 17))) (x + 33) 7 0) (x + 33) = G5
  have x3 : fX6_init (x + 33) (x + 33 + 1) (wNew (wR G3 x 1 (some (x + 17))) (x + 33) 7 0) = some (x + 35, G5) := by
    rw [← hG5]; exact e6_init (by rw [kd_wN, if_pos rfl])
  have t5 : ∀ b, b < x + 33 → sc (wR G3 x 1 (some (x + 17))) G5 b := fun b hb => by
    rw [← hG5]
    exact (((((sc.wN _ _ _ (by omega)).tr (sc.wN _ _ _ (by omega))).tr (sc.wR _ _ _ (by omega))).tr (sc.wI _ _ _ (by omega))).tr (sc.wI _ _ _ (by omega))).tr (sc.wI _ _ _ (by omega))
  have s5 : ∀ b, b ≠ x → b < x + 33 → sc G3 G5 b := fun b h1 h2 => (sc.wR G3 _ _ h1).tr (t5 b h2)
  have k5 : kd G5 x = 9 := (sc_kd (t5 x (by omega))).trans k3
  have r50 : rv G5 x 0 = some (x + 1) := by rw [sc_rv (t5 x (by omega)), rv_wR, if_pos rfl, if_neg (by omega)]; exact r30
  have r51 : rv G5 x 1 = some (x + 17) := by rw [sc_rv (t5 x (by omega)), rv_wR, if_pos rfl, if_pos rfl]
  have f5 : kd G5 (x + 33) = 7 ∧ rv G5 (x + 33) 0 = some (x + 34) ∧ kd G5 (x + 34) = 13 ∧ ln G5 (x + 34) = 8 ∧ iv G5 (x + 33) 1 = -1 ∧ iv G5 (x + 33) 2 = -1 ∧ iv G5 (x + 33) 3 = -1 ∧ ∀ k, iv G5 (x + 34) k = 0 := by
    rw [← hG5]
    refine ⟨?_, ?_, ?_, ?_, ?_, ?_, ?_, fun k => ?_⟩
    all_goals simp (disch := omega) only [ni6, kd_wI, ln_wI, rv_wI, iv_wI, kd_wR, ln_wR, rv_wR, iv_wR, kd_wN, ln_wN, rv_wN, iv_wN, eqN_F, eqN_T, ↓reduceIte]
  clear hG5
  generalize hG7 : ni7 (wNew (wR G5 x 2 (some (x + 33))) (x + 35) 8 0) (x + 35) = G7
  have x4 : fX7_init (x + 35) (x + 35 + 1) (wNew (wR G5 x 2 (some (x + 33))) (x + 35) 8 0) = some (x + 38, G7) := by
    rw [← hG7]; exact e7_init (by rw [kd_wN, if_pos rfl])
  have t7 : ∀ b, b < x + 35 → sc (wR G5 x 2 (some (x + 33))) G7 b := fun b hb => by
    rw [← hG7]
    exact ((((sc.wN _ _ _ (by omega)).tr (sc.wN _ _ _ (by omega))).tr (sc.wR _ _ _ (by omega))).tr (sc.wN _ _ _ (by omega))).tr (sc.wR _ _ _ (by omega))
  have s7 : ∀ b, b ≠ x → b < x + 35 → sc G5 G7 b := fun b h1 h2 => (sc.wR G5 _ _ h1).tr (t7 b h2)
  have k7 : kd G7 x = 9 := (sc_kd (t7 x (by omega))).trans k5
  have r70 : rv G7 x 0 = some (x + 1) := by rw [sc_rv (t7 x (by omega)), rv_wR, if_pos rfl, if_neg (by omega)]; exact r50
  have r71 : rv G7 x 1 = some (x + 17) := by rw [sc_rv (t7 x (by omega)), rv_wR, if_pos rfl, if_neg (by omega)]; exact r51
  have r72 : rv G7 x 2 = some (x + 33) := by rw [sc_rv (t7 x (by omega)), rv_wR, if_pos rfl, if_pos rfl]
  have f7 : kd G7 (x + 35) = 8 ∧ rv G7 (x + 35) 0 = some (x + 36) ∧ rv G7 (x + 35) 1 = some (x + 37) ∧ rv G7 (x + 35) 3 = none ∧ kd G7 (x + 36) = 13 ∧ ln G7 (x + 36) = 10 ∧ kd G7 (x + 37) = 13 ∧ ln G7 (x + 37) = 10 := by
    rw [← hG7]
    refine ⟨?_, ?_, ?_, ?_, ?_, ?_, ?_, ?_⟩
    all_goals simp (disch := omega) only [ni7, kd_wI, ln_wI, rv_wI, iv_wI, kd_wR, ln_wR, rv_wR, iv_wR, kd_wN, ln_wN, rv_wN, iv_wN, eqN_F, eqN_T, ↓reduceIte]
  clear hG7
  generalize hG9 : ni1 (wNew (wR G7 x 3 (some (x + 35))) (x + 38) 2 0) (x + 38) (x + 1) (x + 33) (x + 35) = G9
  have x5 : fX1_init (x + 38) (x + 1) (x + 33) (x + 35) (x + 38 + 1) (wNew (wR G7 x 3 (some (x + 35))) (x + 38) 2 0) = some (x + 39, G9) := by
    rw [← hG9]; exact e1_init (by rw [kd_wN, if_pos rfl])
  have t9 : ∀ b, b < x + 38 → sc (wR G7 x 3 (some (x + 35))) G9 b := fun b hb => by
    rw [← hG9]
    exact (((sc.wN _ _ _ (by omega)).tr (sc.wR _ _ _ (by omega))).tr (sc.wR _ _ _ (by omega))).tr (sc.wR _ _ _ (by omega))
  have s9 : ∀ b, b ≠ x → b < x + 38 → sc G7 G9 b := fun b h1 h2 => (sc.wR G7 _ _ h1).tr (t9 b h2)
  have k9 : kd G9 x = 9 := (sc_kd (t9 x (by omega))).trans k7
  have r90 : rv G9 x 0 = some (x + 1) := by rw [sc_rv (t9 x (by omega)), rv_wR, if_pos rfl, if_neg (by omega)]; exact r70
  have r91 : rv G9 x 1 = some (x + 17) := by rw [sc_rv (t9 x (by omega)), rv_wR, if_pos rfl, if_neg (by omega)]; exact r71
  have r92 : rv G9 x 2 = some (x + 33) := by rw [sc_rv (t9 x (by omega)), rv_wR, if_pos rfl, if_neg (by omega)]; exact r72
  have r93 : rv G9 x 3 = some (x + 35) := by rw [sc_rv (t9 x (by omega)), rv_wR, if_pos rfl, if_pos rfl]
  have f9 : kd G9 (x + 38) = 2 ∧ rv G9 (x + 38) 0 = some (x + 1) ∧ rv G9 (x + 38) 1 = some (x + 33) ∧ rv G9 (x + 38) 2 = some (x + 35) := by
    rw [← hG9]
    refine ⟨?_, ?_, ?_, ?_⟩
    all_goals simp (disch := omega) only [ni1, kd_wI, ln_wI, rv_wI, iv_wI, kd_wR, ln_wR, rv_wR, iv_wR, kd_wN, ln_wN, rv_wN, iv_wN, eqN_F, eqN_T, ↓reduceIte]
  clear hG9
  generalize hG11 : ni3 (wNew (wR G9 x 4 (some (x + 38))) (x + 39) 4 0) (x + 39) = G11
  have x6 : fX3_init (x + 39) (x + 39 + 1) (wNew (wR G9 x 4 (some (x + 38))) (x + 39) 4 0) = some (x + 41, G11) := by
    rw [← hG11]; exact e3_init (by rw [kd_wN, if_pos rfl])
  have t11 : ∀ b, b < x + 39 → sc (wR G9 x 4 (some (x + 38))) G11 b := fun b hb => by
    rw [← hG11]
    exact ((sc.wN _ _ _ (by omega)).tr (sc.wN _ _ _ (by omega))).tr (sc.wR _ _ _ (by omega))
  have s11 : ∀ b, b ≠ x → b < x + 39 → sc G9 G11 b := fun b h1 h2 => (sc.wR G9 _ _ h1).tr (t11 b h2)
  have k11 : kd G11 x = 9 := (sc_kd (t11 x (by omega))).trans k9
  have ra : ∀ j, j ≠ 4 → rv G11 x j = rv G9 x j := fun j hj => by rw [sc_rv (t11 x (by omega)), rv_wR, if_pos rfl, if_neg hj]
  have r114 : rv G11 x 4 = some (x + 38) := by rw [sc_rv (t11 x (by omega)), rv_wR, if_pos rfl, if_pos rfl]
  have f11 : kd G11 (x + 39) = 4 ∧ rv G11 (x + 39) 0 = some (x + 40) ∧ kd G11 (x + 40) = 15 ∧ ln G11 (x + 40) = 5 ∧ iv G11 (x + 39) 1 = 0 ∧ ∀ i, rv G11 (x + 40) i = none := by
    rw [← hG11]
    refine ⟨?_, ?_, ?_, ?_, ?_, fun i => ?_⟩
    all_goals simp (disch := omega) only [ni3, kd_wI, ln_wI, rv_wI, iv_wI, kd_wR, ln_wR, rv_wR, iv_wR, kd_wN, ln_wN, rv_wN, iv_wN, eqN_F, eqN_T, ↓reduceIte]
  clear hG11
  generalize hG13 : ni5 (wNew (wR G11 x 5 (some (x + 39))) (x + 41) 6 0) (x + 41) = G13
  have x7 : fX5_init (x + 41) (x + 41 + 1) (wNew (wR G11 x 5 (some (x + 39))) (x + 41) 6 0) = some (x + 43, G13) := by
    rw [← hG13]; exact e5_init (by rw [kd_wN, if_pos rfl])
  have t13 : ∀ b, b < x + 41 → sc (wR G11 x 5 (some (x + 39))) G13 b := fun b hb => by
    rw [← hG13]
    exact ((sc.wN _ _ _ (by omega)).tr (sc.wN _ _ _ (by omega))).tr (sc.wR _ _ _ (by omega))
  have s13 : ∀ b, b ≠ x → b < x + 41 → sc G11 G13 b := fun b h1 h2 => (sc.wR G11 _ _ h1).tr (t13 b h2)
  have k13 : kd G13 x = 9 := (sc_kd (t13 x (by omega))).trans k11
  have rb : ∀ j, j ≠ 5 → rv G13 x j = rv G11 x j := fun j hj => by rw [sc_rv (t13 x (by omega)), rv_wR, if_pos rfl, if_neg hj]
  have r135 : rv G13 x 5 = some (x + 39) := by rw [sc_rv (t13 x (by omega)), rv_wR, if_pos rfl, if_pos rfl]
  have f13 : kd G13 (x + 41) = 6 ∧ rv G13 (x + 41) 0 = some (x + 42) ∧ kd G13 (x + 42) = 12 ∧ ln G13 (x + 42) = 120 ∧ iv G13 (x + 41) 1 = 0 := by
    rw [← hG13]
    refine ⟨?_, ?_, ?_, ?_, ?_⟩
    all_goals simp (disch := omega) only [ni5, kd_wI, ln_wI, rv_wI, iv_wI, kd_wR, ln_wR, rv_wR, iv_wR, kd_wN, ln_wN, rv_wN, iv_wN, eqN_F, eqN_T, ↓reduceIte]
  clear hG13
  have sf : ∀ b, b ≠ x → sc G13 (wR G13 x 6 (some (x + 41))) b := fun b h1 => sc.wR G13 _ _ h1
  have u11 : ∀ b, b ≠ x → b < x + 41 → sc G11 (wR G13 x 6 (some (x + 41))) b := fun b h1 h2 => (s13 b h1 h2).tr (sf b h1)
  have u9 : ∀ b, b ≠ x → b < x + 39 → sc G9 (wR G13 x 6 (some (x + 41))) b := fun b h1 h2 => (s11 b h1 h2).tr (u11 b h1 (by omega))
  have u7 : ∀ b, b ≠ x → b < x + 38 → sc G7 (wR G13 x 6 (some (x + 41))) b := fun b h1 h2 => (s9 b h1 h2).tr (u9 b h1 (by omega))
  have u5 : ∀ b, b ≠ x → b < x + 35 → sc G5 (wR G13 x 6 (some (x + 41))) b := fun b h1 h2 => (s7 b h1 h2).tr (u7 b h1 (by omega))
  have u3 : ∀ b, b ≠ x → b < x + 33 → sc G3 (wR G13 x 6 (some (x + 41))) b := fun b h1 h2 => (s5 b h1 h2).tr (u5 b h1 (by omega))
  have u1 : ∀ b, b ≠ x → b < x + 17 → sc G1 (wR G13 x 6 (some (x + 41))) b := fun b h1 h2 => (s3 b h1 h2).tr (u3 b h1 (by omega))
  have rf' : ∀ j, j ≠ 6 → rv (wR G13 x 6 (some (x + 41))) x j = rv G13 x j := fun j hj => by rw [rv_wR, if_pos rfl, if_neg hj]
  refine ⟨wR G13 x 6 (some (x + 41)), ?_, ?_⟩
  · have q0' : rv (wNew (wR G7 x 3 (some (x + 35))) (x + 38) 2 0) x 0 = some (x + 1) := by rw [rv_wN, if_neg (by omega), rv_wR, if_pos rfl, if_neg (by omega)]; exact r70
    have q2' : rv (wNew (wR G7 x 3 (some (x + 35))) (x + 38) 2 0) x 2 = some (x + 33) := by rw [rv_wN, if_neg (by omega), rv_wR, if_pos rfl, if_neg (by omega)]; exact r72
    have q3' : rv (wNew (wR G7 x 3 (some (x + 35))) (x + 38) 2 0) x 3 = some (x + 35) := by rw [rv_wN, if_neg (by omega), rv_wR, if_pos rfl, if_pos rfl]
    have kq : kd (wNew (wR G7 x 3 (some (x + 35))) (x + 38) 2 0) x = 9 := by rw [kd_wN, if_neg (by omega), kd_wR]; exact k7
    simp (disch := omega) only [fX8_init, ↓gd, ↓bl, ↓reduceIte, ↓bb2 x1, k1, ↓bb2 x2, k3, ↓bb2 x3, k5, ↓bb2 x4, k7, kq, ↓bb q0', ↓bb q2', ↓bb q3', ↓bb2 x5, k9, ↓bb2 x6, k11, ↓bb2 x7, k13]
  · obtain ⟨a1, a2, a3, a4, a5, a6, a7, a8⟩ := f5
    obtain ⟨b1, b2, b3', b4, b5, b6, b7, b8⟩ := f7
    obtain ⟨d1, d2, d3, d4⟩ := f9
    obtain ⟨e1, e2, e3, e4, e5, e6⟩ := f11
    obtain ⟨g1, g2, g3, g4, g5⟩ := f13
    have hCB : CB (wR G13 x 6 (some (x + 41))) (x + 1) q0 [] := CB_x A0_TI.W (fun b hb => u1 b (by omega) (by omega)) c1
    refine ⟨⟨k13, ?_, ?_, ?_, ?_, ?_, ?_, ?_, ?_, ?_, ?_, ?_, ?_, ?_, ?_, ?_⟩, BO_x (fun b hb => u3 b (by omega) (by omega)) b3, ⟨⟨⟨?_, ?_, ?_, ?_, ?_, ?_, ?_, ?_, ?_, ?_, ?_, ?_, ?_, ?_, ?_⟩, hCB, fun k hk => ?_⟩, ⟨?_, ?_, ?_⟩⟩, ⟨fun i a hi ha => ?_, fun i j a b hi hj hij ha => ?_, fun w hw => ?_⟩, ⟨?_, by show 0 ≤ 5; omega, fun i r hr => ?_⟩, ⟨?_, by show 0 ≤ 120; omega, fun i c hc => ?_⟩, Nat.le_refl _⟩
    · rw [rf' 0 (by omega), rb 0 (by omega), ra 0 (by omega)]; exact r90
    · rw [rf' 1 (by omega), rb 1 (by omega), ra 1 (by omega)]; exact r91
    · rw [rf' 2 (by omega), rb 2 (by omega), ra 2 (by omega)]; exact r92
    · rw [rf' 3 (by omega), rb 3 (by omega), ra 3 (by omega)]; exact r93
    · rw [rf' 4 (by omega), rb 4 (by omega)]; exact r114
    · rw [rf' 5 (by omega)]; exact r135
    · rw [rv_wR, if_pos rfl, if_pos rfl]
    · exact (sc_kd (u11 (x + 39) (by omega) (by omega))).trans e1
    · rw [sc_rv (u11 (x + 39) (by omega) (by omega))]; exact e2
    · exact (sc_kd (u11 (x + 40) (by omega) (by omega))).trans e3
    · exact (sc_ln (u11 (x + 40) (by omega) (by omega))).trans e4
    · exact (sc_kd (sf (x + 41) (by omega))).trans g1
    · rw [sc_rv (sf (x + 41) (by omega))]; exact g2
    · exact (sc_kd (sf (x + 42) (by omega))).trans g3
    · exact (sc_ln (sf (x + 42) (by omega))).trans g4
    · exact (sc_kd (u9 (x + 38) (by omega) (by omega))).trans d1
    · rw [sc_rv (u9 (x + 38) (by omega) (by omega))]; exact d2
    · rw [sc_rv (u9 (x + 38) (by omega) (by omega))]; exact d3
    · rw [sc_rv (u9 (x + 38) (by omega) (by omega))]; exact d4
    · exact (sc_kd (u5 (x + 33) (by omega) (by omega))).trans a1
    · rw [sc_rv (u5 (x + 33) (by omega) (by omega))]; exact a2
    · exact (sc_kd (u5 (x + 34) (by omega) (by omega))).trans a3
    · exact (sc_ln (u5 (x + 34) (by omega) (by omega))).trans a4
    · exact (sc_kd (u7 (x + 35) (by omega) (by omega))).trans b1
    · rw [sc_rv (u7 (x + 35) (by omega) (by omega))]; exact b2
    · rw [sc_rv (u7 (x + 35) (by omega) (by omega))]; exact b3'
    · exact (sc_kd (u7 (x + 36) (by omega) (by omega))).trans b5
    · exact (sc_ln (u7 (x + 36) (by omega) (by omega))).trans b6
    · exact (sc_kd (u7 (x + 37) (by omega) (by omega))).trans b7
    · exact (sc_ln (u7 (x + 37) (by omega) (by omega))).trans b8
    · rw [sc_iv (u5 (x + 34) (by omega) (by omega))]; exact a8 k
    · rw [sc_iv (u5 (x + 33) (by omega) (by omega))]; exact a5
    · rw [sc_iv (u5 (x + 33) (by omega) (by omega))]; exact a6
    · rw [sc_iv (u5 (x + 33) (by omega) (by omega))]; exact a7
    · rw [sc_rv (u11 (x + 40) (by omega) (by omega)), e6] at ha; cases ha
    · rw [sc_rv (u11 (x + 40) (by omega) (by omega)), e6] at ha; cases ha
    · rw [sc_rv (u7 (x + 35) (by omega) (by omega)), b4] at hw; cases hw
    · rw [sc_iv (u11 (x + 39) (by omega) (by omega))]; exact e5
    · have hr : ([] : List Rec)[i]? = some r := hr
      simp at hr
    · rw [sc_iv (sf (x + 41) (by omega))]; exact g5
    · have hc : ([] : List Nat)[i]? = some c := hc
      simp at hc
/-! the reference's -/
def nm9 (h : AH) (a : Nat) : AH :=
  let h1 := wR (wNew (wR (wNew (wR (wNew (wR (wNew h (a + 1) 13 613) a 0 (some (a + 1))) (a + 2) 13 3065) a 1 (some (a + 2))) (a + 3) 13 8) a 3 (some (a + 3))) (a + 4) 11 120) a 4 (some (a + 4))
  let h2 := wI (wI (wI h1 a 7 (-1)) a 8 (-1)) a 9 (-1)
  let h3 := wR (wNew (wR (wNew (wR (wNew h2 (a + 5) 13 613) a 10 (some (a + 5))) (a + 6) 13 10) a 11 (some (a + 6))) (a + 7) 13 10) a 13 (some (a + 7))
  let h4 := wR (wNew (wR (wNew h3 (a + 8) 13 10) a 14 (some (a + 8))) (a + 9) 13 10240) a 15 (some (a + 9))
  wI (wI h4 (a + 1) 19 4) (a + 1) 20 1
theorem bl_i {α β : Type} {v : α} {f : α → Option β} {o : Option β} (h : ∀ y, y = v → f y = o) : bl v f = o := h v rfl
theorem gd_i {β : Type} {c : Prop} [Decidable c] {y o : Option β} (hc : c) (h : y = o) : gd c y = o := by rw [gd_t hc, h]
theorem bn_i {α β : Type} {r : Option α} {b : α} {f : α → Option β} {o : Option β} (hr : r = some b) (h : f b = o) : Option.bind r f = o := by rw [hr]; exact h
def Q9 (g : AH) (a : Nat) : Prop := kd g a = 10 ∧ rv g a 0 = some (a + 1) ∧ kd g (a + 1) = 13 ∧ ln g (a + 1) = 613
theorem Q9.n {g g' : AH} {a b k n : Nat} (e : g' = wNew g b k n) (h1 : b ≠ a) (h2 : b ≠ a + 1) (h : Q9 g a) : Q9 g' a := by
  subst e
  refine ⟨?_, ?_, ?_, ?_⟩
  · rw [kd_wN, if_neg (fun h9 => h1 h9.symm)]; exact h.1
  · rw [rv_wN, if_neg (fun h9 => h1 h9.symm)]; exact h.2.1
  · rw [kd_wN, if_neg (fun h9 => h2 h9.symm)]; exact h.2.2.1
  · rw [ln_wN, if_neg (fun h9 => h2 h9.symm)]; exact h.2.2.2
theorem Q9.r {g g' : AH} {a k : Nat} {v : Option Nat} (e : g' = wR g a k v) (h1 : k ≠ 0) (h : Q9 g a) : Q9 g' a := by
  subst e
  exact ⟨h.1, by rw [rv_wR, if_pos rfl, if_neg (fun h9 => h1 h9.symm)]; exact h.2.1, h.2.2.1, h.2.2.2⟩
theorem Q9.i {g g' : AH} {a b k : Nat} {v : Int32} (e : g' = wI g b k v) (h : Q9 g a) : Q9 g' a := by
  subst e
  exact h
theorem e9_init {h : AH} {a : Nat} (hk : kd h a = 10) : fX9_init a (a + 1) h = some (a + 10, nm9 h a) := by
  have n19 : ¬ ((19 : Int32) < 0 ∨ 613 ≤ Int32.toNatClampNeg 19) := by decide
  have n20 : ¬ ((20 : Int32) < 0 ∨ 613 ≤ Int32.toNatClampNeg 20) := by decide
  unfold fX9_init
  refine bl_i (fun h1 e1 => ?_)
  have k1 : kd h1 a = 10 := by rw [e1, kd_wN, if_neg (by omega)]; exact hk
  refine gd_i k1 (bl_i (fun h2 e2 => ?_))
  have q2 : Q9 h2 a := by
    subst e2
    refine ⟨k1, by rw [rv_wR, if_pos rfl, if_pos rfl], ?_, ?_⟩
    · rw [kd_wR, e1, kd_wN, if_pos rfl]
    · rw [ln_wR, e1, ln_wN, if_pos rfl]
  refine bl_i (fun h3 e3 => ?_)
  have q3 := q2.n e3 (by omega) (by omega)
  refine gd_i q3.1 (bl_i (fun h4 e4 => ?_))
  have q4 := q3.r e4 (by omega)
  refine bl_i (fun h5 e5 => ?_)
  have q5 := q4.n e5 (by omega) (by omega)
  refine gd_i q5.1 (bl_i (fun h6 e6 => ?_))
  have q6 := q5.r e6 (by omega)
  refine bl_i (fun h7 e7 => ?_)
  have q7 := q6.n e7 (by omega) (by omega)
  refine gd_i q7.1 (bl_i (fun h8 e8 => ?_))
  have q8 := q7.r e8 (by omega)
  refine bl_i (fun h9 e9 => ?_)
  have q9 := q8.i e9
  refine bl_i (fun h10 e10 => ?_)
  have q10 := q9.i e10
  refine bl_i (fun h11 e11 => ?_)
  have q11 := q10.i e11
  refine bl_i (fun h12 e12 => ?_)
  have q12 := q11.n e12 (by omega) (by omega)
  refine gd_i q12.1 (bl_i (fun h13 e13 => ?_))
  have q13 := q12.r e13 (by omega)
  refine bl_i (fun h14 e14 => ?_)
  have q14 := q13.n e14 (by omega) (by omega)
  refine gd_i q14.1 (bl_i (fun h15 e15 => ?_))
  have q15 := q14.r e15 (by omega)
  refine bl_i (fun h16 e16 => ?_)
  have q16 := q15.n e16 (by omega) (by omega)
  refine gd_i q16.1 (bl_i (fun h17 e17 => ?_))
  have q17 := q16.r e17 (by omega)
  refine bl_i (fun h18 e18 => ?_)
  have q18 := q17.n e18 (by omega) (by omega)
  refine gd_i q18.1 (bl_i (fun h19 e19 => ?_))
  have q19 := q18.r e19 (by omega)
  refine bl_i (fun h20 e20 => ?_)
  have q20 := q19.n e20 (by omega) (by omega)
  refine gd_i q20.1 (bl_i (fun h21 e21 => ?_))
  have q21 := q20.r e21 (by omega)
  refine bn_i q21.2.1 (gd_i q21.2.2.1 (gd_i (by rw [q21.2.2.2]; exact n19) (bl_i (fun h22 e22 => ?_))))
  have q22 := q21.i e22
  refine bn_i q22.2.1 (gd_i q22.2.2.1 (gd_i (by rw [q22.2.2.2]; exact n20) (bl_i (fun h23 e23 => ?_))))
  rw [e23, e22, e21, e20, e19, e18, e17, e16, e15, e14, e13, e12, e11, e10, e9, e8, e7, e6, e5, e4, e3, e2, e1]
  rfl
theorem nm9_sc {h : AH} {a b : Nat} (hb : b < a ∨ a + 10 ≤ b) : sc h (nm9 h a) b := by
  unfold nm9
  exact (((((((((((((((((((((sc.wN h _ _ (by omega)).tr (sc.wR _ _ _ (by omega))).tr (sc.wN _ _ _ (by omega))).tr (sc.wR _ _ _ (by omega))).tr (sc.wN _ _ _ (by omega))).tr (sc.wR _ _ _ (by omega))).tr (sc.wN _ _ _ (by omega))).tr (sc.wR _ _ _ (by omega))).tr (sc.wI _ _ _ (by omega))).tr (sc.wI _ _ _ (by omega))).tr (sc.wI _ _ _ (by omega))).tr (sc.wN _ _ _ (by omega))).tr (sc.wR _ _ _ (by omega))).tr (sc.wN _ _ _ (by omega))).tr (sc.wR _ _ _ (by omega))).tr (sc.wN _ _ _ (by omega))).tr (sc.wR _ _ _ (by omega))).tr (sc.wN _ _ _ (by omega))).tr (sc.wR _ _ _ (by omega))).tr (sc.wN _ _ _ (by omega))).tr (sc.wR _ _ _ (by omega))).tr ((sc.wI _ _ _ (by omega)).tr (sc.wI _ _ _ (by omega)))
theorem new9 {h : AH} {a : Nat} (hk : kd h a = 10) (hz : ∀ j, iv h a j = 0) : RI (nm9 h a) a A0 := by
  have hq : iv (nm9 h a) (a + 1) = q0 := by
    funext j
    simp (disch := omega) only [nm9, iv_wI, iv_wR, iv_wN, eqN_F, eqN_T, ↓reduceIte]
    unfold q0
    by_cases e1 : j = 20
    · subst e1; rfl
    · rw [if_neg e1]
      by_cases e2 : j = 19
      · rw [if_pos e2, if_pos e2]
      · rw [if_neg e2, if_neg e2, if_neg e1]
  have h3 : iv (nm9 h a) (a + 3) = fun _ => 0 := by
    funext j
    simp (disch := omega) only [nm9, iv_wI, iv_wR, iv_wN, eqN_F, eqN_T, ↓reduceIte]
  have z2 := hz 2
  have z5 := hz 5
  refine ⟨?_, ?_, h3, ⟨?_, ?_, ?_⟩, ?_, by show 0 ≤ 5; omega, fun i r hr => ?_, ?_, by show 0 ≤ 120; omega, fun i c hc => ?_⟩
  · unfold MO
    refine ⟨?_, ?_, ?_, ?_, ?_, ?_, ?_, ?_, ?_, ?_, ?_, ?_, ?_, ?_, ?_, ?_, ?_, ?_, ?_, ?_, ?_, ?_, ?_, ?_, ?_, ?_, ?_, ?_⟩
    all_goals simp (disch := omega) only [nm9, kd_wI, ln_wI, rv_wI, kd_wR, ln_wR, rv_wR, kd_wN, ln_wN, rv_wN, eqN_F, eqN_T, ↓reduceIte, hk]
  · rw [hq]
    have e0 : oq q0 = 0 := by decide
    have e1 : od q0 = [] := by unfold od; rw [e0]; rfl
    refine ⟨nord.rf _, e1, rfl, by rw [e0]; omega, fun i hi => by rw [e0] at hi; omega, by rw [e1]; exact List.nodup_nil, fun t ht => ?_⟩
    rw [e1, q0_wt]
    exact ⟨fun h => (by cases h), fun h => (by cases h)⟩
  · simp (disch := omega) only [nm9, iv_wI, iv_wR, iv_wN, eqN_F, eqN_T, ↓reduceIte]; rfl
  · simp (disch := omega) only [nm9, iv_wI, iv_wR, iv_wN, eqN_F, eqN_T, ↓reduceIte]; rfl
  · simp (disch := omega) only [nm9, iv_wI, iv_wR, iv_wN, eqN_F, eqN_T, ↓reduceIte]; rfl
  · simp (disch := omega) only [nm9, iv_wI, iv_wR, iv_wN, eqN_F, eqN_T, ↓reduceIte, z2]; rfl
  · have hr : ([] : List Rec)[i]? = some r := hr
    simp at hr
  · simp (disch := omega) only [nm9, iv_wI, iv_wR, iv_wN, eqN_F, eqN_T, ↓reduceIte, z5]; rfl
  · have hc : ([] : List Nat)[i]? = some c := hc
    simp at hc
