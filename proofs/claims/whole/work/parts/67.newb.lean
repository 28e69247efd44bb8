/-! new books -/
theorem kd_wR (h : AH) (a k : Nat) (x : Option Nat) (b : Nat) : kd (wR h a k x) b = kd h b := rfl
theorem ln_wR (h : AH) (a k : Nat) (x : Option Nat) (b : Nat) : ln (wR h a k x) b = ln h b := rfl
theorem iv_wR (h : AH) (a k : Nat) (x : Option Nat) : iv (wR h a k x) = iv h := rfl
theorem jv_wR (h : AH) (a k : Nat) (x : Option Nat) : jv (wR h a k x) = jv h := rfl
theorem rv_wR (h : AH) (a k : Nat) (x : Option Nat) (b j : Nat) : rv (wR h a k x) b j = if b = a then (if j = k then x else rv h b j) else rv h b j := by
  show u2 h.2.2.2 a k x b j = _
  unfold u2
  split <;> rfl
theorem kd_wN (h : AH) (a kk n b : Nat) : kd (wNew h a kk n) b = if b = a then kk else kd h b := by
  show (u1 h.1 a (kk, n) b).1 = _
  unfold u1
  split <;> rfl
theorem ln_wN (h : AH) (a kk n b : Nat) : ln (wNew h a kk n) b = if b = a then n else ln h b := by
  show (u1 h.1 a (kk, n) b).2 = _
  unfold u1
  split <;> rfl
theorem rv_wN (h : AH) (a kk n b j : Nat) : rv (wNew h a kk n) b j = if b = a then none else rv h b j := by
  show u1 h.2.2.2 a (fun _ => none) b j = _
  unfold u1
  split <;> rfl
theorem iv_wN (h : AH) (a kk n b j : Nat) : iv (wNew h a kk n) b j = if b = a then 0 else iv h b j := by
  show u1 h.2.1 a (fun _ => 0) b j = _
  unfold u1
  split <;> rfl
theorem jv_wN (h : AH) (a kk n b j : Nat) : jv (wNew h a kk n) b j = if b = a then 0 else jv h b j := by
  show u1 h.2.2.1 a (fun _ => 0) b j = _
  unfold u1
  split <;> rfl
def nf (h : AH) (a : Nat) : AH := wR (wNew (wR (wNew (wR (wNew h (a + 1) 13 16) a 0 (some (a + 1))) (a + 2) 13 16) a 1 (some (a + 2))) (a + 3) 13 16) a 2 (some (a + 3))
theorem e2_init {h : AH} {a : Nat} (hk : kd h a = 3) (z : Nat) (hz : z = a + 1) : fX2_init a z h = some (a + 4, nf h a) := by
  subst hz
  simp (disch := omega) only [fX2_init, ↓gd, ↓bl, ↓reduceIte, kd_wR, kd_wN, eqN_F, ↓reduceIte, hk]
  rfl
def nmb (h : AH) (a : Nat) : AH := wR (wNew (wR (wNew (wR (wNew (wR (wNew h (a + 1) 14 40) a 0 (some (a + 1))) (a + 2) 13 40) a 1 (some (a + 2))) (a + 3) 13 40) a 2 (some (a + 3))) (a + 4) 13 40) a 3 (some (a + 4))
theorem e4_init {h : AH} {a : Nat} (hk : kd h a = 5) (z : Nat) (hz : z = a + 1) : fX4_init a z h = some (a + 5, nmb h a) := by
  subst hz
  simp (disch := omega) only [fX4_init, ↓gd, ↓bl, ↓reduceIte, kd_wR, kd_wN, eqN_F, ↓reduceIte, hk]
  rfl
def nb1 (h : AH) (a : Nat) : AH := wR (nf (wNew h (a + 1) 3 0) (a + 1)) a 0 (some (a + 1))
def nb2 (h : AH) (a : Nat) : AH := wR (nmb (wNew (nb1 h a) (a + 5) 5 0) (a + 5)) a 1 (some (a + 5))
def nb3 (h : AH) (a : Nat) : AH := wR (wNew (wR (wNew (wR (wNew h (a + 10) 13 10) a 2 (some (a + 10))) (a + 11) 13 10) a 3 (some (a + 11))) (a + 12) 13 10) a 4 (some (a + 12))
def nb4 (h : AH) (a : Nat) : AH := wI (wI (wR (wNew (wR (wNew (wR (wNew h (a + 13) 13 10) a 5 (some (a + 13))) (a + 14) 13 10) a 6 (some (a + 14))) (a + 15) 13 10) a 7 (some (a + 15))) a 12 4) a 13 1
theorem e0_init {h : AH} {a : Nat} (hk : kd h a = 1) : fX0_init a (a + 1) h = some (a + 16, nb4 (nb3 (nb2 h a) a) a) := by
  have x1 := e2_init (h := wNew h (a + 1) 3 0) (a := a + 1) (by rw [kd_wN, if_pos rfl]) (a + 1 + 1) rfl
  have x2 := e4_init (h := wNew (nb1 h a) (a + 5) 5 0) (a := a + 5) (by rw [kd_wN, if_pos rfl]) (a + 5 + 1) rfl
  have k1 : kd (nf (wNew h (a + 1) 3 0) (a + 1)) a = 1 := by
    simp (disch := omega) only [nf, kd_wR, kd_wN, eqN_F, ↓reduceIte, hk]
  have k2 : kd (nmb (wNew (nb1 h a) (a + 5) 5 0) (a + 5)) a = 1 := by
    simp (disch := omega) only [nb1, nmb, kd_wR, kd_wN, eqN_F, ↓reduceIte]
    exact k1
  have x2 : fX4_init (a + 1 + 4) (a + 1 + 4 + 1) (wNew (wR (nf (wNew h (a + 1) 3 0) (a + 1)) a 0 (some (a + 1))) (a + 1 + 4) 5 0) = some (a + 5 + 5, nmb (wNew (nb1 h a) (a + 5) 5 0) (a + 5)) := x2
  simp (disch := omega) only [fX0_init, ↓gd, ↓bl, ↓reduceIte, ↓bb2 x1, k1, ↓bb2 x2, k2, kd_wR, kd_wN, eqN_F, ↓reduceIte]
  rfl
theorem nb_sc {h : AH} {a b : Nat} (hb : b < a ∨ a + 16 ≤ b) : sc h (nb4 (nb3 (nb2 h a) a) a) b := by
  have s1 : sc h (nb1 h a) b := (((((((sc.wN h _ _ (by omega)).tr (sc.wN _ _ _ (by omega))).tr (sc.wR _ _ _ (by omega))).tr (sc.wN _ _ _ (by omega))).tr (sc.wR _ _ _ (by omega))).tr (sc.wN _ _ _ (by omega))).tr (sc.wR _ _ _ (by omega))).tr (sc.wR _ _ _ (by omega))
  have s2 : sc (nb1 h a) (nb2 h a) b := (((((((((sc.wN _ _ _ (by omega)).tr (sc.wN _ _ _ (by omega))).tr (sc.wR _ _ _ (by omega))).tr (sc.wN _ _ _ (by omega))).tr (sc.wR _ _ _ (by omega))).tr (sc.wN _ _ _ (by omega))).tr (sc.wR _ _ _ (by omega))).tr (sc.wN _ _ _ (by omega))).tr (sc.wR _ _ _ (by omega))).tr (sc.wR _ _ _ (by omega))
  have s3 : sc (nb2 h a) (nb3 (nb2 h a) a) b := (((((sc.wN _ _ _ (by omega)).tr (sc.wR _ _ _ (by omega))).tr (sc.wN _ _ _ (by omega))).tr (sc.wR _ _ _ (by omega))).tr (sc.wN _ _ _ (by omega))).tr (sc.wR _ _ _ (by omega))
  have s4 : sc (nb3 (nb2 h a) a) (nb4 (nb3 (nb2 h a) a) a) b := (((((((sc.wN _ _ _ (by omega)).tr (sc.wR _ _ _ (by omega))).tr (sc.wN _ _ _ (by omega))).tr (sc.wR _ _ _ (by omega))).tr (sc.wN _ _ _ (by omega))).tr (sc.wR _ _ _ (by omega))).tr (sc.wI _ _ _ (by omega))).tr (sc.wI _ _ _ (by omega))
  exact ((s1.tr s2).tr s3).tr s4
theorem nb_BO {h : AH} {a : Nat} (hk : kd h a = 1) : BO (nb4 (nb3 (nb2 h a) a) a) a := by
  unfold BO
  refine ⟨?_, ?_, ?_, ?_, ?_, ?_, ?_, ?_, ?_, ?_, ?_, ?_, ?_, ?_, ?_, ?_, ?_, ?_, ?_, ?_, ?_, ?_, ?_, ?_, ?_, ?_, ?_, ?_, ?_, ?_, ?_, ?_, ?_, ?_, ?_, ?_, ?_, ?_, ?_, ?_, ?_, ?_, ?_, ?_⟩
  all_goals simp (disch := omega) only [nb4, nb3, nb2, nb1, nf, nmb, kd_wI, ln_wI, rv_wI, kd_wR, ln_wR, rv_wR, kd_wN, ln_wN, rv_wN, eqN_F, eqN_T, ↓reduceIte, hk]
/-- the state of a new object -/
def q0 : Nat → Int32 := fun j => if j = 19 then 4 else if j = 20 then 1 else 0
theorem q0_th (t : Nat) : th q0 t = false := by
  unfold th q0
  rw [if_neg (by omega), if_neg (by omega)]
  decide
theorem q0_wt (t : Nat) : wt q0 t = false := by unfold wt; rw [q0_th]; rfl
theorem q0_nr : nr q0 = 0 := by decide
theorem q0_nm : nm q0 = 0 := by decide
theorem nb_CB {h : AH} {a : Nat} (hk : kd h a = 1) (hz : ∀ j, 8 ≤ j → j < 12 → iv h a j = 0) : CB (nb4 (nb3 (nb2 h a) a) a) a q0 [] := by
  have v9 := hz 9 (by omega) (by omega)
  have v8 := hz 8 (by omega) (by omega)
  have v10 := hz 10 (by omega) (by omega)
  have v11 := hz 11 (by omega) (by omega)
  refine ⟨nb_BO hk, ⟨?_, fun r hr => ?_, fun r hr => ?_, fun r hr => ?_, fun r h1 h2 => ?_⟩, ⟨?_, fun t ht => ⟨?_, ?_, ?_, ?_⟩, fun t ht h1 => ?_⟩, ⟨?_, fun j y hj => by simp at hj⟩, ⟨?_, ?_, ?_, ?_⟩, ?_, 0, by omega, ?_, fun k hk => ?_⟩
  · simp (disch := omega) only [nb4, nb3, nb2, nb1, nf, nmb, iv_wI, iv_wR, iv_wN, eqN_F, eqN_T, ↓reduceIte]; rfl
  · rw [q0_nr] at hr; omega
  · rw [q0_nr] at hr; omega
  · rw [q0_nr] at hr; omega
  · simp (disch := omega) only [nb4, nb3, nb2, nb1, nf, nmb, iv_wI, iv_wR, iv_wN, eqN_F, eqN_T, ↓reduceIte]
  · simp (disch := omega) only [nb4, nb3, nb2, nb1, nf, nmb, iv_wI, iv_wR, iv_wN, eqN_F, eqN_T, ↓reduceIte]
    rw [mk_congr (d := fun _ => false) (fun i _ => q0_th i), mk_F]
    exact v9
  · simp (disch := omega) only [nb4, nb3, nb2, nb1, nf, nmb, iv_wI, iv_wR, iv_wN, eqN_F, eqN_T, ↓reduceIte]
    unfold q0; rw [if_neg (by omega), if_neg (by omega)]
  · simp (disch := omega) only [nb4, nb3, nb2, nb1, nf, nmb, iv_wI, iv_wR, iv_wN, eqN_F, eqN_T, ↓reduceIte]
    unfold q0; rw [if_neg (by omega), if_neg (by omega)]
  · simp (disch := omega) only [nb4, nb3, nb2, nb1, nf, nmb, iv_wI, iv_wR, iv_wN, eqN_F, eqN_T, ↓reduceIte]
    unfold q0; rw [if_neg (by omega), if_neg (by omega)]
  · simp (disch := omega) only [nb4, nb3, nb2, nb1, nf, nmb, iv_wI, iv_wR, iv_wN, eqN_F, eqN_T, ↓reduceIte]
    unfold q0; rw [if_neg (by omega), if_neg (by omega)]
  · rw [q0_th] at h1; cases h1
  · simp (disch := omega) only [nb4, nb3, nb2, nb1, nf, nmb, iv_wI, iv_wR, iv_wN, eqN_F, eqN_T, ↓reduceIte]
    exact v8
  · simp (disch := omega) only [nb4, nb3, nb2, nb1, nf, nmb, iv_wI, iv_wR, iv_wN, eqN_F, eqN_T, ↓reduceIte]
    exact v10
  · simp (disch := omega) only [nb4, nb3, nb2, nb1, nf, nmb, iv_wI, iv_wR, iv_wN, eqN_F, eqN_T, ↓reduceIte]
    exact v11
  · simp (disch := omega) only [nb4, nb3, nb2, nb1, nf, nmb, iv_wI, iv_wR, iv_wN, eqN_F, eqN_T, ↓reduceIte]
    rfl
  · simp (disch := omega) only [nb4, nb3, nb2, nb1, nf, nmb, iv_wI, iv_wR, iv_wN, eqN_F, eqN_T, ↓reduceIte]
    rfl
  · simp (disch := omega) only [nb4, nb3, nb2, nb1, nf, nmb, iv_wI, iv_wR, iv_wN, eqN_F, eqN_T, ↓reduceIte]
    rfl
  · simp (disch := omega) only [nb4, nb3, nb2, nb1, nf, nmb, iv_wI, iv_wR, iv_wN, eqN_F, eqN_T, ↓reduceIte]
    rfl
  · rw [q0_nm] at hk; omega
