/-- what a delivery changes of the reference beside its state and counts -/
def PN (m b : Nat) : Prop := b = m ∨ b = m + 6 ∨ b = m + 7 ∨ b = m + 8
def Fm (m : Nat) (h h' : AH) : Prop := Fq (PN m) h h' ∧ ∀ j, j ≠ 7 → j ≠ 8 → j ≠ 9 → j ≠ 12 → iv h' m j = iv h m j
theorem Fm.rf (m : Nat) (h : AH) : Fm m h h := ⟨Fq.rf _ h, fun _ _ _ _ _ => rfl⟩
theorem Fm.tr {m : Nat} {h1 h2 h3 : AH} (x : Fm m h1 h2) (y : Fm m h2 h3) : Fm m h1 h3 := ⟨x.1.tr y.1, fun j a b c d => (y.2 j a b c d).trans (x.2 j a b c d)⟩
theorem Fm.w0 (m : Nat) (h : AH) {k : Nat} (hk : k = 7 ∨ k = 8 ∨ k = 9 ∨ k = 12) (x : Int32) : Fm m h (wI h m k x) := ⟨Fq.w h _ _ (Or.inl rfl), fun j a b c d => by rw [iv_wI, if_pos rfl, if_neg (by omega)]⟩
theorem Fm.w6 (m : Nat) (h : AH) (k : Nat) (x : Int32) : Fm m h (wI h (m + 6) k x) := ⟨Fq.w h _ _ (Or.inr (Or.inl rfl)), fun j a b c d => by rw [iv_wI_ne _ _ _ (by omega)]⟩
theorem Fm.l2 {m : Nat} {h h' : AH} (hF : Fq (PL2 m) h h') : Fm m h h' := ⟨hF.mono (fun b hb => by unfold PL2 at hb; unfold PN; omega), fun j _ _ _ _ => by rw [iv_F hF (by unfold PL2; omega)]⟩
theorem Fm.M {m : Nat} {h h' : AH} (hF : Fm m h h') (hM : MO h m) : MO h' m := MO_c hF.1.1 hF.1.2.1 hM
def LM (h : AH) (m : Nat) (l : Int32 × Int32 × Int32) : Prop := iv h m 7 = l.1 ∧ iv h m 8 = l.2.1 ∧ iv h m 9 = l.2.2
theorem bf_c {p q : Nat → Int32} (h : ∀ j, j < 92 → (j = 18 ∨ 32 ≤ j) → p j = q j) {a b : Nat} (ha : a < 10) (hb : b < 10) : bfN p a b = bfN q a b := by
  have e1 : ∀ t, t < 10 → ky p t = ky q t := fun t ht => by unfold ky; rw [h 18 (by omega) (by omega), h _ (by omega) (by omega), h _ (by omega) (by omega)]
  have e2 : ∀ t, t < 10 → ag p t = ag q t := fun t ht => by unfold ag; rw [h _ (by omega) (by omega)]
  unfold bfN
  rw [e1 a ha, e1 b hb, e2 a ha, e2 b hb]
theorem vp_c {p q : Nat → Int32} {u : Nat → Nat} {n : Nat} (h : ∀ a b, a < 10 → b < 10 → bfN p a b = bfN q a b) (h1 : 1 ≤ n) (hu : ∀ e, e < n → u e < 10) : ∀ k, k ≤ n → vp p u k = vp q u k ∧ vp q u k < 10 := by
  intro k
  induction k with
  | zero => intro _; exact ⟨rfl, hu 0 h1⟩
  | succ k ih =>
    intro hk
    obtain ⟨e1, e2⟩ := ih (by omega)
    unfold vp
    rw [e1, h _ _ (hu k (by omega)) e2]
    refine ⟨rfl, ?_⟩
    split
    · exact hu k (by omega)
    · exact e2
theorem pm_s (f : Nat → Int32) (k : Nat) : pm f (k + 1) = pm f k ||| ((1 : Int32) <<< (f k &&& 31)) := rfl
theorem e9_fd_loop {m : Nat} {p c : Nat → Int32} {L : List Nat} {B : Nat} (hB31 : B < 2 ^ 31) (hQ : WQ p L B) {n : Nat} {u : Nat → Nat} (h1 : 1 ≤ n) (hth : ∀ e, e < n → th p (u e) = true) (z : Nat) : ∀ (d k : Nat), k + d = n → ∀ (h : AH) (fuel : Nat), d < fuel → MO h m → PT h m n u → iv h m 7 = pm (fun e => nI (u e)) k → iv h m 8 = nI (vp p u k) →
    ∃ h', lX9_finds_37 fuel m (nI k) z (mh h m p c) = bd2 (fX9_aborts m (nI (vp p u n)) z (mh h' m p c)) (fun z h => some (z, h)) ∧ Fm m h h' ∧ iv h' m 9 = iv h m 9 ∧ iv h' m 7 = pm (fun e => nI (u e)) n ∧ iv h' m 8 = nI (vp p u n) := by
  intro d
  induction d with
  | zero =>
    intro k hk h fuel hf hM hP e7 e8
    obtain rfl : k = n := by omega
    cases fuel with
    | zero => omega
    | succ fuel =>
      refine ⟨h, ?_, Fm.rf m h, rfl, e7, e8⟩
      have hk0 := hM.1
      have h12 := hP.1
      show lX9_finds_37B _ _ _ _ _ = _
      simp (disch := omega) only [lX9_finds_37B, ↓gd, kd_mh, hk0, ↓reduceIte, iv_mh, h12, Int32.le_refl, e8]
  | succ d ih =>
    intro k hk h fuel hf hM hP e7 e8
    cases fuel with
    | zero => omega
    | succ fuel =>
      obtain ⟨h12, hn10, hP'⟩ := id hP
      obtain ⟨f1, f2⟩ := hP' k (by omega)
      have hu : ∀ e, e < n → u e < 10 := fun e he => (hP' e he).2
      obtain ⟨-, hv10⟩ := vp_c (p := p) (q := p) (u := u) (n := n) (fun _ _ _ _ => rfl) h1 hu k (by omega)
      have hvt : th p (vp p u k) = true := by
        have : ∀ k, k ≤ n → th p (vp p u k) = true := by
          intro k
          induction k with
          | zero => intro _; exact hth 0 h1
          | succ k ih2 =>
            intro hk
            unfold vp
            split
            · exact hth k (by omega)
            · exact ih2 (by omega)
        exact this k (by omega)
      generalize hh1 : wI h m 7 (pm (fun e => nI (u e)) (k + 1)) = h1'
      have hF1 : Fm m h h1' := by rw [← hh1]; exact Fm.w0 m h (Or.inl rfl) _
      have x1 := e9_isBefore (hF1.M hM) hB31 hQ (c := c) f2 hv10 (hth k (by omega)) hvt z
      generalize hh2 : wI h1' m 8 (nI (vp p u (k + 1))) = h2'
      have hF2 : Fm m h1' h2' := by rw [← hh2]; exact Fm.w0 m h1' (Or.inr (Or.inl rfl)) _
      have hM2 := (hF1.tr hF2).M hM
      have i6 : iv h2' (m + 6) = iv h (m + 6) := by rw [← hh2, iv_wI_ne _ _ _ (by omega), ← hh1, iv_wI_ne _ _ _ (by omega)]
      have i7 : iv h2' m 7 = pm (fun e => nI (u e)) (k + 1) := by rw [← hh2, iv_wI, if_pos rfl, if_neg (by omega), ← hh1, iv_wI, if_pos rfl, if_pos rfl]
      have i8 : iv h2' m 8 = nI (vp p u (k + 1)) := by rw [← hh2, iv_wI, if_pos rfl, if_pos rfl]
      have i9 : iv h2' m 9 = iv h m 9 := by rw [← hh2, iv_wI, if_pos rfl, if_neg (by omega), ← hh1, iv_wI, if_pos rfl, if_neg (by omega)]
      have i12 : iv h2' m 12 = nI n := by rw [← hh2, iv_wI, if_pos rfl, if_neg (by omega), ← hh1, iv_wI, if_pos rfl, if_neg (by omega), h12]
      obtain ⟨h', v1, v2, v3, v4, v5⟩ := ih (k + 1) (by omega) h2' fuel (by omega) hM2 ⟨i12, hn10, fun e he => by rw [i6]; exact hP' e he⟩ i7 i8
      refine ⟨h', ?_, (hF1.tr hF2).tr v2, v3.trans i9, v4, v5⟩
      rw [← v1]
      have g7 : pm (fun e => nI (u e)) k ||| ((1 : Int32) <<< (nI (u k) &&& 31)) = pm (fun e => nI (u e)) (k + 1) := rfl
      have g6 : iv h1' (m + 6) k = nI (u k) := by rw [← hh1, iv_wI_ne _ _ _ (by omega)]; exact f1
      have g8 : iv h1' m 8 = nI (vp p u k) := by rw [← hh1, iv_wI, if_pos rfl, if_neg (by omega), e8]
      have hbr : ∀ (b j : Nat) (f : Nat → Option (Nat × AH)), Option.bind (rv h1' b j) f = Option.bind (rv h b j) f := fun b j f => by rw [← hh1]; rfl
      have hkd : ∀ b, kd h1' b = kd h b := fun b => by rw [← hh1]; rfl
      have hln : ∀ b, ln h1' b = ln h b := fun b => by rw [← hh1]; rfl
      show lX9_finds_37B _ _ _ _ _ = _
      obtain ⟨hk, r0, r1, r3, r4, r10, r11, r13, r14, r15, k1, k2, k3, k4, k5, k6, k7, k8, k9, l1, l2, l3, l4, l5, l6, l7, l8, l9⟩ := id hM
      cases hbf : bfN p (u k) (vp p u k)
      · rw [hbf] at x1
        have ev : vp p u (k + 1) = vp p u k := by rw [vp, hbf]; rfl
        rw [ev] at hh2
        simp (disch := omega) only [lX9_finds_37B, bX9_finds_93, ↓brv_wI, ↓brv_wJ, ↓gd, ↓bl, ↓on, ↓xr, ↓reduceIte, if_true, if_false, kd_wI, ln_wI, rv_wI, iv_wI, jv_wI, kd_wJ, ln_wJ, rv_wJ, iv_wJ, nI_clamp, nI_leE, nI_ltE, nI_eqE, m1_ne, bit_0, bit_1, nI_negE, leN_F, leN_T, ltN_F, ltN_T, eqN_F, or_false, false_or, or_true, true_or, not_false_eq_true, not_true_eq_false, and_true, true_and, and_false, false_and, ↓brv_mh, kd_mh, ln_mh, rv_mh, ↓bb r0, ↓bb r1, ↓bb r3, ↓bb r4, ↓bb r10, ↓bb r11, ↓bb r13, ↓bb r14, ↓bb r15, hk, k1, k2, k3, k4, k5, k6, k7, k8, k9, l1, l2, l3, l4, l5, l6, l7, l8, l9, iv_mh, h12, f1, e7, g7, mh_wb, hh1, ↓hbr, hkd, hln, g6, g8, ↓bb3 x1, Bool.false_eq_true, hh2, nI_1]
      · rw [hbf] at x1
        have ev : vp p u (k + 1) = u k := by rw [vp, hbf]; rfl
        rw [ev] at hh2
        simp (disch := omega) only [lX9_finds_37B, bX9_finds_93, ↓brv_wI, ↓brv_wJ, ↓gd, ↓bl, ↓on, ↓xr, ↓reduceIte, if_true, if_false, kd_wI, ln_wI, rv_wI, iv_wI, jv_wI, kd_wJ, ln_wJ, rv_wJ, iv_wJ, nI_clamp, nI_leE, nI_ltE, nI_eqE, m1_ne, bit_0, bit_1, nI_negE, leN_F, leN_T, ltN_F, ltN_T, eqN_F, or_false, false_or, or_true, true_or, not_false_eq_true, not_true_eq_false, and_true, true_and, and_false, false_and, ↓brv_mh, kd_mh, ln_mh, rv_mh, ↓bb r0, ↓bb r1, ↓bb r3, ↓bb r4, ↓bb r10, ↓bb r11, ↓bb r13, ↓bb r14, ↓bb r15, hk, k1, k2, k3, k4, k5, k6, k7, k8, k9, l1, l2, l3, l4, l5, l6, l7, l8, l9, iv_mh, h12, f1, e7, g7, mh_wb, hh1, ↓hbr, hkd, hln, g6, g8, ↓bb3 x1, ne10, hh2, nI_1]
theorem w9_finds {h : AH} {m : Nat} (hM : MO h m) {p : Nat → Int32} {s : Ab} {B : Nat} (hB31 : B < 2 ^ 31) (hR : RF p s.1 s.2.1) (hQ : WA s B) {n : Nat} {u : Nat → Nat} (h1 : 1 ≤ n) (hP : PT h m n u) (hth : ∀ e, e < n → th s.1 (u e) = true) (z : Nat) :
    ∃ p' h', fX9_finds m z (mh h m p s.2.2) = some (z, mh h' m p' (seA (skA (s.1, s.2.1, upd s.2.2 4 (s.2.2 4 + 1)) (vp s.1 u n))).2.2) ∧ RF p' (seA (skA (s.1, s.2.1, upd s.2.2 4 (s.2.2 4 + 1)) (vp s.1 u n))).1 (seA (skA (s.1, s.2.1, upd s.2.2 4 (s.2.2 4 + 1)) (vp s.1 u n))).2.1 ∧ LM h' m (pm (fun e => nI (u e)) n, nI (vp s.1 u n), nI (u 0)) ∧ Fm m h h' := by
  have hQp := hR.wq hQ
  obtain ⟨h12, hn10, hP'⟩ := id hP
  have hu : ∀ e, e < n → u e < 10 := fun e he => (hP' e he).2
  have hthp : ∀ e, e < n → th p (u e) = true := fun e he => by rw [th_nord hR.1]; exact hth e he
  obtain ⟨ev, hv10⟩ := vp_c (p := p) (q := s.1) (u := u) (n := n) (fun a b ha hb => bf_c (fun j _ hj => hR.1 j (by omega)) ha hb) h1 hu n (Nat.le_refl _)
  have hvt : th s.1 (vp s.1 u n) = true := by
    have : ∀ k, k ≤ n → th s.1 (vp s.1 u k) = true := by
      intro k
      induction k with
      | zero => intro _; exact hth 0 h1
      | succ k ih2 =>
        intro hk
        unfold vp
        split
        · exact hth k (by omega)
        · exact ih2 (by omega)
    exact this n (Nat.le_refl _)
  have f0 := (hP' 0 h1).1
  generalize hh1 : wI (wI (wI h m 7 0) m 9 (nI (u 0))) m 8 (nI (u 0)) = h1'
  have hF1 : Fm m h h1' := by
    rw [← hh1]
    exact ((Fm.w0 m h (Or.inl rfl) _).tr (Fm.w0 m _ (Or.inr (Or.inr (Or.inl rfl))) _)).tr (Fm.w0 m _ (Or.inr (Or.inl rfl)) _)
  have i6 : iv h1' (m + 6) = iv h (m + 6) := by rw [← hh1, iv_wI_ne _ _ _ (by omega), iv_wI_ne _ _ _ (by omega), iv_wI_ne _ _ _ (by omega)]
  have i7 : iv h1' m 7 = 0 := by rw [← hh1]; simp (disch := omega) only [iv_wI, eqN_F, if_false, if_true]
  have i8 : iv h1' m 8 = nI (u 0) := by rw [← hh1]; simp (disch := omega) only [iv_wI, eqN_F, if_false, if_true]
  have i9 : iv h1' m 9 = nI (u 0) := by rw [← hh1]; simp (disch := omega) only [iv_wI, eqN_F, if_false, if_true]
  have i12 : iv h1' m 12 = nI n := by rw [← hh1]; simp (disch := omega) only [iv_wI, eqN_F, if_false, if_true, h12]
  obtain ⟨h2, v1, v2, v3, v4, v5⟩ := e9_fd_loop (c := upd s.2.2 4 (s.2.2 4 + 1)) hB31 hQp h1 hthp z n 0 (by omega) h1' fu (by unfold fu; omega) (hF1.M hM) ⟨i12, hn10, fun e he => by rw [i6]; exact hP' e he⟩ i7 i8
  rw [ev] at v1 v5
  have hQ4 : WA (s.1, s.2.1, upd s.2.2 4 (s.2.2 4 + 1)) B := hQ
  obtain ⟨p', w1, w2⟩ := w9_aborts ((hF1.tr v2).M hM) (s := (s.1, s.2.1, upd s.2.2 4 (s.2.2 4 + 1))) hR hQ4 hv10 hvt z
  refine ⟨p', h2, ?_, w2, ⟨v4, v5, v3.trans i9⟩, hF1.tr v2⟩
  have i3 : ((4 : Int32) < 0) = False := eq_false (by decide)
  have i4 : Int32.toNatClampNeg 4 = 4 := by decide
  rw [nI_0] at v1
  have hbd : bd2 (fX9_aborts m (nI (vp s.1 u n)) z (mh h2 m p (upd s.2.2 4 (s.2.2 4 + 1)))) (fun z h => some (z, h)) = some (z, mh h2 m p' (seA (skA (s.1, s.2.1, upd s.2.2 4 (s.2.2 4 + 1)) (vp s.1 u n))).2.2) := by rw [w1]; rfl
  rw [← hbd, ← v1]
  obtain ⟨hk, r0, r1, r3, r4, r10, r11, r13, r14, r15, k1, k2, k3, k4, k5, k6, k7, k8, k9, l1, l2, l3, l4, l5, l6, l7, l8, l9⟩ := id hM
  simp (disch := omega) only [fX9_finds, ↓brv_wI, ↓brv_wJ, ↓gd, ↓bl, ↓on, ↓xr, ↓reduceIte, if_true, if_false, kd_wI, ln_wI, rv_wI, iv_wI, jv_wI, kd_wJ, ln_wJ, rv_wJ, iv_wJ, nI_clamp, nI_leE, nI_ltE, nI_eqE, m1_ne, bit_0, bit_1, nI_negE, leN_F, leN_T, ltN_F, ltN_T, eqN_F, or_false, false_or, or_true, true_or, not_false_eq_true, not_true_eq_false, and_true, true_and, and_false, false_and, ↓brv_mh, kd_mh, ln_mh, rv_mh, ↓bb r0, ↓bb r1, ↓bb r3, ↓bb r4, ↓bb r10, ↓bb r11, ↓bb r13, ↓bb r14, ↓bb r15, hk, k1, k2, k3, k4, k5, k6, k7, k8, k9, l1, l2, l3, l4, l5, l6, l7, l8, l9, i3, i4, ix0, lt00, iv_mh3, mh_w3, mh_wb, iv_mh, f0]
  rw [hh1]
