/-! the reference's run -/
def Fn (m : Nat) (h h' : AH) : Prop := Fq (PN m) h h' ∧ ∀ j, j ≠ 7 → j ≠ 8 → j ≠ 9 → j ≠ 12 → j ≠ 16 → j ≠ 17 → j ≠ 18 → iv h' m j = iv h m j
theorem Fn.rf (m : Nat) (h : AH) : Fn m h h := ⟨Fq.rf _ h, fun _ _ _ _ _ _ _ _ => rfl⟩
theorem Fn.tr {m : Nat} {h1 h2 h3 : AH} (x : Fn m h1 h2) (y : Fn m h2 h3) : Fn m h1 h3 := ⟨x.1.tr y.1, fun j a b c d e f g => (y.2 j a b c d e f g).trans (x.2 j a b c d e f g)⟩
theorem Fn.m {m : Nat} {h h' : AH} (hF : Fm m h h') : Fn m h h' := ⟨hF.1, fun j a b c d _ _ _ => hF.2 j a b c d⟩
theorem Fn.p {m : Nat} {h h' : AH} (hF : Fp m h h') : Fn m h h' := ⟨hF.1.mono (fun b hb => Or.inl hb), fun j _ _ _ _ e f g => hF.2 j e f g⟩
theorem Fn.M {m : Nat} {h h' : AH} (hF : Fn m h h') (hM : MO h m) : MO h' m := MO_c hF.1.1 hF.1.2.1 hM
theorem Fn.T {m : Nat} {h h' : AH} {T : List Nat} (hF : Fn m h h') (hX : RT h m T) : RT h' m T :=
  ⟨by rw [hF.2 5 (by omega) (by omega) (by omega) (by omega) (by omega) (by omega) (by omega)]; exact hX.1, hX.2.1, fun i c hc => by rw [iv_F hF.1 (by unfold PN; omega)]; exact hX.2.2 i c hc⟩
theorem RI_op2 {h h' : AH} {m : Nat} {w w' : Ac} {H : List Rec} {T : List Nat} {p' : Nat → Int32} (hR : RI h m (w, H, T)) (hF : Fn m h h') (h1 : RF p' w'.1.1 w'.1.2.1) (h2 : LM h' m w'.2) : RI (mh h' m p' w'.1.2.2) m (w', H, T) := by
  obtain ⟨r1, r2, r3, r4, r5, r6, r7, r8, r9, r10⟩ := hR
  have g : ∀ b, b ≠ m + 1 → b ≠ m + 3 → iv (mh h' m p' w'.1.2.2) b = iv h' b := fun b b1 b3 => iv_mh _ _ _ _ b1 b3
  refine ⟨MO_mh (hF.M r1) _ _, by rw [iv_mh1]; exact h1, iv_mh3 _ _ _ _, ?_, ?_, r6, ?_, ?_, r9, ?_⟩
  · unfold LM
    rw [g m (by omega) (by omega)]
    exact h2
  · rw [g m (by omega) (by omega), hF.2 2 (by omega) (by omega) (by omega) (by omega) (by omega) (by omega) (by omega)]; exact r5
  · rw [g (m + 2) (by omega) (by omega), iv_F hF.1 (by unfold PN; omega)]; exact r7
  · rw [g m (by omega) (by omega), hF.2 5 (by omega) (by omega) (by omega) (by omega) (by omega) (by omega) (by omega)]; exact r8
  · rw [g (m + 4) (by omega) (by omega), iv_F hF.1 (by unfold PN; omega)]; exact r10
theorem Fq_mh2 {h h' : AH} {m : Nat} {p p' c c' : Nat → Int32} (hF : Fn m h h') : Fq (PR m) (mh h m p c) (mh h' m p' c') :=
  ⟨hF.1.1, hF.1.2.1, fun b hb => by
    have hb1 : b ≠ m + 1 ∧ b ≠ m + 3 ∧ ¬ PN m b := by unfold PR at hb; unfold PN; omega
    refine ⟨?_, (hF.1.2.2 b hb1.2.2).2⟩
    exact ((iv_mh h' m p' c' hb1.1 hb1.2.1).trans (hF.1.2.2 b hb1.2.2).1).trans (iv_mh h m p c hb1.1 hb1.2.1).symm⟩
theorem RR_ok2 {f : Option (Int32 × Nat × AH)} {h : AH} {m z : Nat} {w w' : Ac} {H : List Rec} {T : List Nat} {B : Nat} {v : Int32} (hR : RI h m (w, H, T)) (hT : TI (w, H, T) B)
    (K : ∀ h2, fX9_begins m z (wI h m 6 0) = some (z, h2) → RI h2 m (w, H, T) → iv h2 m 6 = 0 → ∃ p' h3, RF p' w'.1.1 w'.1.2.1 ∧ LM h3 m w'.2 ∧ Fn m h2 h3 ∧ ∀ h4, fX9_records m z (mh h3 m p' w'.1.2.2) = some (z, h4) → f = some (v, z, h4)) :
    RR f h m z (0, v, (w', pushH H (w.1.1, w.1.2.1), T)) := by
  obtain ⟨c1, c2, c3⟩ := RI_code hR 0
  obtain ⟨h2, v1, v2, v3, v4, v5⟩ := w9_begins hT.1.2 c1 z
  have e6 : iv h2 m 6 = 0 := by rw [v4]; exact c3
  obtain ⟨p', h3, k1, k2, k3, k4⟩ := K h2 v1 v2 e6
  have hR3 : RI (mh h3 m p' w'.1.2.2) m (w', H, T) := RI_op2 v2 k3 k1 k2
  have e5 : iv (mh h3 m p' w'.1.2.2) (m + 5) = iv h2 (m + 5) := (iv_mh _ _ _ _ (by omega) (by omega)).trans (iv_F k3.1 (by unfold PN; omega))
  obtain ⟨h4, u1, u2, u3, u4, u5⟩ := w9_records hR3 (r := (w.1.1, w.1.2.1)) (by rw [e5]; exact v5) z
  have hF2 : Fq (PR m) h2 (mh h3 m p' w'.1.2.2) := by
    have := Fq_mh2 (p := iv h2 (m + 1)) (c := w.1.2.2) (p' := p') (c' := w'.1.2.2) k3
    rw [← RI_mh v2] at this
    exact this
  refine ⟨v, h4, k4 h4 u1, fun _ => rfl, u2, ((c2.tr v3).tr hF2).tr u3, ?_⟩
  rw [u5 6 (by omega), iv_mh _ _ _ _ (by omega) (by omega), k3.2 6 (by omega) (by omega) (by omega) (by omega) (by omega) (by omega) (by omega), e6]; rfl
theorem RR_tr {f : Option (Int32 × Nat × AH)} {h h0 : AH} {m z : Nat} {o : Nat × Int32 × TS} (hF : Fq (PR m) h h0) (hR : RR f h0 m z o) : RR f h m z o := by
  obtain ⟨v, h', a, b, c, d, e⟩ := hR
  exact ⟨v, h', a, b, c, hF.tr d, e⟩
section DO
variable {h : AH} {m : Nat} {p : Nat → Int32} {w : Ac} {B : Nat}
/-- what a command comes to -/
def DO9 (f : Option (Int32 × Nat × AH)) (h : AH) (m z : Nat) (K : Nat) (S w : Ac) : Prop := ∃ p' h', f = some (if K = 0 then 1 else 0, z, mh h' m p' (if K = 0 then S else w).1.2.2) ∧ RF p' (if K = 0 then S else w).1.1 (if K = 0 then S else w).1.2.1 ∧ LM h' m (if K = 0 then S else w).2 ∧ Fm m h h'
theorem d9_mk {f : Option (Int32 × Nat × AH)} {z K : Nat} {S : Ac} (hR : RF p w.1.1 w.1.2.1) (hL : LM h m w.2) (h0 : K = 0 → ∃ p' h', f = some (1, z, mh h' m p' S.1.2.2) ∧ RF p' S.1.1 S.1.2.1 ∧ LM h' m S.2 ∧ Fm m h h') (h1 : K ≠ 0 → f = some (0, z, mh h m p w.1.2.2)) : DO9 f h m z K S w := by
  unfold DO9
  by_cases e : K = 0
  · simp only [if_pos e]
    exact h0 e
  · simp only [if_neg e]
    exact ⟨p, h, h1 e, hR, hL, Fm.rf m h⟩
theorem nk {n : Nat} (hn : n ≤ 2) (h : n ≠ 0) : (nI n = 0) = False := by rw [nI_0E (by omega)]; exact eq_false h
theorem k2A (q : Nat → Int32) (a : Int32) : kA q a ≤ 2 := by
  unfold kA
  repeat' split
  all_goals omega
theorem k2B (q : Nat → Int32) (a : Int32) : kB q a ≤ 2 := by
  unfold kB
  repeat' split
  all_goals omega
theorem k2F (q : Nat → Int32) (a : Int32) : kF q a ≤ 2 := by
  unfold kF
  repeat' split
  all_goals omega
theorem k2P (q : Nat → Int32) (a : Int32) : kP q a ≤ 2 := by
  unfold kP
  repeat' split
  all_goals omega
theorem k2Q (q : Nat → Int32) (a b : Int32) : kQ q a b ≤ 2 := by
  unfold kQ
  repeat' split
  all_goals omega
theorem k2L (q : Nat → Int32) (a b : Int32) : kL q a b ≤ 2 := by
  unfold kL
  repeat' split
  all_goals omega
theorem do97 (hM : MO h m) (hR : RF p w.1.1 w.1.2.1) (hQ : WS w B) (hL : LM h m w.2) (a b : Int32) (z : Nat) : DO9 (fX9_does m 97 a b z (mh h m p w.1.2.2)) h m z (kA w.1.1 a) (sA w a) w := by
  have x1 := r9_kA (MO_mh hM p w.1.2.2) (q := w.1.1) (by rw [ps_mh]; exact hR.1) a z
  have hk0 := hM.1
  refine d9_mk hR hL (fun e => ?_) (fun e => ?_)
  · obtain ⟨p', h', v1, v2, v3, v4⟩ := r1A hM hR hQ hL e z
    rw [e, nI_0] at x1
    exact ⟨p', h', by simp only [fX9_does, bX9_does_381, ↓gd, ↓reduceIte, kd_mh, hk0, ↓bb3 x1, ↓bb2 v1], v2, v3, v4⟩
  · have e1 := nk (k2A w.1.1 a) e
    simp only [fX9_does, bX9_does_381, ↓gd, ↓reduceIte, kd_mh, hk0, ↓bb3 x1, e1]
theorem do98 (hM : MO h m) (hR : RF p w.1.1 w.1.2.1) (hL : LM h m w.2) (a b : Int32) (z : Nat) : DO9 (fX9_does m 98 a b z (mh h m p w.1.2.2)) h m z (kB w.1.1 a) (sB w a) w := by
  have x1 := r9_kB (MO_mh hM p w.1.2.2) (q := w.1.1) (by rw [ps_mh]; exact hR.1) a z
  have hk0 := hM.1
  refine d9_mk hR hL (fun e => ?_) (fun e => ?_)
  · obtain ⟨p', h', v1, v2, v3, v4⟩ := r1B hM hR hL e z
    rw [e, nI_0] at x1
    exact ⟨p', h', by simp only [fX9_does, bX9_does_381, ↓gd, ↓reduceIte, dl_98_97, kd_mh, hk0, ↓bb3 x1, ↓bb2 v1], v2, v3, v4⟩
  · have e1 := nk (k2B w.1.1 a) e
    simp only [fX9_does, bX9_does_381, ↓gd, ↓reduceIte, dl_98_97, kd_mh, hk0, ↓bb3 x1, e1]
theorem do102 (hM : MO h m) (hR : RF p w.1.1 w.1.2.1) (hQ : WS w B) (hL : LM h m w.2) (a b : Int32) (z : Nat) : DO9 (fX9_does m 102 a b z (mh h m p w.1.2.2)) h m z (kF w.1.1 a) (sF w a) w := by
  have x1 := r9_kF (MO_mh hM p w.1.2.2) (q := w.1.1) (by rw [ps_mh]; exact hR.1) a z
  have hk0 := hM.1
  refine d9_mk hR hL (fun e => ?_) (fun e => ?_)
  · obtain ⟨p', h', v1, v2, v3, v4⟩ := r1F hM hR hQ hL e z
    rw [e, nI_0] at x1
    exact ⟨p', h', by simp only [fX9_does, bX9_does_381, ↓gd, ↓reduceIte, dl_102_97, dl_102_98, dl_102_99, dl_102_100, dl_102_101, kd_mh, hk0, ↓bb3 x1, ↓bb2 v1], v2, v3, v4⟩
  · have e1 := nk (k2F w.1.1 a) e
    simp only [fX9_does, bX9_does_381, ↓gd, ↓reduceIte, dl_102_97, dl_102_98, dl_102_99, dl_102_100, dl_102_101, kd_mh, hk0, ↓bb3 x1, e1]
theorem do112 (hM : MO h m) (hR : RF p w.1.1 w.1.2.1) (hQ : WS w B) (hL : LM h m w.2) (a b : Int32) (z : Nat) : DO9 (fX9_does m 112 a b z (mh h m p w.1.2.2)) h m z (kP w.1.1 a) (sP w a) w := by
  have x1 := r9_kP (MO_mh hM p w.1.2.2) (q := w.1.1) (by rw [ps_mh]; exact hR.1) a z
  have hk0 := hM.1
  refine d9_mk hR hL (fun e => ?_) (fun e => ?_)
  · obtain ⟨p', h', v1, v2, v3, v4⟩ := r1P hM hR hQ hL e z
    rw [e, nI_0] at x1
    exact ⟨p', h', by simp only [fX9_does, bX9_does_381, ↓gd, ↓reduceIte, dl_112_97, dl_112_98, dl_112_99, dl_112_100, dl_112_101, dl_112_102, dl_112_103, dl_112_104, dl_112_105, dl_112_106, dl_112_107, dl_112_108, dl_112_109, dl_112_110, dl_112_111, kd_mh, hk0, ↓bb3 x1, ↓bb2 v1], v2, v3, v4⟩
  · have e1 := nk (k2P w.1.1 a) e
    simp only [fX9_does, bX9_does_381, ↓gd, ↓reduceIte, dl_112_97, dl_112_98, dl_112_99, dl_112_100, dl_112_101, dl_112_102, dl_112_103, dl_112_104, dl_112_105, dl_112_106, dl_112_107, dl_112_108, dl_112_109, dl_112_110, dl_112_111, kd_mh, hk0, ↓bb3 x1, e1]
theorem do108 (hM : MO h m) (hR : RF p w.1.1 w.1.2.1) (hQ : WS w B) (hL : LM h m w.2) (a b : Int32) (z : Nat) : DO9 (fX9_does m 108 a b z (mh h m p w.1.2.2)) h m z (kL w.1.1 a b) (sL w a b) w := by
  have x1 := r9_kL (MO_mh hM p w.1.2.2) (q := w.1.1) (by rw [ps_mh]; exact hR.1) (by rw [ps_mh]; exact (hR.wq hQ.1).1) a b z
  have hk0 := hM.1
  refine d9_mk hR hL (fun e => ?_) (fun e => ?_)
  · obtain ⟨p', h', v1, v2, v3, v4⟩ := r1L hM hR hQ hL e z
    rw [e, nI_0] at x1
    exact ⟨p', h', by simp only [fX9_does, bX9_does_381, ↓gd, ↓reduceIte, dl_108_97, dl_108_98, dl_108_99, dl_108_100, dl_108_101, dl_108_102, dl_108_103, dl_108_104, dl_108_105, dl_108_106, dl_108_107, kd_mh, hk0, ↓bb3 x1, ↓bb2 v1], v2, v3, v4⟩
  · have e1 := nk (k2L w.1.1 a b) e
    simp only [fX9_does, bX9_does_381, ↓gd, ↓reduceIte, dl_108_97, dl_108_98, dl_108_99, dl_108_100, dl_108_101, dl_108_102, dl_108_103, dl_108_104, dl_108_105, dl_108_106, dl_108_107, kd_mh, hk0, ↓bb3 x1, e1]
theorem do113 (hM : MO h m) (hR : RF p w.1.1 w.1.2.1) (hQ : WS w B) (hL : LM h m w.2) (a b : Int32) (z : Nat) : DO9 (fX9_does m 113 a b z (mh h m p w.1.2.2)) h m z (kQ w.1.1 a b) (sQ w a b) w := by
  have x1 := r9_kQ (MO_mh hM p w.1.2.2) (q := w.1.1) (by rw [ps_mh]; exact hR.1) (by rw [ps_mh]; exact (hR.wq hQ.1).1) a b z
  have hk0 := hM.1
  refine d9_mk hR hL (fun e => ?_) (fun e => ?_)
  · obtain ⟨p', h', v1, v2, v3, v4⟩ := r1Q hM hR hQ hL e z
    rw [e, nI_0] at x1
    exact ⟨p', h', by simp only [fX9_does, bX9_does_381, ↓gd, ↓reduceIte, dl_113_97, dl_113_98, dl_113_99, dl_113_100, dl_113_101, dl_113_102, dl_113_103, dl_113_104, dl_113_105, dl_113_106, dl_113_107, dl_113_108, dl_113_109, dl_113_110, dl_113_111, dl_113_112, kd_mh, hk0, ↓bb3 x1, ↓bb2 v1], v2, v3, v4⟩
  · have e1 := nk (k2Q w.1.1 a b) e
    simp only [fX9_does, bX9_does_381, ↓gd, ↓reduceIte, dl_113_97, dl_113_98, dl_113_99, dl_113_100, dl_113_101, dl_113_102, dl_113_103, dl_113_104, dl_113_105, dl_113_106, dl_113_107, dl_113_108, dl_113_109, dl_113_110, dl_113_111, dl_113_112, kd_mh, hk0, ↓bb3 x1, e1]
theorem do100 (hB31 : B < 2 ^ 31) (hM : MO h m) (hR : RF p w.1.1 w.1.2.1) (hQ : WS w B) (hL : LM h m w.2) (a b : Int32) (z : Nat) : DO9 (fX9_does m 100 a b z (mh h m p w.1.2.2)) h m z (kD a) (sD w a) w := by
  have x1 := e9_in a 1 99 z (mh h m p w.1.2.2)
  have hk0 := hM.1
  refine d9_mk hR hL (fun e => ?_) (fun e => ?_)
  · obtain ⟨p', h', v1, v2, v3, v4⟩ := r1D hB31 hM hR hQ hL e z
    obtain ⟨c, c1, c2, c3⟩ := kD_0 e
    rw [show inI a 1 99 = true by rw [c3]; exact inI_1 c1 c2] at x1
    have hle := dlL_le (tn' a) w
    have e9 : (0 ≤ nI (dlL (tn' a) w).1) = True := eq_true (nI_pos' (by rw [c3, show tn' (nI c) = c from nI_clamp (by omega)] at hle; rw [c3, show tn' (nI c) = c from nI_clamp (by omega)]; omega))
    exact ⟨p', h', by simp only [fX9_does, bX9_does_340, bX9_does_355, bX9_does_379, bX9_does_381, ↓gd, ↓reduceIte, dl_100_97, dl_100_98, dl_100_99, kd_mh, hk0, ↓bb3 x1, ne10, ↓bb3 v1, e9], v2, v3, v4⟩
  · obtain ⟨e1, -⟩ := kD_1 e
    rw [e1] at x1
    simp only [fX9_does, bX9_does_340, bX9_does_355, bX9_does_381, ↓gd, ↓reduceIte, dl_100_97, dl_100_98, dl_100_99, ↓bb3 x1, Bool.false_eq_true, ne10]
theorem dt_loop {h : AH} {m : Nat} {q : Nat → Int32} (hM : MO h m) (hn : nord (ps h m) q) (a : Int32) (z : Nat) : ∀ (d k : Nat), k + d = 10 → ∀ fuel, d < fuel → lX9_does_103 fuel m a (nI k) z h = bX9_does_125 m a (nI (ff (fun t => !th q t) k d)) z h := by
  intro d
  have hk0 := hM.1
  induction d with
  | zero =>
    intro k hk fuel hf
    obtain rfl : k = 10 := by omega
    cases fuel with
    | zero => omega
    | succ fuel =>
      show lX9_does_103B _ _ _ _ _ _ = _
      simp (disch := omega) only [lX9_does_103B, li10, Int32.le_refl, ↓reduceIte]
      rfl
  | succ d ih =>
    intro k hk fuel hf
    cases fuel with
    | zero => omega
    | succ fuel =>
      have x1 := e9_isTask hM (nI k) z
      rw [tkI_nI (by omega), th_nord hn] at x1
      have h3 := ih (k + 1) (by omega) fuel (by omega)
      show lX9_does_103B _ _ _ _ _ _ = _
      cases hth : th q k
      · rw [hth] at x1
        have e : ff (fun t => !th q t) k (d + 1) = k := by unfold ff; simp [hth]
        rw [e]
        simp (disch := omega) only [lX9_does_103B, ↓gd, ↓bl, ↓on, ↓xr, ↓reduceIte, if_true, if_false, kd_wI, ln_wI, rv_wI, iv_wI, jv_wI, kd_wJ, ln_wJ, rv_wJ, iv_wJ, nI_clamp, nI_leE, nI_ltE, nI_eqE, m1_ne, bit_0, bit_1, nI_negE, leN_F, leN_T, ltN_F, ltN_T, eqN_F, or_false, false_or, or_true, true_or, not_false_eq_true, not_true_eq_false, and_true, true_and, and_false, false_and, li10, hk0, ↓bb3 x1, Bool.false_eq_true]
      · rw [hth] at x1
        have e : ff (fun t => !th q t) k (d + 1) = ff (fun t => !th q t) (k + 1) d := by rw [ff]; simp [hth]
        rw [e, ← h3]
        simp (disch := omega) only [lX9_does_103B, ↓gd, ↓bl, ↓on, ↓xr, ↓reduceIte, if_true, if_false, kd_wI, ln_wI, rv_wI, iv_wI, jv_wI, kd_wJ, ln_wJ, rv_wJ, iv_wJ, nI_clamp, nI_leE, nI_ltE, nI_eqE, m1_ne, bit_0, bit_1, nI_negE, leN_F, leN_T, ltN_F, ltN_T, eqN_F, or_false, false_or, or_true, true_or, not_false_eq_true, not_true_eq_false, and_true, true_and, and_false, false_and, li10, hk0, ↓bb3 x1, ne10, nI_1]
theorem do116 (hM : MO h m) (hR : RF p w.1.1 w.1.2.1) (hL : LM h m w.2) (a b : Int32) (z : Nat) : DO9 (fX9_does m 116 a b z (mh h m p w.1.2.2)) h m z (kC w.1.1 a) (sC w a) w := by
  have x0 : lX9_does_103 fu m a (nI 0) z (mh h m p w.1.2.2) = bX9_does_125 m a (nI (fq w.1.1)) z (mh h m p w.1.2.2) := dt_loop (MO_mh hM p w.1.2.2) (by rw [ps_mh]; exact hR.1) a z 10 0 (by omega) fu (by unfold fu; omega)
  rw [nI_0] at x0
  have x00 : fX9_does m 116 a b z (mh h m p w.1.2.2) = bX9_does_125 m a (nI (fq w.1.1)) z (mh h m p w.1.2.2) := by
    simp only [fX9_does, ↓reduceIte, dl_116_97, dl_116_98, dl_116_99, dl_116_100, dl_116_101, dl_116_102, dl_116_103, dl_116_104, dl_116_105, dl_116_106, dl_116_107, dl_116_108, dl_116_109, dl_116_110, dl_116_111, dl_116_112, dl_116_113, dl_116_114, dl_116_115, x0]
  rw [x00]
  have x1 := e9_in a 1 99 z (mh h m p w.1.2.2)
  have hf10 : fq w.1.1 ≤ 10 := by have := (ff_le (fun t => !th w.1.1 t) 10 0).1; unfold fq; omega
  refine d9_mk hR hL (fun hk => ?_) (fun hk => ?_)
  · obtain ⟨⟨c, c1, c2, c3⟩, hf⟩ := kC_0 hk
    rw [show inI a 1 99 = true by rw [c3]; exact inI_1 c1 c2] at x1
    have hth : th w.1.1 (fq w.1.1) = false := by
      have h9 := ff_c (fun t => !th w.1.1 t) 10 0 (by unfold fq at hf; omega)
      unfold fq
      simpa using h9
    refine ⟨crP p (fq w.1.1) a, h, ?_, RF_cr hR hth, hL, Fm.rf m h⟩
    have e10 : (nI (fq w.1.1) = 10) = False := eq_false (by rw [li10, nI_eqE (by omega) (by omega)]; omega)
    have e20 : ((20 : Int32) < 0) = False := eq_false (by decide)
    have i20 : Int32.toNatClampNeg 20 = 20 := by decide
    show _ = some (1, z, mh h m (crP p (fq w.1.1) a) w.1.2.2)
    generalize fq w.1.1 = t at *
    have q1 : upd (upd p (32 + 6 * t + 0) 1) (32 + 6 * t + 1) a 20 = p 20 := by simp (disch := omega) only [upd_s, eqN_F, if_false]
    have q2 : upd (upd (upd (upd (upd p (32 + 6 * t + 0) 1) (32 + 6 * t + 1) a) (32 + 6 * t + 2) (p 20)) (32 + 6 * t + 3) 0) (32 + 6 * t + 4) 0 20 = p 20 := by simp (disch := omega) only [upd_s, eqN_F, if_false]
    have y2 := fun P => e9_pu2 hM hf P w.1.2.2 (p 20) z
    obtain ⟨hkk, r0, -, -, -, -, -, -, -, -, kk1, -, -, -, -, -, -, -, -, ll1, -⟩ := id hM
    have y2' : fX9_puts m (nI t) 2 (iv (mh h m (upd (upd p (32 + 6 * t + 0) 1) (32 + 6 * t + 1) a) w.1.2.2) (m + 1) (Int32.toNatClampNeg 20)) z (mh h m (upd (upd p (32 + 6 * t + 0) 1) (32 + 6 * t + 1) a) w.1.2.2) = some (z, mh h m (upd (upd (upd p (32 + 6 * t + 0) 1) (32 + 6 * t + 1) a) (32 + 6 * t + 2) (p 20)) w.1.2.2) := by
      rw [i20, iv_mh1, q1]; exact y2 _
    simp (disch := omega) only [bX9_does_125, bX9_does_147, bX9_does_381, ↓gd, ↓bl, ↓reduceIte, ↓bb3 x1, ne10, e10, kd_mh, ln_mh, hkk, ↓bb2 (e9_pu0 hM hf _ _ _ _), ↓bb2 (e9_pu1 hM hf _ _ _ _), ↓brv_mh, ↓bb r0, kk1, ll1, e20, leN_F, i20, or_false, not_false_eq_true, ↓bb2 y2', ↓bb2 (e9_pu3 hM hf _ _ _ _), ↓bb2 (e9_pu4 hM hf _ _ _ _), iv_mh1, q2, mh_w1]
    rfl
  · rcases kC_12 hk with ⟨e1, ek⟩ | ⟨e1, e3, ek⟩
    · rw [e1] at x1
      simp (disch := omega) only [bX9_does_125, bX9_does_142, bX9_does_147, bX9_does_381, ↓gd, ↓bl, ↓reduceIte, ↓bb3 x1, Bool.false_eq_true, ne10]
    · rw [e1] at x1
      have e10 : (nI (fq w.1.1) = 10) = True := eq_true (by rw [e3]; rfl)
      simp (disch := omega) only [bX9_does_125, bX9_does_142, bX9_does_147, bX9_does_381, ↓gd, ↓bl, ↓reduceIte, ↓bb3 x1, ne10, e10]
theorem does9 {c : Nat} (hB31 : B < 2 ^ 31) (hM : MO h m) (hR : RF p w.1.1 w.1.2.1) (hQ : WS w B) (hL : LM h m w.2) (hc : na c ≠ 0) (a b : Int32) (z : Nat) : DO9 (fX9_does m (nI c) a b z (mh h m p w.1.2.2)) h m z (dK w.1.1 c a b) (dS w c a b) w := by
  rcases na_c hc with rfl | rfl | rfl | rfl | rfl | rfl | rfl | rfl
  · exact do97 hM hR hQ hL a b z
  · exact do98 hM hR hL a b z
  · exact do100 hB31 hM hR hQ hL a b z
  · exact do102 hM hR hQ hL a b z
  · exact do108 hM hR hQ hL a b z
  · exact do112 hM hR hQ hL a b z
  · exact do113 hM hR hQ hL a b z
  · exact do116 hM hR hL a b z
end DO
theorem RT_mh {h : AH} {m : Nat} {T : List Nat} {p c : Nat → Int32} (hX : RT h m T) : RT (mh h m p c) m T :=
  ⟨by rw [iv_mh _ _ _ _ (by omega) (by omega)]; exact hX.1, hX.2.1, fun i d hd => by rw [iv_mh _ _ _ _ (by omega) (by omega)]; exact hX.2.2 i d hd⟩
theorem r9_loop {m : Nat} {T : List Nat} (hT : ∀ c ∈ T, 32 ≤ c ∧ c ≤ 126) (hl : T.length ≤ 120) (z : Nat) : ∀ (n i : Nat) (w : Ac) (B : Nat), B + n < 2 ^ 31 → T.length ≤ i + n → i ≤ T.length → cF T (T.length - i) 0 0 i = -1 → WS w B → ∀ (h : AH) (p : Nat → Int32) (c fuel : Nat), n < fuel → MO h m → RT h m T → RF p w.1.1 w.1.2.1 → LM h m w.2 → iv h m 16 = nI i →
    ∃ p' h', lX9_run_37 fuel m (nI c) z (mh h m p w.1.2.2) = bd2 (fX9_records m z (mh h' m p' (rnA T n i w).2.1.2.2)) (fun z1 h1 => some (nI (c + (rnA T n i w).1), z1, h1)) ∧ RF p' (rnA T n i w).2.1.1 (rnA T n i w).2.1.2.1 ∧ LM h' m (rnA T n i w).2.2 ∧ Fn m h h' := by
  intro n
  induction n with
  | zero =>
    intro i w B hB h1 h2 hc hQ h p c fuel hf hM hX hR hL h16
    obtain rfl : i = T.length := by omega
    cases fuel with
    | zero => omega
    | succ fuel =>
      refine ⟨p, h, ?_, hR, hL, Fn.rf m h⟩
      have hk0 := hM.1
      have t1 := hX.1
      show lX9_run_37B _ _ _ _ _ = _
      simp (disch := omega) only [lX9_run_37B, ↓gd, ↓reduceIte, kd_mh, hk0, iv_mh, t1, h16, Int32.le_refl]
      rfl
  | succ n ih =>
    intro i w B hB h1 h2 hc hQ h p c fuel hf hM hX hR hL h16
    cases fuel with
    | zero => omega
    | succ fuel =>
      have hk0 := hM.1
      have t1 := hX.1
      rw [rnA_s]
      by_cases e : T.length ≤ i
      · rw [if_pos e]
        obtain rfl : i = T.length := by omega
        refine ⟨p, h, ?_, hR, hL, Fn.rf m h⟩
        show lX9_run_37B _ _ _ _ _ = _
        simp (disch := omega) only [lX9_run_37B, ↓gd, ↓reduceIte, kd_mh, hk0, iv_mh, t1, h16, Int32.le_refl]
        rfl
      · rw [if_neg e]
        have hil : i < T.length := by omega
        obtain ⟨c1, c2, c3⟩ := cF_ok hl hil hc
        obtain ⟨l1, l2⟩ := cmT_len c2
        have hMm := MO_mh hM p w.1.2.2
        have hXm := RT_mh (p := p) (c := w.1.2.2) hX
        have h16m : iv (mh h m p w.1.2.2) m 16 = nI i := by rw [iv_mh _ _ _ _ (by omega) (by omega)]; exact h16
        have x1 := e9_here hMm hXm (i := i) (by omega) z
        rw [show hrI T i = nI (ca T i) by unfold hrI; rw [if_pos hil]] at x1
        obtain ⟨hx, v1, v2, v3, v4⟩ := e9_cmd hT hMm hXm hil h16m z
        obtain ⟨h2', rfl, k2, k3⟩ := mh_back (P := fun b => b = m) (by omega) (by omega) v2.1
        have hF2 : Fp m h h2' := ⟨k2, fun j a b d => by
          rw [k3 m (by omega) (by omega), v2.2 j a b d, iv_mh _ _ _ _ (by omega) (by omega)]⟩
        obtain ⟨v5, v6⟩ := v4 c2
        rw [c2, if_pos rfl] at v1
        have g18 : ∀ S : Prop, (na (ca T i) = 2 → iv (mh h2' m p w.1.2.2) m 18 = nI (cmT T i).2.2.2) → True := fun _ _ => trivial
        have hM2 := hF2.M hM
        have hL2 : LM h2' m w.2 := by
          unfold LM at hL ⊢
          rw [hF2.2 7 (by omega) (by omega) (by omega), hF2.2 8 (by omega) (by omega) (by omega), hF2.2 9 (by omega) (by omega) (by omega)]; exact hL
        obtain ⟨p3, h3, w1, w2, w3, w4⟩ := does9 (c := ca T i) (by omega : B < 2 ^ 31) hM2 hR hQ hL2 c1 (nI (cmT T i).2.2.1) (iv (mh h2' m p w.1.2.2) m 18) z
        have ed : dK w.1.1 (ca T i) (nI (cmT T i).2.2.1) (iv (mh h2' m p w.1.2.2) m 18) = dK w.1.1 (ca T i) (nI (cmT T i).2.2.1) (nI (cmT T i).2.2.2) ∧ dS w (ca T i) (nI (cmT T i).2.2.1) (iv (mh h2' m p w.1.2.2) m 18) = dS w (ca T i) (nI (cmT T i).2.2.1) (nI (cmT T i).2.2.2) := by
          by_cases e2 : na (ca T i) = 2
          · rw [v6 e2]; exact ⟨rfl, rfl⟩
          · exact d_one c1 e2 _ _ _
        rw [ed.1, ed.2] at w1 w2 w3
        have ea : (if dK w.1.1 (ca T i) (nI (cmT T i).2.2.1) (nI (cmT T i).2.2.2) = 0 then dS w (ca T i) (nI (cmT T i).2.2.1) (nI (cmT T i).2.2.2) else w) = dA w (ca T i) (nI (cmT T i).2.2.1) (nI (cmT T i).2.2.2) := rfl
        rw [ea] at w1 w2 w3
        have hk2 := hM2.1
        have hFn : Fn m h h3 := (Fn.p hF2).tr (Fn.m w4)
        have g16 : iv h3 m 16 = nI (cmT T i).2.1 := by rw [w4.2 16 (by omega) (by omega) (by omega) (by omega), k3 m (by omega) (by omega)]; exact v3
        by_cases ek : dK w.1.1 (ca T i) (nI (cmT T i).2.2.1) (nI (cmT T i).2.2.2) = 0
        · obtain ⟨p', h', y1, y2, y3, y4⟩ := ih (cmT T i).2.1 _ (B + 1) (by omega) (by omega) l1 c3 (WS_dA (a := nI (cmT T i).2.2.1) (b := nI (cmT T i).2.2.2) (by omega) hQ c1) h3 p3 (c + 1) fuel (by omega) (hFn.M hM) (hFn.T hX) w2 w3 g16
          refine ⟨p', h', ?_, y2, y3, hFn.tr y4⟩
          rw [if_pos ek] at w1 ⊢
          rw [← Nat.add_assoc, ← y1]
          show lX9_run_37B _ _ _ _ _ = _
          simp (disch := omega) only [lX9_run_37B, bX9_run_89, ↓gd, ↓bl, ↓on, ↓xr, ↓reduceIte, if_true, if_false, kd_wI, ln_wI, rv_wI, iv_wI, jv_wI, kd_wJ, ln_wJ, rv_wJ, iv_wJ, nI_clamp, nI_leE, nI_ltE, nI_eqE, m1_ne, bit_0, bit_1, nI_negE, leN_F, leN_T, ltN_F, ltN_T, eqN_F, or_false, false_or, or_true, true_or, not_false_eq_true, not_true_eq_false, and_true, true_and, and_false, false_and, kd_mh, hk0, hk2, iv_mh, t1, h16, ↓bb3 x1, ↓bb3 v1, ne10]
          rw [← iv_mh h2' m p w.1.2.2 (b := m) (by omega) (by omega), v5, bb3 w1, if_neg (by decide), nI_1]
        · obtain ⟨p', h', y1, y2, y3, y4⟩ := ih (cmT T i).2.1 _ (B + 1) (by omega) (by omega) l1 c3 (WS_dA (a := nI (cmT T i).2.2.1) (b := nI (cmT T i).2.2.2) (by omega) hQ c1) h3 p3 c fuel (by omega) (hFn.M hM) (hFn.T hX) w2 w3 g16
          refine ⟨p', h', ?_, y2, y3, hFn.tr y4⟩
          rw [if_neg ek] at w1 ⊢
          rw [Nat.zero_add, ← y1]
          show lX9_run_37B _ _ _ _ _ = _
          simp (disch := omega) only [lX9_run_37B, bX9_run_88, bX9_run_89, ↓gd, ↓bl, ↓on, ↓xr, ↓reduceIte, if_true, if_false, kd_wI, ln_wI, rv_wI, iv_wI, jv_wI, kd_wJ, ln_wJ, rv_wJ, iv_wJ, nI_clamp, nI_leE, nI_ltE, nI_eqE, m1_ne, bit_0, bit_1, nI_negE, leN_F, leN_T, ltN_F, ltN_T, eqN_F, or_false, false_or, or_true, true_or, not_false_eq_true, not_true_eq_false, and_true, true_and, and_false, false_and, kd_mh, hk0, hk2, iv_mh, t1, h16, ↓bb3 x1, ↓bb3 v1, ne10]
          rw [← iv_mh h2' m p w.1.2.2 (b := m) (by omega) (by omega), v5, bb3 w1, if_pos rfl, Int32.add_zero]
theorem r_run {h : AH} {m z : Nat} {A : TS} {B : Nat} (hB : B + 120 < 2 ^ 31) (hR : RI h m A) (hT : TI A B) : RR (fX9_run m z h) h m z (aU A) := by
  obtain ⟨w, H, T⟩ := A
  obtain ⟨h0, f1, f2⟩ := e9_faultOf hT.2.2 hR.1 hR.tx z
  have hR0 := f2.I hR
  have hk0 := hR.1.1
  have hk1 := hR0.1.1
  have hl : T.length ≤ 120 := hR.tx.2.1
  have f1 : fX9_faultOf m z h = some (vFa T, z, h0) := f1
  refine RR_tr (Fp_R f2) ?_
  unfold aU
  rcases kU_c T with ⟨e, ek⟩ | ⟨e, ek⟩
  · rw [oU_0 ek]
    refine RR_ok2 hR0 hT (fun h2 v1 v2 v3 => ?_)
    have hX : wI h2 m 16 0 = mh (wI h2 m 16 0) m (iv h2 (m + 1)) w.1.2.2 := by
      have e1 : iv (wI h2 m 16 0) (m + 1) = iv h2 (m + 1) := iv_wI_ne _ _ _ (by omega)
      have e3 : iv (wI h2 m 16 0) (m + 3) = w.1.2.2 := by rw [iv_wI_ne _ _ _ (by omega)]; exact v2.2.2.1
      rw [← e1, ← e3, mh_id]
    have hF : Fp m h2 (wI h2 m 16 0) := Fp.w m h2 (by omega) _
    have hR2 := hF.I v2
    obtain ⟨p', h', y1, y2, y3, y4⟩ := r9_loop (T := T) hT.2.2 hl z T.length 0 w B (by omega) (by omega) (by omega) e hT.1 (wI h2 m 16 0) (iv h2 (m + 1)) 0 fu (by unfold fu; omega) hR2.1 hR2.tx v2.2.1 hR2.2.2.2.1 (by rw [iv_wI, if_pos rfl, if_pos rfl]; rfl)
    rw [← hX, nI_0, Nat.zero_add] at y1
    refine ⟨p', h', y2, y3, (Fn.p hF).tr y4, fun h4 k1 => ?_⟩
    have f1 : fX9_faultOf m z h = some (-1, z, h0) := by rw [f1, ← e]
    have g2 := v2.1.1
    rw [bb2 k1] at y1
    simp (disch := omega) only [fX9_run, bX9_run_14, ↓gd, ↓bl, ↓reduceIte, hk0, hk1, ↓bb3 f1, kd_wI, iv6, le00, ↓bb2 v1, g2]
    exact y1
  · rw [oU_1 (by show kU T ≠ 0; omega)]
    refine RR_code (v' := 0) hR0 (fun h9 => absurd h9 (by show kU T ≠ 0; omega)) ?_
    show _ = some (0, z, wI h0 m 6 (nI (kU T)))
    rw [ek]
    have e' : (vFa T = -1) = False := eq_false e
    simp (disch := omega) only [fX9_run, bX9_run_14, ↓gd, ↓bl, ↓reduceIte, hk0, hk1, ↓bb3 f1, e', kd_wI, iv6, li1E]
    rfl
