/-! the commands' bodies, the class -/
theorem CL_D {h h' : AH} {x : Nat} {w : Ac} {s : Ab} (hC : CL h x w) (hF : Fq (PD x) h h') (hS : CS h' x s) : CL h' x (s, w.2) := ⟨hS, LT_F hF (by unfold PD; omega) hC.2⟩
theorem PD_E {x : Nat} : ∀ b, PD x b → PE x b := fun b hb => by unfold PD at hb; unfold PE; omega
theorem c1C {h : AH} {x : Nat} {w : Ac} {B : Nat} {c : Int32} (hQ : WS w B) (hC : CL h x w) (hk : kC w.1.1 c = 0) (z : Nat) : ∃ h', fX0_enroll (x + 1) c z h = some (nI (fq w.1.1), z, h') ∧ Fq (PE x) h h' ∧ CL h' x (sC w c) := by
  obtain ⟨-, hf⟩ := kC_0 hk
  obtain ⟨h', v1, v2, v3⟩ := e0_enroll hQ.1.1 hC.1.2.1 hf c z
  have hF := Fq.fr v2 (PD_bk (x := x))
  exact ⟨h', v1, hF.mono PD_E, CL_D hC hF (CS_bk hC.1 v2 v3)⟩
theorem c1Q {h : AH} {x : Nat} {w : Ac} {B : Nat} {a b : Int32} (hQ : WS w B) (hC : CL h x w) (hk : kQ w.1.1 a b = 0) (z : Nat) : ∃ h', fX1_ask (x + 38) a b z h = some ((sQ w a b).1.1 (32 + 6 * tn' a + 4), z, h') ∧ Fq (PE x) h h' ∧ CL h' x (sQ w a b) := by
  obtain ⟨t, r, t1, r1, t2, r2, t3, t4, t5, r5⟩ := kQ_0 hk
  unfold sQ
  rw [t5, r5, t2, r2]
  obtain ⟨h', v1, v2, v3⟩ := w1_ask hQ.1 hC.1 t1 t3 t4 r1 z
  exact ⟨h', v1, v2.mono PD_E, CL_D hC v2 v3⟩
theorem c1L {h : AH} {x : Nat} {w : Ac} {B : Nat} {a b : Int32} (hQ : WS w B) (hC : CL h x w) (hk : kL w.1.1 a b = 0) (z : Nat) : ∃ h', fX1_giveBack (x + 38) a b z h = some (hb' (sL w a b).1.1 a, z, h') ∧ Fq (PE x) h h' ∧ CL h' x (sL w a b) := by
  obtain ⟨t, r, t1, r1, t2, r2, t3, t4, t5, r5⟩ := kL_0 hk
  unfold sL hb'
  rw [t5, r5, t2, r2]
  obtain ⟨h', v1, v2, v3⟩ := w1_giveBack hQ.1 hC.1 t1 t3 r1 t4 z
  exact ⟨h', v1, v2.mono PD_E, CL_D hC v2 v3⟩
theorem c1F {h : AH} {x : Nat} {w : Ac} {B : Nat} {a : Int32} (hQ : WS w B) (hC : CL h x w) (hk : kF w.1.1 a = 0) (z : Nat) : ∃ h', fX1_end (x + 38) a z h = some (hb' w.1.1 a, z, h') ∧ Fq (PE x) h h' ∧ CL h' x (sF w a) := by
  obtain ⟨t, t1, t2, t3, t4, t5⟩ := kF_0 hk
  unfold sF hb'
  rw [t5, t2]
  obtain ⟨h', v1, v2, v3⟩ := w1_end hQ.1 hC.1 t1 t3 (wt_0 t4 (by decide)) z
  exact ⟨h', v1, v2.mono PD_E, CL_D hC v2 v3⟩
theorem c1A {h : AH} {x : Nat} {w : Ac} {B : Nat} {a : Int32} (hQ : WS w B) (hC : CL h x w) (hk : kA w.1.1 a = 0) (z : Nat) : ∃ h', fX1_kill (x + 38) a z h = some (hb' w.1.1 a, z, h') ∧ Fq (PE x) h h' ∧ CL h' x (sA w a) := by
  obtain ⟨t, t1, t2, t3, t5⟩ := kA_0 hk
  unfold sA hb'
  rw [t5, t2]
  obtain ⟨h', v1, v2, v3⟩ := w1_kill hQ.1 hC.1 t1 t3 z
  exact ⟨h', v1, v2.mono PD_E, CL_D hC v2 v3⟩
theorem c1B {h : AH} {x : Nat} {w : Ac} {B : Nat} {a : Int32} (hQ : WS w B) (hC : CL h x w) (hk : kB w.1.1 a = 0) (z : Nat) : ∃ h', fX0_revive (x + 1) a z h = some (w.1.1 (32 + 6 * tn' a + 2), z, h') ∧ Fq (PE x) h h' ∧ CL h' x (sB w a) := by
  obtain ⟨t, t1, t2, t3, t4, t5⟩ := kB_0 hk
  unfold sB
  rw [t5, t2]
  obtain ⟨h', v1, v2, v3⟩ := e0_revive hQ.1.1 hC.1.2.1 t1 t3 (wt_0 t4 (by decide)) z
  have hF := Fq.fr v2 (PD_bk (x := x))
  exact ⟨h', v1, hF.mono PD_E, CL_D hC hF (CS_bk hC.1 v2 v3)⟩
theorem c1P {h : AH} {x : Nat} {w : Ac} {B : Nat} {a : Int32} (hQ : WS w B) (hC : CL h x w) (hk : kP w.1.1 a = 0) (z : Nat) : ∃ h', fX1_startProbe (x + 38) a z h = some ((sP w a).1.1 92, z, h') ∧ Fq (PE x) h h' ∧ CL h' x (sP w a) := by
  obtain ⟨t, t1, t2, t3, t4, t5⟩ := kP_0 hk
  unfold sP
  rw [t5, t2]
  obtain ⟨h', v1, v2, v3, -⟩ := w1_startProbe hQ.1 hC.1 t1 z
  exact ⟨h', v1, v2.mono PD_E, CL_D hC v2 v3⟩
theorem c1D {h : AH} {x : Nat} {w : Ac} {B : Nat} {a : Int32} (hB31 : B < 2 ^ 31) (hQ : WS w B) (hC : CL h x w) (hk : kD a = 0) (z : Nat) : ∃ h', fX1_deliverUpTo (x + 38) a z h = some (nI (dlL (tn' a) w).1, z, h') ∧ Fq (PE x) h h' ∧ CL h' x (sD w a) := by
  obtain ⟨c, c1, c2, rfl⟩ := kD_0 hk
  unfold sD
  rw [show tn' (nI c) = c from nI_clamp (by omega)]
  obtain ⟨h', v1, v2, v3, -⟩ := w1_deliverUpTo (n := c) hB31 (by omega) hQ.1 hC z
  exact ⟨h', v1, v2, v3⟩
/-! the reference's faults -/
theorem tkI_nord {p q : Nat → Int32} (h : nord p q) (x : Int32) : tkI p x = tkI q x := by unfold tkI; rw [th_nord h]
theorem rsI_nord {p q : Nat → Int32} (h : nord p q) (x : Int32) : rsI p x = rsI q x := by unfold rsI; rw [nr_nord h]
theorem e9_isRes {h : AH} {m : Nat} (hM : MO h m) (hW : WFr (ps h m)) (x : Int32) (z : Nat) : fX9_isResource m x z h = some (if rsI (ps h m) x then 1 else 0, z, h) := by
  have h0 : iv h (m + 1) 0 = nI (nr (ps h m)) := hW.1
  have hn := hW.2.1
  have key : inI x 0 (nI (nr (ps h m)) - 1) = rsI (ps h m) x := by
    by_cases e : x < 0
    · unfold rsI inI; simp [e]
    · obtain ⟨j, hj, rfl⟩ := nI_of e
      rw [rsI_nI hn hj]
      by_cases e0 : nr (ps h m) = 0
      · rw [e0]
        have e1 : nI 0 - 1 = -1 := by decide
        rw [e1]
        have e2 : (-1 : Int32) < nI j := by
          rw [Int32.lt_iff_toInt_lt, nI_toInt hj]
          have : (-1 : Int32).toInt = -1 := by decide
          omega
        unfold inI
        simp [e2]
      · have e1 : nI (nr (ps h m)) - 1 = nI (nr (ps h m) - 1) := by rw [show (1 : Int32) = nI 1 from rfl, pk_sub (by omega)]
        rw [e1, inI_nI hj (by omega)]
        by_cases e3 : j < nr (ps h m)
        · simp [e3]; omega
        · simp [e3]; omega
  obtain ⟨hk, r0, r1, r3, r4, r10, r11, r13, r14, r15, k1, k2, k3, k4, k5, k6, k7, k8, k9, l1, l2, l3, l4, l5, l6, l7, l8, l9⟩ := id hM
  simp (disch := omega) only [fX9_isResource, ↓gd, ↓reduceIte, ↓bb r0, ↓bb r1, ↓bb r3, ↓bb r4, ↓bb r10, ↓bb r11, ↓bb r13, ↓bb r14, ↓bb r15, hk, k1, k2, k3, k4, k5, k6, k7, k8, k9, l1, l2, l3, l4, l5, l6, l7, l8, l9, ix0, lt00, leN_F, or_false, not_false_eq_true, h0, ↓bb3 (e9_in _ _ _ _ _), key]
  cases rsI (ps h m) x <;> simp
theorem li2E : ((2 : Int32) ≤ 0) = False := eq_false (by decide)
theorem li1E : ((1 : Int32) ≤ 0) = False := eq_false (by decide)
section FLT
variable {h : AH} {m : Nat} {q : Nat → Int32}
theorem e9_isRun (hM : MO h m) (hn : nord (ps h m) q) (x : Int32) (z : Nat) : fX9_isRunning m x z h = some (if tkI q x && decide (stt q x = 0) then 1 else 0, z, h) := by
  have hk := hM.1
  have x1 := e9_isTask hM x z
  rw [tkI_nord hn] at x1
  unfold fX9_isRunning
  simp only [gd, hk, ↓reduceIte, bb3 x1]
  cases e : tkI q x
  · simp
  · obtain ⟨t, t1, rfl, t3, t4⟩ := tkI_of e
    have x2 := e9_of (w := 4) hM t1 (by omega) z
    rw [hn _ (by omega)] at x2
    unfold stt
    rw [t4]
    simp only [if_true, ne10, if_false, li4, bb3 x2]
    by_cases e2 : q (32 + 6 * t + 4) = 0
    · simp [e2]
    · simp [e2]
theorem r9_kQ (hM : MO h m) (hn : nord (ps h m) q) (hW : WFr (ps h m)) (x y : Int32) (z : Nat) : fX9_requestFault m x y z h = some (nI (kQ q x y), z, h) := by
  have hk := hM.1
  have x1 := e9_isTask hM x z
  rw [tkI_nord hn] at x1
  have x2 := e9_isRes hM hW y z
  rw [rsI_nord hn] at x2
  have x3 := e9_isRun hM hn x z
  unfold fX9_requestFault kQ
  simp only [gd, hk, ↓reduceIte, bb3 x1]
  cases e : tkI q x
  · simp; rfl
  · simp only [if_true, ne10, if_false, bb3 x2, Bool.true_and]
    cases e2 : rsI q y
    · simp; rfl
    · simp only [if_true, ne10, if_false, bb3 x3, e, Bool.true_and, hk]
      by_cases e3 : stt q x = 0
      · simp [e3]; rfl
      · simp [e3]; rfl
theorem r9_kL (hM : MO h m) (hn : nord (ps h m) q) (hW : WFr (ps h m)) (x y : Int32) (z : Nat) : fX9_releaseFault m x y z h = some (nI (kL q x y), z, h) := by
  have hk := hM.1
  have x1 := e9_isTask hM x z
  rw [tkI_nord hn] at x1
  have x2 := e9_isRes hM hW y z
  rw [rsI_nord hn] at x2
  unfold fX9_releaseFault kL
  simp only [gd, hk, ↓reduceIte, bb3 x1]
  cases e : tkI q x
  · simp; rfl
  · obtain ⟨t, t1, rfl, t3, t4⟩ := tkI_of e
    have x3 := e9_of (w := 3) hM t1 (by omega) z
    rw [hn _ (by omega)] at x3
    simp only [if_true, ne10, if_false, bb3 x2, Bool.true_and]
    cases e2 : rsI q y
    · simp; rfl
    · obtain ⟨r, r1, rfl, r3, r4⟩ := rsI_of e2
      rw [t4, r4]
      simp (disch := omega) only [if_true, ne10, if_false, li3, bb3 x3, bit_0, hk]
      cases bt (q (32 + 6 * t + 3)) r
      · simp; rfl
      · simp; rfl
theorem r9_kF (hM : MO h m) (hn : nord (ps h m) q) (x : Int32) (z : Nat) : fX9_finishFault m x z h = some (nI (kF q x), z, h) := by
  have hk := hM.1
  have x1 := e9_isTask hM x z
  rw [tkI_nord hn] at x1
  have x3 := e9_isRun hM hn x z
  unfold fX9_finishFault kF
  simp only [gd, hk, ↓reduceIte, bb3 x1]
  cases e : tkI q x
  · simp; rfl
  · simp only [if_true, ne10, if_false, bb3 x3, e, Bool.true_and]
    by_cases e3 : stt q x = 0
    · simp [e3]; rfl
    · simp [e3]; rfl
theorem r9_kA (hM : MO h m) (hn : nord (ps h m) q) (x : Int32) (z : Nat) : fX9_abortFault m x z h = some (nI (kA q x), z, h) := by
  have hk := hM.1
  have x1 := e9_isTask hM x z
  rw [tkI_nord hn] at x1
  unfold fX9_abortFault kA
  simp only [gd, hk, ↓reduceIte, bb3 x1]
  cases e : tkI q x
  · simp; rfl
  · obtain ⟨t, t1, rfl, t3, t4⟩ := tkI_of e
    have x3 := e9_of (w := 4) hM t1 (by omega) z
    rw [hn _ (by omega)] at x3
    unfold stt
    rw [t4]
    simp only [if_true, ne10, if_false, li4, bb3 x3]
    by_cases e3 : q (32 + 6 * t + 4) = 2
    · simp [e3]; rfl
    · simp [e3]; rfl
theorem r9_kB (hM : MO h m) (hn : nord (ps h m) q) (x : Int32) (z : Nat) : fX9_restartFault m x z h = some (nI (kB q x), z, h) := by
  have hk := hM.1
  have x1 := e9_isTask hM x z
  rw [tkI_nord hn] at x1
  unfold fX9_restartFault kB
  simp only [gd, hk, ↓reduceIte, bb3 x1]
  cases e : tkI q x
  · simp; rfl
  · obtain ⟨t, t1, rfl, t3, t4⟩ := tkI_of e
    have x3 := e9_of (w := 4) hM t1 (by omega) z
    rw [hn _ (by omega)] at x3
    unfold stt
    rw [t4]
    simp only [if_true, ne10, if_false, li4, bb3 x3]
    by_cases e3 : q (32 + 6 * t + 4) = 2
    · simp [e3]; rfl
    · simp [e3]; rfl
theorem r9_kP (hM : MO h m) (hn : nord (ps h m) q) (x : Int32) (z : Nat) : fX9_probeFault m x z h = some (nI (kP q x), z, h) := by
  have hk := hM.1
  have x1 := e9_isTask hM x z
  rw [tkI_nord hn] at x1
  have x3 := e9_isWaiting hM x z
  unfold fX9_probeFault kP
  simp only [gd, hk, ↓reduceIte, bb3 x1]
  cases e : tkI q x
  · simp; rfl
  · obtain ⟨t, t1, rfl, t3, t4⟩ := tkI_of e
    rw [wtI_nI t1, wt_nord hn] at x3
    unfold wt at x3
    rw [t3] at x3
    unfold stt
    rw [t4]
    simp only [if_true, ne10, if_false, bb3 x3, Bool.true_and, decide_eq_true_eq]
    by_cases e3 : q (32 + 6 * t + 4) = 1
    · simp [e3]; rfl
    · simp [e3]; rfl
end FLT
/-! the bodies, the reference -/
section BDY
variable {h : AH} {m : Nat} {p : Nat → Int32} {w : Ac} {B : Nat}
theorem r1Q {a b : Int32} (hM : MO h m) (hR : RF p w.1.1 w.1.2.1) (hQ : WS w B) (hL : LM h m w.2) (hk : kQ w.1.1 a b = 0) (z : Nat) : ∃ p' h', fX9_asks m a b z (mh h m p w.1.2.2) = some (z, mh h' m p' (sQ w a b).1.2.2) ∧ RF p' (sQ w a b).1.1 (sQ w a b).1.2.1 ∧ LM h' m (sQ w a b).2 ∧ Fm m h h' := by
  obtain ⟨t, r, t1, r1, t2, r2, t3, t4, t5, r5⟩ := kQ_0 hk
  unfold sQ
  rw [t5, r5, t2, r2]
  obtain ⟨p', v1, v2⟩ := w9_asks hM hR hQ.1 t1 t3 (wt_0 t4 (by decide)) r1 z
  exact ⟨p', h, v1, v2, hL, Fm.rf m h⟩
theorem r1L {a b : Int32} (hM : MO h m) (hR : RF p w.1.1 w.1.2.1) (hQ : WS w B) (hL : LM h m w.2) (hk : kL w.1.1 a b = 0) (z : Nat) : ∃ p' h', fX9_lets m a b z (mh h m p w.1.2.2) = some (z, mh h' m p' (sL w a b).1.2.2) ∧ RF p' (sL w a b).1.1 (sL w a b).1.2.1 ∧ LM h' m (sL w a b).2 ∧ Fm m h h' := by
  obtain ⟨t, r, t1, r1, t2, r2, t3, t4, t5, r5⟩ := kL_0 hk
  unfold sL
  rw [t5, r5, t2, r2]
  obtain ⟨p', v1, v2⟩ := w9_lets hM hR hQ.1 t1 (r := r) z
  exact ⟨p', h, v1, v2, hL, Fm.rf m h⟩
theorem r1F {a : Int32} (hM : MO h m) (hR : RF p w.1.1 w.1.2.1) (hQ : WS w B) (hL : LM h m w.2) (hk : kF w.1.1 a = 0) (z : Nat) : ∃ p' h', fX9_finishes m a z (mh h m p w.1.2.2) = some (z, mh h' m p' (sF w a).1.2.2) ∧ RF p' (sF w a).1.1 (sF w a).1.2.1 ∧ LM h' m (sF w a).2 ∧ Fm m h h' := by
  obtain ⟨t, t1, t2, t3, t4, t5⟩ := kF_0 hk
  unfold sF
  rw [t5, t2]
  obtain ⟨p', v1, v2⟩ := w9_finishes hM hR hQ.1 t1 (wt_0 t4 (by decide)) z
  exact ⟨p', h, v1, v2, hL, Fm.rf m h⟩
theorem r1A {a : Int32} (hM : MO h m) (hR : RF p w.1.1 w.1.2.1) (hQ : WS w B) (hL : LM h m w.2) (hk : kA w.1.1 a = 0) (z : Nat) : ∃ p' h', fX9_aborts m a z (mh h m p w.1.2.2) = some (z, mh h' m p' (sA w a).1.2.2) ∧ RF p' (sA w a).1.1 (sA w a).1.2.1 ∧ LM h' m (sA w a).2 ∧ Fm m h h' := by
  obtain ⟨t, t1, t2, t3, t5⟩ := kA_0 hk
  unfold sA
  rw [t5, t2]
  obtain ⟨p', v1, v2⟩ := w9_aborts hM hR hQ.1 t1 t3 z
  exact ⟨p', h, v1, v2, hL, Fm.rf m h⟩
theorem r1B {a : Int32} (hM : MO h m) (hR : RF p w.1.1 w.1.2.1) (hL : LM h m w.2) (hk : kB w.1.1 a = 0) (z : Nat) : ∃ p' h', fX9_puts m a 4 0 z (mh h m p w.1.2.2) = some (z, mh h' m p' (sB w a).1.2.2) ∧ RF p' (sB w a).1.1 (sB w a).1.2.1 ∧ LM h' m (sB w a).2 ∧ Fm m h h' := by
  obtain ⟨t, t1, t2, t3, t4, t5⟩ := kB_0 hk
  unfold sB
  rw [t5, t2]
  exact ⟨_, h, e9_pu4 hM t1 p _ 0 z, RF_rv hR (wt_0 t4 (by decide)), hL, Fm.rf m h⟩
theorem r1P {a : Int32} (hM : MO h m) (hR : RF p w.1.1 w.1.2.1) (hQ : WS w B) (hL : LM h m w.2) (hk : kP w.1.1 a = 0) (z : Nat) : ∃ p' h', fX9_starts m a z (mh h m p w.1.2.2) = some (z, mh h' m p' (sP w a).1.2.2) ∧ RF p' (sP w a).1.1 (sP w a).1.2.1 ∧ LM h' m (sP w a).2 ∧ Fm m h h' := by
  obtain ⟨t, t1, t2, t3, t4, t5⟩ := kP_0 hk
  unfold sP
  rw [t5, t2]
  obtain ⟨p', h', v1, v2, rfl⟩ := w9_starts hM hR hQ.1 t1 z
  refine ⟨p', _, v1, v2, ?_, (Fm.w6 m h _ _).tr (Fm.w0 m _ (Or.inr (Or.inr (Or.inr rfl))) _)⟩
  unfold LM
  simp (disch := omega) only [iv_wI, eqN_F, if_false, if_true]
  exact hL
theorem r1D {a : Int32} (hB31 : B < 2 ^ 31) (hM : MO h m) (hR : RF p w.1.1 w.1.2.1) (hQ : WS w B) (hL : LM h m w.2) (hk : kD a = 0) (z : Nat) : ∃ p' h', fX9_deliversUpTo m a z (mh h m p w.1.2.2) = some (nI (dlL (tn' a) w).1, z, mh h' m p' (sD w a).1.2.2) ∧ RF p' (sD w a).1.1 (sD w a).1.2.1 ∧ LM h' m (sD w a).2 ∧ Fm m h h' := by
  obtain ⟨c, c1, c2, rfl⟩ := kD_0 hk
  unfold sD
  rw [show tn' (nI c) = c from nI_clamp (by omega)]
  exact w9_deliversUpTo hM (n := c) hB31 (by omega) hR hQ.1 hL z
end BDY
