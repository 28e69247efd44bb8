/-! create, deliver, settings, undo -/
def aC (A : TS) (a : Int32) : Nat × Int32 × TS := oU (kC A.1.1.1 a) (nI (fq A.1.1.1)) (sC A.1 a) A
theorem kC_12 {q : Nat → Int32} {a : Int32} (h : kC q a ≠ 0) : (inI a 1 99 = false ∧ kC q a = 1) ∨ (inI a 1 99 = true ∧ fq q = 10 ∧ kC q a = 2) := by
  unfold kC at h ⊢
  by_cases e : inI a 1 99 = false
  · exact Or.inl ⟨e, by rw [if_pos e]⟩
  · rw [if_neg e] at h ⊢
    by_cases e2 : fq q = 10
    · exact Or.inr ⟨by simpa using e, e2, by rw [if_pos e2]⟩
    · rw [if_neg e2] at h; exact absurd rfl h
theorem inI_1 {c : Nat} (h1 : 1 ≤ c) (h2 : c ≤ 99) : inI (nI c) 1 99 = true := by
  unfold inI
  rw [decide_eq_true_eq, show (1 : Int32) = nI 1 from rfl, show (99 : Int32) = nI 99 from rfl, nI_ltE (by omega) (by omega), nI_ltE (by omega) (by omega)]
  omega
theorem c_create {h : AH} {x z : Nat} {A : TS} {B : Nat} (hC : CI h x z A) (hT : TI A B) (a : Int32) : CC (fX8_create x a z h) h x z (aC A a) eA eS := by
  obtain ⟨w, H, T⟩ := A
  have x1 := e8_isWithin a 1 99 z h
  have x3 := e0_freeNumber hC.2.2.1.1.2.1.1 hC.2.2.1.1.2.1.2.2.1 z
  simp only at x3
  have x3 : fX0_freeNumber (x + 1) z h = some (fn (fq w.1.1), z, h) := x3
  unfold aC
  by_cases hk : kC w.1.1 a = 0
  · rw [oU_0 hk]
    obtain ⟨⟨c, c1, c2, c3⟩, hf⟩ := kC_0 hk
    refine CC_ok hC hT (fun z1 h1 hk1 hC1 => ?_)
    obtain ⟨h2, v1, v2, v3⟩ := c1C hT.1 hC1.2.2.1 hk z1
    refine ⟨h2, ?_, v2, v3⟩
    have e1 : inI a 1 99 = true := by rw [c3]; exact inI_1 c1 c2
    have e2 : (fn (fq w.1.1) = -1) = False := by unfold fn; rw [if_neg (by omega)]; exact m1_ne (by omega)
    rw [e1] at x1
    obtain ⟨o1, o2, o3, o4, o5, o6, o7, o8, o9, o10, o11, o12, o13, o14, o15, o16⟩ := id hC.1
    have hB := hC.2.2.1.1.2.1.1
    have u1 := hB.1
    have u2 := hB.2.1
    have u3 := hB.2.2.2.2.2.2.2.2.2.1
    have u4 := hC.2.2.1.1.1.1
    obtain ⟨p1, p2, p3, p4, p5, p6, p7, p8, p9, p10, p11, p12, p13, p14, p15, p16⟩ := id hC1.1
    have hB1 := hC1.2.2.1.1.2.1.1
    have y1 := hB1.1
    have y2 := hB1.2.1
    have y3 := hB1.2.2.2.2.2.2.2.2.2.1
    have y4 := hC1.2.2.1.1.1.1
    simp (disch := omega) only [fX8_create, bX8_create_26, ↓gd, ↓bl, ↓xr, ↓reduceIte, o1, ↓bb o2, ↓bb o3, ↓bb o4, ↓bb o5, ↓bb o6, ↓bb o7, ↓bb o8, o9, ↓bb o10, o11, o12, o13, ↓bb o14, o15, o16, u1, ↓bb u2, u3, u4, ↓bb3 x1, ↓bb3 (nV1 _ _), ↓bb3 x3, e2, ↓bb3 (nS1 _ _), ↓bb2 hk1, p1, ↓bb p2, ↓bb p3, ↓bb p4, ↓bb p5, ↓bb p6, ↓bb p7, ↓bb p8, p9, ↓bb p10, p11, p12, p13, ↓bb p14, p15, p16, y1, ↓bb y2, y3, y4, ↓bb3 v1]
  · rw [oU_1 hk]
    refine CC_err hC hT ?_
    obtain ⟨o1, o2, o3, o4, o5, o6, o7, o8, o9, o10, o11, o12, o13, o14, o15, o16⟩ := id hC.1
    have hB := hC.2.2.1.1.2.1.1
    have u1 := hB.1
    have u2 := hB.2.1
    have u3 := hB.2.2.2.2.2.2.2.2.2.1
    have u4 := hC.2.2.1.1.1.1
    rcases kC_12 hk with ⟨e1, ek⟩ | ⟨e1, e3, ek⟩
    · rw [ek]
      rw [e1] at x1
      simp (disch := omega) only [fX8_create, ↓gd, ↓bl, ↓xr, ↓reduceIte, o1, ↓bb o2, ↓bb o3, ↓bb o4, ↓bb o5, ↓bb o6, ↓bb o7, ↓bb o8, o9, ↓bb o10, o11, o12, o13, ↓bb o14, o15, o16, u1, ↓bb u2, u3, u4, ↓bb3 x1, Bool.false_eq_true, ↓bb3 (nV0 _ _)]
      rfl
    · rw [ek]
      rw [e1] at x1
      have e2 : (fn (fq w.1.1) = -1) = True := by unfold fn; rw [if_pos e3]; exact eq_true rfl
      simp (disch := omega) only [fX8_create, bX8_create_26, ↓gd, ↓bl, ↓xr, ↓reduceIte, o1, ↓bb o2, ↓bb o3, ↓bb o4, ↓bb o5, ↓bb o6, ↓bb o7, ↓bb o8, o9, ↓bb o10, o11, o12, o13, ↓bb o14, o15, o16, u1, ↓bb u2, u3, u4, ↓bb3 x1, ↓bb3 (nV1 _ _), ↓bb3 x3, e2, ↓bb3 (nS0 _ _)]
      rfl
theorem cr_loop {h : AH} {m : Nat} {q : Nat → Int32} (hM : MO h m) (hn : nord (ps h m) q) (a : Int32) (z : Nat) : ∀ (d k : Nat), k + d = 10 → ∀ fuel, d < fuel → lX9_create_2 fuel m a (nI k) z h = bX9_create_22 m a (nI (ff (fun t => !th q t) k d)) z h := by
  intro d
  have hk0 := hM.1
  induction d with
  | zero =>
    intro k hk fuel hf
    obtain rfl : k = 10 := by omega
    cases fuel with
    | zero => omega
    | succ fuel =>
      show lX9_create_2B _ _ _ _ _ _ = _
      simp (disch := omega) only [lX9_create_2B, li10, Int32.le_refl, ↓reduceIte]
      rfl
  | succ d ih =>
    intro k hk fuel hf
    cases fuel with
    | zero => omega
    | succ fuel =>
      have x1 := e9_isTask hM (nI k) z
      rw [tkI_nI (by omega), th_nord hn] at x1
      have h3 := ih (k + 1) (by omega) fuel (by omega)
      show lX9_create_2B _ _ _ _ _ _ = _
      cases hth : th q k
      · rw [hth] at x1
        have e : ff (fun t => !th q t) k (d + 1) = k := by unfold ff; simp [hth]
        rw [e]
        simp (disch := omega) only [lX9_create_2B, ↓gd, ↓bl, ↓on, ↓xr, ↓reduceIte, if_true, if_false, kd_wI, ln_wI, rv_wI, iv_wI, jv_wI, kd_wJ, ln_wJ, rv_wJ, iv_wJ, nI_clamp, nI_leE, nI_ltE, nI_eqE, m1_ne, bit_0, bit_1, nI_negE, leN_F, leN_T, ltN_F, ltN_T, eqN_F, or_false, false_or, or_true, true_or, not_false_eq_true, not_true_eq_false, and_true, true_and, and_false, false_and, li10, hk0, ↓bb3 x1, Bool.false_eq_true]
      · rw [hth] at x1
        have e : ff (fun t => !th q t) k (d + 1) = ff (fun t => !th q t) (k + 1) d := by rw [ff]; simp [hth]
        rw [e, ← h3]
        simp (disch := omega) only [lX9_create_2B, ↓gd, ↓bl, ↓on, ↓xr, ↓reduceIte, if_true, if_false, kd_wI, ln_wI, rv_wI, iv_wI, jv_wI, kd_wJ, ln_wJ, rv_wJ, iv_wJ, nI_clamp, nI_leE, nI_ltE, nI_eqE, m1_ne, bit_0, bit_1, nI_negE, leN_F, leN_T, ltN_F, ltN_T, eqN_F, or_false, false_or, or_true, true_or, not_false_eq_true, not_true_eq_false, and_true, true_and, and_false, false_and, li10, hk0, ↓bb3 x1, ne10, nI_1]
theorem cr_chain (p : Nat → Int32) (t : Nat) (c : Int32) : upd (upd (upd (upd (upd (upd p (32 + 6 * t + 0) 1) (32 + 6 * t + 1) c) (32 + 6 * t + 2) (p 20)) (32 + 6 * t + 3) 0) (32 + 6 * t + 4) 0) 20 (p 20 + 1) = crP p t c := rfl
theorem r_create {h : AH} {m z : Nat} {A : TS} {B : Nat} (hR : RI h m A) (hT : TI A B) (a : Int32) : RR (fX9_create m a z h) h m z (aC A a) := by
  obtain ⟨w, H, T⟩ := A
  have hk0 := hR.1.1
  have x0 : fX9_create m a z h = bX9_create_22 m a (nI (fq w.1.1)) z h := cr_loop hR.1 hR.2.1.1 a z 10 0 (by omega) fu (by unfold fu; omega)
  have x1 := e9_in a 1 99 z h
  have hf10 : fq w.1.1 ≤ 10 := by have := (ff_le (fun t => !th w.1.1 t) 10 0).1; unfold fq; omega
  unfold aC
  by_cases hk : kC w.1.1 a = 0
  · rw [oU_0 hk]
    obtain ⟨⟨c, c1, c2, c3⟩, hf⟩ := kC_0 hk
    have e1 : inI a 1 99 = true := by rw [c3]; exact inI_1 c1 c2
    rw [e1] at x1
    have hth : th w.1.1 (fq w.1.1) = false := by
      have h9 := ff_c (fun t => !th w.1.1 t) 10 0 (by unfold fq at hf; omega)
      unfold fq
      simpa using h9
    refine RR_ok hR hT (fun h2 v1 v2 v3 => ?_)
    have e := RI_mh v2
    simp only at e
    refine ⟨crP (iv h2 (m + 1)) (fq w.1.1) a, h2, RF_cr v2.2.1 hth, v2.2.2.2.1, Fm.rf m h2, fun h4 k1 k2 k3 => ?_⟩
    have e10 : (nI (fq w.1.1) = 10) = False := eq_false (by rw [li10, nI_eqE (by omega) (by omega)]; omega)
    generalize hp : iv h2 (m + 1) = p at k1 k3 e
    have hM2 := v2.1
    have g0 := hM2.1
    have e20 : ((20 : Int32) < 0) = False := eq_false (by decide)
    have i20 : Int32.toNatClampNeg 20 = 20 := by decide
    have v1 : fX9_begins m z (wI h m 6 0) = some (z, mh h2 m p w.1.2.2) := by rw [← e]; exact v1
    have k1 : fX9_records m z (mh h2 m (crP p (fq w.1.1) a) w.1.2.2) = some (z, h4) := k1
    have q1 : upd (upd p (32 + 6 * fq w.1.1 + 0) 1) (32 + 6 * fq w.1.1 + 1) a 20 = p 20 := by simp (disch := omega) only [upd_s, eqN_F, if_false]
    have q2 : upd (upd (upd (upd (upd p (32 + 6 * fq w.1.1 + 0) 1) (32 + 6 * fq w.1.1 + 1) a) (32 + 6 * fq w.1.1 + 2) (p 20)) (32 + 6 * fq w.1.1 + 3) 0) (32 + 6 * fq w.1.1 + 4) 0 20 = p 20 := by simp (disch := omega) only [upd_s, eqN_F, if_false]
    rw [x0]
    have hM := hM2
    generalize fq w.1.1 = t at *
    have y2 := fun P => e9_pu2 hM hf P w.1.2.2 (p 20) z
    clear hT hR v2 x0 k3 hM2
    obtain ⟨hkk, r0, -, -, -, -, -, -, -, -, kk1, -, -, -, -, -, -, -, -, ll1, -⟩ := id hM
    have y2' : fX9_puts m (nI t) 2 (iv (mh h2 m (upd (upd p (32 + 6 * t + 0) 1) (32 + 6 * t + 1) a) w.1.2.2) (m + 1) (Int32.toNatClampNeg 20)) z (mh h2 m (upd (upd p (32 + 6 * t + 0) 1) (32 + 6 * t + 1) a) w.1.2.2) = some (z, mh h2 m (upd (upd (upd p (32 + 6 * t + 0) 1) (32 + 6 * t + 1) a) (32 + 6 * t + 2) (p 20)) w.1.2.2) := by
      rw [i20, iv_mh1, q1]; exact y2 _
    have k1' : fX9_records m z (wI (mh h2 m (upd (upd (upd (upd (upd p (32 + 6 * t + 0) 1) (32 + 6 * t + 1) a) (32 + 6 * t + 2) (p 20)) (32 + 6 * t + 3) 0) (32 + 6 * t + 4) 0) w.1.2.2) (m + 1) (Int32.toNatClampNeg 20) (iv (mh h2 m (upd (upd (upd (upd (upd p (32 + 6 * t + 0) 1) (32 + 6 * t + 1) a) (32 + 6 * t + 2) (p 20)) (32 + 6 * t + 3) 0) (32 + 6 * t + 4) 0) w.1.2.2) (m + 1) (Int32.toNatClampNeg 20) + 1)) = some (z, h4) := by
      rw [i20, iv_mh1, q2, mh_w1]; exact k1
    simp (disch := omega) only [bX9_create_22, bX9_create_48, ↓gd, ↓bl, ↓reduceIte, ↓bb3 x1, ne10, e10, hk0, kd_wI, iv6, le00, ↓bb2 v1, kd_mh, ln_mh, hkk, ↓bb2 (e9_pu0 hM hf _ _ _ _), ↓bb2 (e9_pu1 hM hf _ _ _ _), ↓brv_mh, ↓bb r0, kk1, ll1, e20, leN_F, i20, or_false, not_false_eq_true, ↓bb2 y2', ↓bb2 (e9_pu3 hM hf _ _ _ _), ↓bb2 (e9_pu4 hM hf _ _ _ _), ↓bb2 k1']
  · rw [oU_1 hk]
    refine RR_code (v' := 0) hR (fun h9 => absurd h9 hk) ?_
    rw [x0]
    rcases kC_12 hk with ⟨e1, ek⟩ | ⟨e1, e3, ek⟩
    · rw [e1] at x1
      simp (disch := omega) only [bX9_create_22, bX9_create_48, ↓gd, ↓bl, ↓reduceIte, ↓bb3 x1, Bool.false_eq_true, hk0, kd_wI, iv6, li1E, ek]
      rfl
    · rw [e1] at x1
      have e10 : (nI (fq w.1.1) = 10) = True := eq_true (by rw [e3]; rfl)
      simp (disch := omega) only [bX9_create_22, bX9_create_48, ↓gd, ↓bl, ↓reduceIte, ↓bb3 x1, ne10, e10, hk0, kd_wI, iv6, li2E, ek]
      rfl
/-! deliver -/
def aD (A : TS) (a : Int32) : Nat × Int32 × TS := oU (kD a) (nI (dlL (tn' a) A.1).1) (sD A.1 a) A
theorem kD_1 {a : Int32} (h : kD a ≠ 0) : inI a 1 99 = false ∧ kD a = 1 := by
  unfold kD at h ⊢
  by_cases e : inI a 1 99 = false
  · exact ⟨e, by rw [if_pos e]⟩
  · rw [if_neg e] at h; exact absurd rfl h
theorem c_deliver {h : AH} {x z : Nat} {A : TS} {B : Nat} (hB31 : B < 2 ^ 31) (hC : CI h x z A) (hT : TI A B) (a : Int32) : CC (fX8_deliver x a z h) h x z (aD A a) eA eS := by
  obtain ⟨w, H, T⟩ := A
  have x1 := e8_isWithin a 1 99 z h
  unfold aD
  by_cases hk : kD a = 0
  · rw [oU_0 hk]
    obtain ⟨c, c1, c2, c3⟩ := kD_0 hk
    refine CC_ok hC hT (fun z1 h1 hk1 hC1 => ?_)
    obtain ⟨h2, v1, v2, v3⟩ := c1D hB31 hT.1 hC1.2.2.1 hk z1
    refine ⟨h2, ?_, v2, v3⟩
    have e1 : inI a 1 99 = true := by rw [c3]; exact inI_1 c1 c2
    rw [e1] at x1
    obtain ⟨o1, o2, o3, o4, o5, o6, o7, o8, o9, o10, o11, o12, o13, o14, o15, o16⟩ := id hC.1
    have hB := hC.2.2.1.1.2.1.1
    have u1 := hB.1
    have u2 := hB.2.1
    have u3 := hB.2.2.2.2.2.2.2.2.2.1
    have u4 := hC.2.2.1.1.1.1
    obtain ⟨p1, p2, p3, p4, p5, p6, p7, p8, p9, p10, p11, p12, p13, p14, p15, p16⟩ := id hC1.1
    have hB1 := hC1.2.2.1.1.2.1.1
    have y1 := hB1.1
    have y2 := hB1.2.1
    have y3 := hB1.2.2.2.2.2.2.2.2.2.1
    have y4 := hC1.2.2.1.1.1.1
    simp (disch := omega) only [fX8_deliver, ↓gd, ↓bl, ↓xr, ↓reduceIte, o1, ↓bb o2, ↓bb o3, ↓bb o4, ↓bb o5, ↓bb o6, ↓bb o7, ↓bb o8, o9, ↓bb o10, o11, o12, o13, ↓bb o14, o15, o16, u1, ↓bb u2, u3, u4, ↓bb3 x1, ↓bb3 (nV1 _ _), ↓bb2 hk1, p1, ↓bb p2, ↓bb p3, ↓bb p4, ↓bb p5, ↓bb p6, ↓bb p7, ↓bb p8, p9, ↓bb p10, p11, p12, p13, ↓bb p14, p15, p16, y1, ↓bb y2, y3, y4, ↓bb3 v1]
  · rw [oU_1 hk]
    refine CC_err hC hT ?_
    obtain ⟨o1, o2, o3, o4, o5, o6, o7, o8, o9, o10, o11, o12, o13, o14, o15, o16⟩ := id hC.1
    have hB := hC.2.2.1.1.2.1.1
    have u1 := hB.1
    have u2 := hB.2.1
    have u3 := hB.2.2.2.2.2.2.2.2.2.1
    have u4 := hC.2.2.1.1.1.1
    obtain ⟨e1, ek⟩ := kD_1 hk
    rw [ek]
    rw [e1] at x1
    simp (disch := omega) only [fX8_deliver, ↓gd, ↓bl, ↓xr, ↓reduceIte, o1, ↓bb o2, ↓bb o3, ↓bb o4, ↓bb o5, ↓bb o6, ↓bb o7, ↓bb o8, o9, ↓bb o10, o11, o12, o13, ↓bb o14, o15, o16, u1, ↓bb u2, u3, u4, ↓bb3 x1, Bool.false_eq_true, ↓bb3 (nV0 _ _)]
    rfl
theorem r_deliver {h : AH} {m z : Nat} {A : TS} {B : Nat} (hB31 : B < 2 ^ 31) (hR : RI h m A) (hT : TI A B) (a : Int32) : RR (fX9_deliver m a z h) h m z (aD A a) := by
  obtain ⟨w, H, T⟩ := A
  have hk0 := hR.1.1
  have x1 := e9_in a 1 99 z h
  unfold aD
  by_cases hk : kD a = 0
  · rw [oU_0 hk]
    obtain ⟨c, c1, c2, c3⟩ := kD_0 hk
    have e1 : inI a 1 99 = true := by rw [c3]; exact inI_1 c1 c2
    rw [e1] at x1
    refine RR_ok hR hT (fun h2 v1 v2 v3 => ?_)
    obtain ⟨p', h3, u1, u2, u3, u4⟩ := r1D hB31 v2.1 v2.2.1 hT.1 v2.2.2.2.1 hk z
    have e := RI_mh v2
    simp only at u1 e
    rw [← e] at u1
    refine ⟨p', h3, u2, u3, u4, fun h4 k1 k2 k3 => ?_⟩
    have g2 := v2.1.1
    have g3 : kd (mh h3 m p' (sD w a).1.2.2) m = 10 := (MO_mh (u4.M v2.1) p' (sD w a).1.2.2).1
    simp (disch := omega) only [fX9_deliver, bX9_deliver_16, ↓gd, ↓bl, ↓reduceIte, ↓bb3 x1, ne10, hk0, kd_wI, iv6, le00, ↓bb2 v1, g2, ↓bb3 u1, g3, ↓bb2 k1]
  · rw [oU_1 hk]
    refine RR_code (v' := 0) hR (fun h9 => absurd h9 hk) ?_
    obtain ⟨e1, ek⟩ := kD_1 hk
    rw [e1] at x1
    simp (disch := omega) only [fX9_deliver, bX9_deliver_16, ↓gd, ↓bl, ↓reduceIte, ↓bb3 x1, Bool.false_eq_true, hk0, kd_wI, iv6, li1E, ek]
    rfl
