theorem kF_12 {q : Nat → Int32} {a : Int32} (h : kF q a ≠ 0) : (tkI q a = false ∧ kF q a = 1) ∨ (tkI q a = true ∧ ¬ stt q a = 0 ∧ kF q a = 2) := by
  unfold kF at h ⊢
  by_cases e : tkI q a = false
  · exact Or.inl ⟨e, by rw [if_pos e]⟩
  · rw [if_neg e] at h ⊢
    have e' : tkI q a = true := by simpa using e
    by_cases e2 : stt q a = 0
    · rw [if_pos e2] at h; exact absurd rfl h
    · exact Or.inr ⟨e', e2, by rw [if_neg e2]⟩
def aF (A : TS) (a : Int32) : Nat × Int32 × TS := oU (kF A.1.1.1 a) (hb' A.1.1.1 a) (sF A.1 a) A
theorem c_finish {h : AH} {x z : Nat} {A : TS} {B : Nat} (hC : CI h x z A) (hT : TI A B) (a : Int32) : CC (fX8_finish x a z h) h x z (aF A a) eB eS := by
  obtain ⟨w, H, T⟩ := A
  have x1 := e0_has hC.2.2.1.1.2.1.1 hC.2.2.1.1.2.1.2.2.1 a z
  have x3 := e0_isIn hC.2.2.1.1.2.1.1 hC.2.2.1.1.2.1.2.2.1 a 0 z
  simp only at x1 x3
  unfold aF
  by_cases hk : kF w.1.1 a = 0
  · rw [oU_0 hk]
    obtain ⟨t, t1, t2, t3, t4, t5⟩ := kF_0 hk
    refine CC_ok hC hT (fun z1 h1 hk1 hC1 => ?_)
    obtain ⟨h2, v1, v2, v3⟩ := c1F hT.1 hC1.2.2.1 hk z1
    refine ⟨h2, ?_, v2, v3⟩
    have e1 : tkI w.1.1 a = true := by rw [t2, tkI_nI t1, t3]
    have e3 : w.1.1 (32 + 6 * a.toNatClampNeg + 4) = 0 := by rw [show a.toNatClampNeg = t from t5]; exact t4
    rw [e1] at x1 x3
    rw [e3] at x3
    simp only [if_true, Bool.true_and, decide_true] at x1 x3
    obtain ⟨o1, o2, o3, o4, o5, o6, o7, o8, o9, o10, o11, o12, o13, o14, o15, o16⟩ := id hC.1
    have hB := hC.2.2.1.1.2.1.1
    have u1 := hB.1
    have u2 := hB.2.1
    have u3 := hB.2.2.2.2.2.2.2.2.2.1
    have u4 := hC.2.2.1.1.1.1
    obtain ⟨p1, p2, p3, p4, p5, p6, p7, p8, p9, p10, p11, p12, p13, p14, p15, p16⟩ := id hC1.1
    have hB1 := hC1.2.2.1.1.2.1.1
    have y1 := hB1.1
    have y2 := hB1.2.1
    have y3 := hB1.2.2.2.2.2.2.2.2.2.1
    have y4 := hC1.2.2.1.1.1.1
    simp (disch := omega) only [fX8_finish, ↓gd, ↓bl, ↓xr, ↓reduceIte, o1, ↓bb o2, ↓bb o3, ↓bb o4, ↓bb o5, ↓bb o6, ↓bb o7, ↓bb o8, o9, ↓bb o10, o11, o12, o13, ↓bb o14, o15, o16, u1, ↓bb u2, u3, u4, ↓bb3 x1, ne10, ↓bb3 (nT1 _ _), ↓bb3 x3, ↓bb3 (nS1 _ _), ↓bb2 hk1, p1, ↓bb p2, ↓bb p3, ↓bb p4, ↓bb p5, ↓bb p6, ↓bb p7, ↓bb p8, p9, ↓bb p10, p11, p12, p13, ↓bb p14, p15, p16, y1, ↓bb y2, y3, y4, ↓bb3 v1]
  · rw [oU_1 hk]
    refine CC_err hC hT ?_
    obtain ⟨o1, o2, o3, o4, o5, o6, o7, o8, o9, o10, o11, o12, o13, o14, o15, o16⟩ := id hC.1
    have hB := hC.2.2.1.1.2.1.1
    have u1 := hB.1
    have u2 := hB.2.1
    have u3 := hB.2.2.2.2.2.2.2.2.2.1
    have u4 := hC.2.2.1.1.1.1
    rcases kF_12 hk with ⟨e1, ek⟩ | ⟨e1, e3, ek⟩
    · rw [ek]
      rw [e1] at x1
      simp (disch := omega) only [fX8_finish, ↓gd, ↓bl, ↓xr, ↓reduceIte, o1, ↓bb o2, ↓bb o3, ↓bb o4, ↓bb o5, ↓bb o6, ↓bb o7, ↓bb o8, o9, ↓bb o10, o11, o12, o13, ↓bb o14, o15, o16, u1, ↓bb u2, u3, u4, ↓bb3 x1, Bool.false_eq_true, ↓bb3 (nT0 _ _)]
      rfl
    · rw [ek]
      rw [e1] at x1 x3
      unfold stt at e3
      simp only [e3, if_true, Bool.true_and, decide_true, decide_false, Bool.false_eq_true, if_false] at x1 x3
      simp (disch := omega) only [fX8_finish, ↓gd, ↓bl, ↓xr, ↓reduceIte, o1, ↓bb o2, ↓bb o3, ↓bb o4, ↓bb o5, ↓bb o6, ↓bb o7, ↓bb o8, o9, ↓bb o10, o11, o12, o13, ↓bb o14, o15, o16, u1, ↓bb u2, u3, u4, ↓bb3 x1, ne10, ↓bb3 (nT1 _ _), ↓bb3 x3, ↓bb3 (nS0 _ _)]
      rfl
theorem r_finish {h : AH} {m z : Nat} {A : TS} {B : Nat} (hR : RI h m A) (hT : TI A B) (a : Int32) : RR (fX9_finish m a z h) h m z (aF A a) := by
  obtain ⟨w, H, T⟩ := A
  have x1 := r9_kF hR.1 hR.2.1.1 a z
  have hk0 := hR.1.1
  simp only at x1
  unfold aF
  by_cases hk : kF w.1.1 a = 0
  · rw [oU_0 hk]
    rw [hk, nI_0] at x1
    refine RR_ok hR hT (fun h2 v1 v2 v3 => ?_)
    obtain ⟨p', h3, u1, u2, u3, u4⟩ := r1F v2.1 v2.2.1 hT.1 v2.2.2.2.1 hk z
    have e := RI_mh v2
    simp only at u1 e
    rw [← e] at u1
    refine ⟨p', h3, u2, u3, u4, fun h4 k1 k2 k3 => ?_⟩
    obtain ⟨t, t1, t2, t3, t4, t5⟩ := kF_0 hk
    have g2 := v2.1.1
    have g3 : kd (mh h3 m p' (sF w a).1.2.2) m = 10 := (MO_mh (u4.M v2.1) p' (sF w a).1.2.2).1
    have g4 := k2.1
    have y1 := e9_of (w := 3) v2.1 t1 (by omega) z
    rw [show ps h2 m (32 + 6 * t + 3) = w.1.1 (32 + 6 * t + 3) from v2.2.1.1 _ (by omega), ← t2] at y1
    have y1 : fX9_of m a 3 z h2 = some (w.1.1 (32 + 6 * t + 3), z, h2) := y1
    have y2 := e9_bits (w.1.1 (32 + 6 * t + 3)) z h2
    unfold hb'
    rw [t5]
    simp (disch := omega) only [fX9_finish, ↓gd, ↓bl, ↓reduceIte, hk0, ↓bb3 x1, iv6, le00, ↓bb2 v1, g2, ↓bb3 y1, ↓bb3 y2, ↓bb2 u1, g3, ↓bb2 k1, g4]
  · rw [oU_1 hk]
    refine RR_code (v' := 0) hR (fun h9 => absurd h9 hk) ?_
    have e : (nI (kF w.1.1 a) ≤ 0) = False := eq_false (by
      have : kF w.1.1 a ≤ 2 := by rcases kF_12 hk with ⟨-, e⟩ | ⟨-, -, e⟩ <;> omega
      rw [le0E (by omega)]; omega)
    simp (disch := omega) only [fX9_finish, ↓gd, ↓bl, ↓reduceIte, hk0, ↓bb3 x1, iv6, e]
theorem kA_12 {q : Nat → Int32} {a : Int32} (h : kA q a ≠ 0) : (tkI q a = false ∧ kA q a = 1) ∨ (tkI q a = true ∧ stt q a = 2 ∧ kA q a = 2) := by
  unfold kA at h ⊢
  by_cases e : tkI q a = false
  · exact Or.inl ⟨e, by rw [if_pos e]⟩
  · rw [if_neg e] at h ⊢
    have e' : tkI q a = true := by simpa using e
    by_cases e2 : stt q a = 2
    · exact Or.inr ⟨e', e2, by rw [if_pos e2]⟩
    · rw [if_neg e2] at h; exact absurd rfl h
def aA (A : TS) (a : Int32) : Nat × Int32 × TS := oU (kA A.1.1.1 a) (hb' A.1.1.1 a) (sA A.1 a) A
theorem c_abort {h : AH} {x z : Nat} {A : TS} {B : Nat} (hC : CI h x z A) (hT : TI A B) (a : Int32) : CC (fX8_abort x a z h) h x z (aA A a) eB eS := by
  obtain ⟨w, H, T⟩ := A
  have x1 := e0_has hC.2.2.1.1.2.1.1 hC.2.2.1.1.2.1.2.2.1 a z
  have x3 := e0_isIn hC.2.2.1.1.2.1.1 hC.2.2.1.1.2.1.2.2.1 a 2 z
  simp only at x1 x3
  unfold aA
  by_cases hk : kA w.1.1 a = 0
  · rw [oU_0 hk]
    obtain ⟨t, t1, t2, t3, t5⟩ := kA_0 hk
    refine CC_ok hC hT (fun z1 h1 hk1 hC1 => ?_)
    obtain ⟨h2, v1, v2, v3⟩ := c1A hT.1 hC1.2.2.1 hk z1
    refine ⟨h2, ?_, v2, v3⟩
    have e1 : tkI w.1.1 a = true := by rw [t2, tkI_nI t1, t3]
    have e3 : ¬ w.1.1 (32 + 6 * a.toNatClampNeg + 4) = 2 := fun h9 => by
      unfold kA at hk
      rw [if_neg (by rw [e1]; simp), if_pos (show stt w.1.1 a = 2 from h9)] at hk
      omega
    rw [e1] at x1 x3
    simp only [if_true, Bool.true_and, decide_eq_true_eq, e3, if_false] at x1 x3
    obtain ⟨o1, o2, o3, o4, o5, o6, o7, o8, o9, o10, o11, o12, o13, o14, o15, o16⟩ := id hC.1
    have hB := hC.2.2.1.1.2.1.1
    have u1 := hB.1
    have u2 := hB.2.1
    have u3 := hB.2.2.2.2.2.2.2.2.2.1
    have u4 := hC.2.2.1.1.1.1
    obtain ⟨p1, p2, p3, p4, p5, p6, p7, p8, p9, p10, p11, p12, p13, p14, p15, p16⟩ := id hC1.1
    have hB1 := hC1.2.2.1.1.2.1.1
    have y1 := hB1.1
    have y2 := hB1.2.1
    have y3 := hB1.2.2.2.2.2.2.2.2.2.1
    have y4 := hC1.2.2.1.1.1.1
    simp (disch := omega) only [fX8_abort, bX8_abort_28, ↓gd, ↓bl, ↓xr, ↓reduceIte, o1, ↓bb o2, ↓bb o3, ↓bb o4, ↓bb o5, ↓bb o6, ↓bb o7, ↓bb o8, o9, ↓bb o10, o11, o12, o13, ↓bb o14, o15, o16, u1, ↓bb u2, u3, u4, ↓bb3 x1, ne10, ↓bb3 (nT1 _ _), ↓bb3 x3, ↓bb3 (nS1 _ _), ↓bb2 hk1, p1, ↓bb p2, ↓bb p3, ↓bb p4, ↓bb p5, ↓bb p6, ↓bb p7, ↓bb p8, p9, ↓bb p10, p11, p12, p13, ↓bb p14, p15, p16, y1, ↓bb y2, y3, y4, ↓bb3 v1]
  · rw [oU_1 hk]
    refine CC_err hC hT ?_
    obtain ⟨o1, o2, o3, o4, o5, o6, o7, o8, o9, o10, o11, o12, o13, o14, o15, o16⟩ := id hC.1
    have hB := hC.2.2.1.1.2.1.1
    have u1 := hB.1
    have u2 := hB.2.1
    have u3 := hB.2.2.2.2.2.2.2.2.2.1
    have u4 := hC.2.2.1.1.1.1
    rcases kA_12 hk with ⟨e1, ek⟩ | ⟨e1, e3, ek⟩
    · rw [ek]
      rw [e1] at x1
      simp (disch := omega) only [fX8_abort, bX8_abort_28, ↓gd, ↓bl, ↓xr, ↓reduceIte, o1, ↓bb o2, ↓bb o3, ↓bb o4, ↓bb o5, ↓bb o6, ↓bb o7, ↓bb o8, o9, ↓bb o10, o11, o12, o13, ↓bb o14, o15, o16, u1, ↓bb u2, u3, u4, ↓bb3 x1, Bool.false_eq_true, ↓bb3 (nT0 _ _)]
      rfl
    · rw [ek]
      rw [e1] at x1 x3
      unfold stt at e3
      simp only [e3, if_true, Bool.true_and, decide_true, decide_false, Bool.false_eq_true, if_false] at x1 x3
      simp (disch := omega) only [fX8_abort, bX8_abort_28, ↓gd, ↓bl, ↓xr, ↓reduceIte, o1, ↓bb o2, ↓bb o3, ↓bb o4, ↓bb o5, ↓bb o6, ↓bb o7, ↓bb o8, o9, ↓bb o10, o11, o12, o13, ↓bb o14, o15, o16, u1, ↓bb u2, u3, u4, ↓bb3 x1, ne10, ↓bb3 (nT1 _ _), ↓bb3 x3, ↓bb3 (nS0 _ _)]
      rfl
theorem r_abort {h : AH} {m z : Nat} {A : TS} {B : Nat} (hR : RI h m A) (hT : TI A B) (a : Int32) : RR (fX9_abort m a z h) h m z (aA A a) := by
  obtain ⟨w, H, T⟩ := A
  have x1 := r9_kA hR.1 hR.2.1.1 a z
  have hk0 := hR.1.1
  simp only at x1
  unfold aA
  by_cases hk : kA w.1.1 a = 0
  · rw [oU_0 hk]
    rw [hk, nI_0] at x1
    refine RR_ok hR hT (fun h2 v1 v2 v3 => ?_)
    obtain ⟨p', h3, u1, u2, u3, u4⟩ := r1A v2.1 v2.2.1 hT.1 v2.2.2.2.1 hk z
    have e := RI_mh v2
    simp only at u1 e
    rw [← e] at u1
    refine ⟨p', h3, u2, u3, u4, fun h4 k1 k2 k3 => ?_⟩
    obtain ⟨t, t1, t2, t3, t5⟩ := kA_0 hk
    have g2 := v2.1.1
    have g3 : kd (mh h3 m p' (sA w a).1.2.2) m = 10 := (MO_mh (u4.M v2.1) p' (sA w a).1.2.2).1
    have g4 := k2.1
    have y1 := e9_of (w := 3) v2.1 t1 (by omega) z
    rw [show ps h2 m (32 + 6 * t + 3) = w.1.1 (32 + 6 * t + 3) from v2.2.1.1 _ (by omega), ← t2] at y1
    have y1 : fX9_of m a 3 z h2 = some (w.1.1 (32 + 6 * t + 3), z, h2) := y1
    have y2 := e9_bits (w.1.1 (32 + 6 * t + 3)) z h2
    unfold hb'
    rw [t5]
    simp (disch := omega) only [fX9_abort, ↓gd, ↓bl, ↓reduceIte, hk0, ↓bb3 x1, iv6, le00, ↓bb2 v1, g2, ↓bb3 y1, ↓bb3 y2, ↓bb2 u1, g3, ↓bb2 k1, g4]
  · rw [oU_1 hk]
    refine RR_code (v' := 0) hR (fun h9 => absurd h9 hk) ?_
    have e : (nI (kA w.1.1 a) ≤ 0) = False := eq_false (by
      have : kA w.1.1 a ≤ 2 := by rcases kA_12 hk with ⟨-, e⟩ | ⟨-, -, e⟩ <;> omega
      rw [le0E (by omega)]; omega)
    simp (disch := omega) only [fX9_abort, ↓gd, ↓bl, ↓reduceIte, hk0, ↓bb3 x1, iv6, e]
theorem kB_12 {q : Nat → Int32} {a : Int32} (h : kB q a ≠ 0) : (tkI q a = false ∧ kB q a = 1) ∨ (tkI q a = true ∧ ¬ stt q a = 2 ∧ kB q a = 2) := by
  unfold kB at h ⊢
  by_cases e : tkI q a = false
  · exact Or.inl ⟨e, by rw [if_pos e]⟩
  · rw [if_neg e] at h ⊢
    have e' : tkI q a = true := by simpa using e
    by_cases e2 : stt q a = 2
    · rw [if_pos e2] at h; exact absurd rfl h
    · exact Or.inr ⟨e', e2, by rw [if_neg e2]⟩
def aB (A : TS) (a : Int32) : Nat × Int32 × TS := oU (kB A.1.1.1 a) (A.1.1.1 (32 + 6 * tn' a + 2)) (sB A.1 a) A
theorem c_restart {h : AH} {x z : Nat} {A : TS} {B : Nat} (hC : CI h x z A) (hT : TI A B) (a : Int32) : CC (fX8_restart x a z h) h x z (aB A a) eB eS := by
  obtain ⟨w, H, T⟩ := A
  have x1 := e0_has hC.2.2.1.1.2.1.1 hC.2.2.1.1.2.1.2.2.1 a z
  have x3 := e0_isIn hC.2.2.1.1.2.1.1 hC.2.2.1.1.2.1.2.2.1 a 2 z
  simp only at x1 x3
  unfold aB
  by_cases hk : kB w.1.1 a = 0
  · rw [oU_0 hk]
    obtain ⟨t, t1, t2, t3, t4, t5⟩ := kB_0 hk
    refine CC_ok hC hT (fun z1 h1 hk1 hC1 => ?_)
    obtain ⟨h2, v1, v2, v3⟩ := c1B hT.1 hC1.2.2.1 hk z1
    refine ⟨h2, ?_, v2, v3⟩
    have e1 : tkI w.1.1 a = true := by rw [t2, tkI_nI t1, t3]
    have e3 : w.1.1 (32 + 6 * a.toNatClampNeg + 4) = 2 := by rw [show a.toNatClampNeg = t from t5]; exact t4
    rw [e1] at x1 x3
    rw [e3] at x3
    simp only [if_true, Bool.true_and, decide_true] at x1 x3
    obtain ⟨o1, o2, o3, o4, o5, o6, o7, o8, o9, o10, o11, o12, o13, o14, o15, o16⟩ := id hC.1
    have hB := hC.2.2.1.1.2.1.1
    have u1 := hB.1
    have u2 := hB.2.1
    have u3 := hB.2.2.2.2.2.2.2.2.2.1
    have u4 := hC.2.2.1.1.1.1
    obtain ⟨p1, p2, p3, p4, p5, p6, p7, p8, p9, p10, p11, p12, p13, p14, p15, p16⟩ := id hC1.1
    have hB1 := hC1.2.2.1.1.2.1.1
    have y1 := hB1.1
    have y2 := hB1.2.1
    have y3 := hB1.2.2.2.2.2.2.2.2.2.1
    have y4 := hC1.2.2.1.1.1.1
    simp (disch := omega) only [fX8_restart, ↓gd, ↓bl, ↓xr, ↓reduceIte, o1, ↓bb o2, ↓bb o3, ↓bb o4, ↓bb o5, ↓bb o6, ↓bb o7, ↓bb o8, o9, ↓bb o10, o11, o12, o13, ↓bb o14, o15, o16, u1, ↓bb u2, u3, u4, ↓bb3 x1, ne10, ↓bb3 (nT1 _ _), ↓bb3 x3, ↓bb3 (nS1 _ _), ↓bb2 hk1, p1, ↓bb p2, ↓bb p3, ↓bb p4, ↓bb p5, ↓bb p6, ↓bb p7, ↓bb p8, p9, ↓bb p10, p11, p12, p13, ↓bb p14, p15, p16, y1, ↓bb y2, y3, y4, ↓bb3 v1]
  · rw [oU_1 hk]
    refine CC_err hC hT ?_
    obtain ⟨o1, o2, o3, o4, o5, o6, o7, o8, o9, o10, o11, o12, o13, o14, o15, o16⟩ := id hC.1
    have hB := hC.2.2.1.1.2.1.1
    have u1 := hB.1
    have u2 := hB.2.1
    have u3 := hB.2.2.2.2.2.2.2.2.2.1
    have u4 := hC.2.2.1.1.1.1
    rcases kB_12 hk with ⟨e1, ek⟩ | ⟨e1, e3, ek⟩
    · rw [ek]
      rw [e1] at x1
      simp (disch := omega) only [fX8_restart, ↓gd, ↓bl, ↓xr, ↓reduceIte, o1, ↓bb o2, ↓bb o3, ↓bb o4, ↓bb o5, ↓bb o6, ↓bb o7, ↓bb o8, o9, ↓bb o10, o11, o12, o13, ↓bb o14, o15, o16, u1, ↓bb u2, u3, u4, ↓bb3 x1, Bool.false_eq_true, ↓bb3 (nT0 _ _)]
      rfl
    · rw [ek]
      rw [e1] at x1 x3
      unfold stt at e3
      simp only [e3, if_true, Bool.true_and, decide_true, decide_false, Bool.false_eq_true, if_false] at x1 x3
      simp (disch := omega) only [fX8_restart, ↓gd, ↓bl, ↓xr, ↓reduceIte, o1, ↓bb o2, ↓bb o3, ↓bb o4, ↓bb o5, ↓bb o6, ↓bb o7, ↓bb o8, o9, ↓bb o10, o11, o12, o13, ↓bb o14, o15, o16, u1, ↓bb u2, u3, u4, ↓bb3 x1, ne10, ↓bb3 (nT1 _ _), ↓bb3 x3, ↓bb3 (nS0 _ _)]
      rfl
theorem r_restart {h : AH} {m z : Nat} {A : TS} {B : Nat} (hR : RI h m A) (hT : TI A B) (a : Int32) : RR (fX9_restart m a z h) h m z (aB A a) := by
  obtain ⟨w, H, T⟩ := A
  have x1 := r9_kB hR.1 hR.2.1.1 a z
  have hk0 := hR.1.1
  simp only at x1
  unfold aB
  by_cases hk : kB w.1.1 a = 0
  · rw [oU_0 hk]
    rw [hk, nI_0] at x1
    refine RR_ok hR hT (fun h2 v1 v2 v3 => ?_)
    obtain ⟨p', h3, u1, u2, u3, u4⟩ := r1B v2.1 v2.2.1 v2.2.2.2.1 hk z
    have e := RI_mh v2
    simp only at u1 e
    rw [← e] at u1
    refine ⟨p', h3, u2, u3, u4, fun h4 k1 k2 k3 => ?_⟩
    obtain ⟨t, t1, t2, t3, t4, t5⟩ := kB_0 hk
    have g2 := v2.1.1
    have g3 : kd (mh h3 m p' (sB w a).1.2.2) m = 10 := (MO_mh (u4.M v2.1) p' (sB w a).1.2.2).1
    have g4 := k2.1
    have y1 := e9_of (w := 2) k2 t1 (by omega) z
    rw [show ps h4 m = p' from k3, u2.1 _ (by omega), ← t2] at y1
    have y1 : fX9_of m a 2 z h4 = some ((sB w a).1.1 (32 + 6 * t + 2), z, h4) := y1
    have y2 : (sB w a).1.1 (32 + 6 * t + 2) = w.1.1 (32 + 6 * tn' a + 2) := by
      unfold sB
      rw [t5]
      show rvP w.1.1 t _ = _
      rw [rvP_at, if_neg (by omega)]
    rw [y2] at y1
    simp (disch := omega) only [fX9_restart, ↓gd, ↓bl, ↓reduceIte, hk0, ↓bb3 x1, iv6, le00, ↓bb2 v1, g2, ↓bb2 u1, g3, ↓bb2 k1, g4, ↓bb3 y1]
  · rw [oU_1 hk]
    refine RR_code (v' := 0) hR (fun h9 => absurd h9 hk) ?_
    have e : (nI (kB w.1.1 a) ≤ 0) = False := eq_false (by
      have : kB w.1.1 a ≤ 2 := by rcases kB_12 hk with ⟨-, e⟩ | ⟨-, -, e⟩ <;> omega
      rw [le0E (by omega)]; omega)
    simp (disch := omega) only [fX9_restart, ↓gd, ↓bl, ↓reduceIte, hk0, ↓bb3 x1, iv6, e]
theorem kP_12 {q : Nat → Int32} {a : Int32} (h : kP q a ≠ 0) : (tkI q a = false ∧ kP q a = 1) ∨ (tkI q a = true ∧ ¬ stt q a = 1 ∧ kP q a = 2) := by
  unfold kP at h ⊢
  by_cases e : tkI q a = false
  · exact Or.inl ⟨e, by rw [if_pos e]⟩
  · rw [if_neg e] at h ⊢
    have e' : tkI q a = true := by simpa using e
    by_cases e2 : stt q a = 1
    · rw [if_pos e2] at h; exact absurd rfl h
    · exact Or.inr ⟨e', e2, by rw [if_neg e2]⟩
def aP (A : TS) (a : Int32) : Nat × Int32 × TS := oU (kP A.1.1.1 a) ((sP A.1 a).1.1 92) (sP A.1 a) A
theorem c_probe {h : AH} {x z : Nat} {A : TS} {B : Nat} (hC : CI h x z A) (hT : TI A B) (a : Int32) : CC (fX8_probe x a z h) h x z (aP A a) eB eS := by
  obtain ⟨w, H, T⟩ := A
  have x1 := e0_has hC.2.2.1.1.2.1.1 hC.2.2.1.1.2.1.2.2.1 a z
  have x3 := e0_isIn hC.2.2.1.1.2.1.1 hC.2.2.1.1.2.1.2.2.1 a 1 z
  simp only at x1 x3
  unfold aP
  by_cases hk : kP w.1.1 a = 0
  · rw [oU_0 hk]
    obtain ⟨t, t1, t2, t3, t4, t5⟩ := kP_0 hk
    refine CC_ok hC hT (fun z1 h1 hk1 hC1 => ?_)
    obtain ⟨h2, v1, v2, v3⟩ := c1P hT.1 hC1.2.2.1 hk z1
    refine ⟨h2, ?_, v2, v3⟩
    have e1 : tkI w.1.1 a = true := by rw [t2, tkI_nI t1, t3]
    have e3 : w.1.1 (32 + 6 * a.toNatClampNeg + 4) = 1 := by rw [show a.toNatClampNeg = t from t5]; exact t4
    rw [e1] at x1 x3
    rw [e3] at x3
    simp only [if_true, Bool.true_and, decide_true] at x1 x3
    obtain ⟨o1, o2, o3, o4, o5, o6, o7, o8, o9, o10, o11, o12, o13, o14, o15, o16⟩ := id hC.1
    have hB := hC.2.2.1.1.2.1.1
    have u1 := hB.1
    have u2 := hB.2.1
    have u3 := hB.2.2.2.2.2.2.2.2.2.1
    have u4 := hC.2.2.1.1.1.1
    obtain ⟨p1, p2, p3, p4, p5, p6, p7, p8, p9, p10, p11, p12, p13, p14, p15, p16⟩ := id hC1.1
    have hB1 := hC1.2.2.1.1.2.1.1
    have y1 := hB1.1
    have y2 := hB1.2.1
    have y3 := hB1.2.2.2.2.2.2.2.2.2.1
    have y4 := hC1.2.2.1.1.1.1
    simp (disch := omega) only [fX8_probe, ↓gd, ↓bl, ↓xr, ↓reduceIte, o1, ↓bb o2, ↓bb o3, ↓bb o4, ↓bb o5, ↓bb o6, ↓bb o7, ↓bb o8, o9, ↓bb o10, o11, o12, o13, ↓bb o14, o15, o16, u1, ↓bb u2, u3, u4, ↓bb3 x1, ne10, ↓bb3 (nT1 _ _), ↓bb3 x3, ↓bb3 (nS1 _ _), ↓bb2 hk1, p1, ↓bb p2, ↓bb p3, ↓bb p4, ↓bb p5, ↓bb p6, ↓bb p7, ↓bb p8, p9, ↓bb p10, p11, p12, p13, ↓bb p14, p15, p16, y1, ↓bb y2, y3, y4, ↓bb3 v1]
  · rw [oU_1 hk]
    refine CC_err hC hT ?_
    obtain ⟨o1, o2, o3, o4, o5, o6, o7, o8, o9, o10, o11, o12, o13, o14, o15, o16⟩ := id hC.1
    have hB := hC.2.2.1.1.2.1.1
    have u1 := hB.1
    have u2 := hB.2.1
    have u3 := hB.2.2.2.2.2.2.2.2.2.1
    have u4 := hC.2.2.1.1.1.1
    rcases kP_12 hk with ⟨e1, ek⟩ | ⟨e1, e3, ek⟩
    · rw [ek]
      rw [e1] at x1
      simp (disch := omega) only [fX8_probe, ↓gd, ↓bl, ↓xr, ↓reduceIte, o1, ↓bb o2, ↓bb o3, ↓bb o4, ↓bb o5, ↓bb o6, ↓bb o7, ↓bb o8, o9, ↓bb o10, o11, o12, o13, ↓bb o14, o15, o16, u1, ↓bb u2, u3, u4, ↓bb3 x1, Bool.false_eq_true, ↓bb3 (nT0 _ _)]
      rfl
    · rw [ek]
      rw [e1] at x1 x3
      unfold stt at e3
      simp only [e3, if_true, Bool.true_and, decide_true, decide_false, Bool.false_eq_true, if_false] at x1 x3
      simp (disch := omega) only [fX8_probe, ↓gd, ↓bl, ↓xr, ↓reduceIte, o1, ↓bb o2, ↓bb o3, ↓bb o4, ↓bb o5, ↓bb o6, ↓bb o7, ↓bb o8, o9, ↓bb o10, o11, o12, o13, ↓bb o14, o15, o16, u1, ↓bb u2, u3, u4, ↓bb3 x1, ne10, ↓bb3 (nT1 _ _), ↓bb3 x3, ↓bb3 (nS0 _ _)]
      rfl
theorem r_probe {h : AH} {m z : Nat} {A : TS} {B : Nat} (hR : RI h m A) (hT : TI A B) (a : Int32) : RR (fX9_probe m a z h) h m z (aP A a) := by
  obtain ⟨w, H, T⟩ := A
  have x1 := r9_kP hR.1 hR.2.1.1 a z
  have hk0 := hR.1.1
  simp only at x1
  unfold aP
  by_cases hk : kP w.1.1 a = 0
  · rw [oU_0 hk]
    rw [hk, nI_0] at x1
    refine RR_ok hR hT (fun h2 v1 v2 v3 => ?_)
    obtain ⟨p', h3, u1, u2, u3, u4⟩ := r1P v2.1 v2.2.1 hT.1 v2.2.2.2.1 hk z
    have e := RI_mh v2
    simp only at u1 e
    rw [← e] at u1
    refine ⟨p', h3, u2, u3, u4, fun h4 k1 k2 k3 => ?_⟩
    obtain ⟨t, t1, t2, t3, t4, t5⟩ := kP_0 hk
    have g2 := v2.1.1
    have g3 : kd (mh h3 m p' (sP w a).1.2.2) m = 10 := (MO_mh (u4.M v2.1) p' (sP w a).1.2.2).1
    have g4 := k2.1
    have y1 : iv h4 (m + 1) 92 = (sP w a).1.1 92 := by rw [k3, u2.1 _ (by omega)]
    have i3 : ((92 : Int32) < 0) = False := eq_false (by decide)
    have i4 : Int32.toNatClampNeg 92 = 92 := by decide
    have kk1 := k1
    have hM := k2
    obtain ⟨hk, r0, r1, r3, r4, r10, r11, r13, r14, r15, k1, k2, k3, k4, k5, k6, k7, k8, k9, l1, l2, l3, l4, l5, l6, l7, l8, l9⟩ := id hM
    simp (disch := omega) only [fX9_probe, ↓gd, ↓bl, ↓reduceIte, hk0, ↓bb3 x1, iv6, le00, ↓bb2 v1, g2, ↓bb2 u1, g3, ↓bb2 kk1, ↓bb r0, ↓bb r1, ↓bb r3, ↓bb r4, ↓bb r10, ↓bb r11, ↓bb r13, ↓bb r14, ↓bb r15, hk, k1, k2, k3, k4, k5, k6, k7, k8, k9, l1, l2, l3, l4, l5, l6, l7, l8, l9, i3, i4, leN_F, or_false, not_false_eq_true, y1]
  · rw [oU_1 hk]
    refine RR_code (v' := 0) hR (fun h9 => absurd h9 hk) ?_
    have e : (nI (kP w.1.1 a) ≤ 0) = False := eq_false (by
      have : kP w.1.1 a ≤ 2 := by rcases kP_12 hk with ⟨-, e⟩ | ⟨-, -, e⟩ <;> omega
      rw [le0E (by omega)]; omega)
    simp (disch := omega) only [fX9_probe, ↓gd, ↓bl, ↓reduceIte, hk0, ↓bb3 x1, iv6, e]
theorem kL_12 {q : Nat → Int32} {a b : Int32} (h : kL q a b ≠ 0) : ((tkI q a && rsI q b) = false ∧ kL q a b = 1) ∨ (tkI q a = true ∧ rsI q b = true ∧ bt (q (32 + 6 * tn' a + 3)) (tn' b) = false ∧ kL q a b = 2) := by
  unfold kL at h ⊢
  by_cases e : (tkI q a && rsI q b) = false
  · exact Or.inl ⟨e, by rw [if_pos e]⟩
  · rw [if_neg e] at h ⊢
    have e' : tkI q a = true ∧ rsI q b = true := by simpa using e
    cases e2 : bt (q (32 + 6 * tn' a + 3)) (tn' b)
    · exact Or.inr ⟨e'.1, e'.2, rfl, rfl⟩
    · rw [if_pos e2] at h; exact absurd rfl h
def aL (A : TS) (a b : Int32) : Nat × Int32 × TS := oU (kL A.1.1.1 a b) (hb' (sL A.1 a b).1.1 a) (sL A.1 a b) A
theorem c_release {h : AH} {x z : Nat} {A : TS} {B : Nat} (hC : CI h x z A) (hT : TI A B) (a b : Int32) : CC (fX8_release x a b z h) h x z (aL A a b) eB eS := by
  obtain ⟨w, H, T⟩ := A
  have x1 := e0_has hC.2.2.1.1.2.1.1 hC.2.2.1.1.2.1.2.2.1 a z
  have x2 := e2_has hC.2.2.1.1.2.1.1 hT.W hC.2.2.1.1.2.1.2.1 b z
  simp only at x1 x2
  unfold aL
  by_cases hk : kL w.1.1 a b = 0
  · rw [oU_0 hk]
    obtain ⟨t, r, t1, r1, t2, r2, t3, t4, t5, r5⟩ := kL_0 hk
    have x3 := e0_holds hT.W hC.2.2.1.1.2.1 t1 t3 r1 z
    simp only at x3
    rw [t4, ← t2, ← r2] at x3
    refine CC_ok hC hT (fun z1 h1 hk1 hC1 => ?_)
    obtain ⟨h2, v1, v2, v3⟩ := c1L hT.1 hC1.2.2.1 hk z1
    refine ⟨h2, ?_, v2, v3⟩
    have e1 : tkI w.1.1 a = true := by rw [t2, tkI_nI t1, t3]
    have e2 : rsI w.1.1 b = true := by rw [r2, rsI_nI hT.W.2.1 (by have := hT.W.2.1; simp only at this; omega)]; simp [r1]
    rw [e1] at x1
    rw [e2] at x2
    simp only [if_true] at x1 x2 x3
    obtain ⟨o1, o2, o3, o4, o5, o6, o7, o8, o9, o10, o11, o12, o13, o14, o15, o16⟩ := id hC.1
    have hB := hC.2.2.1.1.2.1.1
    have u1 := hB.1
    have u2 := hB.2.1
    have u3 := hB.2.2.2.2.2.2.2.2.2.1
    have u4 := hC.2.2.1.1.1.1
    obtain ⟨p1, p2, p3, p4, p5, p6, p7, p8, p9, p10, p11, p12, p13, p14, p15, p16⟩ := id hC1.1
    have hB1 := hC1.2.2.1.1.2.1.1
    have y1 := hB1.1
    have y2 := hB1.2.1
    have y3 := hB1.2.2.2.2.2.2.2.2.2.1
    have y4 := hC1.2.2.1.1.1.1
    simp (disch := omega) only [fX8_release, bX8_release_30, ↓gd, ↓bl, ↓xr, ↓reduceIte, o1, ↓bb o2, ↓bb o3, ↓bb o4, ↓bb o5, ↓bb o6, ↓bb o7, ↓bb o8, o9, ↓bb o10, o11, o12, o13, ↓bb o14, o15, o16, u1, ↓bb u2, u3, u4, ↓bb3 x1, ne10, ↓bb3 x2, ↓bb3 (nT1 _ _), ↓bb3 x3, ↓bb3 (nS1 _ _), ↓bb2 hk1, p1, ↓bb p2, ↓bb p3, ↓bb p4, ↓bb p5, ↓bb p6, ↓bb p7, ↓bb p8, p9, ↓bb p10, p11, p12, p13, ↓bb p14, p15, p16, y1, ↓bb y2, y3, y4, ↓bb3 v1]
  · rw [oU_1 hk]
    refine CC_err hC hT ?_
    obtain ⟨o1, o2, o3, o4, o5, o6, o7, o8, o9, o10, o11, o12, o13, o14, o15, o16⟩ := id hC.1
    have hB := hC.2.2.1.1.2.1.1
    have u1 := hB.1
    have u2 := hB.2.1
    have u3 := hB.2.2.2.2.2.2.2.2.2.1
    have u4 := hC.2.2.1.1.1.1
    rcases kL_12 hk with ⟨e, ek⟩ | ⟨e1, e2, e3, ek⟩
    · rw [ek]
      cases e1 : tkI w.1.1 a
      · rw [e1] at x1
        simp (disch := omega) only [fX8_release, bX8_release_30, bX8_release_29, ↓gd, ↓bl, ↓xr, ↓reduceIte, o1, ↓bb o2, ↓bb o3, ↓bb o4, ↓bb o5, ↓bb o6, ↓bb o7, ↓bb o8, o9, ↓bb o10, o11, o12, o13, ↓bb o14, o15, o16, u1, ↓bb u2, u3, u4, ↓bb3 x1, Bool.false_eq_true, ↓bb3 (nT0 _ _)]
        rfl
      · have e2 : rsI w.1.1 b = false := by rw [e1] at e; simpa using e
        rw [e1] at x1
        rw [e2] at x2
        simp (disch := omega) only [fX8_release, bX8_release_30, bX8_release_29, ↓gd, ↓bl, ↓xr, ↓reduceIte, o1, ↓bb o2, ↓bb o3, ↓bb o4, ↓bb o5, ↓bb o6, ↓bb o7, ↓bb o8, o9, ↓bb o10, o11, o12, o13, ↓bb o14, o15, o16, u1, ↓bb u2, u3, u4, ↓bb3 x1, ne10, ↓bb3 x2, Bool.false_eq_true, ↓bb3 (nT0 _ _)]
        rfl
    · rw [ek]
      obtain ⟨t, t1, t2, t3, t5⟩ := tkI_of e1
      obtain ⟨r, r0, r2, r1, r5⟩ := rsI_of e2
      have x3 := e0_holds hT.W hC.2.2.1.1.2.1 t1 t3 r1 z
      simp only at x3
      rw [t5, r5] at e3
      rw [e3, ← t2, ← r2] at x3
      rw [e1] at x1
      rw [e2] at x2
      simp only [if_true, Bool.false_eq_true, if_false] at x1 x2 x3
      simp (disch := omega) only [fX8_release, bX8_release_30, bX8_release_29, ↓gd, ↓bl, ↓xr, ↓reduceIte, o1, ↓bb o2, ↓bb o3, ↓bb o4, ↓bb o5, ↓bb o6, ↓bb o7, ↓bb o8, o9, ↓bb o10, o11, o12, o13, ↓bb o14, o15, o16, u1, ↓bb u2, u3, u4, ↓bb3 x1, ne10, ↓bb3 x2, ↓bb3 (nT1 _ _), ↓bb3 x3, ↓bb3 (nS0 _ _)]
      rfl
theorem r_release {h : AH} {m z : Nat} {A : TS} {B : Nat} (hR : RI h m A) (hT : TI A B) (a b : Int32) : RR (fX9_release m a b z h) h m z (aL A a b) := by
  obtain ⟨w, H, T⟩ := A
  have hWp : WFr (ps h m) := WFr_nord hR.2.1.1.sy hT.W
  have x1 := r9_kL hR.1 hR.2.1.1 hWp a b z
  have hk0 := hR.1.1
  simp only at x1
  unfold aL
  by_cases hk : kL w.1.1 a b = 0
  · rw [oU_0 hk]
    rw [hk, nI_0] at x1
    refine RR_ok hR hT (fun h2 v1 v2 v3 => ?_)
    obtain ⟨p', h3, u1, u2, u3, u4⟩ := r1L v2.1 v2.2.1 hT.1 v2.2.2.2.1 hk z
    have e := RI_mh v2
    simp only at u1 e
    rw [← e] at u1
    refine ⟨p', h3, u2, u3, u4, fun h4 k1 k2 k3 => ?_⟩
    obtain ⟨t, r, t1, r1, t2, r2, t3, t4, t5, r5⟩ := kL_0 hk
    have y1 := e9_of (w := 3) k2 t1 (by omega) z
    rw [show ps h4 m = p' from k3, u2.1 _ (by omega)] at y1
    have g2 := v2.1.1
    have g3 : kd (mh h3 m p' (sL w a b).1.2.2) m = 10 := (MO_mh (u4.M v2.1) p' (sL w a b).1.2.2).1
    have g4 := k2.1
    unfold hb'
    rw [t5]
    rw [← t2] at y1
    have y1 : fX9_of m a 3 z h4 = some ((sL w a b).1.1 (32 + 6 * t + 3), z, h4) := y1
    have y2 := e9_bits ((sL w a b).1.1 (32 + 6 * t + 3)) z h4
    simp (disch := omega) only [fX9_release, ↓gd, ↓bl, ↓reduceIte, hk0, ↓bb3 x1, iv6, le00, ↓bb2 v1, g2, ↓bb2 u1, g3, ↓bb2 k1, g4, ↓bb3 y1, ↓bb3 y2]
  · rw [oU_1 hk]
    refine RR_code (v' := 0) hR (fun h9 => absurd h9 hk) ?_
    have e : (nI (kL w.1.1 a b) ≤ 0) = False := eq_false (by
      have : kL w.1.1 a b ≤ 2 := by rcases kL_12 hk with ⟨-, e⟩ | ⟨-, -, -, e⟩ <;> omega
      rw [le0E (by omega)]; omega)
    simp (disch := omega) only [fX9_release, ↓gd, ↓bl, ↓reduceIte, hk0, ↓bb3 x1, iv6, e]
/-! wouldHappen -/
def aW (A : TS) (a b : Int32) : Nat × Int32 × TS := (kQ A.1.1.1 a b, nI (hpA A.1.1.1 (tn' a) (tn' b)), A)
theorem c_wouldHappen {h : AH} {x z : Nat} {A : TS} {B : Nat} (hC : CI h x z A) (hT : TI A B) (a b : Int32) : CC (fX8_wouldHappen x a b z h) h x z (aW A a b) eB eS := by
  obtain ⟨w, H, T⟩ := A
  have x1 := e0_has hC.2.2.1.1.2.1.1 hC.2.2.1.1.2.1.2.2.1 a z
  have x2 := e2_has hC.2.2.1.1.2.1.1 hT.W hC.2.2.1.1.2.1.2.1 b z
  have x3 := e0_isIn hC.2.2.1.1.2.1.1 hC.2.2.1.1.2.1.2.2.1 a 0 z
  simp only at x1 x2 x3
  unfold aW
  by_cases hk : kQ w.1.1 a b = 0
  · simp only [hk]
    obtain ⟨t, r, t1, r1, t2, r2, t3, t4, t5, r5⟩ := kQ_0 hk
    refine CC_ask hC ?_
    have v1 := w1_outcomeOf hT.1.1 hC.2.2.1.1 t1 t3 r1 z
    simp only at v1
    rw [← t2, ← r2] at v1
    rw [t5, r5]
    have e1 : tkI w.1.1 a = true := by rw [t2, tkI_nI t1, t3]
    have e2 : rsI w.1.1 b = true := by rw [r2, rsI_nI hT.W.2.1 (by have := hT.W.2.1; simp only at this; omega)]; simp [r1]
    have e3 : w.1.1 (32 + 6 * a.toNatClampNeg + 4) = 0 := by rw [show a.toNatClampNeg = t from t5]; exact t4
    rw [e1] at x1 x3
    rw [e2] at x2
    rw [e3] at x3
    simp only [if_true, Bool.true_and, decide_true] at x1 x2 x3
    obtain ⟨o1, o2, o3, o4, o5, o6, o7, o8, o9, o10, o11, o12, o13, o14, o15, o16⟩ := id hC.1
    have hB := hC.2.2.1.1.2.1.1
    have u1 := hB.1
    have u2 := hB.2.1
    have u3 := hB.2.2.2.2.2.2.2.2.2.1
    have u4 := hC.2.2.1.1.1.1
    simp (disch := omega) only [fX8_wouldHappen, bX8_wouldHappen_30, ↓gd, ↓bl, ↓xr, ↓reduceIte, o1, ↓bb o2, ↓bb o3, ↓bb o4, ↓bb o5, ↓bb o6, ↓bb o7, ↓bb o8, o9, ↓bb o10, o11, o12, o13, ↓bb o14, o15, o16, u1, ↓bb u2, u3, u4, ↓bb3 x1, ne10, ↓bb3 x2, ↓bb3 (nT1 _ _), ↓bb3 x3, ↓bb3 (nS1 _ _), ↓bb3 v1]
  · refine CC_err hC hT ?_
    obtain ⟨o1, o2, o3, o4, o5, o6, o7, o8, o9, o10, o11, o12, o13, o14, o15, o16⟩ := id hC.1
    have hB := hC.2.2.1.1.2.1.1
    have u1 := hB.1
    have u2 := hB.2.1
    have u3 := hB.2.2.2.2.2.2.2.2.2.1
    have u4 := hC.2.2.1.1.1.1
    rcases kQ_12 hk with ⟨e, ek⟩ | ⟨e1, e2, e3, ek⟩
    · simp only [ek]
      cases e1 : tkI w.1.1 a
      · rw [e1] at x1
        simp (disch := omega) only [fX8_wouldHappen, bX8_wouldHappen_30, bX8_wouldHappen_29, ↓gd, ↓bl, ↓xr, ↓reduceIte, o1, ↓bb o2, ↓bb o3, ↓bb o4, ↓bb o5, ↓bb o6, ↓bb o7, ↓bb o8, o9, ↓bb o10, o11, o12, o13, ↓bb o14, o15, o16, u1, ↓bb u2, u3, u4, ↓bb3 x1, Bool.false_eq_true, ↓bb3 (nT0 _ _)]
        rfl
      · have e2 : rsI w.1.1 b = false := by rw [e1] at e; simpa using e
        rw [e1] at x1
        rw [e2] at x2
        simp (disch := omega) only [fX8_wouldHappen, bX8_wouldHappen_30, bX8_wouldHappen_29, ↓gd, ↓bl, ↓xr, ↓reduceIte, o1, ↓bb o2, ↓bb o3, ↓bb o4, ↓bb o5, ↓bb o6, ↓bb o7, ↓bb o8, o9, ↓bb o10, o11, o12, o13, ↓bb o14, o15, o16, u1, ↓bb u2, u3, u4, ↓bb3 x1, ne10, ↓bb3 x2, Bool.false_eq_true, ↓bb3 (nT0 _ _)]
        rfl
    · simp only [ek]
      rw [e1] at x1 x3
      rw [e2] at x2
      unfold stt at e3
      simp only [e3, if_true, Bool.true_and, decide_false, Bool.false_eq_true, if_false] at x1 x2 x3
      simp (disch := omega) only [fX8_wouldHappen, bX8_wouldHappen_30, bX8_wouldHappen_29, ↓gd, ↓bl, ↓xr, ↓reduceIte, o1, ↓bb o2, ↓bb o3, ↓bb o4, ↓bb o5, ↓bb o6, ↓bb o7, ↓bb o8, o9, ↓bb o10, o11, o12, o13, ↓bb o14, o15, o16, u1, ↓bb u2, u3, u4, ↓bb3 x1, ne10, ↓bb3 x2, ↓bb3 (nT1 _ _), ↓bb3 x3, ↓bb3 (nS0 _ _)]
      rfl
theorem r_wouldHappen {h : AH} {m z : Nat} {A : TS} {B : Nat} (hR : RI h m A) (hT : TI A B) (a b : Int32) : RR (fX9_wouldHappen m a b z h) h m z (aW A a b) := by
  obtain ⟨w, H, T⟩ := A
  have hWp : WFr (ps h m) := WFr_nord hR.2.1.1.sy hT.W
  have x1 := r9_kQ hR.1 hR.2.1.1 hWp a b z
  have hk0 := hR.1.1
  simp only at x1
  unfold aW
  by_cases hk : kQ w.1.1 a b = 0
  · simp only [hk]
    obtain ⟨t, r, t1, r1, t2, r2, t3, t4, t5, r5⟩ := kQ_0 hk
    rw [hk, nI_0] at x1
    obtain ⟨c1, c2, c3⟩ := RI_code hR 0
    have hQp := c1.2.1.wq hT.1.1
    have y1 := e9_happens c1.1 w.1.2.2 hQp.1 hQp.2.2.2.2.1 t1 (r := r) (by rw [nr_nord c1.2.1.1]; exact r1) z
    have e := RI_mh c1
    simp only at e
    rw [← e, hpA_nord c1.2.1.1 hQp.1 (by rw [nr_nord c1.2.1.1]; exact r1), ← t2, ← r2] at y1
    simp only at y1
    refine RR_code (v' := nI (hpA w.1.1 t r)) hR (fun _ => by rw [t5, r5]) ?_
    simp (disch := omega) only [fX9_wouldHappen, ↓gd, ↓bl, ↓reduceIte, hk0, ↓bb3 x1, iv6, le00, ↓bb3 y1, nI_0]
  · refine RR_code (v' := 0) hR (fun h9 => absurd h9 hk) ?_
    have e : (nI (kQ w.1.1 a b) ≤ 0) = False := eq_false (by
      have : kQ w.1.1 a b ≤ 2 := by rcases kQ_12 hk with ⟨-, e⟩ | ⟨-, -, -, e⟩ <;> omega
      rw [le0E (by omega)]; omega)
    simp (disch := omega) only [fX9_wouldHappen, ↓gd, ↓bl, ↓reduceIte, hk0, ↓bb3 x1, iv6, e]
