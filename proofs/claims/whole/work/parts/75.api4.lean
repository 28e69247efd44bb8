/-! settings and undo -/
theorem WQ_set {q q' : Nat → Int32} {L : List Nat} {B : Nat} (h : WQ q L B) (en : ∀ j, ¬ (17 ≤ j ∧ j < 20) → q j = q' j) (hs : WFs q') : WQ q' L B := by
  obtain ⟨h1, ⟨S, h2, h3, h4⟩, h5, h6, h7, h8⟩ := h
  have hs' : sres q q' := fun j hj => en j (by omega)
  refine ⟨sres_WFr hs' h1, ⟨S, h2, by rw [← en 20 (by omega)]; exact h3, fun k hk => TK_c (fun w hw => en _ (by omega)) (sres_nr hs') (Nat.le_refl _) (h4 k hk)⟩, Ages_c (fun k hk hkt => ?_) h5, ⟨h6.1, fun t => ?_⟩, hs, WFm_c (fun j hj => en j (by omega)) h8⟩
  · unfold th at hkt ⊢
    rw [en _ (by omega), en _ (by omega)]
    exact ⟨hkt, rfl⟩
  · rw [h6.2 t]
    unfold wt th
    rw [en _ (by omega), en _ (by omega)]
theorem RF_set {p q : Nat → Int32} {L : List Nat} (hR : RF p q L) {j : Nat} (h1 : 17 ≤ j) (h2 : j < 20) (v : Int32) : RF (upd p j v) (upd q j v) L :=
  RF_keep hR (fun k hk => by rw [upd_s, upd_s, hR.1 k hk]) (fun k _ _ => by rw [upd_s, if_neg (by omega)]) (fun k hk => by
    unfold wt th
    rw [upd_s, if_neg (by omega), upd_s, if_neg (by omega)])
def kV (lo hi a : Int32) : Nat := if inI a lo hi = false then 1 else 0
theorem kV_0 {lo hi a : Int32} (h : kV lo hi a = 0) : inI a lo hi = true := by
  unfold kV at h
  by_cases e : inI a lo hi = false
  · rw [if_pos e] at h; omega
  · simpa using e
theorem kV_1 {lo hi a : Int32} (h : kV lo hi a ≠ 0) : inI a lo hi = false ∧ kV lo hi a = 1 := by
  unfold kV at h ⊢
  by_cases e : inI a lo hi = false
  · exact ⟨e, by rw [if_pos e]⟩
  · rw [if_neg e] at h; exact absurd rfl h
def sV (w : Ac) (j : Nat) (a : Int32) : Ac := ((upd w.1.1 j a, w.1.2.1, w.1.2.2), w.2)
theorem in02 {a : Int32} (h : inI a 0 2 = true) : a = 0 ∨ a = 1 ∨ a = 2 := by
  obtain ⟨t, ht, rfl⟩ := inI_of (n := 2) (by omega) h
  match t, ht with
  | 0, _ => exact Or.inl rfl
  | 1, _ => exact Or.inr (Or.inl rfl)
  | 2, _ => exact Or.inr (Or.inr rfl)
  | t + 3, h => omega
theorem in19 {a : Int32} (h : inI a 1 9 = true) : ∃ b, 1 ≤ b ∧ b ≤ 9 ∧ a = nI b := by
  unfold inI at h
  rw [decide_eq_true_eq] at h
  have h0 : ¬ a < 0 := fun h9 => h.1 (Int32.lt_trans h9 (by decide))
  obtain ⟨j, hj, rfl⟩ := nI_of h0
  rw [show (1 : Int32) = nI 1 from rfl, show (9 : Int32) = nI 9 from rfl, nI_ltE hj (by omega), nI_ltE (by omega) hj] at h
  exact ⟨j, by omega, by omega, rfl⟩
def aS1 (A : TS) (a : Int32) : Nat × Int32 × TS := oU (kV 0 2 a) (A.1.1.1 17) (sV A.1 17 a) A
theorem c_setPolicy {h : AH} {x z : Nat} {A : TS} {B : Nat} (hC : CI h x z A) (hT : TI A B) (a : Int32) : CC (fX8_setPolicy x a z h) h x z (aS1 A a) eA eS := by
  obtain ⟨w, H, T⟩ := A
  have x1 := e8_isWithin a 0 2 z h
  unfold aS1
  by_cases hk : kV 0 2 a = 0
  · rw [oU_0 hk]
    refine CC_ok hC hT (fun z1 h1 hk1 hC1 => ?_)
    have v3 := CB_set hT.W hC1.2.2.1.1.2.1 (j := 10) (by omega) (by omega) a
    have v2 : Fr h1 (wI h1 (x + 1) 10 a) (x + 1) := Fr.w h1 _ _ (by omega) (by omega)
    have hF := Fq.fr v2 (PD_bk (x := x))
    refine ⟨wI h1 (x + 1) 10 a, ?_, hF.mono PD_E, CL_D hC1.2.2.1 hF (CS_bk hC1.2.2.1.1 v2 v3)⟩
    rw [kV_0 hk] at x1
    have vv : iv h1 (x + 1) 10 = w.1.1 17 := hC1.2.2.1.1.2.1.2.2.2.2.1.1
    obtain ⟨o1, o2, o3, o4, o5, o6, o7, o8, o9, o10, o11, o12, o13, o14, o15, o16⟩ := id hC.1
    have hB := hC.2.2.1.1.2.1.1
    have u1 := hB.1
    have u2 := hB.2.1
    have u3 := hB.2.2.2.2.2.2.2.2.2.1
    have u4 := hC.2.2.1.1.1.1
    obtain ⟨p1, p2, p3, p4, p5, p6, p7, p8, p9, p10, p11, p12, p13, p14, p15, p16⟩ := id hC1.1
    have hB1 := hC1.2.2.1.1.2.1.1
    have y1 := hB1.1
    have y2 := hB1.2.1
    have y3 := hB1.2.2.2.2.2.2.2.2.2.1
    have y4 := hC1.2.2.1.1.1.1
    simp (disch := omega) only [fX8_setPolicy, ↓gd, ↓bl, ↓xr, ↓reduceIte, o1, ↓bb o2, ↓bb o3, ↓bb o4, ↓bb o5, ↓bb o6, ↓bb o7, ↓bb o8, o9, ↓bb o10, o11, o12, o13, ↓bb o14, o15, o16, u1, ↓bb u2, u3, u4, ↓bb3 x1, ↓bb3 (nV1 _ _), ↓bb2 hk1, p1, ↓bb p2, ↓bb p3, ↓bb p4, ↓bb p5, ↓bb p6, ↓bb p7, ↓bb p8, p9, ↓bb p10, p11, p12, p13, ↓bb p14, p15, p16, y1, ↓bb y2, y3, y4, vv]
  · rw [oU_1 hk]
    refine CC_err hC hT ?_
    obtain ⟨o1, o2, o3, o4, o5, o6, o7, o8, o9, o10, o11, o12, o13, o14, o15, o16⟩ := id hC.1
    have hB := hC.2.2.1.1.2.1.1
    have u1 := hB.1
    have u2 := hB.2.1
    have u3 := hB.2.2.2.2.2.2.2.2.2.1
    have u4 := hC.2.2.1.1.1.1
    obtain ⟨e1, ek⟩ := kV_1 hk
    rw [ek]
    rw [e1] at x1
    simp (disch := omega) only [fX8_setPolicy, ↓gd, ↓bl, ↓xr, ↓reduceIte, o1, ↓bb o2, ↓bb o3, ↓bb o4, ↓bb o5, ↓bb o6, ↓bb o7, ↓bb o8, o9, ↓bb o10, o11, o12, o13, ↓bb o14, o15, o16, u1, ↓bb u2, u3, u4, ↓bb3 x1, Bool.false_eq_true, ↓bb3 (nV0 _ _)]
    rfl
theorem r_setPolicy {h : AH} {m z : Nat} {A : TS} {B : Nat} (hR : RI h m A) (hT : TI A B) (a : Int32) : RR (fX9_setPolicy m a z h) h m z (aS1 A a) := by
  obtain ⟨w, H, T⟩ := A
  have hk0 := hR.1.1
  have x1 := e9_in a 0 2 z h
  have i3 : ((17 : Int32) < 0) = False := eq_false (by decide)
  have i4 : Int32.toNatClampNeg 17 = 17 := by decide
  unfold aS1
  by_cases hk : kV 0 2 a = 0
  · rw [oU_0 hk]
    rw [kV_0 hk] at x1
    refine RR_ok hR hT (fun h2 v1 v2 v3 => ?_)
    have e := RI_mh v2
    simp only at e
    refine ⟨upd (iv h2 (m + 1)) 17 a, h2, RF_set v2.2.1 (by omega) (by omega) a, v2.2.2.2.1, Fm.rf m h2, fun h4 k1 k2 k3 => ?_⟩
    have vv : iv h2 (m + 1) 17 = w.1.1 17 := v2.2.1.1 _ (by omega)
    have kk : fX9_records m z (wI h2 (m + 1) (Int32.toNatClampNeg 17) a) = some (z, h4) := by
      rw [i4, ← k1]
      show _ = fX9_records m z (mh h2 m (upd (iv h2 (m + 1)) 17 a) w.1.2.2)
      rw [← mh_w1, ← e]
    have hM := v2.1
    clear k1 k3 k2 e
    obtain ⟨hk, r0, r1, r3, r4, r10, r11, r13, r14, r15, k1, k2, k3, k4, k5, k6, k7, k8, k9, l1, l2, l3, l4, l5, l6, l7, l8, l9⟩ := id hM
    simp (disch := omega) only [fX9_setPolicy, fX9_sets, bX9_sets_10, ↓gd, ↓bl, ↓reduceIte, ↓bb3 x1, ne10, hk0, kd_wI, ↓bb2 v1, ↓bb r0, ↓bb r1, ↓bb r3, ↓bb r4, ↓bb r10, ↓bb r11, ↓bb r13, ↓bb r14, ↓bb r15, hk, k1, k2, k3, k4, k5, k6, k7, k8, k9, l1, l2, l3, l4, l5, l6, l7, l8, l9, i3, i4, leN_F, or_false, not_false_eq_true, vv, ↓bb2 kk, bd3, Option.bind_some]
  · rw [oU_1 hk]
    refine RR_code (v' := 0) hR (fun h9 => absurd h9 hk) ?_
    obtain ⟨e1, ek⟩ := kV_1 hk
    rw [e1] at x1
    simp (disch := omega) only [fX9_setPolicy, fX9_sets, bX9_sets_10, ↓gd, ↓bl, ↓reduceIte, ↓bb3 x1, Bool.false_eq_true, hk0, ek, bd3, Option.bind_some]
    rfl
def aS2 (A : TS) (a : Int32) : Nat × Int32 × TS := oU (kV 0 2 a) (A.1.1.1 18) (sV A.1 18 a) A
theorem c_setRule {h : AH} {x z : Nat} {A : TS} {B : Nat} (hC : CI h x z A) (hT : TI A B) (a : Int32) : CC (fX8_setRule x a z h) h x z (aS2 A a) eA eS := by
  obtain ⟨w, H, T⟩ := A
  have x1 := e8_isWithin a 0 2 z h
  unfold aS2
  by_cases hk : kV 0 2 a = 0
  · rw [oU_0 hk]
    refine CC_ok hC hT (fun z1 h1 hk1 hC1 => ?_)
    have v3 := CB_set hT.W hC1.2.2.1.1.2.1 (j := 11) (by omega) (by omega) a
    have v2 : Fr h1 (wI h1 (x + 1) 11 a) (x + 1) := Fr.w h1 _ _ (by omega) (by omega)
    have hF := Fq.fr v2 (PD_bk (x := x))
    refine ⟨wI h1 (x + 1) 11 a, ?_, hF.mono PD_E, CL_D hC1.2.2.1 hF (CS_bk hC1.2.2.1.1 v2 v3)⟩
    rw [kV_0 hk] at x1
    have vv : iv h1 (x + 1) 11 = w.1.1 18 := hC1.2.2.1.1.2.1.2.2.2.2.1.2.1
    obtain ⟨o1, o2, o3, o4, o5, o6, o7, o8, o9, o10, o11, o12, o13, o14, o15, o16⟩ := id hC.1
    have hB := hC.2.2.1.1.2.1.1
    have u1 := hB.1
    have u2 := hB.2.1
    have u3 := hB.2.2.2.2.2.2.2.2.2.1
    have u4 := hC.2.2.1.1.1.1
    obtain ⟨p1, p2, p3, p4, p5, p6, p7, p8, p9, p10, p11, p12, p13, p14, p15, p16⟩ := id hC1.1
    have hB1 := hC1.2.2.1.1.2.1.1
    have y1 := hB1.1
    have y2 := hB1.2.1
    have y3 := hB1.2.2.2.2.2.2.2.2.2.1
    have y4 := hC1.2.2.1.1.1.1
    simp (disch := omega) only [fX8_setRule, ↓gd, ↓bl, ↓xr, ↓reduceIte, o1, ↓bb o2, ↓bb o3, ↓bb o4, ↓bb o5, ↓bb o6, ↓bb o7, ↓bb o8, o9, ↓bb o10, o11, o12, o13, ↓bb o14, o15, o16, u1, ↓bb u2, u3, u4, ↓bb3 x1, ↓bb3 (nV1 _ _), ↓bb2 hk1, p1, ↓bb p2, ↓bb p3, ↓bb p4, ↓bb p5, ↓bb p6, ↓bb p7, ↓bb p8, p9, ↓bb p10, p11, p12, p13, ↓bb p14, p15, p16, y1, ↓bb y2, y3, y4, vv]
  · rw [oU_1 hk]
    refine CC_err hC hT ?_
    obtain ⟨o1, o2, o3, o4, o5, o6, o7, o8, o9, o10, o11, o12, o13, o14, o15, o16⟩ := id hC.1
    have hB := hC.2.2.1.1.2.1.1
    have u1 := hB.1
    have u2 := hB.2.1
    have u3 := hB.2.2.2.2.2.2.2.2.2.1
    have u4 := hC.2.2.1.1.1.1
    obtain ⟨e1, ek⟩ := kV_1 hk
    rw [ek]
    rw [e1] at x1
    simp (disch := omega) only [fX8_setRule, ↓gd, ↓bl, ↓xr, ↓reduceIte, o1, ↓bb o2, ↓bb o3, ↓bb o4, ↓bb o5, ↓bb o6, ↓bb o7, ↓bb o8, o9, ↓bb o10, o11, o12, o13, ↓bb o14, o15, o16, u1, ↓bb u2, u3, u4, ↓bb3 x1, Bool.false_eq_true, ↓bb3 (nV0 _ _)]
    rfl
theorem r_setRule {h : AH} {m z : Nat} {A : TS} {B : Nat} (hR : RI h m A) (hT : TI A B) (a : Int32) : RR (fX9_setRule m a z h) h m z (aS2 A a) := by
  obtain ⟨w, H, T⟩ := A
  have hk0 := hR.1.1
  have x1 := e9_in a 0 2 z h
  have i3 : ((18 : Int32) < 0) = False := eq_false (by decide)
  have i4 : Int32.toNatClampNeg 18 = 18 := by decide
  unfold aS2
  by_cases hk : kV 0 2 a = 0
  · rw [oU_0 hk]
    rw [kV_0 hk] at x1
    refine RR_ok hR hT (fun h2 v1 v2 v3 => ?_)
    have e := RI_mh v2
    simp only at e
    refine ⟨upd (iv h2 (m + 1)) 18 a, h2, RF_set v2.2.1 (by omega) (by omega) a, v2.2.2.2.1, Fm.rf m h2, fun h4 k1 k2 k3 => ?_⟩
    have vv : iv h2 (m + 1) 18 = w.1.1 18 := v2.2.1.1 _ (by omega)
    have kk : fX9_records m z (wI h2 (m + 1) (Int32.toNatClampNeg 18) a) = some (z, h4) := by
      rw [i4, ← k1]
      show _ = fX9_records m z (mh h2 m (upd (iv h2 (m + 1)) 18 a) w.1.2.2)
      rw [← mh_w1, ← e]
    have hM := v2.1
    clear k1 k3 k2 e
    obtain ⟨hk, r0, r1, r3, r4, r10, r11, r13, r14, r15, k1, k2, k3, k4, k5, k6, k7, k8, k9, l1, l2, l3, l4, l5, l6, l7, l8, l9⟩ := id hM
    simp (disch := omega) only [fX9_setRule, fX9_sets, bX9_sets_10, ↓gd, ↓bl, ↓reduceIte, ↓bb3 x1, ne10, hk0, kd_wI, ↓bb2 v1, ↓bb r0, ↓bb r1, ↓bb r3, ↓bb r4, ↓bb r10, ↓bb r11, ↓bb r13, ↓bb r14, ↓bb r15, hk, k1, k2, k3, k4, k5, k6, k7, k8, k9, l1, l2, l3, l4, l5, l6, l7, l8, l9, i3, i4, leN_F, or_false, not_false_eq_true, vv, ↓bb2 kk, bd3, Option.bind_some]
  · rw [oU_1 hk]
    refine RR_code (v' := 0) hR (fun h9 => absurd h9 hk) ?_
    obtain ⟨e1, ek⟩ := kV_1 hk
    rw [e1] at x1
    simp (disch := omega) only [fX9_setRule, fX9_sets, bX9_sets_10, ↓gd, ↓bl, ↓reduceIte, ↓bb3 x1, Bool.false_eq_true, hk0, ek, bd3, Option.bind_some]
    rfl
def aS3 (A : TS) (a : Int32) : Nat × Int32 × TS := oU (kV 1 9 a) (A.1.1.1 19) (sV A.1 19 a) A
theorem c_setBudget {h : AH} {x z : Nat} {A : TS} {B : Nat} (hC : CI h x z A) (hT : TI A B) (a : Int32) : CC (fX8_setBudget x a z h) h x z (aS3 A a) eA eS := by
  obtain ⟨w, H, T⟩ := A
  have x1 := e8_isWithin a 1 9 z h
  unfold aS3
  by_cases hk : kV 1 9 a = 0
  · rw [oU_0 hk]
    refine CC_ok hC hT (fun z1 h1 hk1 hC1 => ?_)
    have v3 := CB_set hT.W hC1.2.2.1.1.2.1 (j := 12) (by omega) (by omega) a
    have v2 : Fr h1 (wI h1 (x + 1) 12 a) (x + 1) := Fr.w h1 _ _ (by omega) (by omega)
    have hF := Fq.fr v2 (PD_bk (x := x))
    refine ⟨wI h1 (x + 1) 12 a, ?_, hF.mono PD_E, CL_D hC1.2.2.1 hF (CS_bk hC1.2.2.1.1 v2 v3)⟩
    rw [kV_0 hk] at x1
    have vv : iv h1 (x + 1) 12 = w.1.1 19 := hC1.2.2.1.1.2.1.2.2.2.2.1.2.2.1
    obtain ⟨o1, o2, o3, o4, o5, o6, o7, o8, o9, o10, o11, o12, o13, o14, o15, o16⟩ := id hC.1
    have hB := hC.2.2.1.1.2.1.1
    have u1 := hB.1
    have u2 := hB.2.1
    have u3 := hB.2.2.2.2.2.2.2.2.2.1
    have u4 := hC.2.2.1.1.1.1
    obtain ⟨p1, p2, p3, p4, p5, p6, p7, p8, p9, p10, p11, p12, p13, p14, p15, p16⟩ := id hC1.1
    have hB1 := hC1.2.2.1.1.2.1.1
    have y1 := hB1.1
    have y2 := hB1.2.1
    have y3 := hB1.2.2.2.2.2.2.2.2.2.1
    have y4 := hC1.2.2.1.1.1.1
    simp (disch := omega) only [fX8_setBudget, ↓gd, ↓bl, ↓xr, ↓reduceIte, o1, ↓bb o2, ↓bb o3, ↓bb o4, ↓bb o5, ↓bb o6, ↓bb o7, ↓bb o8, o9, ↓bb o10, o11, o12, o13, ↓bb o14, o15, o16, u1, ↓bb u2, u3, u4, ↓bb3 x1, ↓bb3 (nV1 _ _), ↓bb2 hk1, p1, ↓bb p2, ↓bb p3, ↓bb p4, ↓bb p5, ↓bb p6, ↓bb p7, ↓bb p8, p9, ↓bb p10, p11, p12, p13, ↓bb p14, p15, p16, y1, ↓bb y2, y3, y4, vv]
  · rw [oU_1 hk]
    refine CC_err hC hT ?_
    obtain ⟨o1, o2, o3, o4, o5, o6, o7, o8, o9, o10, o11, o12, o13, o14, o15, o16⟩ := id hC.1
    have hB := hC.2.2.1.1.2.1.1
    have u1 := hB.1
    have u2 := hB.2.1
    have u3 := hB.2.2.2.2.2.2.2.2.2.1
    have u4 := hC.2.2.1.1.1.1
    obtain ⟨e1, ek⟩ := kV_1 hk
    rw [ek]
    rw [e1] at x1
    simp (disch := omega) only [fX8_setBudget, ↓gd, ↓bl, ↓xr, ↓reduceIte, o1, ↓bb o2, ↓bb o3, ↓bb o4, ↓bb o5, ↓bb o6, ↓bb o7, ↓bb o8, o9, ↓bb o10, o11, o12, o13, ↓bb o14, o15, o16, u1, ↓bb u2, u3, u4, ↓bb3 x1, Bool.false_eq_true, ↓bb3 (nV0 _ _)]
    rfl
theorem r_setBudget {h : AH} {m z : Nat} {A : TS} {B : Nat} (hR : RI h m A) (hT : TI A B) (a : Int32) : RR (fX9_setBudget m a z h) h m z (aS3 A a) := by
  obtain ⟨w, H, T⟩ := A
  have hk0 := hR.1.1
  have x1 := e9_in a 1 9 z h
  have i3 : ((19 : Int32) < 0) = False := eq_false (by decide)
  have i4 : Int32.toNatClampNeg 19 = 19 := by decide
  unfold aS3
  by_cases hk : kV 1 9 a = 0
  · rw [oU_0 hk]
    rw [kV_0 hk] at x1
    refine RR_ok hR hT (fun h2 v1 v2 v3 => ?_)
    have e := RI_mh v2
    simp only at e
    refine ⟨upd (iv h2 (m + 1)) 19 a, h2, RF_set v2.2.1 (by omega) (by omega) a, v2.2.2.2.1, Fm.rf m h2, fun h4 k1 k2 k3 => ?_⟩
    have vv : iv h2 (m + 1) 19 = w.1.1 19 := v2.2.1.1 _ (by omega)
    have kk : fX9_records m z (wI h2 (m + 1) (Int32.toNatClampNeg 19) a) = some (z, h4) := by
      rw [i4, ← k1]
      show _ = fX9_records m z (mh h2 m (upd (iv h2 (m + 1)) 19 a) w.1.2.2)
      rw [← mh_w1, ← e]
    have hM := v2.1
    clear k1 k3 k2 e
    obtain ⟨hk, r0, r1, r3, r4, r10, r11, r13, r14, r15, k1, k2, k3, k4, k5, k6, k7, k8, k9, l1, l2, l3, l4, l5, l6, l7, l8, l9⟩ := id hM
    simp (disch := omega) only [fX9_setBudget, fX9_sets, bX9_sets_10, ↓gd, ↓bl, ↓reduceIte, ↓bb3 x1, ne10, hk0, kd_wI, ↓bb2 v1, ↓bb r0, ↓bb r1, ↓bb r3, ↓bb r4, ↓bb r10, ↓bb r11, ↓bb r13, ↓bb r14, ↓bb r15, hk, k1, k2, k3, k4, k5, k6, k7, k8, k9, l1, l2, l3, l4, l5, l6, l7, l8, l9, i3, i4, leN_F, or_false, not_false_eq_true, vv, ↓bb2 kk, bd3, Option.bind_some]
  · rw [oU_1 hk]
    refine RR_code (v' := 0) hR (fun h9 => absurd h9 hk) ?_
    obtain ⟨e1, ek⟩ := kV_1 hk
    rw [e1] at x1
    simp (disch := omega) only [fX9_setBudget, fX9_sets, bX9_sets_10, ↓gd, ↓bl, ↓reduceIte, ↓bb3 x1, Bool.false_eq_true, hk0, ek, bd3, Option.bind_some]
    rfl
theorem WS_V {w : Ac} {B j : Nat} {a : Int32} (h : WS w B) (h1 : 17 ≤ j) (h2 : j < 20) (hs : WFs (upd w.1.1 j a)) : WS (sV w j a) B :=
  ⟨WQ_set h.1 (fun k hk => by show _ = upd w.1.1 j a k; rw [upd_s, if_neg (by omega)]) hs, Zq_c (fun k hk => by show upd w.1.1 j a k = _; rw [upd_s, if_neg (by omega)]) h.2⟩
theorem WS_S1 {w : Ac} {B : Nat} {a : Int32} (h : WS w B) (hk : kV 0 2 a = 0) : WS (sV w 17 a) B :=
  WS_V h (by omega) (by omega) (by
    obtain ⟨s1, s2, s3⟩ := h.1.2.2.2.2.1
    refine ⟨?_, ?_, ?_⟩
    · rw [upd_s, if_pos rfl]; exact in02 (kV_0 hk)
    · rw [upd_s, if_neg (by omega)]; exact s2
    · rw [upd_s, if_neg (by omega)]; exact s3)
theorem WS_S2 {w : Ac} {B : Nat} {a : Int32} (h : WS w B) (hk : kV 0 2 a = 0) : WS (sV w 18 a) B :=
  WS_V h (by omega) (by omega) (by
    obtain ⟨s1, s2, s3⟩ := h.1.2.2.2.2.1
    refine ⟨?_, ?_, ?_⟩
    · rw [upd_s, if_neg (by omega)]; exact s1
    · rw [upd_s, if_pos rfl]; exact in02 (kV_0 hk)
    · rw [upd_s, if_neg (by omega)]; exact s3)
theorem WS_S3 {w : Ac} {B : Nat} {a : Int32} (h : WS w B) (hk : kV 1 9 a = 0) : WS (sV w 19 a) B :=
  WS_V h (by omega) (by omega) (by
    obtain ⟨s1, s2, s3⟩ := h.1.2.2.2.2.1
    refine ⟨?_, ?_, ?_⟩
    · rw [upd_s, if_neg (by omega)]; exact s1
    · rw [upd_s, if_neg (by omega)]; exact s2
    · rw [upd_s, if_pos rfl]; exact in19 (kV_0 hk))
/-! undo -/
theorem snoc_c : ∀ (H : List Rec), H = [] ∨ ∃ G r, H = G ++ [r]
  | [] => Or.inl rfl
  | a :: l => by
    rcases snoc_c l with rfl | ⟨G, r, rfl⟩
    · exact Or.inr ⟨[], a, rfl⟩
    · exact Or.inr ⟨a :: G, r, rfl⟩
def aN (A : TS) : Nat × Int32 × TS := match A.2.1.getLast? with
  | none => (1, 0, A)
  | some r => (0, nI A.2.1.dropLast.length, (((r.1, r.2, A.1.1.2.2), A.1.2), A.2.1.dropLast, A.2.2))
theorem aN_0 (w : Ac) (T : List Nat) : aN (w, [], T) = (1, 0, (w, [], T)) := rfl
theorem aN_1 (w : Ac) (G : List Rec) (r : Rec) (T : List Nat) : aN (w, G ++ [r], T) = (0, nI G.length, (((r.1, r.2, w.1.2.2), w.2), G, T)) := by
  unfold aN
  simp only [List.getLast?_append, List.getLast?_singleton, Option.some_or, List.dropLast_concat]
theorem TI_N {A : TS} {B : Nat} (hT : TI A B) : TI (aN A).2.2 B := by
  obtain ⟨w, H, T⟩ := A
  rcases snoc_c H with rfl | ⟨G, r, rfl⟩
  · rw [aN_0]; exact hT
  · rw [aN_1]
    have hr := hT.2.1 r (List.mem_append_right _ (List.mem_singleton.mpr rfl))
    exact ⟨⟨hr.1, hr.2⟩, fun s hs => hT.2.1 s (List.mem_append_left _ hs), hT.2.2⟩
theorem c_undo {h : AH} {x z : Nat} {A : TS} {B : Nat} (hC : CI h x z A) (hT : TI A B) : CC (fX8_undo x z h) h x z (aN A) eS eS := by
  obtain ⟨w, H, T⟩ := A
  have c7 : iv h (x + 39) 1 = nI H.length := hC.2.2.2.2.1.1
  have c8 : H.length ≤ 5 := hC.2.2.2.2.1.2.1
  rcases snoc_c H with rfl | ⟨G, r, rfl⟩
  · rw [aN_0]
    refine CC_err hC hT ?_
    have e1 : (nI ([] : List Rec).length ≤ 0) = True := eq_true (by decide)
    obtain ⟨o1, o2, o3, o4, o5, o6, o7, o8, o9, o10, o11, o12, o13, o14, o15, o16⟩ := id hC.1
    have hB := hC.2.2.1.1.2.1.1
    have u1 := hB.1
    have u2 := hB.2.1
    have u3 := hB.2.2.2.2.2.2.2.2.2.1
    have u4 := hC.2.2.1.1.1.1
    simp (disch := omega) only [fX8_undo, bX8_undo_15, ↓gd, ↓bl, ↓xr, ↓reduceIte, o1, ↓bb o2, ↓bb o3, ↓bb o4, ↓bb o5, ↓bb o6, ↓bb o7, ↓bb o8, o9, ↓bb o10, o11, o12, o13, ↓bb o14, o15, o16, u1, ↓bb u2, u3, u4, c7, e1, ↓bb3 (nS0 _ _)]
    rfl
  · rw [aN_1]
    have hr := hT.2.1 r (List.mem_append_right _ (List.mem_singleton.mpr rfl))
    obtain ⟨h', v1, v2, v3⟩ := k_back hT.W hr.1.1 hr.1.len (fun s hs => hT.H s (List.mem_append_left _ hs)) hC
    refine ⟨z, h', ?_, Nat.le_refl _, v2, v3⟩
    have hl : (G ++ [r]).length = G.length + 1 := by rw [List.length_append]; rfl
    have e1 : (nI (G ++ [r]).length ≤ 0) = False := eq_false (by rw [le0E (by omega)]; omega)
    have d7 : iv h' (x + 39) 1 = nI G.length := v2.2.2.2.2.1.1
    have hC1 := v2
    obtain ⟨o1, o2, o3, o4, o5, o6, o7, o8, o9, o10, o11, o12, o13, o14, o15, o16⟩ := id hC.1
    have hB := hC.2.2.1.1.2.1.1
    have u1 := hB.1
    have u2 := hB.2.1
    have u3 := hB.2.2.2.2.2.2.2.2.2.1
    have u4 := hC.2.2.1.1.1.1
    obtain ⟨p1, p2, p3, p4, p5, p6, p7, p8, p9, p10, p11, p12, p13, p14, p15, p16⟩ := id hC1.1
    have hB1 := hC1.2.2.1.1.2.1.1
    have y1 := hB1.1
    have y2 := hB1.2.1
    have y3 := hB1.2.2.2.2.2.2.2.2.2.1
    have y4 := hC1.2.2.1.1.1.1
    simp (disch := omega) only [fX8_undo, bX8_undo_15, ↓gd, ↓bl, ↓xr, ↓reduceIte, o1, ↓bb o2, ↓bb o3, ↓bb o4, ↓bb o5, ↓bb o6, ↓bb o7, ↓bb o8, o9, ↓bb o10, o11, o12, o13, ↓bb o14, o15, o16, u1, ↓bb u2, u3, u4, c7, e1, ↓bb3 (nS1 _ _), ↓bb2 v1, p1, ↓bb p2, ↓bb p3, ↓bb p4, ↓bb p5, ↓bb p6, ↓bb p7, ↓bb p8, p9, ↓bb p10, p11, p12, p13, ↓bb p14, p15, p16, y1, ↓bb y2, y3, y4, d7]
    rfl
theorem r_undo {h : AH} {m z : Nat} {A : TS} {B : Nat} (hR : RI h m A) (hT : TI A B) : RR (fX9_undo m z h) h m z (aN A) := by
  obtain ⟨w, H, T⟩ := A
  have hk0 := hR.1.1
  have r5 : iv h m 2 = nI H.length := hR.2.2.2.2.1
  have r6 : H.length ≤ 5 := hR.2.2.2.2.2.1
  rcases snoc_c H with rfl | ⟨G, r, rfl⟩
  · rw [aN_0]
    refine RR_code (v' := 0) hR (fun h9 => absurd h9 (by decide)) ?_
    have e1 : (nI ([] : List Rec).length = 0) = True := eq_true rfl
    simp (disch := omega) only [fX9_undo, bX9_undo_13, ↓gd, ↓bl, ↓reduceIte, hk0, r5, e1, kd_wI, iv6, li1E]
    rfl
  · rw [aN_1]
    have hl : (G ++ [r]).length = G.length + 1 := by rw [List.length_append]; rfl
    have e1 : (nI (G ++ [r]).length = 0) = False := eq_false (by rw [nI_0E (by omega)]; omega)
    have e2 : nI (G ++ [r]).length - 1 = nI G.length := by rw [hl, show (1 : Int32) = nI 1 from rfl, pk_sub (by omega)]; rfl
    obtain ⟨c1, c2, c3⟩ := RI_code hR 0
    have f1 : Fq (PR m) h (wI (wI h m 6 0) m 2 (nI G.length)) := c2.tr (Fq.w _ _ _ ⟨Nat.le_refl _, by omega⟩)
    have g0 : ∀ j, j ≠ 2 → iv (wI (wI h m 6 0) m 2 (nI G.length)) m j = iv (wI h m 6 0) m j := fun j hj => by rw [iv_wI, if_pos rfl, if_neg hj]
    have gb : ∀ b, b ≠ m → iv (wI (wI h m 6 0) m 2 (nI G.length)) b = iv h b := fun b hb => by rw [iv_wI_ne _ _ _ hb, iv_wI_ne _ _ _ hb]
    obtain ⟨h', v1, v2, v3, v4⟩ := ud_loop (m := m) (n := G.length) (by omega) z 613 0 (by omega) (wI (wI h m 6 0) m 2 (nI G.length)) fu (by unfold fu; omega) (MO_c rfl rfl hR.1) (by rw [iv_wI, if_pos rfl, if_pos rfl]) (fun j hj => by omega)
    rw [nI_0] at v1
    have gm : iv h' m = iv (wI (wI h m 6 0) m 2 (nI G.length)) m := iv_F v2 (by omega)
    have gr : ∀ b, b ≠ m → b ≠ m + 1 → iv h' b = iv h b := fun b b1 b2 => (iv_F v2 b2).trans (gb b b1)
    obtain ⟨r1, r2, r3, r4, -, -, r7, r8, r9, r10⟩ := id c1
    have e7 : iv (wI h m 6 0) (m + 2) = iv h (m + 2) := iv_wI_ne _ _ _ (by omega)
    refine ⟨nI G.length, h', ?_, fun _ => rfl, ⟨MO_c v2.1 v2.2.1 (MO_c rfl rfl hR.1), ?_, ?_, ?_, ?_, ?_, ?_, ?_, r9, ?_⟩, f1.tr (v2.mono (fun b hb => by unfold PR; omega)), ?_⟩
    · have q2 : iv (wI h m 6 0) m 2 = nI (G ++ [r]).length := by rw [iv_wI, if_pos rfl, if_neg (by omega)]; exact r5
      simp (disch := omega) only [fX9_undo, bX9_undo_13, ↓gd, ↓bl, ↓reduceIte, hk0, r5, e1, kd_wI, iv6, le00, q2, e2]
      exact v1
    · have hP := r7 G.length r (by simp)
      rw [e7] at hP
      have : iv h' (m + 1) = cut (iv h (m + 2)) G.length := by
        funext j
        unfold cut
        by_cases hj : j < 613
        · rw [if_pos hj, v3 j hj, gb _ (by omega)]
        · rw [if_neg hj, v4 j (by omega), gb _ (by omega)]
          have := hR.2.1.1 j (by omega)
          rw [this]
          exact hT.1.2 j (by omega)
      rw [this]
      exact hP
    · rw [gr _ (by omega) (by omega)]; exact hR.2.2.1
    · have := r4
      unfold LM at this ⊢
      rw [gm, g0 7 (by omega), g0 8 (by omega), g0 9 (by omega)]
      exact this
    · rw [gm, iv_wI, if_pos rfl, if_pos rfl]
    · show G.length ≤ 5; omega
    · intro i s hs
      rw [gr _ (by omega) (by omega)]
      have hs' : G[i]? = some s := hs
      have hi := (List.getElem?_eq_some_iff.mp hs').1
      have := r7 i s (by rw [List.getElem?_append_left hi]; exact hs')
      rw [e7] at this
      exact this
    · rw [gm, g0 5 (by omega)]; exact r8
    · intro i c hc
      rw [gr _ (by omega) (by omega)]
      exact hR.2.2.2.2.2.2.2.2.2 i c hc
    · rw [gm, g0 6 (by omega)]; exact c3
