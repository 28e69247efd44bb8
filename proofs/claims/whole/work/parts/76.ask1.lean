/-! questions -/
def ltI (x : Int32) (n : Nat) : Bool := decide (¬ x < 0) && decide (x.toNatClampNeg < n)
theorem ltI_of {x : Int32} {n : Nat} (h : ltI x n = true) : ∃ j, j < n ∧ j < 2 ^ 31 ∧ x = nI j ∧ tn' x = j := by
  unfold ltI at h
  rw [Bool.and_eq_true, decide_eq_true_eq, decide_eq_true_eq] at h
  obtain ⟨j, hj, rfl⟩ := nI_of h.1
  rw [nI_clamp hj] at h
  exact ⟨j, h.2, hj, rfl, nI_clamp hj⟩
theorem inI_m {x : Int32} {n : Nat} (hn : n < 2 ^ 31) : inI x 0 (nI n - 1) = ltI x n := by
  unfold ltI
  by_cases e : x < 0
  · unfold inI; simp [e]
  · obtain ⟨j, hj, rfl⟩ := nI_of e
    rw [nI_clamp hj]
    by_cases e0 : n = 0
    · rw [e0]
      have e1 : nI 0 - 1 = -1 := by decide
      rw [e1]
      have e2 : (-1 : Int32) < nI j := by
        rw [Int32.lt_iff_toInt_lt, nI_toInt hj]
        have : (-1 : Int32).toInt = -1 := by decide
        omega
      unfold inI
      simp [e2]
    · have e1 : nI n - 1 = nI (n - 1) := by rw [show (1 : Int32) = nI 1 from rfl, pk_sub (by omega)]
      rw [e1, inI_nI hj (by omega)]
      have e3 : (decide (¬ nI j < 0)) = true := by simp [e]
      rw [e3, Bool.true_and]
      by_cases e4 : j < n
      · simp [e4]; omega
      · simp [e4]; omega
/-- the place in an order -/
def plL (L : List Nat) (t : Nat) : Int32 := plF (fun j => nI (L.getD (j - 22) 0)) t L.length
theorem plF_c {p q : Nat → Int32} {t : Nat} : ∀ n, (∀ i, i < n → p (22 + i) = q (22 + i)) → plF p t n = plF q t n := by
  intro n
  induction n with
  | zero => intro _; rfl
  | succ n ih =>
    intro h
    unfold plF
    rw [h n (by omega), ih (fun i hi => h i (by omega))]
theorem plF_L {p : Nat → Int32} (hO : WFo p) (t : Nat) : plF p t (oq p) = plL (od p) t := by
  unfold plL
  rw [od_len]
  refine plF_c _ (fun i hi => ?_)
  rw [(hO.2.2.1 i hi).2, show 22 + i - 22 = i by omega, List.getD_eq_getElem?_getD, od_get hi]
  rfl
/-- a row with a given order -/
def mkp (q : Nat → Int32) (L : List Nat) : Nat → Int32 := fun j => if j = 21 then nI L.length else if 22 ≤ j ∧ j < 22 + L.length then nI (L.getD (j - 22) 0) else q j
theorem mkp_RF {q : Nat → Int32} {L : List Nat} {B : Nat} (h : WQ q L B) : RF (mkp q L) q L := by
  have hl := h.len
  have hLO := h.2.2.2.1
  have hn : nord (mkp q L) q := fun j hj => by unfold mkp; rw [if_neg (by omega), if_neg (by omega)]
  have e21 : mkp q L 21 = nI L.length := by unfold mkp; rw [if_pos rfl]
  have eq : oq (mkp q L) = L.length := by unfold oq; rw [e21, nI_clamp (by omega)]
  have ei : ∀ i, i < L.length → mkp q L (22 + i) = nI (L.getD i 0) := fun i hi => by
    unfold mkp
    rw [if_neg (by omega), if_pos (by omega), show 22 + i - 22 = i by omega]
  have h10 : ∀ i, i < L.length → L.getD i 0 < 10 := fun i hi => by
    rw [List.getD_eq_getElem?_getD, List.getElem?_eq_getElem hi]
    exact ((hLO.2 _).mp (List.getElem_mem hi)).1
  have eoi : ∀ i, i < L.length → oi (mkp q L) i = L.getD i 0 := fun i hi => by
    unfold oi; rw [ei i hi, nI_clamp (by have := h10 i hi; omega)]
  have eod : od (mkp q L) = L := by
    apply List.ext_getElem?
    intro i
    by_cases hi : i < L.length
    · rw [od_get (by omega), eoi i hi, List.getD_eq_getElem?_getD, List.getElem?_eq_getElem hi]; rfl
    · rw [List.getElem?_eq_none (by rw [od_len]; omega), List.getElem?_eq_none (by omega)]
  refine ⟨hn, eod, by rw [eq]; exact e21, by omega, fun i hi => ?_, by rw [eod]; exact hLO.1, fun t ht => ?_⟩
  · rw [eq] at hi
    rw [eoi i hi]
    exact ⟨h10 i hi, ei i hi⟩
  · rw [eod, hLO.2 t, wt_nord hn]
    exact ⟨fun h => h.2, fun h => ⟨ht, h⟩⟩
theorem li0 : (0 : Int32) = nI 0 := rfl
/-! resources, messages, tasks, told, latest, waiting -/
def RP (f : Option (Int32 × Nat × AH)) (h : AH) (m z : Nat) (o : Int32 × TS) : Prop := ∃ h', f = some (o.1, z, h') ∧ RI h' m o.2 ∧ Fq (PR m) h h'
theorem CP_ask {f : Option (Int32 × Nat × AH)} {h : AH} {x z : Nat} {A : TS} {v : Int32} (hC : CI h x z A) (hf : f = some (v, z, h)) : CP f h x z (v, A) := ⟨z, h, hf, Nat.le_refl _, hC, FK.rf x h⟩
theorem RP_ask {f : Option (Int32 × Nat × AH)} {h : AH} {m z : Nat} {A : TS} {v : Int32} (hR : RI h m A) (hf : f = some (v, z, wI h m 6 0)) : RP f h m z (v, A) := ⟨_, hf, (RI_code hR 0).1, (RI_code hR 0).2.1⟩
theorem c_resources {h : AH} {x z : Nat} {A : TS} (hC : CI h x z A) : CP (fX8_resources x z h) h x z (A.1.1.1 0, A) := by
  refine CP_ask hC ?_
  have v : iv h (x + 1 + 1) 3 = A.1.1.1 0 := hC.2.2.1.1.2.1.2.1.1
  obtain ⟨o1, o2, o3, o4, o5, o6, o7, o8, o9, o10, o11, o12, o13, o14, o15, o16⟩ := id hC.1
  have hB := hC.2.2.1.1.2.1.1
  have u1 := hB.1
  have u2 := hB.2.1
  have u3 := hB.2.2.2.2.2.2.2.2.2.1
  have u4 := hC.2.2.1.1.1.1
  simp (disch := omega) only [fX8_resources, ↓gd, ↓bl, ↓xr, ↓reduceIte, o1, ↓bb o2, ↓bb o3, ↓bb o4, ↓bb o5, ↓bb o6, ↓bb o7, ↓bb o8, o9, ↓bb o10, o11, o12, o13, ↓bb o14, o15, o16, u1, ↓bb u2, u3, u4, v]
theorem r_resources {h : AH} {m z : Nat} {A : TS} (hR : RI h m A) : RP (fX9_resources m z h) h m z (A.1.1.1 0, A) := by
  refine RP_ask hR ?_
  have v : iv h (m + 1) 0 = A.1.1.1 0 := hR.2.1.1 0 (by omega)
  have hM := hR.1
  obtain ⟨hk, r0, r1, r3, r4, r10, r11, r13, r14, r15, k1, k2, k3, k4, k5, k6, k7, k8, k9, l1, l2, l3, l4, l5, l6, l7, l8, l9⟩ := id hM
  simp (disch := omega) only [fX9_resources, ↓brv_wI, ↓brv_wJ, ↓gd, ↓bl, ↓on, ↓xr, ↓reduceIte, if_true, if_false, kd_wI, ln_wI, rv_wI, iv_wI, jv_wI, kd_wJ, ln_wJ, rv_wJ, iv_wJ, nI_clamp, nI_leE, nI_ltE, nI_eqE, m1_ne, bit_0, bit_1, nI_negE, leN_F, leN_T, ltN_F, ltN_T, eqN_F, or_false, false_or, or_true, true_or, not_false_eq_true, not_true_eq_false, and_true, true_and, and_false, false_and, ↓bb r0, ↓bb r1, ↓bb r3, ↓bb r4, ↓bb r10, ↓bb r11, ↓bb r13, ↓bb r14, ↓bb r15, hk, k1, k2, k3, k4, k5, k6, k7, k8, k9, l1, l2, l3, l4, l5, l6, l7, l8, l9, ix0, lt00, v]
theorem c_messages {h : AH} {x z : Nat} {A : TS} (hC : CI h x z A) : CP (fX8_messages x z h) h x z (A.1.1.1 92, A) := by
  refine CP_ask hC ?_
  have v : iv h (x + 1 + 5) 5 = A.1.1.1 92 := hC.2.2.1.1.2.1.2.2.2.2.2.1
  have u5 := hC.2.2.1.1.2.1.1.2.2.1
  have u6 : kd h (x + 1 + 5) = 5 := hC.2.2.1.1.2.1.1.2.2.2.2.2.2.2.2.2.2.2.2.2.1
  obtain ⟨o1, o2, o3, o4, o5, o6, o7, o8, o9, o10, o11, o12, o13, o14, o15, o16⟩ := id hC.1
  have hB := hC.2.2.1.1.2.1.1
  have u1 := hB.1
  have u2 := hB.2.1
  have u3 := hB.2.2.2.2.2.2.2.2.2.1
  have u4 := hC.2.2.1.1.1.1
  simp (disch := omega) only [fX8_messages, ↓gd, ↓bl, ↓xr, ↓reduceIte, o1, ↓bb o2, ↓bb o3, ↓bb o4, ↓bb o5, ↓bb o6, ↓bb o7, ↓bb o8, o9, ↓bb o10, o11, o12, o13, ↓bb o14, o15, o16, u1, ↓bb u2, u3, u4, ↓bb u5, u6, v]
theorem r_messages {h : AH} {m z : Nat} {A : TS} (hR : RI h m A) : RP (fX9_messages m z h) h m z (A.1.1.1 92, A) := by
  refine RP_ask hR ?_
  have v : iv h (m + 1) 92 = A.1.1.1 92 := hR.2.1.1 92 (by omega)
  have i3 : ((92 : Int32) < 0) = False := eq_false (by decide)
  have i4 : Int32.toNatClampNeg 92 = 92 := by decide
  have hM := hR.1
  obtain ⟨hk, r0, r1, r3, r4, r10, r11, r13, r14, r15, k1, k2, k3, k4, k5, k6, k7, k8, k9, l1, l2, l3, l4, l5, l6, l7, l8, l9⟩ := id hM
  simp (disch := omega) only [fX9_messages, ↓brv_wI, ↓brv_wJ, ↓gd, ↓bl, ↓on, ↓xr, ↓reduceIte, if_true, if_false, kd_wI, ln_wI, rv_wI, iv_wI, jv_wI, kd_wJ, ln_wJ, rv_wJ, iv_wJ, nI_clamp, nI_leE, nI_ltE, nI_eqE, m1_ne, bit_0, bit_1, nI_negE, leN_F, leN_T, ltN_F, ltN_T, eqN_F, or_false, false_or, or_true, true_or, not_false_eq_true, not_true_eq_false, and_true, true_and, and_false, false_and, ↓bb r0, ↓bb r1, ↓bb r3, ↓bb r4, ↓bb r10, ↓bb r11, ↓bb r13, ↓bb r14, ↓bb r15, hk, k1, k2, k3, k4, k5, k6, k7, k8, k9, l1, l2, l3, l4, l5, l6, l7, l8, l9, i3, i4, v]
theorem c_tasks {h : AH} {x z : Nat} {A : TS} (hC : CI h x z A) : CP (fX8_tasks x z h) h x z (mk 10 (th A.1.1.1), A) := by
  refine CP_ask hC ?_
  have v : iv h (x + 1) 9 = mk 10 (th A.1.1.1) := hC.2.2.1.1.2.1.2.2.1.1
  obtain ⟨o1, o2, o3, o4, o5, o6, o7, o8, o9, o10, o11, o12, o13, o14, o15, o16⟩ := id hC.1
  have hB := hC.2.2.1.1.2.1.1
  have u1 := hB.1
  have u2 := hB.2.1
  have u3 := hB.2.2.2.2.2.2.2.2.2.1
  have u4 := hC.2.2.1.1.1.1
  simp (disch := omega) only [fX8_tasks, ↓gd, ↓bl, ↓xr, ↓reduceIte, o1, ↓bb o2, ↓bb o3, ↓bb o4, ↓bb o5, ↓bb o6, ↓bb o7, ↓bb o8, o9, ↓bb o10, o11, o12, o13, ↓bb o14, o15, o16, u1, ↓bb u2, u3, u4, v]
theorem all_loop {h : AH} {m : Nat} {q : Nat → Int32} (hM : MO h m) (hn : nord (ps h m) q) (z : Nat) : ∀ (d k : Nat), k + d = 10 → ∀ fuel, d < fuel → lX9_all_4 fuel m (mk k (th q)) (nI k) z h = some (mk 10 (th q), z, h) := by
  intro d
  have hk0 := hM.1
  induction d with
  | zero =>
    intro k hk fuel hf
    obtain rfl : k = 10 := by omega
    cases fuel with
    | zero => omega
    | succ fuel =>
      show lX9_all_4B _ _ _ _ _ _ = _
      simp (disch := omega) only [lX9_all_4B, li10, Int32.le_refl, ↓reduceIte]
  | succ d ih =>
    intro k hk fuel hf
    cases fuel with
    | zero => omega
    | succ fuel =>
      have x1 := e9_isTask hM (nI k) z
      rw [tkI_nI (by omega), th_nord hn] at x1
      have h3 := ih (k + 1) (by omega) fuel (by omega)
      rw [mk_s] at h3
      show lX9_all_4B _ _ _ _ _ _ = _
      cases hth : th q k
      · rw [hth] at x1 h3
        simp only [Bool.false_eq_true, if_false] at h3
        simp (disch := omega) only [lX9_all_4B, bX9_all_26, ↓gd, ↓bl, ↓on, ↓xr, ↓reduceIte, if_true, if_false, kd_wI, ln_wI, rv_wI, iv_wI, jv_wI, kd_wJ, ln_wJ, rv_wJ, iv_wJ, nI_clamp, nI_leE, nI_ltE, nI_eqE, m1_ne, bit_0, bit_1, nI_negE, leN_F, leN_T, ltN_F, ltN_T, eqN_F, or_false, false_or, or_true, true_or, not_false_eq_true, not_true_eq_false, and_true, true_and, and_false, false_and, li10, hk0, ↓bb3 x1, Bool.false_eq_true, or_0, nI_1]
        exact h3
      · rw [hth] at x1 h3
        simp only [if_true] at h3
        simp (disch := omega) only [lX9_all_4B, bX9_all_26, ↓gd, ↓bl, ↓on, ↓xr, ↓reduceIte, if_true, if_false, kd_wI, ln_wI, rv_wI, iv_wI, jv_wI, kd_wJ, ln_wJ, rv_wJ, iv_wJ, nI_clamp, nI_leE, nI_ltE, nI_eqE, m1_ne, bit_0, bit_1, nI_negE, leN_F, leN_T, ltN_F, ltN_T, eqN_F, or_false, false_or, or_true, true_or, not_false_eq_true, not_true_eq_false, and_true, true_and, and_false, false_and, li10, hk0, ↓bb3 x1, ne10, nI_1]
        exact h3
theorem e9_all {h : AH} {m : Nat} {q : Nat → Int32} (hM : MO h m) (hn : nord (ps h m) q) (z : Nat) : fX9_all m z h = some (mk 10 (th q), z, h) := by
  have := all_loop hM hn z 10 0 (by omega) fu (by unfold fu; omega)
  rw [nI_0] at this
  exact this
theorem r_tasks {h : AH} {m z : Nat} {A : TS} (hR : RI h m A) : RP (fX9_tasks m z h) h m z (mk 10 (th A.1.1.1), A) := by
  refine RP_ask hR ?_
  have c1 := (RI_code hR 0).1
  have x1 := e9_all c1.1 c1.2.1.1 z
  have hk0 := hR.1.1
  simp (disch := omega) only [fX9_tasks, ↓gd, ↓bl, ↓reduceIte, hk0, ↓bb3 x1]
def aO (A : TS) (a : Int32) : Nat × Int32 × TS := (kV 0 7 a, A.1.1.2.2 (tn' a), A)
theorem c_told {h : AH} {x z : Nat} {A : TS} {B : Nat} (hC : CI h x z A) (hT : TI A B) (a : Int32) : CC (fX8_told x a z h) h x z (aO A a) eA eS := by
  have x1 := e8_isWithin a 0 7 z h
  unfold aO
  by_cases hk : kV 0 7 a = 0
  · rw [hk]
    refine CC_ask hC ?_
    have e := kV_0 hk
    rw [e] at x1
    obtain ⟨t, ht, rfl⟩ := inI_of (n := 7) (by omega) e
    have v : iv h (x + 34) t = A.1.1.2.2 t := hC.2.2.1.1.2.2 t (by omega)
    obtain ⟨d1, d2, d3, d4, d5, d6, d7, d8, -⟩ := id hC.2.2.1.1.1
    rw [show tn' (nI t) = t from nI_clamp (by omega)]
    obtain ⟨o1, o2, o3, o4, o5, o6, o7, o8, o9, o10, o11, o12, o13, o14, o15, o16⟩ := id hC.1
    have hB := hC.2.2.1.1.2.1.1
    have u1 := hB.1
    have u2 := hB.2.1
    have u3 := hB.2.2.2.2.2.2.2.2.2.1
    have u4 := hC.2.2.1.1.1.1
    simp (disch := omega) only [fX8_told, ↓gd, ↓bl, ↓xr, ↓reduceIte, o1, ↓bb o2, ↓bb o3, ↓bb o4, ↓bb o5, ↓bb o6, ↓bb o7, ↓bb o8, o9, ↓bb o10, o11, o12, o13, ↓bb o14, o15, o16, u1, ↓bb u2, u3, u4, ↓bb3 x1, ↓bb3 (nV1 _ _), d5, ↓bb d6, d7, d8, nI_negE, nI_clamp, leN_F, or_false, not_false_eq_true, v]
  · refine CC_err hC hT ?_
    obtain ⟨e1, ek⟩ := kV_1 hk
    rw [ek]
    rw [e1] at x1
    simp (disch := omega) only [fX8_told, ↓xr, ↓bb3 x1, Bool.false_eq_true, ↓reduceIte, ↓bb3 (nV0 _ _)]
    rfl
theorem r_told {h : AH} {m z : Nat} {A : TS} (hR : RI h m A) (a : Int32) : RR (fX9_told m a z h) h m z (aO A a) := by
  have x1 := e9_in a 0 7 z h
  unfold aO
  have hM := hR.1
  by_cases hk : kV 0 7 a = 0
  · rw [hk]
    have e := kV_0 hk
    rw [e] at x1
    obtain ⟨t, ht, rfl⟩ := inI_of (n := 7) (by omega) e
    have v : iv h (m + 3) t = A.1.1.2.2 t := by rw [hR.2.2.1]
    refine RR_code (v' := A.1.1.2.2 t) hR (fun _ => by rw [show tn' (nI t) = t from nI_clamp (by omega)]) ?_
    obtain ⟨hk, r0, r1, r3, r4, r10, r11, r13, r14, r15, k1, k2, k3, k4, k5, k6, k7, k8, k9, l1, l2, l3, l4, l5, l6, l7, l8, l9⟩ := id hM
    simp (disch := omega) only [fX9_told, bX9_told_16, ↓brv_wI, ↓brv_wJ, ↓gd, ↓bl, ↓on, ↓xr, ↓reduceIte, if_true, if_false, kd_wI, ln_wI, rv_wI, iv_wI, jv_wI, kd_wJ, ln_wJ, rv_wJ, iv_wJ, nI_clamp, nI_leE, nI_ltE, nI_eqE, m1_ne, bit_0, bit_1, nI_negE, leN_F, leN_T, ltN_F, ltN_T, eqN_F, or_false, false_or, or_true, true_or, not_false_eq_true, not_true_eq_false, and_true, true_and, and_false, false_and, ↓bb3 x1, ne10, ↓bb r0, ↓bb r1, ↓bb r3, ↓bb r4, ↓bb r10, ↓bb r11, ↓bb r13, ↓bb r14, ↓bb r15, hk, k1, k2, k3, k4, k5, k6, k7, k8, k9, l1, l2, l3, l4, l5, l6, l7, l8, l9, iv6, le00, v, nI_0]
  · refine RR_code (v' := 0) hR (fun h9 => absurd h9 hk) ?_
    obtain ⟨e1, ek⟩ := kV_1 hk
    rw [e1] at x1
    have hk0 := hM.1
    simp (disch := omega) only [fX9_told, bX9_told_16, ↓gd, ↓bl, ↓reduceIte, ↓bb3 x1, Bool.false_eq_true, hk0, kd_wI, iv6, li1E, ek]
    rfl
def aE (A : TS) (a : Int32) : Nat × Int32 × TS := (kV 0 2 a, if a = 0 then A.1.2.1 else if a = 1 then A.1.2.2.1 else A.1.2.2.2, A)
theorem c_latest {h : AH} {x z : Nat} {A : TS} {B : Nat} (hC : CI h x z A) (hT : TI A B) (a : Int32) : CC (fX8_latest x a z h) h x z (aE A a) eA eS := by
  have x1 := e8_isWithin a 0 2 z h
  unfold aE
  by_cases hk : kV 0 2 a = 0
  · rw [hk]
    refine CC_ask hC ?_
    have e := kV_0 hk
    rw [e] at x1
    obtain ⟨l1, l2, l3⟩ := hC.2.2.1.2
    obtain ⟨d1, d2, d3, d4, d5, d6, d7, d8, -⟩ := id hC.2.2.1.1.1
    have n1 : ((1 : Int32) = 0) = False := eq_false (by decide)
    have n2 : ((2 : Int32) = 0) = False := eq_false (by decide)
    have n3 : ((2 : Int32) = 1) = False := eq_false (by decide)
    obtain ⟨o1, o2, o3, o4, o5, o6, o7, o8, o9, o10, o11, o12, o13, o14, o15, o16⟩ := id hC.1
    have hB := hC.2.2.1.1.2.1.1
    have u1 := hB.1
    have u2 := hB.2.1
    have u3 := hB.2.2.2.2.2.2.2.2.2.1
    have u4 := hC.2.2.1.1.1.1
    rcases in02 e with rfl | rfl | rfl
    · simp (disch := omega) only [fX8_latest, ↓gd, ↓bl, ↓xr, ↓reduceIte, o1, ↓bb o2, ↓bb o3, ↓bb o4, ↓bb o5, ↓bb o6, ↓bb o7, ↓bb o8, o9, ↓bb o10, o11, o12, o13, ↓bb o14, o15, o16, u1, ↓bb u2, u3, u4, ↓bb3 x1, ↓bb3 (nV1 _ _), d5, l1]
    · simp (disch := omega) only [fX8_latest, ↓gd, ↓bl, ↓xr, ↓reduceIte, o1, ↓bb o2, ↓bb o3, ↓bb o4, ↓bb o5, ↓bb o6, ↓bb o7, ↓bb o8, o9, ↓bb o10, o11, o12, o13, ↓bb o14, o15, o16, u1, ↓bb u2, u3, u4, ↓bb3 x1, ↓bb3 (nV1 _ _), d5, l2, n1]
    · simp (disch := omega) only [fX8_latest, ↓gd, ↓bl, ↓xr, ↓reduceIte, o1, ↓bb o2, ↓bb o3, ↓bb o4, ↓bb o5, ↓bb o6, ↓bb o7, ↓bb o8, o9, ↓bb o10, o11, o12, o13, ↓bb o14, o15, o16, u1, ↓bb u2, u3, u4, ↓bb3 x1, ↓bb3 (nV1 _ _), d5, l3, n2, n3]
  · refine CC_err hC hT ?_
    obtain ⟨e1, ek⟩ := kV_1 hk
    rw [ek]
    rw [e1] at x1
    simp (disch := omega) only [fX8_latest, ↓xr, ↓bb3 x1, Bool.false_eq_true, ↓reduceIte, ↓bb3 (nV0 _ _)]
    rfl
theorem r_latest {h : AH} {m z : Nat} {A : TS} (hR : RI h m A) (a : Int32) : RR (fX9_latest m a z h) h m z (aE A a) := by
  have x1 := e9_in a 0 2 z h
  unfold aE
  have hk0 := hR.1.1
  by_cases hk : kV 0 2 a = 0
  · rw [hk]
    have e := kV_0 hk
    rw [e] at x1
    obtain ⟨l1, l2, l3⟩ := (RI_code hR (nI 0)).1.2.2.2.1
    refine RR_code (v' := if a = 0 then A.1.2.1 else if a = 1 then A.1.2.2.1 else A.1.2.2.2) hR (fun _ => rfl) ?_
    rw [nI_0] at l1 l2 l3 ⊢
    simp (disch := omega) only [fX9_latest, bX9_latest_15, ↓gd, ↓bl, ↓reduceIte, ↓bb3 x1, ne10, hk0, kd_wI, iv6, le00, l1, l2, l3]
    rcases in02 e with rfl | rfl | rfl <;> rfl
  · refine RR_code (v' := 0) hR (fun h9 => absurd h9 hk) ?_
    obtain ⟨e1, ek⟩ := kV_1 hk
    rw [e1] at x1
    simp (disch := omega) only [fX9_latest, bX9_latest_15, ↓gd, ↓bl, ↓reduceIte, ↓bb3 x1, Bool.false_eq_true, hk0, kd_wI, iv6, li1E, ek]
    rfl
def vWt (A : TS) (a : Int32) : Int32 := if ltI a A.1.1.2.1.length then nI (A.1.1.2.1.getD (tn' a) 0) else -1
theorem c_waiting {h : AH} {x z : Nat} {A : TS} {B : Nat} (hC : CI h x z A) (hT : TI A B) (a : Int32) : CP (fX8_waiting x a z h) h x z (vWt A a, A) := by
  refine CP_ask hC ?_
  obtain ⟨oz8, oo⟩ := hC.2.2.1.1.2.1.2.2.2.1
  have hl := hT.1.1.len
  have x1 := e8_isWithin a 0 (nI A.1.1.2.1.length - 1) z h
  rw [inI_m (by omega)] at x1
  unfold vWt
  obtain ⟨o1, o2, o3, o4, o5, o6, o7, o8, o9, o10, o11, o12, o13, o14, o15, o16⟩ := id hC.1
  have hB := hC.2.2.1.1.2.1.1
  have u1 := hB.1
  have u2 := hB.2.1
  have u3 := hB.2.2.2.2.2.2.2.2.2.1
  have u4 := hC.2.2.1.1.1.1
  cases e : ltI a A.1.1.2.1.length
  · rw [e] at x1
    simp (disch := omega) only [fX8_waiting, ↓gd, ↓bl, ↓xr, ↓reduceIte, o1, ↓bb o2, ↓bb o3, ↓bb o4, ↓bb o5, ↓bb o6, ↓bb o7, ↓bb o8, o9, ↓bb o10, o11, o12, o13, ↓bb o14, o15, o16, u1, ↓bb u2, u3, u4, oz8, ↓bb3 x1, Bool.false_eq_true]
  · rw [e] at x1
    obtain ⟨j, hj, hj2, rfl, hj3⟩ := ltI_of e
    have v := oo j (A.1.1.2.1.getD j 0) (by rw [List.getD_eq_getElem?_getD, List.getElem?_eq_getElem hj]; rfl)
    rw [hj3]
    obtain ⟨bk, b0, b1, b2, b3, b4, b5, b6, b7, fk, f0, f1, f2, mk0, m0, m1, m2, m3, kf0, kf1, kf2, lf0, lf1, lf2, km0, km1, km2, km3, lm0, lm1, lm2, lm3, kb2, kb3, kb4, kb5, kb6, kb7, lb2, lb3, lb4, lb5, lb6, lb7⟩ := id hB
    simp (disch := omega) only [fX8_waiting, ↓gd, ↓bl, ↓xr, ↓reduceIte, o1, ↓bb o2, ↓bb o3, ↓bb o4, ↓bb o5, ↓bb o6, ↓bb o7, ↓bb o8, o9, ↓bb o10, o11, o12, o13, ↓bb o14, o15, o16, u1, ↓bb u2, u3, u4, oz8, ↓bb3 x1, ne10, bk, ↓bb b0, ↓bb b1, ↓bb b2, ↓bb b3, ↓bb b4, ↓bb b5, ↓bb b6, ↓bb b7, fk, ↓bb f0, ↓bb f1, ↓bb f2, mk0, ↓bb m0, ↓bb m1, ↓bb m2, ↓bb m3, kf0, kf1, kf2, lf0, lf1, lf2, km0, km1, km2, km3, lm0, lm1, lm2, lm3, kb2, kb3, kb4, kb5, kb6, kb7, lb2, lb3, lb4, lb5, lb6, lb7, nI_negE, nI_clamp, leN_F, or_false, not_false_eq_true, v]
theorem r_waiting {h : AH} {m z : Nat} {A : TS} {B : Nat} (hR : RI h m A) (hT : TI A B) (a : Int32) : RP (fX9_waiting m a z h) h m z (vWt A a, A) := by
  refine RP_ask hR ?_
  have hl := hT.1.1.len
  obtain ⟨hn, hod, hO⟩ := id hR.2.1
  have hq : oq (iv h (m + 1)) = A.1.1.2.1.length := by rw [← od_len, hod]
  have v21 : iv h (m + 1) 21 = nI A.1.1.2.1.length := by rw [← hq]; exact hO.1
  have x1 := e9_in a 0 (nI A.1.1.2.1.length - 1) z (wI h m 6 0)
  rw [inI_m (by omega)] at x1
  have i3 : ((21 : Int32) < 0) = False := eq_false (by decide)
  have i4 : Int32.toNatClampNeg 21 = 21 := by decide
  unfold vWt
  have hM := hR.1
  have g1 : iv (wI h m 6 0) (m + 1) = iv h (m + 1) := iv_wI_ne _ _ _ (by omega)
  have x1 : fX9_in a 0 (iv (wI h m 6 0) (m + 1) (Int32.toNatClampNeg 21) - 1) z (wI h m 6 0) = some (if ltI a A.1.1.2.1.length then 1 else 0, z, wI h m 6 0) := by rw [i4, g1, v21]; exact x1
  obtain ⟨hk, r0, r1, r3, r4, r10, r11, r13, r14, r15, k1, k2, k3, k4, k5, k6, k7, k8, k9, l1, l2, l3, l4, l5, l6, l7, l8, l9⟩ := id hM
  cases e : ltI a A.1.1.2.1.length
  · rw [e] at x1
    simp (disch := omega) only [fX9_waiting, ↓brv_wI, ↓brv_wJ, ↓gd, ↓bl, ↓on, ↓xr, ↓reduceIte, if_true, if_false, kd_wI, ln_wI, rv_wI, iv_wI, jv_wI, kd_wJ, ln_wJ, rv_wJ, iv_wJ, nI_clamp, nI_leE, nI_ltE, nI_eqE, m1_ne, bit_0, bit_1, nI_negE, leN_F, leN_T, ltN_F, ltN_T, eqN_F, or_false, false_or, or_true, true_or, not_false_eq_true, not_true_eq_false, and_true, true_and, and_false, false_and, ↓bb r0, ↓bb r1, ↓bb r3, ↓bb r4, ↓bb r10, ↓bb r11, ↓bb r13, ↓bb r14, ↓bb r15, hk, k1, k2, k3, k4, k5, k6, k7, k8, k9, l1, l2, l3, l4, l5, l6, l7, l8, l9, i3, i4, ↓bb3 x1, Bool.false_eq_true]
  · rw [e] at x1
    obtain ⟨j, hj, hj2, rfl, hj3⟩ := ltI_of e
    have v : iv h (m + 1) (22 + j) = nI (A.1.1.2.1.getD j 0) := by
      rw [(hO.2.2.1 j (by omega)).2, ← hod, List.getD_eq_getElem?_getD, od_get (by omega)]; rfl
    rw [hj3]
    simp (disch := omega) only [fX9_waiting, ↓brv_wI, ↓brv_wJ, ↓gd, ↓bl, ↓on, ↓xr, ↓reduceIte, if_true, if_false, kd_wI, ln_wI, rv_wI, iv_wI, jv_wI, kd_wJ, ln_wJ, rv_wJ, iv_wJ, nI_clamp, nI_leE, nI_ltE, nI_eqE, m1_ne, bit_0, bit_1, nI_negE, leN_F, leN_T, ltN_F, ltN_T, eqN_F, or_false, false_or, or_true, true_or, not_false_eq_true, not_true_eq_false, and_true, true_and, and_false, false_and, ↓bb r0, ↓bb r1, ↓bb r3, ↓bb r4, ↓bb r10, ↓bb r11, ↓bb r13, ↓bb r14, ↓bb r15, hk, k1, k2, k3, k4, k5, k6, k7, k8, k9, l1, l2, l3, l4, l5, l6, l7, l8, l9, i3, i4, ↓bb3 x1, ne10, li22, nI_add, v]
