/-! calls: what holds between them, and the calls that leave a record -/
def TI (A : TS) (B : Nat) : Prop := WS A.1 B ∧ (∀ r ∈ A.2.1, WQ r.1 r.2 B ∧ Zq r.1) ∧ ∀ c ∈ A.2.2, 32 ≤ c ∧ c ≤ 126
theorem TI.W {A : TS} {B : Nat} (h : TI A B) : WFr A.1.1.1 := h.1.1.1
theorem TI.H {A : TS} {B : Nat} (h : TI A B) : ∀ r ∈ A.2.1, WFr r.1 := fun r hr => (h.2.1 r hr).1.1
theorem TI.mono {A : TS} {B C : Nat} (h : TI A B) (hBC : B ≤ C) : TI A C := ⟨⟨WQ.mono h.1.1 hBC, h.1.2⟩, fun r hr => ⟨(h.2.1 r hr).1.mono hBC, (h.2.1 r hr).2⟩, h.2.2⟩
theorem push_mem {H : List Rec} {r s : Rec} (h : s ∈ pushH H r) : s ∈ H ∨ s = r := by
  unfold pushH at h
  rcases List.mem_append.mp h with h | h
  · split at h
    · exact Or.inl (List.mem_of_mem_tail h)
    · exact Or.inl h
  · exact Or.inr (List.mem_singleton.mp h)
theorem TI_push {w w' : Ac} {H : List Rec} {T : List Nat} {B C : Nat} (h : TI (w, H, T) B) (hw : WS w' C) (hBC : B ≤ C) : TI (w', pushH H (w.1.1, w.1.2.1), T) C := by
  have h' := h.mono hBC
  refine ⟨hw, fun r hr => ?_, h.2.2⟩
  rcases push_mem hr with hr | rfl
  · exact h'.2.1 r hr
  · exact ⟨h'.1.1, h'.1.2⟩
def rr (c : Nat) (v : Int32) (e1 e2 : String) : Int32 ⊕ String := if c = 0 then .inl v else if c = 1 then .inr e1 else .inr e2
/-- the class's call comes to o: a code, an answer, the state behind it -/
def CC (f : Option ((Int32 ⊕ String) × Nat × AH)) (h : AH) (x z : Nat) (o : Nat × Int32 × TS) (e1 e2 : String) : Prop := ∃ z' h', f = some (rr o.1 o.2.1 e1 e2, z', h') ∧ z ≤ z' ∧ CI h' x z' o.2.2 ∧ FK x h h'
/-- the same of a call that throws nothing -/
def CP (f : Option (Int32 × Nat × AH)) (h : AH) (x z : Nat) (o : Int32 × TS) : Prop := ∃ z' h', f = some (o.1, z', h') ∧ z ≤ z' ∧ CI h' x z' o.2 ∧ FK x h h'
/-- the reference's call comes to o -/
def RR (f : Option (Int32 × Nat × AH)) (h : AH) (m z : Nat) (o : Nat × Int32 × TS) : Prop := ∃ v h', f = some (v, z, h') ∧ (o.1 = 0 → v = o.2.1) ∧ RI h' m o.2.2 ∧ Fq (PR m) h h' ∧ iv h' m 6 = nI o.1
theorem CI.up {h : AH} {x z : Nat} {A : TS} {B : Nat} (hC : CI h x z A) (hT : TI A B) : CI h x (z + 1) A := CI_x hT.W hT.H (by omega) (fun b _ => sc.rf h b) hC
theorem CC_err {f : Option ((Int32 ⊕ String) × Nat × AH)} {h : AH} {x z : Nat} {A : TS} {B k : Nat} {v : Int32} {e1 e2 : String} (hC : CI h x z A) (hT : TI A B) (hf : f = some (rr k v e1 e2, z + 1, h)) : CC f h x z (k, v, A) e1 e2 :=
  ⟨z + 1, h, hf, by omega, hC.up hT, FK.rf x h⟩
theorem CC_ask {f : Option ((Int32 ⊕ String) × Nat × AH)} {h : AH} {x z : Nat} {A : TS} {v : Int32} {e1 e2 : String} (hC : CI h x z A) (hf : f = some (.inl v, z, h)) : CC f h x z (0, v, A) e1 e2 :=
  ⟨z, h, hf, Nat.le_refl _, hC, FK.rf x h⟩
theorem CC_ok {f : Option ((Int32 ⊕ String) × Nat × AH)} {h : AH} {x z : Nat} {w w' : Ac} {H : List Rec} {T : List Nat} {B : Nat} {v : Int32} {e1 e2 : String} (hC : CI h x z (w, H, T)) (hT : TI (w, H, T) B)
    (K : ∀ z1 h1, fX3_keep (x + 39) (x + 1) z h = some (z1, h1) → CI h1 x z1 (w, pushH H (w.1.1, w.1.2.1), T) → ∃ h2, f = some (.inl v, z1, h2) ∧ Fq (PE x) h1 h2 ∧ CL h2 x w') :
    CC f h x z (0, v, (w', pushH H (w.1.1, w.1.2.1), T)) e1 e2 := by
  obtain ⟨z1, h1, v1, v2, v3, v4⟩ := k_keep hT.W hT.1.1.len hT.H hC
  obtain ⟨h2, u1, u2, u3⟩ := K z1 h1 v1 v3
  refine ⟨z1, h2, u1, v2, CI_E (fun r hr => ?_) u2 u3 v3, v4.tr (FK.E u2)⟩
  rcases push_mem hr with hr | rfl
  · exact hT.H r hr
  · exact hT.W
theorem nT1 (z : Nat) (h : AH) : fX8_needThing 1 z h = some (.inl (), z, h) := by simp [fX8_needThing]
theorem nT0 (z : Nat) (h : AH) : fX8_needThing 0 z h = some (.inr eB, z + 1, h) := by simp [fX8_needThing]
theorem nV1 (z : Nat) (h : AH) : fX8_needValue 1 z h = some (.inl (), z, h) := by simp [fX8_needValue]
theorem nV0 (z : Nat) (h : AH) : fX8_needValue 0 z h = some (.inr eA, z + 1, h) := by simp [fX8_needValue]
theorem nS1 (z : Nat) (h : AH) : fX8_needState 1 z h = some (.inl (), z, h) := by simp [fX8_needState]
theorem nS0 (z : Nat) (h : AH) : fX8_needState 0 z h = some (.inr eS, z + 1, h) := by simp [fX8_needState]
/-! the reference's calls -/
theorem RI_code {h : AH} {m : Nat} {A : TS} (hR : RI h m A) (c : Int32) : RI (wI h m 6 c) m A ∧ Fq (PR m) h (wI h m 6 c) ∧ iv (wI h m 6 c) m 6 = c := by
  obtain ⟨r1, r2, r3, r4, r5, r6, r7, r8, r9, r10⟩ := hR
  have g : ∀ b, b ≠ m → iv (wI h m 6 c) b = iv h b := fun b hb => iv_wI_ne _ _ _ hb
  have g0 : ∀ j, j ≠ 6 → iv (wI h m 6 c) m j = iv h m j := fun j hj => by rw [iv_wI, if_pos rfl, if_neg hj]
  refine ⟨⟨MO_c rfl rfl r1, by rw [g _ (by omega)]; exact r2, by rw [g _ (by omega)]; exact r3, ?_, by rw [g0 2 (by omega)]; exact r5, r6, by rw [g _ (by omega)]; exact r7, by rw [g0 5 (by omega)]; exact r8, r9, by rw [g _ (by omega)]; exact r10⟩, Fq.w h _ _ ⟨Nat.le_refl _, by omega⟩, by rw [iv_wI, if_pos rfl, if_pos rfl]⟩
  unfold LM
  rw [g0 7 (by omega), g0 8 (by omega), g0 9 (by omega)]
  exact r4
theorem RR_code {f : Option (Int32 × Nat × AH)} {h : AH} {m z : Nat} {A : TS} {k : Nat} {v v' : Int32} (hR : RI h m A) (hv : k = 0 → v' = v) (hf : f = some (v', z, wI h m 6 (nI k))) : RR f h m z (k, v, A) :=
  ⟨v', _, hf, hv, (RI_code hR _).1, (RI_code hR _).2.1, (RI_code hR _).2.2⟩
theorem RR_ok {f : Option (Int32 × Nat × AH)} {h : AH} {m z : Nat} {w w' : Ac} {H : List Rec} {T : List Nat} {B : Nat} {v : Int32} (hR : RI h m (w, H, T)) (hT : TI (w, H, T) B)
    (K : ∀ h2, fX9_begins m z (wI h m 6 0) = some (z, h2) → RI h2 m (w, H, T) → iv h2 m 6 = 0 → ∃ p' h3, RF p' w'.1.1 w'.1.2.1 ∧ LM h3 m w'.2 ∧ Fm m h2 h3 ∧ ∀ h4, fX9_records m z (mh h3 m p' w'.1.2.2) = some (z, h4) → MO h4 m → iv h4 (m + 1) = p' → f = some (v, z, h4)) :
    RR f h m z (0, v, (w', pushH H (w.1.1, w.1.2.1), T)) := by
  obtain ⟨c1, c2, c3⟩ := RI_code hR 0
  obtain ⟨h2, v1, v2, v3, v4, v5⟩ := w9_begins hT.1.2 c1 z
  have e6 : iv h2 m 6 = 0 := by rw [v4]; exact c3
  obtain ⟨p', h3, k1, k2, k3, k4⟩ := K h2 v1 v2 e6
  have hR3 : RI (mh h3 m p' w'.1.2.2) m (w', H, T) := RI_op v2 k3 k1 k2
  have e5 : iv (mh h3 m p' w'.1.2.2) (m + 5) = iv h2 (m + 5) := (iv_mh _ _ _ _ (by omega) (by omega)).trans (iv_F k3.1 (by unfold PN; omega))
  obtain ⟨h4, u1, u2, u3, u4, u5⟩ := w9_records hR3 (r := (w.1.1, w.1.2.1)) (by rw [e5]; exact v5) z
  have hF2 : Fq (PR m) h2 (mh h3 m p' w'.1.2.2) := by
    have := Fq_mh (p := iv h2 (m + 1)) (c := w.1.2.2) (p' := p') (c' := w'.1.2.2) k3
    rw [← RI_mh v2] at this
    exact this
  refine ⟨v, h4, k4 h4 u1 u2.1 (u4.trans (iv_mh1 _ _ _ _)), fun _ => rfl, u2, ((c2.tr v3).tr hF2).tr u3, ?_⟩
  rw [u5 6 (by omega), iv_mh _ _ _ _ (by omega) (by omega), k3.2 6 (by omega) (by omega) (by omega) (by omega), e6]; rfl
theorem le00 : ((0 : Int32) ≤ 0) = True := eq_true (by decide)
theorem iv6 (h : AH) (m : Nat) (c : Int32) : iv (wI h m 6 c) m 6 = c := by rw [iv_wI, if_pos rfl, if_pos rfl]
/-- what a call that leaves a record comes to -/
def oU (k : Nat) (v : Int32) (w' : Ac) (A : TS) : Nat × Int32 × TS := (k, v, if k = 0 then (w', pushH A.2.1 (A.1.1.1, A.1.1.2.1), A.2.2) else A)
theorem oU_0 {k : Nat} {v : Int32} {w' : Ac} {A : TS} (h : k = 0) : oU k v w' A = (0, v, (w', pushH A.2.1 (A.1.1.1, A.1.1.2.1), A.2.2)) := by unfold oU; rw [if_pos h, h]
theorem oU_1 {k : Nat} {v : Int32} {w' : Ac} {A : TS} (h : k ≠ 0) : oU k v w' A = (k, v, A) := by unfold oU; rw [if_neg h]
theorem TI_U {k : Nat} {v : Int32} {w' : Ac} {A : TS} {B C : Nat} (hT : TI A B) (hBC : B ≤ C) (hw : k = 0 → WS w' C) : TI (oU k v w' A).2.2 C := by
  by_cases h : k = 0
  · rw [oU_0 h]; exact TI_push (w := A.1) (H := A.2.1) (T := A.2.2) hT (hw h) hBC
  · rw [oU_1 h]; exact hT.mono hBC
def aQ (A : TS) (a b : Int32) : Nat × Int32 × TS := oU (kQ A.1.1.1 a b) ((sQ A.1 a b).1.1 (32 + 6 * tn' a + 4)) (sQ A.1 a b) A
theorem kQ_12 {q : Nat → Int32} {a b : Int32} (h : kQ q a b ≠ 0) : ((tkI q a && rsI q b) = false ∧ kQ q a b = 1) ∨ (tkI q a = true ∧ rsI q b = true ∧ ¬ stt q a = 0 ∧ kQ q a b = 2) := by
  unfold kQ at h ⊢
  by_cases e : (tkI q a && rsI q b) = false
  · exact Or.inl ⟨e, by rw [if_pos e]⟩
  · rw [if_neg e] at h ⊢
    have e' : tkI q a = true ∧ rsI q b = true := by simpa using e
    by_cases e2 : stt q a = 0
    · rw [if_pos e2] at h; exact absurd rfl h
    · exact Or.inr ⟨e'.1, e'.2, e2, by rw [if_neg e2]⟩
theorem c_request {h : AH} {x z : Nat} {A : TS} {B : Nat} (hC : CI h x z A) (hT : TI A B) (a b : Int32) : CC (fX8_request x a b z h) h x z (aQ A a b) eB eS := by
  obtain ⟨w, H, T⟩ := A
  have x1 := e0_has hC.2.2.1.1.2.1.1 hC.2.2.1.1.2.1.2.2.1 a z
  have x2 := e2_has hC.2.2.1.1.2.1.1 hT.W hC.2.2.1.1.2.1.2.1 b z
  have x3 := e0_isIn hC.2.2.1.1.2.1.1 hC.2.2.1.1.2.1.2.2.1 a 0 z
  simp only at x1 x2 x3
  unfold aQ
  by_cases hk : kQ w.1.1 a b = 0
  · rw [oU_0 hk]
    obtain ⟨t, r, t1, r1, t2, r2, t3, t4, t5, r5⟩ := kQ_0 hk
    refine CC_ok hC hT (fun z1 h1 hk1 hC1 => ?_)
    obtain ⟨h2, v1, v2, v3⟩ := c1Q hT.1 hC1.2.2.1 hk z1
    refine ⟨h2, ?_, v2, v3⟩
    have e1 : tkI w.1.1 a = true := by rw [t2, tkI_nI t1, t3]
    have e2 : rsI w.1.1 b = true := by rw [r2, rsI_nI hT.W.2.1 (by have := hT.W.2.1; simp only at this; omega)]; simp [r1]
    have e3 : w.1.1 (32 + 6 * a.toNatClampNeg + 4) = 0 := by rw [show a.toNatClampNeg = t from t5]; exact t4
    rw [e1] at x1 x3
    rw [e2] at x2
    rw [e3] at x3
    simp only [if_true, Bool.true_and, decide_true] at x1 x2 x3
    obtain ⟨o1, o2, o3, o4, o5, o6, o7, o8, o9, o10, o11, o12, o13, o14, o15, o16⟩ := id hC.1
    have hB := hC.2.2.1.1.2.1.1
    have u1 := hB.1
    have u2 := hB.2.1
    have u3 := hB.2.2.2.2.2.2.2.2.2.1
    have u4 := hC.2.2.1.1.1.1
    obtain ⟨p1, p2, p3, p4, p5, p6, p7, p8, p9, p10, p11, p12, p13, p14, p15, p16⟩ := id hC1.1
    have hB1 := hC1.2.2.1.1.2.1.1
    have y1 := hB1.1
    have y2 := hB1.2.1
    have y3 := hB1.2.2.2.2.2.2.2.2.2.1
    have y4 := hC1.2.2.1.1.1.1
    simp (disch := omega) only [fX8_request, bX8_request_30, ↓gd, ↓bl, ↓xr, ↓reduceIte, o1, ↓bb o2, ↓bb o3, ↓bb o4, ↓bb o5, ↓bb o6, ↓bb o7, ↓bb o8, o9, ↓bb o10, o11, o12, o13, ↓bb o14, o15, o16, u1, ↓bb u2, u3, u4, ↓bb3 x1, ne10, ↓bb3 x2, ↓bb3 (nT1 _ _), ↓bb3 x3, ↓bb3 (nS1 _ _), ↓bb2 hk1, p1, ↓bb p2, ↓bb p3, ↓bb p4, ↓bb p5, ↓bb p6, ↓bb p7, ↓bb p8, p9, ↓bb p10, p11, p12, p13, ↓bb p14, p15, p16, y1, ↓bb y2, y3, y4, ↓bb3 v1]
  · rw [oU_1 hk]
    refine CC_err hC hT ?_
    obtain ⟨o1, o2, o3, o4, o5, o6, o7, o8, o9, o10, o11, o12, o13, o14, o15, o16⟩ := id hC.1
    have hB := hC.2.2.1.1.2.1.1
    have u1 := hB.1
    have u2 := hB.2.1
    have u3 := hB.2.2.2.2.2.2.2.2.2.1
    have u4 := hC.2.2.1.1.1.1
    rcases kQ_12 hk with ⟨e, ek⟩ | ⟨e1, e2, e3, ek⟩
    · rw [ek]
      cases e1 : tkI w.1.1 a
      · rw [e1] at x1
        simp (disch := omega) only [fX8_request, bX8_request_30, bX8_request_29, ↓gd, ↓bl, ↓xr, ↓reduceIte, o1, ↓bb o2, ↓bb o3, ↓bb o4, ↓bb o5, ↓bb o6, ↓bb o7, ↓bb o8, o9, ↓bb o10, o11, o12, o13, ↓bb o14, o15, o16, u1, ↓bb u2, u3, u4, ↓bb3 x1, Bool.false_eq_true, ↓bb3 (nT0 _ _)]
        rfl
      · have e2 : rsI w.1.1 b = false := by rw [e1] at e; simpa using e
        rw [e1] at x1
        rw [e2] at x2
        simp (disch := omega) only [fX8_request, bX8_request_30, bX8_request_29, ↓gd, ↓bl, ↓xr, ↓reduceIte, o1, ↓bb o2, ↓bb o3, ↓bb o4, ↓bb o5, ↓bb o6, ↓bb o7, ↓bb o8, o9, ↓bb o10, o11, o12, o13, ↓bb o14, o15, o16, u1, ↓bb u2, u3, u4, ↓bb3 x1, ne10, ↓bb3 x2, Bool.false_eq_true, ↓bb3 (nT0 _ _)]
        rfl
    · rw [ek]
      rw [e1] at x1 x3
      rw [e2] at x2
      unfold stt at e3
      simp only [e3, if_true, Bool.true_and, decide_false, Bool.false_eq_true, if_false] at x1 x2 x3
      simp (disch := omega) only [fX8_request, bX8_request_30, bX8_request_29, ↓gd, ↓bl, ↓xr, ↓reduceIte, o1, ↓bb o2, ↓bb o3, ↓bb o4, ↓bb o5, ↓bb o6, ↓bb o7, ↓bb o8, o9, ↓bb o10, o11, o12, o13, ↓bb o14, o15, o16, u1, ↓bb u2, u3, u4, ↓bb3 x1, ne10, ↓bb3 x2, ↓bb3 (nT1 _ _), ↓bb3 x3, ↓bb3 (nS0 _ _)]
      rfl
theorem r_request {h : AH} {m z : Nat} {A : TS} {B : Nat} (hR : RI h m A) (hT : TI A B) (a b : Int32) : RR (fX9_request m a b z h) h m z (aQ A a b) := by
  obtain ⟨w, H, T⟩ := A
  have hWp : WFr (ps h m) := WFr_nord hR.2.1.1.sy hT.W
  have x1 := r9_kQ hR.1 hR.2.1.1 hWp a b z
  have hk0 := hR.1.1
  simp only at x1
  unfold aQ
  by_cases hk : kQ w.1.1 a b = 0
  · rw [oU_0 hk]
    rw [hk, nI_0] at x1
    refine RR_ok hR hT (fun h2 v1 v2 v3 => ?_)
    obtain ⟨p', h3, u1, u2, u3, u4⟩ := r1Q v2.1 v2.2.1 hT.1 v2.2.2.2.1 hk z
    have e := RI_mh v2
    simp only at u1 e
    rw [← e] at u1
    refine ⟨p', h3, u2, u3, u4, fun h4 k1 k2 k3 => ?_⟩
    obtain ⟨t, r, t1, r1, t2, r2, t3, t4, t5, r5⟩ := kQ_0 hk
    have y1 := e9_of (w := 4) k2 t1 (by omega) z
    rw [show ps h4 m = p' from k3, u2.1 _ (by omega)] at y1
    have g2 := v2.1.1
    have g3 : kd (mh h3 m p' (sQ w a b).1.2.2) m = 10 := (MO_mh (u4.M v2.1) p' (sQ w a b).1.2.2).1
    have g4 := k2.1
    rw [t5]
    rw [← t2] at y1
    have y1 : fX9_of m a 4 z h4 = some ((sQ w a b).1.1 (32 + 6 * t + 4), z, h4) := y1
    simp (disch := omega) only [fX9_request, ↓gd, ↓bl, ↓reduceIte, hk0, ↓bb3 x1, iv6, le00, ↓bb2 v1, g2, ↓bb2 u1, g3, ↓bb2 k1, g4, ↓bb3 y1]
  · rw [oU_1 hk]
    refine RR_code (v' := 0) hR (fun h9 => absurd h9 hk) ?_
    have e : (nI (kQ w.1.1 a b) ≤ 0) = False := eq_false (by
      have : kQ w.1.1 a b ≤ 2 := by rcases kQ_12 hk with ⟨-, e⟩ | ⟨-, -, -, e⟩ <;> omega
      rw [le0E (by omega)]; omega)
    simp (disch := omega) only [fX9_request, ↓gd, ↓bl, ↓reduceIte, hk0, ↓bb3 x1, iv6, e]
