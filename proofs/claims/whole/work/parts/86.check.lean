/-! checksum -/
def mx (y : Int64) (v : Int32) : Int64 := 31 * y + Int32.toInt64 v
theorem e8_mix (y : Int64) (v : Int32) (z : Nat) (h : AH) : fX8_mix y (Int32.toInt64 v) z h = some (mx y v, z, h) := rfl
def fo (g : Nat → Int32) : Nat → Int64 → Int64
  | 0, y => y
  | k + 1, y => mx (fo g k y) (g k)
theorem fo_s (g : Nat → Int32) (k : Nat) (y : Int64) : fo g (k + 1) y = mx (fo g k y) (g k) := rfl
def foT (q : Nat → Int32) (L : List Nat) : Nat → Int64 → Int64
  | 0, y => y
  | k + 1, y => if th q k then fo (vP q L k) 7 (foT q L k y) else foT q L k y
theorem foT_s (q : Nat → Int32) (L : List Nat) (k : Nat) (y : Int64) : foT q L (k + 1) y = if th q k then fo (vP q L k) 7 (foT q L k y) else foT q L k y := rfl
def foM (q : Nat → Int32) : Nat → Int64 → Int64
  | 0, y => y
  | k + 1, y => fo (vM q k) 5 (foM q k y)
theorem foM_s (q : Nat → Int32) (k : Nat) (y : Int64) : foM q (k + 1) y = fo (vM q k) 5 (foM q k y) := rfl
def y1 (A : TS) : Int64 := fo (fun r => A.1.1.1 (1 + r)) (nr A.1.1.1) (mx 18547 (A.1.1.1 0))
def y2 (A : TS) : Int64 := foT A.1.1.1 A.1.1.2.1 10 (mx (y1 A) (mk 10 (th A.1.1.1)))
def y3 (A : TS) : Int64 := mx (mx (mx (mx (y2 A) (A.1.1.1 17)) (A.1.1.1 18)) (A.1.1.1 19)) (A.1.1.1 92)
def y4 (A : TS) : Int64 := foM A.1.1.1 (nm A.1.1.1) (y3 A)
def vCk (A : TS) : Int64 := mx (mx (mx (mx (y4 A) (vOn A.1.1.1)) (vSt A.1.1.1)) (nI A.2.2.length)) (nI A.2.1.length)
def CPJ (f : Option ((Int64 ⊕ String) × Nat × AH)) (h : AH) (x z : Nat) (o : Int64 × TS) : Prop := ∃ z' h', f = some (.inl o.1, z', h') ∧ z ≤ z' ∧ CI h' x z' o.2 ∧ FK x h h'
def RPJ (f : Option (Int64 × Nat × AH)) (h : AH) (m z : Nat) (o : Int64 × TS) : Prop := ∃ h', f = some (o.1, z, h') ∧ RI h' m o.2 ∧ Fq (PR m) h h'
section CK8
variable {h : AH} {x z : Nat} {A : TS} {B : Nat}
theorem ck244 (hC : CI h x z A) (hT : TI A B) (y : Int64) : CPJ (bX8_checksum_244 x y z h) h x z (mx (mx (mx (mx y (vOn A.1.1.1)) (vSt A.1.1.1)) (nI A.2.2.length)) (nI A.2.1.length), A) := by
  obtain ⟨h', v1, v2, v3, v4⟩ := c_read hC hT
  refine ⟨z, h', ?_, Nat.le_refl _, v2, v3⟩
  have hD := v2.2.2.1.1.1
  have d5 : kd h (x + 35) = 8 := hC.2.2.1.1.1.2.2.2.2.2.2.2.2.1
  have g5 : kd h' (x + 35) = 8 := hD.2.2.2.2.2.2.2.2.1
  have g6 : iv h' (x + 35) 2 = vOn A.1.1.1 := v4.2.2
  have x2 := e7_lead hD v4 z
  have t1 : iv h' (x + 41) 1 = nI A.2.2.length := v2.2.2.2.2.2.1.1
  have t2 : iv h' (x + 39) 1 = nI A.2.1.length := v2.2.2.2.2.1.1
  have hC1 := v2
  obtain ⟨o1, o2, o3, o4, o5, o6, o7, o8, o9, o10, o11, o12, o13, o14, o15, o16⟩ := id hC.1
  have hB := hC.2.2.1.1.2.1.1
  have u1 := hB.1
  have u2 := hB.2.1
  have u3 := hB.2.2.2.2.2.2.2.2.2.1
  have u4 := hC.2.2.1.1.1.1
  obtain ⟨p1, p2, p3, p4, p5, p6, p7, p8, p9, p10, p11, p12, p13, p14, p15, p16⟩ := id hC1.1
  have hB1 := hC1.2.2.1.1.2.1.1
  have y1 := hB1.1
  have y2 := hB1.2.1
  have y3 := hB1.2.2.2.2.2.2.2.2.2.1
  have y4 := hC1.2.2.1.1.1.1
  simp (disch := omega) only [bX8_checksum_244, ↓gd, ↓bl, ↓xr, ↓reduceIte, o1, ↓bb o2, ↓bb o3, ↓bb o4, ↓bb o5, ↓bb o6, ↓bb o7, ↓bb o8, o9, ↓bb o10, o11, o12, o13, ↓bb o14, o15, o16, u1, ↓bb u2, u3, u4, d5, ↓bb2 v1, p1, ↓bb p2, ↓bb p3, ↓bb p4, ↓bb p5, ↓bb p6, ↓bb p7, ↓bb p8, p9, ↓bb p10, p11, p12, p13, ↓bb p14, p15, p16, y1, ↓bb y2, y3, y4, g5, g6, ↓bb3 (e8_mix _ _ _ _), ↓bb3 x2, t1, t2]
  rfl
theorem ck207 (hC : CI h x z A) (hT : TI A B) {k : Nat} (hk : k < nm A.1.1.1) (y : Int64) (qq : Nat → Int64 → Int32 → Nat → AH → Option ((Int64 ⊕ String) × Nat × AH)) : ∀ (d j : Nat), j + d = 5 → ∀ fuel, d < fuel → lX8_checksum_207 qq fuel x (fo (vM A.1.1.1 k) j y) (nI k) (nI j) z h = qq x (fo (vM A.1.1.1 k) 5 y) (nI (k + 1)) z h := by
  intro d
  have hCB := hC.2.2.1.1.2.1
  have u5 := hCB.1.2.2.1
  have u6 : kd h (x + 1 + 5) = 5 := hCB.1.2.2.2.2.2.2.2.2.2.2.2.2.2.1
  induction d with
  | zero =>
    intro j hj fuel hf
    obtain rfl : j = 5 := by omega
    cases fuel with
    | zero => omega
    | succ fuel =>
      have e : ((4 : Int32) < nI 5) = True := eq_true (by decide)
      show lX8_checksum_207B _ _ _ _ _ _ _ _ = _
      simp (disch := omega) only [lX8_checksum_207B, ↓reduceIte, e, nI_1]
  | succ d ih =>
    intro j hj fuel hf
    cases fuel with
    | zero => omega
    | succ fuel =>
      have h3 := ih (j + 1) (by omega) fuel (by omega)
      rw [fo_s] at h3
      have x1 := e4_prop hCB hT.1.1.2.2.2.2.2 hk (j := j) (by omega) z
      have e : ((4 : Int32) < nI j) = False := by rw [li4, nI_ltE (by omega) (by omega)]; exact eq_false (by omega)
      obtain ⟨o1, o2, o3, o4, o5, o6, o7, o8, o9, o10, o11, o12, o13, o14, o15, o16⟩ := id hC.1
      have hB := hC.2.2.1.1.2.1.1
      have u1 := hB.1
      have u2 := hB.2.1
      have u3 := hB.2.2.2.2.2.2.2.2.2.1
      have u4 := hC.2.2.1.1.1.1
      show lX8_checksum_207B _ _ _ _ _ _ _ _ = _
      simp (disch := omega) only [lX8_checksum_207B, ↓gd, ↓bl, ↓xr, ↓reduceIte, o1, ↓bb o2, ↓bb o3, ↓bb o4, ↓bb o5, ↓bb o6, ↓bb o7, ↓bb o8, o9, ↓bb o10, o11, o12, o13, ↓bb o14, o15, o16, u1, ↓bb u2, u3, u4, e, ↓bb u5, u6, ↓bb3 x1, ↓bb3 (e8_mix _ _ _ _), nI_1]
      exact h3
theorem ck184 (hC : CI h x z A) (hT : TI A B) (y : Int64) : ∀ (d k : Nat), k + d = nm A.1.1.1 → ∀ fuel, d < fuel → lX8_checksum_184 fuel x (foM A.1.1.1 k y) (nI k) z h = bX8_checksum_244 x (foM A.1.1.1 (nm A.1.1.1) y) z h := by
  intro d
  have hCB := hC.2.2.1.1.2.1
  have hWm := hT.1.1.2.2.2.2.2
  have hn := hWm.2.1
  have u5 := hCB.1.2.2.1
  have u6 : kd h (x + 1 + 5) = 5 := hCB.1.2.2.2.2.2.2.2.2.2.2.2.2.2.1
  have v5 : iv h (x + 1 + 5) 5 = nI (nm A.1.1.1) := hCB.2.2.2.2.2.1.trans hWm.1
  induction d with
  | zero =>
    intro k hk fuel hf
    obtain rfl : k = nm A.1.1.1 := by omega
    cases fuel with
    | zero => omega
    | succ fuel =>
      obtain ⟨o1, o2, o3, o4, o5, o6, o7, o8, o9, o10, o11, o12, o13, o14, o15, o16⟩ := id hC.1
      have hB := hC.2.2.1.1.2.1.1
      have u1 := hB.1
      have u2 := hB.2.1
      have u3 := hB.2.2.2.2.2.2.2.2.2.1
      have u4 := hC.2.2.1.1.1.1
      show lX8_checksum_184B _ _ _ _ _ _ = _
      simp (disch := omega) only [lX8_checksum_184B, ↓gd, ↓bl, ↓xr, ↓reduceIte, o1, ↓bb o2, ↓bb o3, ↓bb o4, ↓bb o5, ↓bb o6, ↓bb o7, ↓bb o8, o9, ↓bb o10, o11, o12, o13, ↓bb o14, o15, o16, u1, ↓bb u2, u3, u4, ↓bb u5, u6, v5, Int32.le_refl]
  | succ d ih =>
    intro k hk fuel hf
    cases fuel with
    | zero => omega
    | succ fuel =>
      have h3 := ih (k + 1) (by omega) fuel (by omega)
      rw [foM_s] at h3
      have h4 := ck207 hC hT (k := k) (by omega) (foM A.1.1.1 k y) (lX8_checksum_184 fuel) 5 0 (by omega) fu (by unfold fu; omega)
      rw [h3, nI_0] at h4
      have e1 : (nI (nm A.1.1.1) ≤ nI k) = False := by rw [nI_leE (by omega) (by omega)]; exact eq_false (by omega)
      have e2 : ((40 : Int32) ≤ nI k) = False := by rw [show (40 : Int32) = nI 40 from rfl, nI_leE (by omega) (by omega)]; exact eq_false (by omega)
      obtain ⟨o1, o2, o3, o4, o5, o6, o7, o8, o9, o10, o11, o12, o13, o14, o15, o16⟩ := id hC.1
      have hB := hC.2.2.1.1.2.1.1
      have u1 := hB.1
      have u2 := hB.2.1
      have u3 := hB.2.2.2.2.2.2.2.2.2.1
      have u4 := hC.2.2.1.1.1.1
      show lX8_checksum_184B _ _ _ _ _ _ = _
      simp (disch := omega) only [lX8_checksum_184B, ↓gd, ↓bl, ↓xr, ↓reduceIte, o1, ↓bb o2, ↓bb o3, ↓bb o4, ↓bb o5, ↓bb o6, ↓bb o7, ↓bb o8, o9, ↓bb o10, o11, o12, o13, ↓bb o14, o15, o16, u1, ↓bb u2, u3, u4, ↓bb u5, u6, v5, e1, e2]
      exact h4
theorem ck88 (hC : CI h x z A) (hT : TI A B) {t : Nat} (ht : t < 10) (hth : th A.1.1.1 t = true) (y : Int64) (qq : Nat → Int64 → Int32 → Nat → AH → Option ((Int64 ⊕ String) × Nat × AH)) : ∀ (d j : Nat), j + d = 7 → ∀ fuel, d < fuel → lX8_checksum_88 qq fuel x (fo (vP A.1.1.1 A.1.1.2.1 t) j y) (nI t) (nI j) z h = qq x (fo (vP A.1.1.1 A.1.1.2.1 t) 7 y) (nI (t + 1)) z h := by
  intro d
  have hCB := hC.2.2.1.1.2.1
  have x1 := e0_hasT hCB.1 hCB.2.2.1 ht hth z
  induction d with
  | zero =>
    intro j hj fuel hf
    obtain rfl : j = 7 := by omega
    cases fuel with
    | zero => omega
    | succ fuel =>
      have e : ((6 : Int32) < nI 7) = True := eq_true (by decide)
      show lX8_checksum_88B _ _ _ _ _ _ _ _ = _
      simp (disch := omega) only [lX8_checksum_88B, bX8_checksum_125, ↓reduceIte, e, nI_1]
  | succ d ih =>
    intro j hj fuel hf
    cases fuel with
    | zero => omega
    | succ fuel =>
      have h3 := ih (j + 1) (by omega) fuel (by omega)
      rw [fo_s] at h3
      have x2 := e8_task hC hT ht hth (j := j) (by omega)
      have e : ((6 : Int32) < nI j) = False := by rw [li6, nI_ltE (by omega) (by omega)]; exact eq_false (by omega)
      obtain ⟨o1, o2, o3, o4, o5, o6, o7, o8, o9, o10, o11, o12, o13, o14, o15, o16⟩ := id hC.1
      have hB := hC.2.2.1.1.2.1.1
      have u1 := hB.1
      have u2 := hB.2.1
      have u3 := hB.2.2.2.2.2.2.2.2.2.1
      have u4 := hC.2.2.1.1.1.1
      show lX8_checksum_88B _ _ _ _ _ _ _ _ = _
      simp (disch := omega) only [lX8_checksum_88B, ↓gd, ↓bl, ↓xr, ↓reduceIte, o1, ↓bb o2, ↓bb o3, ↓bb o4, ↓bb o5, ↓bb o6, ↓bb o7, ↓bb o8, o9, ↓bb o10, o11, o12, o13, ↓bb o14, o15, o16, u1, ↓bb u2, u3, u4, e, ↓bb3 x1, ne10, ↓bb3 x2, ↓bb3 (e8_mix _ _ _ _), nI_1]
      exact h3
theorem ck88n (hC : CI h x z A) {t : Nat} (ht : t < 10) (hth : th A.1.1.1 t = false) (y : Int64) (qq : Nat → Int64 → Int32 → Nat → AH → Option ((Int64 ⊕ String) × Nat × AH)) (fuel : Nat) : lX8_checksum_88 qq (fuel + 1) x y (nI t) 0 z h = qq x y (nI (t + 1)) z h := by
  have hCB := hC.2.2.1.1.2.1
  have x1 := e0_has hCB.1 hCB.2.2.1 (nI t) z
  rw [tkI_nI ht, hth] at x1
  have e : ((6 : Int32) < 0) = False := eq_false (by decide)
  obtain ⟨o1, o2, o3, o4, o5, o6, o7, o8, o9, o10, o11, o12, o13, o14, o15, o16⟩ := id hC.1
  have hB := hC.2.2.1.1.2.1.1
  have u1 := hB.1
  have u2 := hB.2.1
  have u3 := hB.2.2.2.2.2.2.2.2.2.1
  have u4 := hC.2.2.1.1.1.1
  show lX8_checksum_88B _ _ _ _ _ _ _ _ = _
  simp (disch := omega) only [lX8_checksum_88B, bX8_checksum_125, ↓gd, ↓bl, ↓xr, ↓reduceIte, o1, ↓bb o2, ↓bb o3, ↓bb o4, ↓bb o5, ↓bb o6, ↓bb o7, ↓bb o8, o9, ↓bb o10, o11, o12, o13, ↓bb o14, o15, o16, u1, ↓bb u2, u3, u4, e, ↓bb3 x1, Bool.false_eq_true, nI_1]
theorem ck79 (hC : CI h x z A) (hT : TI A B) (y : Int64) : ∀ (d k : Nat), k + d = 10 → ∀ fuel, d < fuel → lX8_checksum_79 fuel x (foT A.1.1.1 A.1.1.2.1 k y) (nI k) z h = lX8_checksum_184 fu x (mx (mx (mx (mx (foT A.1.1.1 A.1.1.2.1 10 y) (A.1.1.1 17)) (A.1.1.1 18)) (A.1.1.1 19)) (A.1.1.1 92)) 0 z h := by
  intro d
  have hCB := hC.2.2.1.1.2.1
  have u5 := hCB.1.2.2.1
  have u6 : kd h (x + 1 + 5) = 5 := hCB.1.2.2.2.2.2.2.2.2.2.2.2.2.2.1
  have v5 : iv h (x + 1 + 5) 5 = A.1.1.1 92 := hCB.2.2.2.2.2.1
  obtain ⟨s1, s2, s3, s4⟩ := hCB.2.2.2.2.1
  induction d with
  | zero =>
    intro k hk fuel hf
    obtain rfl : k = 10 := by omega
    cases fuel with
    | zero => omega
    | succ fuel =>
      obtain ⟨o1, o2, o3, o4, o5, o6, o7, o8, o9, o10, o11, o12, o13, o14, o15, o16⟩ := id hC.1
      have hB := hC.2.2.1.1.2.1.1
      have u1 := hB.1
      have u2 := hB.2.1
      have u3 := hB.2.2.2.2.2.2.2.2.2.1
      have u4 := hC.2.2.1.1.1.1
      show lX8_checksum_79B _ _ _ _ _ _ = _
      simp (disch := omega) only [lX8_checksum_79B, ↓gd, ↓bl, ↓xr, ↓reduceIte, o1, ↓bb o2, ↓bb o3, ↓bb o4, ↓bb o5, ↓bb o6, ↓bb o7, ↓bb o8, o9, ↓bb o10, o11, o12, o13, ↓bb o14, o15, o16, u1, ↓bb u2, u3, u4, li10, Int32.le_refl, ↓bb u5, u6, v5, s1, s2, s3, ↓bb3 (e8_mix _ _ _ _)]
  | succ d ih =>
    intro k hk fuel hf
    cases fuel with
    | zero => omega
    | succ fuel =>
      have h3 := ih (k + 1) (by omega) fuel (by omega)
      rw [foT_s] at h3
      have e1 : ((10 : Int32) ≤ nI k) = False := by rw [li10, nI_leE (by omega) (by omega)]; exact eq_false (by omega)
      show lX8_checksum_79B _ _ _ _ _ _ = _
      cases eth : th A.1.1.1 k
      · rw [eth] at h3
        simp only [Bool.false_eq_true, if_false] at h3
        have h4 := ck88n hC (t := k) (by omega) eth (foT A.1.1.1 A.1.1.2.1 k y) (lX8_checksum_79 fuel) 19999
        rw [h3] at h4
        simp (disch := omega) only [lX8_checksum_79B, e1, ↓reduceIte]
        exact h4
      · rw [eth] at h3
        simp only [if_true] at h3
        have h4 := ck88 hC hT (t := k) (by omega) eth (foT A.1.1.1 A.1.1.2.1 k y) (lX8_checksum_79 fuel) 7 0 (by omega) fu (by unfold fu; omega)
        rw [h3, nI_0] at h4
        simp (disch := omega) only [lX8_checksum_79B, e1, ↓reduceIte]
        exact h4
theorem ck20 (hC : CI h x z A) (hT : TI A B) (y : Int64) : ∀ (d k : Nat), k + d = nr A.1.1.1 → ∀ fuel, d < fuel → lX8_checksum_20 fuel x (fo (fun r => A.1.1.1 (1 + r)) k y) (nI k) z h = bX8_checksum_64 x (fo (fun r => A.1.1.1 (1 + r)) (nr A.1.1.1) y) z h := by
  intro d
  have hCB := hC.2.2.1.1.2.1
  have hn := hT.W.2.1
  have v3 : iv h (x + 1 + 1) 3 = nI (nr A.1.1.1) := hCB.2.1.1.trans hT.W.1
  induction d with
  | zero =>
    intro k hk fuel hf
    obtain rfl : k = nr A.1.1.1 := by omega
    cases fuel with
    | zero => omega
    | succ fuel =>
      obtain ⟨o1, o2, o3, o4, o5, o6, o7, o8, o9, o10, o11, o12, o13, o14, o15, o16⟩ := id hC.1
      have hB := hC.2.2.1.1.2.1.1
      have u1 := hB.1
      have u2 := hB.2.1
      have u3 := hB.2.2.2.2.2.2.2.2.2.1
      have u4 := hC.2.2.1.1.1.1
      show lX8_checksum_20B _ _ _ _ _ _ = _
      simp (disch := omega) only [lX8_checksum_20B, ↓gd, ↓bl, ↓xr, ↓reduceIte, o1, ↓bb o2, ↓bb o3, ↓bb o4, ↓bb o5, ↓bb o6, ↓bb o7, ↓bb o8, o9, ↓bb o10, o11, o12, o13, ↓bb o14, o15, o16, u1, ↓bb u2, u3, u4, v3, Int32.le_refl]
  | succ d ih =>
    intro k hk fuel hf
    cases fuel with
    | zero => omega
    | succ fuel =>
      have h3 := ih (k + 1) (by omega) fuel (by omega)
      rw [fo_s] at h3
      have v4 := hCB.2.1.2.1 k (by omega)
      have e1 : (nI (nr A.1.1.1) ≤ nI k) = False := by rw [nI_leE (by omega) (by omega)]; exact eq_false (by omega)
      have e2 : ((16 : Int32) ≤ nI k) = False := by rw [li16, nI_leE (by omega) (by omega)]; exact eq_false (by omega)
      obtain ⟨o1, o2, o3, o4, o5, o6, o7, o8, o9, o10, o11, o12, o13, o14, o15, o16⟩ := id hC.1
      have hB := hC.2.2.1.1.2.1.1
      have u1 := hB.1
      have u2 := hB.2.1
      have u3 := hB.2.2.2.2.2.2.2.2.2.1
      have u4 := hC.2.2.1.1.1.1
      obtain ⟨bk, b0, b1, b2, b3, b4, b5, b6, b7, fk, f0, f1, f2, mk0, m0, m1, m2, m3, kf0, kf1, kf2, lf0, lf1, lf2, km0, km1, km2, km3, lm0, lm1, lm2, lm3, kb2, kb3, kb4, kb5, kb6, kb7, lb2, lb3, lb4, lb5, lb6, lb7⟩ := id hB
      show lX8_checksum_20B _ _ _ _ _ _ = _
      simp (disch := omega) only [lX8_checksum_20B, ↓gd, ↓bl, ↓xr, ↓reduceIte, o1, ↓bb o2, ↓bb o3, ↓bb o4, ↓bb o5, ↓bb o6, ↓bb o7, ↓bb o8, o9, ↓bb o10, o11, o12, o13, ↓bb o14, o15, o16, u1, ↓bb u2, u3, u4, v3, e1, e2, bk, ↓bb b0, ↓bb b1, ↓bb b2, ↓bb b3, ↓bb b4, ↓bb b5, ↓bb b6, ↓bb b7, fk, ↓bb f0, ↓bb f1, ↓bb f2, mk0, ↓bb m0, ↓bb m1, ↓bb m2, ↓bb m3, kf0, kf1, kf2, lf0, lf1, lf2, km0, km1, km2, km3, lm0, lm1, lm2, lm3, kb2, kb3, kb4, kb5, kb6, kb7, lb2, lb3, lb4, lb5, lb6, lb7, nI_negE, nI_clamp, leN_F, or_false, not_false_eq_true, v4, ↓bb3 (e8_mix _ _ _ _), nI_1]
      exact h3
theorem c_checksum (hC : CI h x z A) (hT : TI A B) : CPJ (fX8_checksum x z h) h x z (vCk A, A) := by
  have hCB := hC.2.2.1.1.2.1
  have k1 := ck20 hC hT (mx 18547 (A.1.1.1 0)) (nr A.1.1.1) 0 (by omega) fu (by have := hT.W.2.1; unfold fu; omega)
  have k2 := ck79 hC hT (mx (y1 A) (mk 10 (th A.1.1.1))) 10 0 (by omega) fu (by unfold fu; omega)
  have k3 := ck184 hC hT (y3 A) (nm A.1.1.1) 0 (by omega) fu (by have := hT.1.1.2.2.2.2.2.2.1; unfold fu; omega)
  have k4 := ck244 hC hT (y4 A)
  rw [nI_0] at k1 k2 k3
  have v3 : iv h (x + 1 + 1) 3 = A.1.1.1 0 := hCB.2.1.1
  have v9 : iv h (x + 1) 9 = mk 10 (th A.1.1.1) := hCB.2.2.1.1
  have e : fX8_checksum x z h = bX8_checksum_244 x (y4 A) z h := by
    have k1 : lX8_checksum_20 fu x (mx 18547 (A.1.1.1 0)) 0 z h = bX8_checksum_64 x (y1 A) z h := k1
    have k2 : lX8_checksum_79 fu x (mx (y1 A) (mk 10 (th A.1.1.1))) 0 z h = lX8_checksum_184 fu x (y3 A) 0 z h := k2
    have k3 : lX8_checksum_184 fu x (y3 A) 0 z h = bX8_checksum_244 x (y4 A) z h := k3
    obtain ⟨o1, o2, o3, o4, o5, o6, o7, o8, o9, o10, o11, o12, o13, o14, o15, o16⟩ := id hC.1
    have hB := hC.2.2.1.1.2.1.1
    have u1 := hB.1
    have u2 := hB.2.1
    have u3 := hB.2.2.2.2.2.2.2.2.2.1
    have u4 := hC.2.2.1.1.1.1
    simp (disch := omega) only [fX8_checksum, ↓gd, ↓bl, ↓xr, ↓reduceIte, o1, ↓bb o2, ↓bb o3, ↓bb o4, ↓bb o5, ↓bb o6, ↓bb o7, ↓bb o8, o9, ↓bb o10, o11, o12, o13, ↓bb o14, o15, o16, u1, ↓bb u2, u3, u4, v3, ↓bb3 (e8_mix _ _ _ _), k1, bX8_checksum_64, v9, k2, k3]
  rw [e]
  exact k4
end CK8
/-! the reference's -/
theorem wJ_wJ (h : AH) (a k : Nat) (y y' : Int64) : wJ (wJ h a k y) a k y' = wJ h a k y' := by
  unfold wJ
  congr 2
  refine Prod.ext ?_ rfl
  funext b j
  show u2 (u2 h.2.2.1 a k y) a k y' b j = u2 h.2.2.1 a k y' b j
  unfold u2
  by_cases e : b = a
  · simp only [e, if_true]
    by_cases e2 : j = k <;> simp [e2]
  · simp [e]
theorem jv19 (h : AH) (m : Nat) (y : Int64) : jv (wJ h m 19 y) m 19 = y := by rw [jv_wJ, if_pos rfl, if_pos rfl]
theorem e9_mix {h : AH} {m : Nat} (hk : kd h m = 10) (v : Int32) (z : Nat) (y : Int64) : fX9_mixes m v z (wJ h m 19 y) = some (z, wJ h m 19 (mx y v)) := by
  simp only [fX9_mixes, ↓gd, ↓bl, ↓reduceIte, kd_wJ, hk, jv19, wJ_wJ]
  rfl
theorem e9_mix0 {h : AH} {m : Nat} (hk : kd h m = 10) (v : Int32) (z : Nat) : fX9_mixes m v z h = some (z, wJ h m 19 (mx (jv h m 19) v)) := by
  simp only [fX9_mixes, ↓gd, ↓bl, ↓reduceIte, hk]
  rfl
theorem Fq.wJ {P : Nat → Prop} (h : AH) {b : Nat} (k : Nat) (x : Int64) (hb : P b) : Fq P h (wJ h b k x) := ⟨rfl, rfl, fun c hc => ⟨rfl, u2_ne _ _ _ (fun e => hc (e ▸ hb))⟩⟩
theorem RI_J {h : AH} {m : Nat} {A : TS} (hR : RI h m A) (y : Int64) : RI (wJ h m 19 y) m A := hR
theorem PRm {m : Nat} : PR m m := ⟨Nat.le_refl _, by omega⟩
section CK9
variable {h : AH} {m z : Nat} {A : TS} {B : Nat}
theorem ck165 (hR : RI h m A) (hT : TI A B) {k : Nat} (hk : k < nm A.1.1.1) (y : Int64) (qq : Nat → Int32 → Nat → AH → Option (Int64 × Nat × AH)) : ∀ (d j : Nat), j + d = 5 → ∀ fuel, d < fuel → lX9_checksum_165 qq fuel m (nI k) (nI j) z (wJ h m 19 (fo (vM A.1.1.1 k) j y)) = qq m (nI (k + 1)) z (wJ h m 19 (fo (vM A.1.1.1 k) 5 y)) := by
  intro d
  have hk0 := hR.1.1
  induction d with
  | zero =>
    intro j hj fuel hf
    obtain rfl : j = 5 := by omega
    cases fuel with
    | zero => omega
    | succ fuel =>
      show lX9_checksum_165B _ _ _ _ _ _ _ = _
      simp (disch := omega) only [lX9_checksum_165B, ↓reduceIte, li5, Int32.le_refl, nI_1]
  | succ d ih =>
    intro j hj fuel hf
    cases fuel with
    | zero => omega
    | succ fuel =>
      have h3 := ih (j + 1) (by omega) fuel (by omega)
      rw [fo_s] at h3
      have x1 := e9_mail (h := wJ h m 19 (fo (vM A.1.1.1 k) j y)) (m := m) (q := A.1.1.1) hR.1 hR.2.1.1 hT.1.1.2.2.2.2.2 hk (j := j) (by omega) z
      have e : ((5 : Int32) ≤ nI j) = False := by rw [li5, nI_leE (by omega) (by omega)]; exact eq_false (by omega)
      show lX9_checksum_165B _ _ _ _ _ _ _ = _
      simp (disch := omega) only [lX9_checksum_165B, ↓gd, ↓reduceIte, e, kd_wJ, hk0, ↓bb3 x1, ↓bb2 (e9_mix hk0 _ _ _), nI_1]
      exact h3
theorem ck152 (hR : RI h m A) (hT : TI A B) (y : Int64) : ∀ (d k : Nat), k + d = nm A.1.1.1 → ∀ fuel, d < fuel → ∃ h', lX9_checksum_152 fuel m (nI k) z (wJ h m 19 (foM A.1.1.1 k y)) = some (mx (mx (mx (mx (foM A.1.1.1 (nm A.1.1.1) y) (vOn A.1.1.1)) (vSt A.1.1.1)) (nI A.2.2.length)) (nI A.2.1.length), z, h') ∧ RI h' m A ∧ Fq (PR m) h h' := by
  intro d
  have hk0 := hR.1.1
  have hWm := hT.1.1.2.2.2.2.2
  have hn := hWm.2.1
  have i3 : ((92 : Int32) < 0) = False := eq_false (by decide)
  have i4 : Int32.toNatClampNeg 92 = 92 := by decide
  have v92 : iv h (m + 1) 92 = nI (nm A.1.1.1) := (hR.2.1.1 92 (by omega)).trans hWm.1
  have hM := hR.1
  obtain ⟨hk, r0, r1, r3, r4, r10, r11, r13, r14, r15, k1, k2, k3, k4, k5, k6, k7, k8, k9, l1, l2, l3, l4, l5, l6, l7, l8, l9⟩ := id hM
  induction d with
  | zero =>
    intro k hkk fuel hf
    obtain rfl : k = nm A.1.1.1 := by omega
    cases fuel with
    | zero => omega
    | succ fuel =>
      generalize foM A.1.1.1 (nm A.1.1.1) y = Y
      have hRJ := RI_J hR Y
      obtain ⟨h1, w1, w2, w3, -, -⟩ := r_cyclic (z := z) hRJ hT 1023
      rw [og_a (rc_a (er_all A.1.1.1))] at w1
      have w1 : fX9_cyclic m 1023 z (wJ h m 19 Y) = some (vOn A.1.1.1, z, h1) := w1
      have j1 : jv h1 m 19 = Y := by rw [jv_F w3 (by unfold PL2; omega), jv19]
      have g1 := w2.1.1
      have z1 := e9_mix0 g1 (vOn A.1.1.1) z
      rw [j1] at z1
      obtain ⟨h2, y1', y2', y3'⟩ := r9_stuckTasks (z := z) (RI_J w2 (mx Y (vOn A.1.1.1))) hT
      have g2 := y2'.1.1
      have j2 : jv h2 m 19 = mx Y (vOn A.1.1.1) := by rw [jv_F y3' (by unfold PL2; omega), jv19]
      have z2 := e9_mix0 g2 (vSt A.1.1.1) z
      rw [j2] at z2
      have t5 : iv h2 m 5 = nI A.2.2.length := y2'.2.2.2.2.2.2.2.1
      have t2 : iv h2 m 2 = nI A.2.1.length := y2'.2.2.2.2.1
      refine ⟨wJ h2 m 19 (mx (mx (mx (mx Y (vOn A.1.1.1)) (vSt A.1.1.1)) (nI A.2.2.length)) (nI A.2.1.length)), ?_, RI_J y2' _, ?_⟩
      · show lX9_checksum_152B _ _ _ _ _ = _
        simp (disch := omega) only [lX9_checksum_152B, ↓gd, ↓reduceIte, kd_wJ, ln_wJ, ↓brv_wJ, iv_wJ, ↓bb r0, ↓bb r1, ↓bb r3, ↓bb r4, ↓bb r10, ↓bb r11, ↓bb r13, ↓bb r14, ↓bb r15, hk, k1, k2, k3, k4, k5, k6, k7, k8, k9, l1, l2, l3, l4, l5, l6, l7, l8, l9, i3, i4, leN_F, or_false, not_false_eq_true, v92, Int32.le_refl, ↓bb3 w1, g1, ↓bb2 z1, ↓bb3 y1', g2, ↓bb2 z2, t5, t2, ↓bb2 (e9_mix g2 _ _ _), jv19]
      · exact ((((Fq.wJ h 19 Y PRm).tr (w3.mono PL2_R)).tr (Fq.wJ h1 19 _ PRm)).tr (y3'.mono PL2_R)).tr (Fq.wJ h2 19 _ PRm)
  | succ d ih =>
    intro k hkk fuel hf
    cases fuel with
    | zero => omega
    | succ fuel =>
      obtain ⟨h', h3, h5, h6⟩ := ih (k + 1) (by omega) fuel (by omega)
      rw [foM_s] at h3
      have h4 := ck165 (z := z) hR hT (k := k) (by omega) (foM A.1.1.1 k y) (lX9_checksum_152 fuel) 5 0 (by omega) fu (by unfold fu; omega)
      rw [h3, nI_0] at h4
      refine ⟨h', ?_, h5, h6⟩
      have e1 : (nI (nm A.1.1.1) ≤ nI k) = False := by rw [nI_leE (by omega) (by omega)]; exact eq_false (by omega)
      show lX9_checksum_152B _ _ _ _ _ = _
      simp (disch := omega) only [lX9_checksum_152B, ↓gd, ↓reduceIte, kd_wJ, ln_wJ, ↓brv_wJ, iv_wJ, ↓bb r0, ↓bb r1, ↓bb r3, ↓bb r4, ↓bb r10, ↓bb r11, ↓bb r13, ↓bb r14, ↓bb r15, hk, k1, k2, k3, k4, k5, k6, k7, k8, k9, l1, l2, l3, l4, l5, l6, l7, l8, l9, i3, i4, leN_F, or_false, not_false_eq_true, v92, e1]
      exact h4
theorem ck70 (hR : RI h m A) (hT : TI A B) {t : Nat} (ht : t < 10) (hth : th A.1.1.1 t = true) (y : Int64) (qq : Nat → Int32 → Nat → AH → Option (Int64 × Nat × AH)) : ∀ (d j : Nat), j + d = 7 → ∀ fuel, d < fuel → lX9_checksum_70 qq fuel m (nI t) (nI j) z (wJ h m 19 (fo (vP A.1.1.1 A.1.1.2.1 t) j y)) = qq m (nI (t + 1)) z (wJ h m 19 (fo (vP A.1.1.1 A.1.1.2.1 t) 7 y)) := by
  intro d
  have hk0 := hR.1.1
  induction d with
  | zero =>
    intro j hj fuel hf
    obtain rfl : j = 7 := by omega
    cases fuel with
    | zero => omega
    | succ fuel =>
      show lX9_checksum_70B _ _ _ _ _ _ _ = _
      simp (disch := omega) only [lX9_checksum_70B, bX9_checksum_100, ↓reduceIte, li7, Int32.le_refl, nI_1]
  | succ d ih =>
    intro j hj fuel hf
    cases fuel with
    | zero => omega
    | succ fuel =>
      have h3 := ih (j + 1) (by omega) fuel (by omega)
      rw [fo_s] at h3
      have x1 := e9_isTask (h := wJ h m 19 (fo (vP A.1.1.1 A.1.1.2.1 t) j y)) (m := m) hR.1 (nI t) z
      rw [tkI_nI ht, show th (ps (wJ h m 19 (fo (vP A.1.1.1 A.1.1.2.1 t) j y)) m) t = true from (th_nord hR.2.1.1 t).trans hth] at x1
      have x2 := e9_part (h := wJ h m 19 (fo (vP A.1.1.1 A.1.1.2.1 t) j y)) (m := m) hR.1 hR.2.1 hT.1.1 ht (j := j) (by omega) z
      have e : ((7 : Int32) ≤ nI j) = False := by rw [li7, nI_leE (by omega) (by omega)]; exact eq_false (by omega)
      show lX9_checksum_70B _ _ _ _ _ _ _ = _
      simp (disch := omega) only [lX9_checksum_70B, ↓gd, ↓reduceIte, e, kd_wJ, hk0, ↓bb3 x1, ne10, ↓bb3 x2, ↓bb2 (e9_mix hk0 _ _ _), nI_1]
      exact h3
theorem ck70n (hR : RI h m A) {t : Nat} (ht : t < 10) (hth : th A.1.1.1 t = false) (y : Int64) (qq : Nat → Int32 → Nat → AH → Option (Int64 × Nat × AH)) (fuel : Nat) : lX9_checksum_70 qq (fuel + 1) m (nI t) 0 z (wJ h m 19 y) = qq m (nI (t + 1)) z (wJ h m 19 y) := by
  have hk0 := hR.1.1
  have x1 := e9_isTask (h := wJ h m 19 y) (m := m) hR.1 (nI t) z
  rw [tkI_nI ht, show th (ps (wJ h m 19 y) m) t = false from (th_nord hR.2.1.1 t).trans hth] at x1
  have e : ((7 : Int32) ≤ 0) = False := eq_false (by decide)
  show lX9_checksum_70B _ _ _ _ _ _ _ = _
  simp (disch := omega) only [lX9_checksum_70B, bX9_checksum_100, ↓gd, ↓reduceIte, e, kd_wJ, hk0, ↓bb3 x1, Bool.false_eq_true, nI_1]
theorem ck62 (hR : RI h m A) (hT : TI A B) (y : Int64) : ∀ (d k : Nat), k + d = 10 → ∀ fuel, d < fuel → lX9_checksum_62 fuel m (nI k) z (wJ h m 19 (foT A.1.1.1 A.1.1.2.1 k y)) = lX9_checksum_152 fu m 0 z (wJ h m 19 (mx (mx (mx (mx (foT A.1.1.1 A.1.1.2.1 10 y) (A.1.1.1 17)) (A.1.1.1 18)) (A.1.1.1 19)) (A.1.1.1 92))) := by
  intro d
  have a17 : iv h (m + 1) 17 = A.1.1.1 17 := hR.2.1.1 17 (by omega)
  have a18 : iv h (m + 1) 18 = A.1.1.1 18 := hR.2.1.1 18 (by omega)
  have a19 : iv h (m + 1) 19 = A.1.1.1 19 := hR.2.1.1 19 (by omega)
  have a92 : iv h (m + 1) 92 = A.1.1.1 92 := hR.2.1.1 92 (by omega)
  have n17 : ((17 : Int32) < 0) = False := eq_false (by decide)
  have n18 : ((18 : Int32) < 0) = False := eq_false (by decide)
  have n19 : ((19 : Int32) < 0) = False := eq_false (by decide)
  have n92 : ((92 : Int32) < 0) = False := eq_false (by decide)
  have c17 : Int32.toNatClampNeg 17 = 17 := by decide
  have c18 : Int32.toNatClampNeg 18 = 18 := by decide
  have c19 : Int32.toNatClampNeg 19 = 19 := by decide
  have c92 : Int32.toNatClampNeg 92 = 92 := by decide
  have hM := hR.1
  have hk0 := hR.1.1
  obtain ⟨hk, r0, r1, r3, r4, r10, r11, r13, r14, r15, k1, k2, k3, k4, k5, k6, k7, k8, k9, l1, l2, l3, l4, l5, l6, l7, l8, l9⟩ := id hM
  induction d with
  | zero =>
    intro k hkk fuel hf
    obtain rfl : k = 10 := by omega
    cases fuel with
    | zero => omega
    | succ fuel =>
      show lX9_checksum_62B _ _ _ _ _ = _
      simp (disch := omega) only [lX9_checksum_62B, ↓gd, ↓reduceIte, li10, Int32.le_refl, kd_wJ, ln_wJ, ↓brv_wJ, iv_wJ, ↓bb r0, ↓bb r1, ↓bb r3, ↓bb r4, ↓bb r10, ↓bb r11, ↓bb r13, ↓bb r14, ↓bb r15, hk, k1, k2, k3, k4, k5, k6, k7, k8, k9, l1, l2, l3, l4, l5, l6, l7, l8, l9, n17, n18, n19, n92, c17, c18, c19, c92, leN_F, or_false, not_false_eq_true, a17, a18, a19, a92, ↓bb2 (e9_mix hk0 _ _ _)]
  | succ d ih =>
    intro k hkk fuel hf
    cases fuel with
    | zero => omega
    | succ fuel =>
      have h3 := ih (k + 1) (by omega) fuel (by omega)
      rw [foT_s] at h3
      have e1 : ((10 : Int32) ≤ nI k) = False := by rw [li10, nI_leE (by omega) (by omega)]; exact eq_false (by omega)
      show lX9_checksum_62B _ _ _ _ _ = _
      cases eth : th A.1.1.1 k
      · rw [eth] at h3
        simp only [Bool.false_eq_true, if_false] at h3
        have h4 := ck70n (z := z) hR (t := k) (by omega) eth (foT A.1.1.1 A.1.1.2.1 k y) (lX9_checksum_62 fuel) 19999
        rw [h3] at h4
        simp (disch := omega) only [lX9_checksum_62B, e1, ↓reduceIte]
        exact h4
      · rw [eth] at h3
        simp only [if_true] at h3
        have h4 := ck70 (z := z) hR hT (t := k) (by omega) eth (foT A.1.1.1 A.1.1.2.1 k y) (lX9_checksum_62 fuel) 7 0 (by omega) fu (by unfold fu; omega)
        rw [h3, nI_0] at h4
        simp (disch := omega) only [lX9_checksum_62B, e1, ↓reduceIte]
        exact h4
theorem ck24 (hR : RI h m A) (hT : TI A B) (y : Int64) : ∀ (d k : Nat), k + d = nr A.1.1.1 → ∀ fuel, d < fuel → lX9_checksum_24 fuel m (nI k) z (wJ h m 19 (fo (fun r => A.1.1.1 (1 + r)) k y)) = lX9_checksum_62 fu m 0 z (wJ h m 19 (mx (fo (fun r => A.1.1.1 (1 + r)) (nr A.1.1.1) y) (mk 10 (th A.1.1.1)))) := by
  intro d
  have hn := hT.W.2.1
  have v0 : iv h (m + 1) 0 = nI (nr A.1.1.1) := (hR.2.1.1 0 (by omega)).trans hT.W.1
  have hM := hR.1
  have hk0 := hR.1.1
  obtain ⟨hk, r0, r1, r3, r4, r10, r11, r13, r14, r15, k1, k2, k3, k4, k5, k6, k7, k8, k9, l1, l2, l3, l4, l5, l6, l7, l8, l9⟩ := id hM
  induction d with
  | zero =>
    intro k hkk fuel hf
    obtain rfl : k = nr A.1.1.1 := by omega
    cases fuel with
    | zero => omega
    | succ fuel =>
      generalize fo (fun r => A.1.1.1 (1 + r)) (nr A.1.1.1) y = Y
      have x1 := e9_all (h := wJ h m 19 Y) (m := m) (q := A.1.1.1) hR.1 hR.2.1.1 z
      show lX9_checksum_24B _ _ _ _ _ = _
      simp (disch := omega) only [lX9_checksum_24B, ↓gd, ↓reduceIte, kd_wJ, ln_wJ, ↓brv_wJ, iv_wJ, ↓bb r0, ↓bb r1, ↓bb r3, ↓bb r4, ↓bb r10, ↓bb r11, ↓bb r13, ↓bb r14, ↓bb r15, hk, k1, k2, k3, k4, k5, k6, k7, k8, k9, l1, l2, l3, l4, l5, l6, l7, l8, l9, ix0, lt00, leN_F, or_false, not_false_eq_true, v0, Int32.le_refl, ↓bb3 x1, ↓bb2 (e9_mix hk0 _ _ _)]
  | succ d ih =>
    intro k hkk fuel hf
    cases fuel with
    | zero => omega
    | succ fuel =>
      have h3 := ih (k + 1) (by omega) fuel (by omega)
      rw [fo_s] at h3
      have e1 : (nI (nr A.1.1.1) ≤ nI k) = False := by rw [nI_leE (by omega) (by omega)]; exact eq_false (by omega)
      have e2 : (1 : Int32) + nI k = nI (1 + k) := nI_add 1 k
      have v4 : iv h (m + 1) (1 + k) = A.1.1.1 (1 + k) := hR.2.1.1 _ (by omega)
      show lX9_checksum_24B _ _ _ _ _ = _
      simp (disch := omega) only [lX9_checksum_24B, ↓gd, ↓reduceIte, kd_wJ, ln_wJ, ↓brv_wJ, iv_wJ, ↓bb r0, ↓bb r1, ↓bb r3, ↓bb r4, ↓bb r10, ↓bb r11, ↓bb r13, ↓bb r14, ↓bb r15, hk, k1, k2, k3, k4, k5, k6, k7, k8, k9, l1, l2, l3, l4, l5, l6, l7, l8, l9, ix0, lt00, leN_F, or_false, not_false_eq_true, v0, e1, e2, nI_negE, nI_clamp, v4, ↓bb2 (e9_mix hk0 _ _ _), nI_1]
      exact h3
theorem r_checksum (hR : RI h m A) (hT : TI A B) : RPJ (fX9_checksum m z h) h m z (vCk A, A) := by
  obtain ⟨c1, c2, c3⟩ := RI_code hR 0
  have hk0 := hR.1.1
  have hkc : kd (wI h m 6 0) m = 10 := hk0
  have k1 := ck24 (z := z) c1 hT (mx 18547 (A.1.1.1 0)) (nr A.1.1.1) 0 (by omega) fu (by have := hT.W.2.1; unfold fu; omega)
  have k2 := ck62 (z := z) c1 hT (mx (y1 A) (mk 10 (th A.1.1.1))) 10 0 (by omega) fu (by unfold fu; omega)
  obtain ⟨h', k3, k4, k5⟩ := ck152 (z := z) c1 hT (y3 A) (nm A.1.1.1) 0 (by omega) fu (by have := hT.1.1.2.2.2.2.2.2.1; unfold fu; omega)
  rw [nI_0] at k1 k2 k3
  have k1 : lX9_checksum_24 fu m 0 z (wJ (wI h m 6 0) m 19 (mx 18547 (A.1.1.1 0))) = lX9_checksum_62 fu m 0 z (wJ (wI h m 6 0) m 19 (mx (y1 A) (mk 10 (th A.1.1.1)))) := k1
  have k2 : lX9_checksum_62 fu m 0 z (wJ (wI h m 6 0) m 19 (mx (y1 A) (mk 10 (th A.1.1.1)))) = lX9_checksum_152 fu m 0 z (wJ (wI h m 6 0) m 19 (y3 A)) := k2
  have k3 : lX9_checksum_152 fu m 0 z (wJ (wI h m 6 0) m 19 (y3 A)) = some (vCk A, z, h') := k3
  refine ⟨h', ?_, k4, c2.tr k5⟩
  have v0 : iv (wI h m 6 0) (m + 1) 0 = A.1.1.1 0 := c1.2.1.1 0 (by omega)
  have kf := k1.trans (k2.trans k3)
  have hM := hR.1
  obtain ⟨hk, r0, r1, r3, r4, r10, r11, r13, r14, r15, k1, k2, k3, k4, k5, k6, k7, k8, k9, l1, l2, l3, l4, l5, l6, l7, l8, l9⟩ := id hM
  simp (disch := omega) only [fX9_checksum, ↓gd, ↓bl, ↓reduceIte, kd_wJ, ln_wJ, ↓brv_wJ, iv_wJ, kd_wI, ln_wI, ↓brv_wI, ↓bb r0, ↓bb r1, ↓bb r3, ↓bb r4, ↓bb r10, ↓bb r11, ↓bb r13, ↓bb r14, ↓bb r15, hk, k1, k2, k3, k4, k5, k6, k7, k8, k9, l1, l2, l3, l4, l5, l6, l7, l8, l9, ix0, lt00, leN_F, or_false, not_false_eq_true, v0, ↓bb2 (e9_mix hkc _ _ _)]
  exact kf
end CK9
