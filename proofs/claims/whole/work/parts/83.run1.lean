theorem dl_98_97 : ((98 : Int32) = 97) = False := eq_false (by decide)
theorem dl_100_97 : ((100 : Int32) = 97) = False := eq_false (by decide)
theorem dl_100_98 : ((100 : Int32) = 98) = False := eq_false (by decide)
theorem dl_100_99 : ((100 : Int32) = 99) = False := eq_false (by decide)
theorem dl_102_97 : ((102 : Int32) = 97) = False := eq_false (by decide)
theorem dl_102_98 : ((102 : Int32) = 98) = False := eq_false (by decide)
theorem dl_102_99 : ((102 : Int32) = 99) = False := eq_false (by decide)
theorem dl_102_100 : ((102 : Int32) = 100) = False := eq_false (by decide)
theorem dl_102_101 : ((102 : Int32) = 101) = False := eq_false (by decide)
theorem dl_108_97 : ((108 : Int32) = 97) = False := eq_false (by decide)
theorem dl_108_98 : ((108 : Int32) = 98) = False := eq_false (by decide)
theorem dl_108_99 : ((108 : Int32) = 99) = False := eq_false (by decide)
theorem dl_108_100 : ((108 : Int32) = 100) = False := eq_false (by decide)
theorem dl_108_101 : ((108 : Int32) = 101) = False := eq_false (by decide)
theorem dl_108_102 : ((108 : Int32) = 102) = False := eq_false (by decide)
theorem dl_108_103 : ((108 : Int32) = 103) = False := eq_false (by decide)
theorem dl_108_104 : ((108 : Int32) = 104) = False := eq_false (by decide)
theorem dl_108_105 : ((108 : Int32) = 105) = False := eq_false (by decide)
theorem dl_108_106 : ((108 : Int32) = 106) = False := eq_false (by decide)
theorem dl_108_107 : ((108 : Int32) = 107) = False := eq_false (by decide)
theorem dl_112_97 : ((112 : Int32) = 97) = False := eq_false (by decide)
theorem dl_112_98 : ((112 : Int32) = 98) = False := eq_false (by decide)
theorem dl_112_99 : ((112 : Int32) = 99) = False := eq_false (by decide)
theorem dl_112_100 : ((112 : Int32) = 100) = False := eq_false (by decide)
theorem dl_112_101 : ((112 : Int32) = 101) = False := eq_false (by decide)
theorem dl_112_102 : ((112 : Int32) = 102) = False := eq_false (by decide)
theorem dl_112_103 : ((112 : Int32) = 103) = False := eq_false (by decide)
theorem dl_112_104 : ((112 : Int32) = 104) = False := eq_false (by decide)
theorem dl_112_105 : ((112 : Int32) = 105) = False := eq_false (by decide)
theorem dl_112_106 : ((112 : Int32) = 106) = False := eq_false (by decide)
theorem dl_112_107 : ((112 : Int32) = 107) = False := eq_false (by decide)
theorem dl_112_108 : ((112 : Int32) = 108) = False := eq_false (by decide)
theorem dl_112_109 : ((112 : Int32) = 109) = False := eq_false (by decide)
theorem dl_112_110 : ((112 : Int32) = 110) = False := eq_false (by decide)
theorem dl_112_111 : ((112 : Int32) = 111) = False := eq_false (by decide)
theorem dl_113_97 : ((113 : Int32) = 97) = False := eq_false (by decide)
theorem dl_113_98 : ((113 : Int32) = 98) = False := eq_false (by decide)
theorem dl_113_99 : ((113 : Int32) = 99) = False := eq_false (by decide)
theorem dl_113_100 : ((113 : Int32) = 100) = False := eq_false (by decide)
theorem dl_113_101 : ((113 : Int32) = 101) = False := eq_false (by decide)
theorem dl_113_102 : ((113 : Int32) = 102) = False := eq_false (by decide)
theorem dl_113_103 : ((113 : Int32) = 103) = False := eq_false (by decide)
theorem dl_113_104 : ((113 : Int32) = 104) = False := eq_false (by decide)
theorem dl_113_105 : ((113 : Int32) = 105) = False := eq_false (by decide)
theorem dl_113_106 : ((113 : Int32) = 106) = False := eq_false (by decide)
theorem dl_113_107 : ((113 : Int32) = 107) = False := eq_false (by decide)
theorem dl_113_108 : ((113 : Int32) = 108) = False := eq_false (by decide)
theorem dl_113_109 : ((113 : Int32) = 109) = False := eq_false (by decide)
theorem dl_113_110 : ((113 : Int32) = 110) = False := eq_false (by decide)
theorem dl_113_111 : ((113 : Int32) = 111) = False := eq_false (by decide)
theorem dl_113_112 : ((113 : Int32) = 112) = False := eq_false (by decide)
theorem dl_116_97 : ((116 : Int32) = 97) = False := eq_false (by decide)
theorem dl_116_98 : ((116 : Int32) = 98) = False := eq_false (by decide)
theorem dl_116_99 : ((116 : Int32) = 99) = False := eq_false (by decide)
theorem dl_116_100 : ((116 : Int32) = 100) = False := eq_false (by decide)
theorem dl_116_101 : ((116 : Int32) = 101) = False := eq_false (by decide)
theorem dl_116_102 : ((116 : Int32) = 102) = False := eq_false (by decide)
theorem dl_116_103 : ((116 : Int32) = 103) = False := eq_false (by decide)
theorem dl_116_104 : ((116 : Int32) = 104) = False := eq_false (by decide)
theorem dl_116_105 : ((116 : Int32) = 105) = False := eq_false (by decide)
theorem dl_116_106 : ((116 : Int32) = 106) = False := eq_false (by decide)
theorem dl_116_107 : ((116 : Int32) = 107) = False := eq_false (by decide)
theorem dl_116_108 : ((116 : Int32) = 108) = False := eq_false (by decide)
theorem dl_116_109 : ((116 : Int32) = 109) = False := eq_false (by decide)
theorem dl_116_110 : ((116 : Int32) = 110) = False := eq_false (by decide)
theorem dl_116_111 : ((116 : Int32) = 111) = False := eq_false (by decide)
theorem dl_116_112 : ((116 : Int32) = 112) = False := eq_false (by decide)
theorem dl_116_113 : ((116 : Int32) = 113) = False := eq_false (by decide)
theorem dl_116_114 : ((116 : Int32) = 114) = False := eq_false (by decide)
theorem dl_116_115 : ((116 : Int32) = 115) = False := eq_false (by decide)
/-! a command of a script -/
def dK (q : Nat → Int32) (c : Nat) (a b : Int32) : Nat := if c = 97 then kA q a else if c = 98 then kB q a else if c = 102 then kF q a else if c = 108 then kL q a b else if c = 112 then kP q a else if c = 113 then kQ q a b else if c = 116 then kC q a else kD a
def dS (w : Ac) (c : Nat) (a b : Int32) : Ac := if c = 97 then sA w a else if c = 98 then sB w a else if c = 102 then sF w a else if c = 108 then sL w a b else if c = 112 then sP w a else if c = 113 then sQ w a b else if c = 116 then sC w a else sD w a
def dA (w : Ac) (c : Nat) (a b : Int32) : Ac := if dK w.1.1 c a b = 0 then dS w c a b else w
theorem na_c {c : Nat} (h : na c ≠ 0) : c = 97 ∨ c = 98 ∨ c = 100 ∨ c = 102 ∨ c = 108 ∨ c = 112 ∨ c = 113 ∨ c = 116 := by
  unfold na at h
  split at h
  · omega
  · split at h
    · omega
    · exact absurd rfl h
theorem WS.mono {w : Ac} {B C : Nat} (h : WS w B) (hBC : B ≤ C) : WS w C := ⟨WQ.mono h.1 hBC, h.2⟩
theorem WS_d {w : Ac} {B c : Nat} {a b : Int32} (hB : B < 2 ^ 31 - 1) (h : WS w B) (hc : na c ≠ 0) (hk : dK w.1.1 c a b = 0) : WS (dS w c a b) (B + 1) := by
  have hm : B ≤ B + 1 := by omega
  rcases na_c hc with rfl | rfl | rfl | rfl | rfl | rfl | rfl | rfl
  · exact (WS_A h hk).mono hm
  · exact (WS_B h hk).mono hm
  · exact (WS_D (x := a) (by omega) h).mono hm
  · exact (WS_F h hk).mono hm
  · exact (WS_L h hk).mono hm
  · exact (WS_P h hk).mono hm
  · exact (WS_Q h hk).mono hm
  · exact WS_C hB h hk
theorem WS_dA {w : Ac} {B c : Nat} {a b : Int32} (hB : B < 2 ^ 31 - 1) (h : WS w B) (hc : na c ≠ 0) : WS (dA w c a b) (B + 1) := by
  unfold dA
  split
  · rename_i e; exact WS_d hB h hc e
  · exact h.mono (by omega)
theorem kA_i (q : Nat → Int32) (a : Int32) : decide (kA q a = 0) = (tkI q a && !decide (stt q a = 2)) := by
  unfold kA
  cases tkI q a
  · simp
  · by_cases e : stt q a = 2 <;> simp [e]
theorem kB_i (q : Nat → Int32) (a : Int32) : decide (kB q a = 0) = (tkI q a && decide (stt q a = 2)) := by
  unfold kB
  cases tkI q a
  · simp
  · by_cases e : stt q a = 2 <;> simp [e]
theorem kF_i (q : Nat → Int32) (a : Int32) : decide (kF q a = 0) = (tkI q a && decide (stt q a = 0)) := by
  unfold kF
  cases tkI q a
  · simp
  · by_cases e : stt q a = 0 <;> simp [e]
theorem kP_i (q : Nat → Int32) (a : Int32) : decide (kP q a = 0) = (tkI q a && decide (stt q a = 1)) := by
  unfold kP
  cases tkI q a
  · simp
  · by_cases e : stt q a = 1 <;> simp [e]
theorem kQ_i (q : Nat → Int32) (a b : Int32) : decide (kQ q a b = 0) = ((tkI q a && decide (stt q a = 0)) && rsI q b) := by
  unfold kQ
  cases tkI q a
  · simp
  · cases rsI q b
    · simp
    · by_cases e : stt q a = 0 <;> simp [e]
theorem kL_i (q : Nat → Int32) (a b : Int32) : decide (kL q a b = 0) = ((tkI q a && rsI q b) && bt (q (32 + 6 * tn' a + 3)) (tn' b)) := by
  unfold kL
  cases tkI q a
  · simp
  · cases rsI q b
    · simp
    · cases bt (q (32 + 6 * tn' a + 3)) (tn' b) <;> simp
theorem kD_i (a : Int32) : decide (kD a = 0) = inI a 1 99 := by
  unfold kD
  cases inI a 1 99 <;> simp
theorem kC_i (q : Nat → Int32) (a : Int32) : decide (kC q a = 0) = (inI a 1 99 && decide (fq q ≠ 10)) := by
  unfold kC
  cases inI a 1 99
  · simp
  · by_cases e : fq q = 10 <;> simp [e]
theorem g01 (b : Bool) (z : Nat) (h : AH) : (gd ((if b = true then (1 : Int32) else 0) = 0 ∨ (if b = true then (1 : Int32) else 0) = 1) (some ((if b = true then (1 : Int32) else 0), z, h)) : Option (Int32 × Nat × AH)) = some (if b = true then 1 else 0, z, h) := by
  cases b <;> rfl
section AL
variable {h : AH} {x : Nat} {q : Nat → Int32} {L : List Nat}
theorem al97 (hO : CO h x) (hC : CB h (x + 1) q L) (f l : Int32) (z : Nat) : fX8_isAllowed x 97 f l z h = some (if decide (kA q l = 0) then 1 else 0, z, h) := by
  have x1 := e0_has hC.1 hC.2.2.1 l z
  have x2 : fX0_isIn (x + 1) l 2 z h = some (if tkI q l && decide (stt q l = 2) then 1 else 0, z, h) := e0_isIn hC.1 hC.2.2.1 l 2 z
  obtain ⟨o1, o2, -⟩ := id hO
  have u1 := hC.1.1
  rw [kA_i]
  cases e1 : tkI q l
  · rw [e1] at x1
    simp only [fX8_isAllowed, ↓gd, ↓reduceIte, o1, ↓bb o2, u1, ↓bb3 x1, Bool.false_eq_true, Bool.false_and]
  · rw [e1] at x1 x2
    rw [Bool.true_and] at x2 ⊢
    cases e2 : decide (stt q l = 2)
    · rw [e2] at x2
      simp only [fX8_isAllowed, ↓gd, ↓reduceIte, o1, ↓bb o2, u1, ↓bb3 x1, ne10, ↓bb3 x2, Bool.false_eq_true, Bool.not_false]
    · rw [e2] at x2
      simp only [fX8_isAllowed, ↓gd, ↓reduceIte, o1, ↓bb o2, u1, ↓bb3 x1, ne10, ↓bb3 x2, Bool.false_eq_true, Bool.not_true]
theorem al98 (hO : CO h x) (hC : CB h (x + 1) q L) (f l : Int32) (z : Nat) : fX8_isAllowed x 98 f l z h = some (if decide (kB q l = 0) then 1 else 0, z, h) := by
  have x2 : fX0_isIn (x + 1) l 2 z h = some (if tkI q l && decide (stt q l = 2) then 1 else 0, z, h) := e0_isIn hC.1 hC.2.2.1 l 2 z
  obtain ⟨o1, o2, -⟩ := id hO
  have u1 := hC.1.1
  rw [← kB_i] at x2
  unfold fX8_isAllowed
  rw [if_neg (by decide), if_pos rfl, gd_t o1, bb o2, gd_t u1, bb3 x2]
  exact g01 _ _ _
theorem al102 (hO : CO h x) (hC : CB h (x + 1) q L) (f l : Int32) (z : Nat) : fX8_isAllowed x 102 f l z h = some (if decide (kF q l = 0) then 1 else 0, z, h) := by
  have x2 : fX0_isIn (x + 1) l 0 z h = some (if tkI q l && decide (stt q l = 0) then 1 else 0, z, h) := e0_isIn hC.1 hC.2.2.1 l 0 z
  obtain ⟨o1, o2, -⟩ := id hO
  have u1 := hC.1.1
  rw [← kF_i] at x2
  have : fX8_isAllowed x 102 f l z h = gd (kd h x = 9) (Option.bind (rv h x 0) (fun b23 => gd (kd h b23 = 1) (bd3 (fX0_isIn b23 l 0 z h) (fun vo25 zo25 ho25h => gd (vo25 = 0 ∨ vo25 = 1) (some (vo25, zo25, ho25h)))))) := by
    simp only [fX8_isAllowed, ↓reduceIte, dl_102_97, dl_102_98, dl_102_99, dl_102_100, dl_102_101]
  rw [this, gd_t o1, bb o2, gd_t u1, bb3 x2]
  exact g01 _ _ _
theorem al112 (hO : CO h x) (hC : CB h (x + 1) q L) (f l : Int32) (z : Nat) : fX8_isAllowed x 112 f l z h = some (if decide (kP q l = 0) then 1 else 0, z, h) := by
  have x2 : fX0_isIn (x + 1) l 1 z h = some (if tkI q l && decide (stt q l = 1) then 1 else 0, z, h) := e0_isIn hC.1 hC.2.2.1 l 1 z
  obtain ⟨o1, o2, -⟩ := id hO
  have u1 := hC.1.1
  rw [← kP_i] at x2
  have : fX8_isAllowed x 112 f l z h = gd (kd h x = 9) (Option.bind (rv h x 0) (fun b23 => gd (kd h b23 = 1) (bd3 (fX0_isIn b23 l 1 z h) (fun vo25 zo25 ho25h => gd (vo25 = 0 ∨ vo25 = 1) (some (vo25, zo25, ho25h)))))) := by
    simp only [fX8_isAllowed, ↓reduceIte, dl_112_97, dl_112_98, dl_112_99, dl_112_100, dl_112_101, dl_112_102, dl_112_103, dl_112_104, dl_112_105, dl_112_106, dl_112_107, dl_112_108, dl_112_109, dl_112_110, dl_112_111]
  rw [this, gd_t o1, bb o2, gd_t u1, bb3 x2]
  exact g01 _ _ _
theorem al100 (x' : Nat) (f l : Int32) (z : Nat) : fX8_isAllowed x' 100 f l z h = some (if decide (kD l = 0) then 1 else 0, z, h) := by
  have x2 := e8_isWithin l 1 99 z h
  rw [← kD_i] at x2
  have : fX8_isAllowed x' 100 f l z h = bd3 (fX8_isWithin l 1 99 z h) (fun vo25 zo25 ho25h => gd (vo25 = 0 ∨ vo25 = 1) (some (vo25, zo25, ho25h))) := by
    simp only [fX8_isAllowed, ↓reduceIte, dl_100_97, dl_100_98, dl_100_99]
  rw [this, bb3 x2]
  exact g01 _ _ _
theorem al116 (hO : CO h x) (hC : CB h (x + 1) q L) (f l : Int32) (z : Nat) : fX8_isAllowed x 116 f l z h = some (if decide (kC q l = 0) then 1 else 0, z, h) := by
  have x1 := e8_isWithin l 1 99 z h
  have x2 : fX0_freeNumber (x + 1) z h = some (fn (fq q), z, h) := e0_freeNumber hC.1 hC.2.2.1 z
  obtain ⟨o1, o2, -⟩ := id hO
  have u1 := hC.1.1
  rw [kC_i]
  cases e1 : inI l 1 99
  · rw [e1] at x1
    simp only [fX8_isAllowed, ↓gd, ↓reduceIte, dl_116_97, dl_116_98, dl_116_99, dl_116_100, dl_116_101, dl_116_102, dl_116_103, dl_116_104, dl_116_105, dl_116_106, dl_116_107, dl_116_108, dl_116_109, dl_116_110, dl_116_111, dl_116_112, dl_116_113, dl_116_114, dl_116_115, ↓bb3 x1, Bool.false_eq_true, Bool.false_and]
  · rw [e1] at x1
    rw [Bool.true_and]
    have hf := (ff_le (fun t => !th q t) 10 0).1
    by_cases e2 : fq q = 10
    · have e3 : fn (fq q) = -1 := by unfold fn; rw [if_pos e2]
      rw [e3] at x2
      simp only [fX8_isAllowed, ↓gd, ↓reduceIte, dl_116_97, dl_116_98, dl_116_99, dl_116_100, dl_116_101, dl_116_102, dl_116_103, dl_116_104, dl_116_105, dl_116_106, dl_116_107, dl_116_108, dl_116_109, dl_116_110, dl_116_111, dl_116_112, dl_116_113, dl_116_114, dl_116_115, o1, ↓bb o2, u1, ↓bb3 x1, ne10, ↓bb3 x2, e2]
      rfl
    · have e3 : fn (fq q) = nI (fq q) := by unfold fn; rw [if_neg e2]
      rw [e3] at x2
      have e4 : (nI (fq q) = -1) = False := m1_ne (by unfold fq; omega)
      have e5 : decide (fq q ≠ 10) = true := decide_eq_true e2
      simp only [fX8_isAllowed, ↓gd, ↓reduceIte, dl_116_97, dl_116_98, dl_116_99, dl_116_100, dl_116_101, dl_116_102, dl_116_103, dl_116_104, dl_116_105, dl_116_106, dl_116_107, dl_116_108, dl_116_109, dl_116_110, dl_116_111, dl_116_112, dl_116_113, dl_116_114, dl_116_115, o1, ↓bb o2, u1, ↓bb3 x1, ne10, ↓bb3 x2, e4, e5]
theorem al113 (hO : CO h x) (hW : WFr q) (hC : CB h (x + 1) q L) (f l : Int32) (z : Nat) : fX8_isAllowed x 113 f l z h = some (if decide (kQ q f l = 0) then 1 else 0, z, h) := by
  have x1 : fX0_isIn (x + 1) f 0 z h = some (if tkI q f && decide (stt q f = 0) then 1 else 0, z, h) := e0_isIn hC.1 hC.2.2.1 f 0 z
  have x2 := e2_has hC.1 hW hC.2.1 l z
  obtain ⟨o1, o2, -⟩ := id hO
  have u1 := hC.1.1
  have u2 := hC.1.2.1
  have u3 := hC.1.2.2.2.2.2.2.2.2.2.1
  rw [kQ_i]
  cases e1 : (tkI q f && decide (stt q f = 0))
  · rw [e1] at x1
    simp only [fX8_isAllowed, ↓gd, ↓reduceIte, dl_113_97, dl_113_98, dl_113_99, dl_113_100, dl_113_101, dl_113_102, dl_113_103, dl_113_104, dl_113_105, dl_113_106, dl_113_107, dl_113_108, dl_113_109, dl_113_110, dl_113_111, dl_113_112, o1, ↓bb o2, u1, ↓bb3 x1, Bool.false_eq_true, Bool.false_and]
  · rw [e1] at x1
    cases e2 : rsI q l
    · rw [e2] at x2
      simp only [fX8_isAllowed, ↓gd, ↓reduceIte, dl_113_97, dl_113_98, dl_113_99, dl_113_100, dl_113_101, dl_113_102, dl_113_103, dl_113_104, dl_113_105, dl_113_106, dl_113_107, dl_113_108, dl_113_109, dl_113_110, dl_113_111, dl_113_112, o1, ↓bb o2, u1, ↓bb3 x1, ne10, ↓bb u2, u3, ↓bb3 x2, Bool.false_eq_true, Bool.and_false]
    · rw [e2] at x2
      simp only [fX8_isAllowed, ↓gd, ↓reduceIte, dl_113_97, dl_113_98, dl_113_99, dl_113_100, dl_113_101, dl_113_102, dl_113_103, dl_113_104, dl_113_105, dl_113_106, dl_113_107, dl_113_108, dl_113_109, dl_113_110, dl_113_111, dl_113_112, o1, ↓bb o2, u1, ↓bb3 x1, ne10, ↓bb u2, u3, ↓bb3 x2, Bool.and_self]
theorem e0_holdsG (hW : WFr q) (hC : CB h (x + 1) q L) (f l : Int32) (z : Nat) : fX0_holds (x + 1) f l z h = some (if decide (kL q f l = 0) then 1 else 0, z, h) := by
  have x1 := e0_has hC.1 hC.2.2.1 f z
  have x2 := e2_has hC.1 hW hC.2.1 l z
  have u1 := hC.1.1
  have u2 := hC.1.2.1
  have u3 := hC.1.2.2.2.2.2.2.2.2.2.1
  rw [kL_i]
  cases e1 : tkI q f
  · rw [e1] at x1
    simp only [fX0_holds, ↓gd, ↓reduceIte, u1, ↓bb3 x1, Bool.false_eq_true, Bool.false_and]
  · rw [e1] at x1
    cases e2 : rsI q l
    · rw [e2] at x2
      simp only [fX0_holds, ↓gd, ↓reduceIte, u1, ↓bb3 x1, ne10, ↓bb u2, u3, ↓bb3 x2, Bool.false_eq_true, Bool.and_false, Bool.false_and]
    · obtain ⟨t, ht, rfl, hth, et⟩ := tkI_of e1
      obtain ⟨r, r16, rfl, hr, er⟩ := rsI_of e2
      rw [et, er, Bool.and_self, Bool.true_and]
      exact e0_holds hW hC ht hth hr z
theorem al108 (hO : CO h x) (hW : WFr q) (hC : CB h (x + 1) q L) (f l : Int32) (z : Nat) : fX8_isAllowed x 108 f l z h = some (if decide (kL q f l = 0) then 1 else 0, z, h) := by
  have x2 := e0_holdsG hW hC f l z
  obtain ⟨o1, o2, -⟩ := id hO
  have u1 := hC.1.1
  have : fX8_isAllowed x 108 f l z h = gd (kd h x = 9) (Option.bind (rv h x 0) (fun b23 => gd (kd h b23 = 1) (bd3 (fX0_holds b23 f l z h) (fun vo25 zo25 ho25h => gd (vo25 = 0 ∨ vo25 = 1) (some (vo25, zo25, ho25h)))))) := by
    simp only [fX8_isAllowed, ↓reduceIte, dl_108_97, dl_108_98, dl_108_99, dl_108_100, dl_108_101, dl_108_102, dl_108_103, dl_108_104, dl_108_105, dl_108_106, dl_108_107]
  rw [this, gd_t o1, bb o2, gd_t u1, bb3 x2]
  exact g01 _ _ _
end AL
/-- the numbers of a command as the class has them at its end -/
def pA (c : Nat) (f l : Int32) : Int32 := if na c = 2 then f else l
theorem e8_al {h : AH} {x : Nat} {w : Ac} {B c : Nat} (hO : CO h x) (hL : CL h x w) (hQ : WS w B) (hc : na c ≠ 0) (f l : Int32) (z : Nat) : fX8_isAllowed x (nI c) f l z h = some (if dK w.1.1 c (pA c f l) l = 0 then 1 else 0, z, h) := by
  have hC := hL.1.2.1
  have hW := hQ.1.1
  have e : ∀ k : Nat, (if decide (k = 0) = true then (1 : Int32) else 0) = if k = 0 then 1 else 0 := fun k => by simp
  rcases na_c hc with rfl | rfl | rfl | rfl | rfl | rfl | rfl | rfl
  · exact (al97 hO hC f l z).trans (by rw [e]; rfl)
  · exact (al98 hO hC f l z).trans (by rw [e]; rfl)
  · exact (al100 x f l z).trans (by rw [e]; rfl)
  · exact (al102 hO hC f l z).trans (by rw [e]; rfl)
  · exact (al108 hO hW hC f l z).trans (by rw [e]; rfl)
  · exact (al112 hO hC f l z).trans (by rw [e]; rfl)
  · exact (al113 hO hW hC f l z).trans (by rw [e]; rfl)
  · exact (al116 hO hC f l z).trans (by rw [e]; rfl)
theorem e8_co {h : AH} {x : Nat} {w : Ac} {B c : Nat} (hB : B < 2 ^ 31 - 1) (hO : CO h x) (hL : CL h x w) (hQ : WS w B) (hc : na c ≠ 0) (f l : Int32) (hk : dK w.1.1 c (pA c f l) l = 0) (z : Nat) : ∃ h', fX8_carryOut x (nI c) f l z h = some (z, h') ∧ Fq (PE x) h h' ∧ CL h' x (dS w c (pA c f l) l) := by
  obtain ⟨o1, o2, o3, o4, o5, o6, -⟩ := id hO
  have u1 := hL.1.2.1.1.1
  have d1 := hL.1.1.1
  rcases na_c hc with rfl | rfl | rfl | rfl | rfl | rfl | rfl | rfl
  · obtain ⟨h', v1, v2, v3⟩ := c1A hQ hL (a := l) hk z
    refine ⟨h', ?_, v2, v3⟩
    show fX8_carryOut x 97 f l z h = _
    simp only [fX8_carryOut, ↓gd, ↓reduceIte, o1, ↓bb o6, d1, ↓bb3 v1]
  · obtain ⟨h', v1, v2, v3⟩ := c1B hQ hL (a := l) hk z
    refine ⟨h', ?_, v2, v3⟩
    show fX8_carryOut x 98 f l z h = _
    simp only [fX8_carryOut, ↓gd, ↓reduceIte, dl_98_97, o1, ↓bb o2, u1, ↓bb3 v1]
  · obtain ⟨h', v1, v2, v3⟩ := c1D (by omega) hQ hL (a := l) hk z
    refine ⟨h', ?_, v2, v3⟩
    show fX8_carryOut x 100 f l z h = _
    simp only [fX8_carryOut, ↓gd, ↓reduceIte, dl_100_97, dl_100_98, dl_100_99, o1, ↓bb o6, d1, ↓bb3 v1]
  · obtain ⟨h', v1, v2, v3⟩ := c1F hQ hL (a := l) hk z
    refine ⟨h', ?_, v2, v3⟩
    show fX8_carryOut x 102 f l z h = _
    simp only [fX8_carryOut, ↓gd, ↓reduceIte, dl_102_97, dl_102_98, dl_102_99, dl_102_100, dl_102_101, o1, ↓bb o6, d1, ↓bb3 v1]
  · obtain ⟨h', v1, v2, v3⟩ := c1L hQ hL (a := f) (b := l) hk z
    refine ⟨h', ?_, v2, v3⟩
    show fX8_carryOut x 108 f l z h = _
    simp only [fX8_carryOut, ↓gd, ↓reduceIte, dl_108_97, dl_108_98, dl_108_99, dl_108_100, dl_108_101, dl_108_102, dl_108_103, dl_108_104, dl_108_105, dl_108_106, dl_108_107, o1, ↓bb o6, d1, ↓bb3 v1]
  · obtain ⟨h', v1, v2, v3⟩ := c1P hQ hL (a := l) hk z
    refine ⟨h', ?_, v2, v3⟩
    show fX8_carryOut x 112 f l z h = _
    simp only [fX8_carryOut, ↓gd, ↓reduceIte, dl_112_97, dl_112_98, dl_112_99, dl_112_100, dl_112_101, dl_112_102, dl_112_103, dl_112_104, dl_112_105, dl_112_106, dl_112_107, dl_112_108, dl_112_109, dl_112_110, dl_112_111, o1, ↓bb o6, d1, ↓bb3 v1]
  · obtain ⟨h', v1, v2, v3⟩ := c1Q hQ hL (a := f) (b := l) hk z
    refine ⟨h', ?_, v2, v3⟩
    show fX8_carryOut x 113 f l z h = _
    simp only [fX8_carryOut, ↓gd, ↓reduceIte, dl_113_97, dl_113_98, dl_113_99, dl_113_100, dl_113_101, dl_113_102, dl_113_103, dl_113_104, dl_113_105, dl_113_106, dl_113_107, dl_113_108, dl_113_109, dl_113_110, dl_113_111, dl_113_112, o1, ↓bb o6, d1, ↓bb3 v1]
  · obtain ⟨h', v1, v2, v3⟩ := c1C hQ hL (c := l) hk z
    refine ⟨h', ?_, v2, v3⟩
    show fX8_carryOut x 116 f l z h = _
    simp only [fX8_carryOut, ↓gd, ↓reduceIte, dl_116_97, dl_116_98, dl_116_99, dl_116_100, dl_116_101, dl_116_102, dl_116_103, dl_116_104, dl_116_105, dl_116_106, dl_116_107, dl_116_108, dl_116_109, dl_116_110, dl_116_111, dl_116_112, dl_116_113, dl_116_114, dl_116_115, o1, ↓bb o2, u1, ↓bb3 v1]
/-! the class's run, step by step -/
section RUN
variable {h : AH} {x : Nat} {T : List Nat}
theorem s_end (hO : CO h x) (hX : TX h x T) (n L F l : Int32) (z f : Nat) : lX8_run_42 (f + 1) x n L F l (nI T.length) z h = some (.inl n, z, h) := by
  obtain ⟨t1, t2, t3⟩ := id hX
  obtain ⟨o1, o2, o3, o4, o5, o6, o7, o8, o9, o10, o11, o12, o13, o14, o15, o16⟩ := id hO
  show lX8_run_42B _ _ _ _ _ _ _ _ _ = _
  simp (disch := omega) only [lX8_run_42B, ↓gd, ↓reduceIte, o1, ↓bb o8, o13, t1, Int32.le_refl]
theorem s_dig (hO : CO h x) (hX : TX h x T) {k : Nat} (hd : dg T k = true) (n L F : Int32) (v z f : Nat) : lX8_run_42 (f + 1) x n L F (nI v) (nI k) z h = lX8_run_42 f x n L F (nI (10 * v + (ca T k - 48))) (nI (k + 1)) z h := by
  obtain ⟨t1, t2, t3⟩ := id hX
  obtain ⟨o1, o2, o3, o4, o5, o6, o7, o8, o9, o10, o11, o12, o13, o14, o15, o16⟩ := id hO
  have hkl := dg_lt hd
  obtain ⟨r1, r2⟩ := dg_r hd
  have v7 := t3 k _ (ca_get hkl)
  have l120 : (120 : Int32) = nI 120 := rfl
  have f59 : (nI (ca T k) = 59) = False := by rw [show (59 : Int32) = nI 59 from rfl, nI_eqE (by omega) (by omega)]; exact eq_false (by omega)
  have f44 : (nI (ca T k) = 44) = False := by rw [show (44 : Int32) = nI 44 from rfl, nI_eqE (by omega) (by omega)]; exact eq_false (by omega)
  have x2 := e8_isDigit (c := ca T k) (by omega) z h
  rw [show dgc (ca T k) = true from hd] at x2
  have ew : nI v * 10 + nI (ca T k) - 48 = nI (10 * v + (ca T k - 48)) := by rw [Int32.mul_comm]; exact dg10 v (ca T k) r1
  show lX8_run_42B _ _ _ _ _ _ _ _ _ = _
  simp (disch := omega) only [lX8_run_42B, bX8_run_151, ↓gd, ↓bl, ↓on, ↓xr, ↓reduceIte, if_true, if_false, kd_wI, ln_wI, rv_wI, iv_wI, jv_wI, kd_wJ, ln_wJ, rv_wJ, iv_wJ, nI_clamp, nI_leE, nI_ltE, nI_eqE, m1_ne, bit_0, bit_1, nI_negE, leN_F, leN_T, ltN_F, ltN_T, eqN_F, or_false, false_or, or_true, true_or, not_false_eq_true, not_true_eq_false, and_true, true_and, and_false, false_and, o1, ↓bb o8, o13, t1, l120, ↓bb o14, o15, o16, v7, f59, f44, ↓bb3 x2, ne10, ew, nI_1]
theorem s_com (hO : CO h x) (hX : TX h x T) {k : Nat} (hd : ca T k = 44) (n L F l : Int32) (z f : Nat) : lX8_run_42 (f + 1) x n L F l (nI k) z h = lX8_run_42 f x n L l 0 (nI (k + 1)) z h := by
  obtain ⟨t1, t2, t3⟩ := id hX
  obtain ⟨o1, o2, o3, o4, o5, o6, o7, o8, o9, o10, o11, o12, o13, o14, o15, o16⟩ := id hO
  have hkl := ca_lt (T := T) (i := k) (by omega)
  have v7 := t3 k _ (ca_get hkl)
  rw [hd] at v7
  have l120 : (120 : Int32) = nI 120 := rfl
  have f59 : (nI 44 = 59) = False := eq_false (by decide)
  have f44 : (nI 44 = 44) = True := eq_true (by decide)
  show lX8_run_42B _ _ _ _ _ _ _ _ _ = _
  simp (disch := omega) only [lX8_run_42B, bX8_run_151, ↓gd, ↓bl, ↓on, ↓xr, ↓reduceIte, if_true, if_false, kd_wI, ln_wI, rv_wI, iv_wI, jv_wI, kd_wJ, ln_wJ, rv_wJ, iv_wJ, nI_clamp, nI_leE, nI_ltE, nI_eqE, m1_ne, bit_0, bit_1, nI_negE, leN_F, leN_T, ltN_F, ltN_T, eqN_F, or_false, false_or, or_true, true_or, not_false_eq_true, not_true_eq_false, and_true, true_and, and_false, false_and, o1, ↓bb o8, o13, t1, l120, ↓bb o14, o15, o16, v7, f59, f44, nI_1]
theorem s_let (hO : CO h x) (hX : TX h x T) {k : Nat} (hd : na (ca T k) ≠ 0) (n L F l : Int32) (z f : Nat) : lX8_run_42 (f + 1) x n L F l (nI k) z h = lX8_run_42 f x n (nI (ca T k)) F 0 (nI (k + 1)) z h := by
  obtain ⟨t1, t2, t3⟩ := id hX
  obtain ⟨o1, o2, o3, o4, o5, o6, o7, o8, o9, o10, o11, o12, o13, o14, o15, o16⟩ := id hO
  have hcc := na_c hd
  have hkl := ca_lt (T := T) (i := k) (by omega)
  have v7 := t3 k _ (ca_get hkl)
  have l120 : (120 : Int32) = nI 120 := rfl
  have f59 : (nI (ca T k) = 59) = False := by rw [show (59 : Int32) = nI 59 from rfl, nI_eqE (by omega) (by omega)]; exact eq_false (by omega)
  have f44 : (nI (ca T k) = 44) = False := by rw [show (44 : Int32) = nI 44 from rfl, nI_eqE (by omega) (by omega)]; exact eq_false (by omega)
  have x2 := e8_isDigit (c := ca T k) (by omega) z h
  rw [show dgc (ca T k) = false from decide_eq_false (by omega)] at x2
  show lX8_run_42B _ _ _ _ _ _ _ _ _ = _
  simp (disch := omega) only [lX8_run_42B, bX8_run_151, ↓gd, ↓bl, ↓on, ↓xr, ↓reduceIte, if_true, if_false, kd_wI, ln_wI, rv_wI, iv_wI, jv_wI, kd_wJ, ln_wJ, rv_wJ, iv_wJ, nI_clamp, nI_leE, nI_ltE, nI_eqE, m1_ne, bit_0, bit_1, nI_negE, leN_F, leN_T, ltN_F, ltN_T, eqN_F, or_false, false_or, or_true, true_or, not_false_eq_true, not_true_eq_false, and_true, true_and, and_false, false_and, o1, ↓bb o8, o13, t1, l120, ↓bb o14, o15, o16, v7, f59, f44, ↓bb3 x2, Bool.false_eq_true, nI_1]
theorem s_num (hO : CO h x) (hX : TX h x T) (i : Nat) (n L F : Int32) (z f : Nat) : lX8_run_42 (f + (rN T 2 i 0).1) x n L F 0 (nI i) z h = lX8_run_42 f x n L F (nI (rN T 2 i 0).2) (nI (i + (rN T 2 i 0).1)) z h := by
  rcases rN_c T i with ⟨e1, e⟩ | ⟨e1, e2, e⟩ | ⟨e1, e2, e⟩
  · rw [e]; rfl
  · rw [e]
    have := s_dig hO hX e1 n L F 0 z f
    rw [show 10 * 0 + (ca T i - 48) = ca T i - 48 by omega] at this
    exact this
  · rw [e]
    have y1 := s_dig hO hX e1 n L F 0 z (f + 1)
    have y2 := s_dig hO hX e2 n L F (10 * 0 + (ca T i - 48)) z f
    rw [y2] at y1
    rw [show 10 * (10 * 0 + (ca T i - 48)) = 10 * (ca T i - 48) by omega] at y1
    exact y1
theorem s_semi (hO : CO h x) (hX : TX h x T) {w : Ac} {B c : Nat} (hB : B < 2 ^ 31 - 1) (hL : CL h x w) (hQ : WS w B) (hc : na c ≠ 0) {k : Nat} (hd : ca T k = 59) (n : Nat) (F l : Int32) (z f : Nat) :
    ∃ h', lX8_run_42 (f + 1) x (nI n) (nI c) F l (nI k) z h = lX8_run_42 f x (nI (n + if dK w.1.1 c (pA c F l) l = 0 then 1 else 0)) (nI c) F l (nI (k + 1)) z h' ∧ Fq (PE x) h h' ∧ CL h' x (dA w c (pA c F l) l) := by
  obtain ⟨t1, t2, t3⟩ := id hX
  obtain ⟨o1, o2, o3, o4, o5, o6, o7, o8, o9, o10, o11, o12, o13, o14, o15, o16⟩ := id hO
  have hkl := ca_lt (T := T) (i := k) (by omega)
  have v7 := t3 k _ (ca_get hkl)
  rw [hd] at v7
  have l120 : (120 : Int32) = nI 120 := rfl
  have f59 : (nI 59 = 59) = True := eq_true (by decide)
  have x1 := e8_al hO hL hQ hc F l z
  unfold dA
  by_cases e : dK w.1.1 c (pA c F l) l = 0
  · obtain ⟨h', v1, v2, v3⟩ := e8_co hB hO hL hQ hc F l e z
    rw [if_pos e] at x1
    rw [if_pos e, if_pos e]
    refine ⟨h', ?_, v2, v3⟩
    show lX8_run_42B _ _ _ _ _ _ _ _ _ = _
    simp (disch := omega) only [lX8_run_42B, bX8_run_151, ↓gd, ↓bl, ↓on, ↓xr, ↓reduceIte, if_true, if_false, kd_wI, ln_wI, rv_wI, iv_wI, jv_wI, kd_wJ, ln_wJ, rv_wJ, iv_wJ, nI_clamp, nI_leE, nI_ltE, nI_eqE, m1_ne, bit_0, bit_1, nI_negE, leN_F, leN_T, ltN_F, ltN_T, eqN_F, or_false, false_or, or_true, true_or, not_false_eq_true, not_true_eq_false, and_true, true_and, and_false, false_and, o1, ↓bb o8, o13, t1, l120, ↓bb o14, o15, o16, v7, f59, ↓bb3 x1, ne10, ↓bb2 v1, nI_1]
  · rw [if_neg e] at x1
    rw [if_neg e, if_neg e]
    refine ⟨h, ?_, Fq.rf _ h, hL⟩
    show lX8_run_42B _ _ _ _ _ _ _ _ _ = _
    simp (disch := omega) only [lX8_run_42B, bX8_run_151, ↓gd, ↓bl, ↓on, ↓xr, ↓reduceIte, if_true, if_false, kd_wI, ln_wI, rv_wI, iv_wI, jv_wI, kd_wJ, ln_wJ, rv_wJ, iv_wJ, nI_clamp, nI_leE, nI_ltE, nI_eqE, m1_ne, bit_0, bit_1, nI_negE, leN_F, leN_T, ltN_F, ltN_T, eqN_F, or_false, false_or, or_true, true_or, not_false_eq_true, not_true_eq_false, and_true, true_and, and_false, false_and, o1, ↓bb o8, o13, t1, l120, ↓bb o14, o15, o16, v7, f59, ↓bb3 x1, nI_1, Nat.add_zero]
end RUN
theorem cmE_i {T : List Nat} {i a b : Nat} (h : (cmE T i a b).1 = true) : ca T i = 59 ∧ cmE T i a b = (true, i + 1, a, b) := by
  unfold cmE at h ⊢
  by_cases e : ca T i = 59
  · rw [if_pos e]; exact ⟨e, rfl⟩
  · rw [if_neg e] at h; cases h
theorem d_one {w : Ac} {c : Nat} (hc : na c ≠ 0) (h2 : na c ≠ 2) (a b b' : Int32) : dK w.1.1 c a b = dK w.1.1 c a b' ∧ dS w c a b = dS w c a b' := by
  rcases na_c hc with rfl | rfl | rfl | rfl | rfl | rfl | rfl | rfl
  · exact ⟨by simp [dK], by simp [dS]⟩
  · exact ⟨by simp [dK], by simp [dS]⟩
  · exact ⟨by simp [dK], by simp [dS]⟩
  · exact ⟨by simp [dK], by simp [dS]⟩
  · exact absurd (by decide) h2
  · exact ⟨by simp [dK], by simp [dS]⟩
  · exact absurd (by decide) h2
  · exact ⟨by simp [dK], by simp [dS]⟩
theorem cmd8 {h : AH} {x : Nat} {T : List Nat} (hO : CO h x) (hX : TX h x T) {w : Ac} {B : Nat} (hB : B < 2 ^ 31 - 1) (hL : CL h x w) (hQ : WS w B) {i : Nat} (hn : na (ca T i) ≠ 0) (hok : (cmT T i).1 = true) (n : Nat) (L F l : Int32) (z f : Nat) :
    ∃ h' L' F' l', lX8_run_42 (f + ((cmT T i).2.1 - i)) x (nI n) L F l (nI i) z h = lX8_run_42 f x (nI (n + if dK w.1.1 (ca T i) (nI (cmT T i).2.2.1) (nI (cmT T i).2.2.2) = 0 then 1 else 0)) L' F' l' (nI (cmT T i).2.1) z h' ∧ Fq (PE x) h h' ∧ CL h' x (dA w (ca T i) (nI (cmT T i).2.2.1) (nI (cmT T i).2.2.2)) := by
  unfold cmT at hok ⊢
  have n1 := rN_2 T (i + 1)
  by_cases e1 : (rN T 2 (i + 1) 0).1 = 0
  · rw [if_pos e1] at hok; cases hok
  · rw [if_neg e1] at hok ⊢
    by_cases e2 : na (ca T i) = 2
    · rw [if_pos e2] at hok ⊢
      by_cases e3 : ca T (i + 1 + (rN T 2 (i + 1) 0).1) = 44
      · rw [if_pos e3] at hok ⊢
        by_cases e4 : (rN T 2 (i + 1 + (rN T 2 (i + 1) 0).1 + 1) 0).1 = 0
        · rw [if_pos e4] at hok; cases hok
        · rw [if_neg e4] at hok ⊢
          obtain ⟨e5, e6⟩ := cmE_i hok
          rw [e6]
          simp only
          have y1 := s_let hO hX hn (nI n) L F l z (f + 1 + (rN T 2 (i + 1 + (rN T 2 (i + 1) 0).1 + 1) 0).1 + 1 + (rN T 2 (i + 1) 0).1)
          have y2 := s_num hO hX (i + 1) (nI n) (nI (ca T i)) F z (f + 1 + (rN T 2 (i + 1 + (rN T 2 (i + 1) 0).1 + 1) 0).1 + 1)
          have y3 := s_com hO hX e3 (nI n) (nI (ca T i)) F (nI (rN T 2 (i + 1) 0).2) z (f + 1 + (rN T 2 (i + 1 + (rN T 2 (i + 1) 0).1 + 1) 0).1)
          have y4 := s_num hO hX (i + 1 + (rN T 2 (i + 1) 0).1 + 1) (nI n) (nI (ca T i)) (nI (rN T 2 (i + 1) 0).2) z (f + 1)
          obtain ⟨h', y5, y6, y7⟩ := s_semi hO hX hB hL hQ hn e5 n (nI (rN T 2 (i + 1) 0).2) (nI (rN T 2 (i + 1 + (rN T 2 (i + 1) 0).1 + 1) 0).2) z f
          rw [show pA (ca T i) (nI (rN T 2 (i + 1) 0).2) (nI (rN T 2 (i + 1 + (rN T 2 (i + 1) 0).1 + 1) 0).2) = nI (rN T 2 (i + 1) 0).2 from if_pos e2] at y5 y7
          refine ⟨h', nI (ca T i), nI (rN T 2 (i + 1) 0).2, nI (rN T 2 (i + 1 + (rN T 2 (i + 1) 0).1 + 1) 0).2, ?_, y6, y7⟩
          rw [← y5, ← y4, ← y3, ← y2, ← y1]
          congr 1
          omega
      · rw [if_neg e3] at hok; cases hok
    · rw [if_neg e2] at hok ⊢
      obtain ⟨e5, e6⟩ := cmE_i hok
      rw [e6]
      simp only
      have y1 := s_let hO hX hn (nI n) L F l z (f + 1 + (rN T 2 (i + 1) 0).1)
      have y2 := s_num hO hX (i + 1) (nI n) (nI (ca T i)) F z (f + 1)
      obtain ⟨h', y5, y6, y7⟩ := s_semi hO hX hB hL hQ hn e5 n F (nI (rN T 2 (i + 1) 0).2) z f
      rw [show pA (ca T i) F (nI (rN T 2 (i + 1) 0).2) = nI (rN T 2 (i + 1) 0).2 from if_neg e2] at y5 y7
      have ed := fun b b' : Int32 => d_one (w := w) hn e2 (nI (rN T 2 (i + 1) 0).2) b b'
      have ea : dA w (ca T i) (nI (rN T 2 (i + 1) 0).2) (nI (rN T 2 (i + 1) 0).2) = dA w (ca T i) (nI (rN T 2 (i + 1) 0).2) (nI 0) := by
        unfold dA
        rw [(ed (nI (rN T 2 (i + 1) 0).2) (nI 0)).1, (ed (nI (rN T 2 (i + 1) 0).2) (nI 0)).2]
      rw [ea] at y7
      rw [(ed (nI (rN T 2 (i + 1) 0).2) (nI 0)).1] at y5
      refine ⟨h', nI (ca T i), F, nI (rN T 2 (i + 1) 0).2, ?_, y6, y7⟩
      rw [← y5, ← y2, ← y1]
      congr 1
      omega
/-- a whole script -/
def rnA (T : List Nat) : Nat → Nat → Ac → Nat × Ac
  | 0, _, w => (0, w)
  | n + 1, i, w => if T.length ≤ i then (0, w) else
    ((if dK w.1.1 (ca T i) (nI (cmT T i).2.2.1) (nI (cmT T i).2.2.2) = 0 then 1 else 0) + (rnA T n (cmT T i).2.1 (dA w (ca T i) (nI (cmT T i).2.2.1) (nI (cmT T i).2.2.2))).1, (rnA T n (cmT T i).2.1 (dA w (ca T i) (nI (cmT T i).2.2.1) (nI (cmT T i).2.2.2))).2)
theorem rnA_s (T : List Nat) (n i : Nat) (w : Ac) : rnA T (n + 1) i w = if T.length ≤ i then (0, w) else
    ((if dK w.1.1 (ca T i) (nI (cmT T i).2.2.1) (nI (cmT T i).2.2.2) = 0 then 1 else 0) + (rnA T n (cmT T i).2.1 (dA w (ca T i) (nI (cmT T i).2.2.1) (nI (cmT T i).2.2.2))).1, (rnA T n (cmT T i).2.1 (dA w (ca T i) (nI (cmT T i).2.2.1) (nI (cmT T i).2.2.2))).2) := rfl
theorem m1_n {k : Nat} (hk : k < 2 ^ 31) (h : nI k = -1) : False := Eq.mp (m1_ne hk) h
theorem cmT_b {T : List Nat} {i : Nat} : (cmT T i).2.1 ≤ i + 7 := by
  have n1 := rN_2 T (i + 1)
  have n2 := rN_2 T (i + 1 + (rN T 2 (i + 1) 0).1 + 1)
  have hE : ∀ j a b, (cmE T j a b).2.1 ≤ j + 1 := fun j a b => by
    unfold cmE
    split
    · exact Nat.le_refl _
    · exact Nat.le_succ _
  unfold cmT
  split
  · show i + 1 ≤ i + 7; omega
  · split
    · split
      · split
        · show _ + 1 ≤ i + 7; omega
        · exact Nat.le_trans (hE _ _ _) (by omega)
      · show i + 1 + (rN T 2 (i + 1) 0).1 ≤ i + 7; omega
    · exact Nat.le_trans (hE _ _ _) (by omega)
/-- a text without a fault goes on command by command -/
theorem cF_ok {T : List Nat} {i : Nat} (hl : T.length ≤ 120) (hi : i < T.length) (h : cF T (T.length - i) 0 0 i = -1) : na (ca T i) ≠ 0 ∧ (cmT T i).1 = true ∧ cF T (T.length - (cmT T i).2.1) 0 0 (cmT T i).2.1 = -1 := by
  have hn : na (ca T i) ≠ 0 := fun e => by
    rw [show T.length - i = (T.length - (i + 1)) + 1 by omega, cF_s, if_pos rfl, if_pos e] at h
    exact m1_n (by omega) h
  rw [cF_cmd hi hn] at h
  have hb := cmT_b (T := T) (i := i)
  cases e : (cmT T i).1
  · rw [e, if_neg (by decide)] at h
    exact (m1_n (by omega) h).elim
  · rw [e, if_pos rfl] at h
    exact ⟨hn, rfl, h⟩
theorem rnA_WS {T : List Nat} (hl : T.length ≤ 120) : ∀ (n i : Nat) (w : Ac) (B : Nat), B + n < 2 ^ 31 → i ≤ T.length → cF T (T.length - i) 0 0 i = -1 → WS w B → WS (rnA T n i w).2 (B + n) := by
  intro n
  induction n with
  | zero => intro i w B _ _ _ h; exact h
  | succ n ih =>
    intro i w B hB hi hc h
    rw [rnA_s]
    split
    · exact h.mono (by omega)
    · obtain ⟨c1, c2, c3⟩ := cF_ok hl (by omega) hc
      have := ih (cmT T i).2.1 _ (B + 1) (by omega) (cmT_len c2).1 c3 (WS_dA (a := nI (cmT T i).2.2.1) (b := nI (cmT T i).2.2.2) (by omega) h c1)
      rw [show B + 1 + n = B + (n + 1) by omega] at this
      exact this
theorem CO_E {h h' : AH} {x : Nat} (hF : Fq (PE x) h h') (hO : CO h x) : CO h' x := by
  have er : ∀ b, rv h' b = rv h b := fun b => by unfold rv; rw [hF.2.1]
  have ek : ∀ b, kd h' b = kd h b := fun b => by unfold kd; rw [hF.1]
  have el : ∀ b, ln h' b = ln h b := fun b => by unfold ln; rw [hF.1]
  unfold CO at hO ⊢
  simp only [er, ek, el]
  exact hO
theorem r8_loop {x : Nat} {T : List Nat} (hl : T.length ≤ 120) (z : Nat) : ∀ (n i : Nat) (w : Ac) (B : Nat), B + n < 2 ^ 31 → T.length ≤ i + n → i ≤ T.length → cF T (T.length - i) 0 0 i = -1 → WS w B → ∀ (h : AH) (c fuel : Nat) (L F l : Int32), T.length - i < fuel → CO h x → TX h x T → CL h x w →
    ∃ h', lX8_run_42 fuel x (nI c) L F l (nI i) z h = some (.inl (nI (c + (rnA T n i w).1)), z, h') ∧ Fq (PE x) h h' ∧ CL h' x (rnA T n i w).2 := by
  intro n
  induction n with
  | zero =>
    intro i w B hB h1 h2 hc hQ h c fuel L F l hf hO hX hL
    obtain rfl : i = T.length := by omega
    cases fuel with
    | zero => omega
    | succ fuel => exact ⟨h, s_end hO hX _ _ _ _ z fuel, Fq.rf _ h, hL⟩
  | succ n ih =>
    intro i w B hB h1 h2 hc hQ h c fuel L F l hf hO hX hL
    rw [rnA_s]
    by_cases e : T.length ≤ i
    · rw [if_pos e]
      obtain rfl : i = T.length := by omega
      cases fuel with
      | zero => omega
      | succ fuel => exact ⟨h, s_end hO hX _ _ _ _ z fuel, Fq.rf _ h, hL⟩
    · rw [if_neg e]
      obtain ⟨c1, c2, c3⟩ := cF_ok hl (by omega) hc
      obtain ⟨l1, l2⟩ := cmT_len c2
      obtain ⟨h', L', F', l', v1, v2, v3⟩ := cmd8 hO hX (by omega) hL hQ c1 c2 c L F l z (fuel - ((cmT T i).2.1 - i))
      rw [show fuel - ((cmT T i).2.1 - i) + ((cmT T i).2.1 - i) = fuel by omega] at v1
      obtain ⟨h'', w1, w2, w3⟩ := ih (cmT T i).2.1 _ (B + 1) (by omega) (by omega) l1 c3 (WS_dA (a := nI (cmT T i).2.2.1) (b := nI (cmT T i).2.2.2) (by omega) hQ c1) h' (c + if dK w.1.1 (ca T i) (nI (cmT T i).2.2.1) (nI (cmT T i).2.2.2) = 0 then 1 else 0) (fuel - ((cmT T i).2.1 - i)) L' F' l' (by omega) (CO_E v2 hO) (TX_x (iv_F v2 (by unfold PE; omega)) (iv_F v2 (by unfold PE; omega)) hX) v3
      refine ⟨h'', ?_, v2.tr w2, w3⟩
      rw [v1, w1, Nat.add_assoc]
def kU (T : List Nat) : Nat := if vFa T = -1 then 0 else 1
def aU (A : TS) : Nat × Int32 × TS := oU (kU A.2.2) (nI (rnA A.2.2 A.2.2.length 0 A.1).1) (rnA A.2.2 A.2.2.length 0 A.1).2 A
theorem kU_c (T : List Nat) : (vFa T = -1 ∧ kU T = 0) ∨ (vFa T ≠ -1 ∧ kU T = 1) := by
  unfold kU
  by_cases e : vFa T = -1
  · exact Or.inl ⟨e, if_pos e⟩
  · exact Or.inr ⟨e, if_neg e⟩
theorem TI_Un {A : TS} {B : Nat} (hB : B + 120 < 2 ^ 31) (hl : A.2.2.length ≤ 120) (hT : TI A B) : TI (aU A).2.2 (B + 120) :=
  TI_U hT (by omega) (fun hk => by
    rcases kU_c A.2.2 with ⟨e, _⟩ | ⟨_, e2⟩
    · exact (rnA_WS hl A.2.2.length 0 A.1 B (by omega) (by omega) e hT.1).mono (by omega)
    · omega)
theorem c_run {h : AH} {x z : Nat} {A : TS} {B : Nat} (hB : B + 120 < 2 ^ 31) (hC : CI h x z A) (hT : TI A B) : CC (fX8_run x z h) h x z (aU A) eA eS := by
  obtain ⟨w, H, T⟩ := A
  have hX : TX h x T := hC.2.2.2.2.2.1
  have x1 := e5_fault hC.1 hX hT.2.2 z
  unfold aU
  rcases kU_c T with ⟨e, ek⟩ | ⟨e, ek⟩
  · rw [oU_0 ek]
    refine CC_ok hC hT (fun z1 h1 hk1 hC1 => ?_)
    obtain ⟨h2, v1, v2, v3⟩ := r8_loop hX.2.1 z1 T.length 0 w B (by have := hX.2.1; omega) (by omega) (by omega) e hT.1 h1 0 fu 0 0 0 (by have := hX.2.1; unfold fu; omega) hC1.1 hC1.2.2.2.2.2.1 hC1.2.2.1
    rw [nI_0, Nat.zero_add] at v1
    refine ⟨h2, ?_, v2, v3⟩
    have x1 : fX5_firstFault (x + 41) z h = some (-1, z, h) := by rw [x1, ← e]
    obtain ⟨o1, o2, o3, o4, o5, o6, o7, o8, o9, o10, o11, o12, o13, o14, o15, o16⟩ := id hC.1
    have hB := hC.2.2.1.1.2.1.1
    have u1 := hB.1
    have u2 := hB.2.1
    have u3 := hB.2.2.2.2.2.2.2.2.2.1
    have u4 := hC.2.2.1.1.1.1
    simp (disch := omega) only [fX8_run, bX8_run_16, ↓gd, ↓bl, ↓xr, ↓reduceIte, o1, ↓bb o2, ↓bb o3, ↓bb o4, ↓bb o5, ↓bb o6, ↓bb o7, ↓bb o8, o9, ↓bb o10, o11, o12, o13, ↓bb o14, o15, o16, u1, ↓bb u2, u3, u4, ↓bb3 x1, ↓bb3 (nV1 _ _), ↓bb2 hk1]
    exact v1
  · rw [oU_1 (by show kU T ≠ 0; omega)]
    refine CC_err hC hT ?_
    show _ = some (rr (kU T) _ _ _, _, _)
    rw [ek]
    have e' : (vFa T = -1) = False := eq_false e
    obtain ⟨o1, o2, o3, o4, o5, o6, o7, o8, o9, o10, o11, o12, o13, o14, o15, o16⟩ := id hC.1
    have hB := hC.2.2.1.1.2.1.1
    have u1 := hB.1
    have u2 := hB.2.1
    have u3 := hB.2.2.2.2.2.2.2.2.2.1
    have u4 := hC.2.2.1.1.1.1
    simp (disch := omega) only [fX8_run, bX8_run_16, ↓gd, ↓bl, ↓xr, ↓reduceIte, o1, ↓bb o2, ↓bb o3, ↓bb o4, ↓bb o5, ↓bb o6, ↓bb o7, ↓bb o8, o9, ↓bb o10, o11, o12, o13, ↓bb o14, o15, o16, u1, ↓bb u2, u3, u4, ↓bb3 x1, e', ↓bb3 (nV0 _ _)]
    rfl
