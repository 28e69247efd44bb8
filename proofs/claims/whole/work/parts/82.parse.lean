/-! the text as a script -/
def na (c : Nat) : Nat := if c = 113 ∨ c = 108 then 2 else if c = 116 ∨ c = 102 ∨ c = 97 ∨ c = 98 ∨ c = 112 ∨ c = 100 then 1 else 0
def naI (x : Int32) : Int32 := if x = 97 then 1 else if x = 98 then 1 else if x = 99 then 0 else if x = 100 then 1 else if x = 101 then 0 else if x = 102 then 1 else if x = 103 then 0 else if x = 104 then 0 else if x = 105 then 0 else if x = 106 then 0 else if x = 107 then 0 else if x = 108 then 2 else if x = 109 then 0 else if x = 110 then 0 else if x = 111 then 0 else if x = 112 then 1 else if x = 113 then 2 else if x = 114 then 0 else if x = 115 then 0 else if x = 116 then 1 else 0
theorem e5_naI (x : Int32) (z : Nat) (h : AH) : fX5_numbersAfter x z h = some (naI x, z, h) := by
  unfold fX5_numbersAfter naI
  by_cases e97 : x = 97
  · rw [if_pos e97, if_pos e97]
  rw [if_neg e97, if_neg e97]
  by_cases e98 : x = 98
  · rw [if_pos e98, if_pos e98]
  rw [if_neg e98, if_neg e98]
  by_cases e99 : x = 99
  · rw [if_pos e99, if_pos e99]
  rw [if_neg e99, if_neg e99]
  by_cases e100 : x = 100
  · rw [if_pos e100, if_pos e100]
  rw [if_neg e100, if_neg e100]
  by_cases e101 : x = 101
  · rw [if_pos e101, if_pos e101]
  rw [if_neg e101, if_neg e101]
  by_cases e102 : x = 102
  · rw [if_pos e102, if_pos e102]
  rw [if_neg e102, if_neg e102]
  by_cases e103 : x = 103
  · rw [if_pos e103, if_pos e103]
  rw [if_neg e103, if_neg e103]
  by_cases e104 : x = 104
  · rw [if_pos e104, if_pos e104]
  rw [if_neg e104, if_neg e104]
  by_cases e105 : x = 105
  · rw [if_pos e105, if_pos e105]
  rw [if_neg e105, if_neg e105]
  by_cases e106 : x = 106
  · rw [if_pos e106, if_pos e106]
  rw [if_neg e106, if_neg e106]
  by_cases e107 : x = 107
  · rw [if_pos e107, if_pos e107]
  rw [if_neg e107, if_neg e107]
  by_cases e108 : x = 108
  · rw [if_pos e108, if_pos e108]
  rw [if_neg e108, if_neg e108]
  by_cases e109 : x = 109
  · rw [if_pos e109, if_pos e109]
  rw [if_neg e109, if_neg e109]
  by_cases e110 : x = 110
  · rw [if_pos e110, if_pos e110]
  rw [if_neg e110, if_neg e110]
  by_cases e111 : x = 111
  · rw [if_pos e111, if_pos e111]
  rw [if_neg e111, if_neg e111]
  by_cases e112 : x = 112
  · rw [if_pos e112, if_pos e112]
  rw [if_neg e112, if_neg e112]
  by_cases e113 : x = 113
  · rw [if_pos e113, if_pos e113]
  rw [if_neg e113, if_neg e113]
  by_cases e114 : x = 114
  · rw [if_pos e114, if_pos e114]
  rw [if_neg e114, if_neg e114]
  by_cases e115 : x = 115
  · rw [if_pos e115, if_pos e115]
  rw [if_neg e115, if_neg e115]
  by_cases e116 : x = 116
  · rw [if_pos e116, if_pos e116]
  rw [if_neg e116, if_neg e116]
theorem naI_na : ∀ c, c < 127 → naI (nI c) = nI (na c) := by decide +kernel
theorem na_le (c : Nat) : na c ≤ 2 := by
  unfold na
  split
  · omega
  · split <;> omega
theorem e5_na {c : Nat} (hc : c < 127) (z : Nat) (h : AH) : fX5_numbersAfter (nI c) z h = some (nI (na c), z, h) := by rw [e5_naI, naI_na c hc]
theorem e9_na {c : Nat} (hc : c < 127) (z : Nat) (h : AH) : fX9_arguments (nI c) z h = some (nI (na c), z, h) := e5_na hc z h
def dgc (c : Nat) : Bool := decide (48 ≤ c ∧ c ≤ 57)
theorem inI_dg {c : Nat} (hc : c < 2 ^ 31) : inI (nI c) 48 57 = dgc c := by
  unfold inI dgc
  simp (disch := omega) only [show (48 : Int32) = nI 48 from rfl, show (57 : Int32) = nI 57 from rfl, nI_ltE]
  by_cases h1 : 48 ≤ c <;> by_cases h2 : c ≤ 57 <;> simp [h1, h2]
theorem e8_isDigit {c : Nat} (hc : c < 2 ^ 31) (z : Nat) (h : AH) : fX8_isDigit (nI c) z h = some (if dgc c then 1 else 0, z, h) := by
  have x1 := e8_isWithin (nI c) 48 57 z h
  rw [inI_dg hc] at x1
  unfold fX8_isDigit
  rw [bb3 x1]
  cases dgc c <;> rfl
def ca (T : List Nat) (i : Nat) : Nat := T.getD i 0
theorem ca_lt {T : List Nat} {i : Nat} (h : ca T i ≠ 0) : i < T.length := Decidable.byContradiction (fun e => h (by
  unfold ca
  rw [List.getD_eq_getElem?_getD, List.getElem?_eq_none (by omega)]; rfl))
theorem ca_get {T : List Nat} {i : Nat} (h : i < T.length) : T[i]? = some (ca T i) := by
  unfold ca
  rw [List.getD_eq_getElem?_getD, List.getElem?_eq_getElem h]; rfl
theorem ca_in {T : List Nat} (hT : ∀ c ∈ T, 32 ≤ c ∧ c ≤ 126) {i : Nat} (h : i < T.length) : 32 ≤ ca T i ∧ ca T i ≤ 126 := hT _ (List.mem_of_getElem? (ca_get h))
def dg (T : List Nat) (i : Nat) : Bool := dgc (ca T i)
theorem dg_lt {T : List Nat} {i : Nat} (h : dg T i = true) : i < T.length := ca_lt (fun e => by unfold dg at h; rw [e] at h; cases h)
theorem dg_r {T : List Nat} {i : Nat} (h : dg T i = true) : 48 ≤ ca T i ∧ ca T i ≤ 57 := by unfold dg dgc at h; exact of_decide_eq_true h
/-- the class's automaton -/
def cF (T : List Nat) : Nat → Nat → Nat → Nat → Int32
  | 0, due, _, i => if due = 0 then -1 else nI i
  | n + 1, due, dig, i =>
    if due = 0 then (if na (ca T i) = 0 then nI i else cF T n (na (ca T i)) 0 (i + 1))
    else if dg T i = true then (if dig + 1 ≤ 2 then cF T n due (dig + 1) (i + 1) else nI i)
    else if dig = 0 then nI i
    else if ca T i = (if due ≤ 1 then 59 else 44) then cF T n (due - 1) 0 (i + 1) else nI i
theorem cF_0 (T : List Nat) (due dig i : Nat) : cF T 0 due dig i = if due = 0 then -1 else nI i := rfl
theorem cF_s (T : List Nat) (n due dig i : Nat) : cF T (n + 1) due dig i = if due = 0 then (if na (ca T i) = 0 then nI i else cF T n (na (ca T i)) 0 (i + 1))
    else if dg T i = true then (if dig + 1 ≤ 2 then cF T n due (dig + 1) (i + 1) else nI i)
    else if dig = 0 then nI i
    else if ca T i = (if due ≤ 1 then 59 else 44) then cF T n (due - 1) 0 (i + 1) else nI i := rfl
theorem f5_loop {h : AH} {x : Nat} {T : List Nat} (hO : CO h x) (hX : TX h x T) (hT : ∀ c ∈ T, 32 ≤ c ∧ c ≤ 126) (z : Nat) : ∀ (d k due dig : Nat), k + d = T.length → due ≤ 2 → dig ≤ 2 → ∀ fuel, d < fuel → lX5_firstFault_6 fuel (x + 41) (nI due) (nI dig) (nI k) z h = some (cF T d due dig k, z, h) := by
  intro d
  obtain ⟨t1, t2, t3⟩ := id hX
  obtain ⟨o1, o2, o3, o4, o5, o6, o7, o8, o9, o10, o11, o12, o13, o14, o15, o16⟩ := id hO
  have l120 : (120 : Int32) = nI 120 := rfl
  induction d with
  | zero =>
    intro k due dig hk h1 h2 fuel hf
    obtain rfl : k = T.length := by omega
    cases fuel with
    | zero => omega
    | succ fuel =>
      rw [cF_0]
      show lX5_firstFault_6B _ _ _ _ _ _ _ = _
      simp (disch := omega) only [lX5_firstFault_6B, bX5_firstFault_98, ↓gd, ↓reduceIte, o13, t1, Int32.le_refl, nI_0E]
      by_cases e : due = 0
      · simp [e]
      · simp [e]
  | succ d ih =>
    intro k due dig hk h1 h2 fuel hf
    cases fuel with
    | zero => omega
    | succ fuel =>
      have hkl : k < T.length := by omega
      obtain ⟨c1, c2⟩ := ca_in hT hkl
      have v := t3 k _ (ca_get hkl)
      have x1 := e5_na (c := ca T k) (by omega) z h
      have x2 := e8_isDigit (c := ca T k) (by omega) z h
      rw [show dgc (ca T k) = dg T k from rfl] at x2
      have hna := na_le (ca T k)
      have f59 : (nI (ca T k) = 59) = (ca T k = 59) := nI_eqE (b := 59) (by omega) (by omega)
      have f44 : (nI (ca T k) = 44) = (ca T k = 44) := nI_eqE (b := 44) (by omega) (by omega)
      have f1 : (nI due ≤ 1) = (due ≤ 1) := nI_leE (b := 1) (by omega) (by omega)
      have f2 : (nI (dig + 1) ≤ 2) = (dig + 1 ≤ 2) := nI_leE (b := 2) (by omega) (by omega)
      rw [cF_s]
      show lX5_firstFault_6B _ _ _ _ _ _ _ = _
      by_cases e0 : due = 0
      · subst e0
        rw [if_pos rfl]
        by_cases e1 : na (ca T k) = 0
        · rw [if_pos e1]
          rw [e1] at x1
          simp (disch := omega) only [lX5_firstFault_6B, ↓gd, ↓bl, ↓on, ↓xr, ↓reduceIte, if_true, if_false, kd_wI, ln_wI, rv_wI, iv_wI, jv_wI, kd_wJ, ln_wJ, rv_wJ, iv_wJ, nI_clamp, nI_leE, nI_ltE, nI_eqE, m1_ne, bit_0, bit_1, nI_negE, leN_F, leN_T, ltN_F, ltN_T, eqN_F, or_false, false_or, or_true, true_or, not_false_eq_true, not_true_eq_false, and_true, true_and, and_false, false_and, o13, t1, l120, ↓bb o14, o15, o16, v, nI_0, ↓bb3 x1]
        · rw [if_neg e1]
          have e2 : (nI (na (ca T k)) = 0) = False := by rw [nI_0E (by omega)]; exact eq_false e1
          have := ih (k + 1) (na (ca T k)) 0 (by omega) hna (by omega) fuel (by omega)
          rw [nI_0] at this
          simp (disch := omega) only [lX5_firstFault_6B, bX5_firstFault_92, ↓gd, ↓bl, ↓on, ↓xr, ↓reduceIte, if_true, if_false, kd_wI, ln_wI, rv_wI, iv_wI, jv_wI, kd_wJ, ln_wJ, rv_wJ, iv_wJ, nI_clamp, nI_leE, nI_ltE, nI_eqE, m1_ne, bit_0, bit_1, nI_negE, leN_F, leN_T, ltN_F, ltN_T, eqN_F, or_false, false_or, or_true, true_or, not_false_eq_true, not_true_eq_false, and_true, true_and, and_false, false_and, o13, t1, l120, ↓bb o14, o15, o16, v, nI_0, ↓bb3 x1, e2, nI_1]
          exact this
      · rw [if_neg e0]
        have e0' : (nI due = 0) = False := by rw [nI_0E (by omega)]; exact eq_false e0
        cases ed : dg T k
        · rw [ed] at x2
          rw [if_neg (by decide)]
          by_cases e3 : dig = 0
          · rw [if_pos e3]
            have e3' : (nI dig = 0) = True := by rw [nI_0E (by omega)]; exact eq_true e3
            simp (disch := omega) only [lX5_firstFault_6B, ↓gd, ↓bl, ↓on, ↓xr, ↓reduceIte, if_true, if_false, kd_wI, ln_wI, rv_wI, iv_wI, jv_wI, kd_wJ, ln_wJ, rv_wJ, iv_wJ, nI_clamp, nI_leE, nI_ltE, nI_eqE, m1_ne, bit_0, bit_1, nI_negE, leN_F, leN_T, ltN_F, ltN_T, eqN_F, or_false, false_or, or_true, true_or, not_false_eq_true, not_true_eq_false, and_true, true_and, and_false, false_and, o13, t1, l120, ↓bb o14, o15, o16, v, e0', ↓bb3 x2, Bool.false_eq_true, e3']
          · rw [if_neg e3]
            have e3' : (nI dig = 0) = False := by rw [nI_0E (by omega)]; exact eq_false e3
            obtain ⟨u, rfl⟩ : ∃ u, due = u + 1 := ⟨due - 1, by omega⟩
            have hm : nI (u + 1) + (-1) = nI u := pd_e (u + 1)
            have := ih (k + 1) u 0 (by omega) (by omega) (by omega) fuel (by omega)
            rw [nI_0] at this
            by_cases e4 : u + 1 ≤ 1
            · rw [if_pos e4]
              by_cases e5 : ca T k = 59
              · rw [if_pos e5]
                simp (disch := omega) only [lX5_firstFault_6B, bX5_firstFault_82, bX5_firstFault_92, ↓gd, ↓bl, ↓on, ↓xr, ↓reduceIte, if_true, if_false, kd_wI, ln_wI, rv_wI, iv_wI, jv_wI, kd_wJ, ln_wJ, rv_wJ, iv_wJ, nI_clamp, nI_leE, nI_ltE, nI_eqE, m1_ne, bit_0, bit_1, nI_negE, leN_F, leN_T, ltN_F, ltN_T, eqN_F, or_false, false_or, or_true, true_or, not_false_eq_true, not_true_eq_false, and_true, true_and, and_false, false_and, o13, t1, l120, ↓bb o14, o15, o16, v, e0', ↓bb3 x2, Bool.false_eq_true, e3', f1, e4, f59, e5, hm, nI_1]
                exact this
              · rw [if_neg e5]
                simp (disch := omega) only [lX5_firstFault_6B, bX5_firstFault_82, ↓gd, ↓bl, ↓on, ↓xr, ↓reduceIte, if_true, if_false, kd_wI, ln_wI, rv_wI, iv_wI, jv_wI, kd_wJ, ln_wJ, rv_wJ, iv_wJ, nI_clamp, nI_leE, nI_ltE, nI_eqE, m1_ne, bit_0, bit_1, nI_negE, leN_F, leN_T, ltN_F, ltN_T, eqN_F, or_false, false_or, or_true, true_or, not_false_eq_true, not_true_eq_false, and_true, true_and, and_false, false_and, o13, t1, l120, ↓bb o14, o15, o16, v, e0', ↓bb3 x2, Bool.false_eq_true, e3', f1, e4, f59, e5]
            · rw [if_neg e4]
              by_cases e5 : ca T k = 44
              · rw [if_pos e5]
                simp (disch := omega) only [lX5_firstFault_6B, bX5_firstFault_82, bX5_firstFault_92, ↓gd, ↓bl, ↓on, ↓xr, ↓reduceIte, if_true, if_false, kd_wI, ln_wI, rv_wI, iv_wI, jv_wI, kd_wJ, ln_wJ, rv_wJ, iv_wJ, nI_clamp, nI_leE, nI_ltE, nI_eqE, m1_ne, bit_0, bit_1, nI_negE, leN_F, leN_T, ltN_F, ltN_T, eqN_F, or_false, false_or, or_true, true_or, not_false_eq_true, not_true_eq_false, and_true, true_and, and_false, false_and, o13, t1, l120, ↓bb o14, o15, o16, v, e0', ↓bb3 x2, Bool.false_eq_true, e3', f1, e4, f44, e5, hm, nI_1]
                exact this
              · rw [if_neg e5]
                simp (disch := omega) only [lX5_firstFault_6B, bX5_firstFault_82, ↓gd, ↓bl, ↓on, ↓xr, ↓reduceIte, if_true, if_false, kd_wI, ln_wI, rv_wI, iv_wI, jv_wI, kd_wJ, ln_wJ, rv_wJ, iv_wJ, nI_clamp, nI_leE, nI_ltE, nI_eqE, m1_ne, bit_0, bit_1, nI_negE, leN_F, leN_T, ltN_F, ltN_T, eqN_F, or_false, false_or, or_true, true_or, not_false_eq_true, not_true_eq_false, and_true, true_and, and_false, false_and, o13, t1, l120, ↓bb o14, o15, o16, v, e0', ↓bb3 x2, Bool.false_eq_true, e3', f1, e4, f44, e5]
        · rw [ed] at x2
          rw [if_pos rfl]
          by_cases e3 : dig + 1 ≤ 2
          · rw [if_pos e3]
            have := ih (k + 1) due (dig + 1) (by omega) (by omega) (by omega) fuel (by omega)
            simp (disch := omega) only [lX5_firstFault_6B, bX5_firstFault_92, ↓gd, ↓bl, ↓on, ↓xr, ↓reduceIte, if_true, if_false, kd_wI, ln_wI, rv_wI, iv_wI, jv_wI, kd_wJ, ln_wJ, rv_wJ, iv_wJ, nI_clamp, nI_leE, nI_ltE, nI_eqE, m1_ne, bit_0, bit_1, nI_negE, leN_F, leN_T, ltN_F, ltN_T, eqN_F, or_false, false_or, or_true, true_or, not_false_eq_true, not_true_eq_false, and_true, true_and, and_false, false_and, o13, t1, l120, ↓bb o14, o15, o16, v, e0', ↓bb3 x2, ne10, nI_1, f2, e3]
            exact this
          · rw [if_neg e3]
            simp (disch := omega) only [lX5_firstFault_6B, ↓gd, ↓bl, ↓on, ↓xr, ↓reduceIte, if_true, if_false, kd_wI, ln_wI, rv_wI, iv_wI, jv_wI, kd_wJ, ln_wJ, rv_wJ, iv_wJ, nI_clamp, nI_leE, nI_ltE, nI_eqE, m1_ne, bit_0, bit_1, nI_negE, leN_F, leN_T, ltN_F, ltN_T, eqN_F, or_false, false_or, or_true, true_or, not_false_eq_true, not_true_eq_false, and_true, true_and, and_false, false_and, o13, t1, l120, ↓bb o14, o15, o16, v, e0', ↓bb3 x2, ne10, nI_1, f2, e3]
def vFa (T : List Nat) : Int32 := cF T T.length 0 0 0
theorem e5_fault {h : AH} {x : Nat} {T : List Nat} (hO : CO h x) (hX : TX h x T) (hT : ∀ c ∈ T, 32 ≤ c ∧ c ≤ 126) (z : Nat) : fX5_firstFault (x + 41) z h = some (vFa T, z, h) := by
  have := f5_loop hO hX hT z T.length 0 0 0 (by omega) (by omega) (by omega) fu (by have := hX.2.1; unfold fu; omega)
  rw [nI_0] at this
  exact this
theorem c_fault {h : AH} {x z : Nat} {A : TS} {B : Nat} (hC : CI h x z A) (hT : TI A B) : CP (fX8_fault x z h) h x z (vFa A.2.2, A) := by
  refine CP_ask hC ?_
  have x1 := e5_fault hC.1 hC.2.2.2.2.2.1 hT.2.2 z
  obtain ⟨o1, o2, o3, o4, o5, o6, o7, o8, o9, o10, o11, o12, o13, o14, o15, o16⟩ := id hC.1
  have hB := hC.2.2.1.1.2.1.1
  have u1 := hB.1
  have u2 := hB.2.1
  have u3 := hB.2.2.2.2.2.2.2.2.2.1
  have u4 := hC.2.2.1.1.1.1
  simp (disch := omega) only [fX8_fault, ↓gd, ↓bl, ↓xr, ↓reduceIte, o1, ↓bb o2, ↓bb o3, ↓bb o4, ↓bb o5, ↓bb o6, ↓bb o7, ↓bb o8, o9, ↓bb o10, o11, o12, o13, ↓bb o14, o15, o16, u1, ↓bb u2, u3, u4, ↓bb3 x1]
/-! the reference reads -/
def Fp (m : Nat) (h h' : AH) : Prop := Fq (fun b => b = m) h h' ∧ ∀ j, j ≠ 16 → j ≠ 17 → j ≠ 18 → iv h' m j = iv h m j
theorem Fp.rf (m : Nat) (h : AH) : Fp m h h := ⟨Fq.rf _ h, fun _ _ _ _ => rfl⟩
theorem Fp.tr {m : Nat} {h1 h2 h3 : AH} (x : Fp m h1 h2) (y : Fp m h2 h3) : Fp m h1 h3 := ⟨x.1.tr y.1, fun j a b c => (y.2 j a b c).trans (x.2 j a b c)⟩
theorem Fp.w (m : Nat) (h : AH) {k : Nat} (hk : k = 16 ∨ k = 17 ∨ k = 18) (x : Int32) : Fp m h (wI h m k x) := ⟨Fq.w h _ _ rfl, fun j a b c => by rw [iv_wI, if_pos rfl, if_neg (by omega)]⟩
def RT (h : AH) (m : Nat) (T : List Nat) : Prop := iv h m 5 = nI T.length ∧ T.length ≤ 120 ∧ ∀ i c, T[i]? = some c → iv h (m + 4) i = nI c
theorem Fp.M {m : Nat} {h h' : AH} (hF : Fp m h h') (hM : MO h m) : MO h' m := MO_c hF.1.1 hF.1.2.1 hM
theorem Fp.T {m : Nat} {h h' : AH} {T : List Nat} (hF : Fp m h h') (hX : RT h m T) : RT h' m T :=
  ⟨by rw [hF.2 5 (by omega) (by omega) (by omega)]; exact hX.1, hX.2.1, fun i c hc => by rw [iv_F hF.1 (by omega)]; exact hX.2.2 i c hc⟩
theorem RI.tx {h : AH} {m : Nat} {A : TS} (hR : RI h m A) : RT h m A.2.2 := hR.2.2.2.2.2.2.2
theorem Fp.I {m : Nat} {h h' : AH} {A : TS} (hF : Fp m h h') (hR : RI h m A) : RI h' m A := by
  obtain ⟨r1, r2, r3, r4, r5, r6, r7, r8, r9, r10⟩ := hR
  refine ⟨hF.M r1, ?_, ?_, ?_, ?_, r6, ?_, ?_, r9, ?_⟩
  · rw [iv_F hF.1 (by omega)]; exact r2
  · rw [iv_F hF.1 (by omega)]; exact r3
  · unfold LM at r4 ⊢; rw [hF.2 7 (by omega) (by omega) (by omega), hF.2 8 (by omega) (by omega) (by omega), hF.2 9 (by omega) (by omega) (by omega)]; exact r4
  · rw [hF.2 2 (by omega) (by omega) (by omega)]; exact r5
  · rw [iv_F hF.1 (by omega)]; exact r7
  · rw [hF.2 5 (by omega) (by omega) (by omega)]; exact r8
  · rw [iv_F hF.1 (by omega)]; exact r10
def hrI (T : List Nat) (i : Nat) : Int32 := if i < T.length then nI (ca T i) else -1
theorem e9_here {h : AH} {m : Nat} {T : List Nat} (hM : MO h m) (hX : RT h m T) {i : Nat} (hi : i < 1000) (z : Nat) : fX9_here m (nI i) z h = some (hrI T i, z, h) := by
  obtain ⟨t1, t2, t3⟩ := id hX
  unfold hrI
  obtain ⟨hk, r0, r1, r3, r4, r10, r11, r13, r14, r15, k1, k2, k3, k4, k5, k6, k7, k8, k9, l1, l2, l3, l4, l5, l6, l7, l8, l9⟩ := id hM
  by_cases e : i < T.length
  · have v := t3 i _ (ca_get e)
    rw [if_pos e]
    simp (disch := omega) only [fX9_here, ↓gd, ↓bl, ↓on, ↓xr, ↓reduceIte, if_true, if_false, kd_wI, ln_wI, rv_wI, iv_wI, jv_wI, kd_wJ, ln_wJ, rv_wJ, iv_wJ, nI_clamp, nI_leE, nI_ltE, nI_eqE, m1_ne, bit_0, bit_1, nI_negE, leN_F, leN_T, ltN_F, ltN_T, eqN_F, or_false, false_or, or_true, true_or, not_false_eq_true, not_true_eq_false, and_true, true_and, and_false, false_and, ↓bb r0, ↓bb r1, ↓bb r3, ↓bb r4, ↓bb r10, ↓bb r11, ↓bb r13, ↓bb r14, ↓bb r15, hk, k1, k2, k3, k4, k5, k6, k7, k8, k9, l1, l2, l3, l4, l5, l6, l7, l8, l9, t1, v]
  · rw [if_neg e]
    simp (disch := omega) only [fX9_here, ↓gd, ↓bl, ↓on, ↓xr, ↓reduceIte, if_true, if_false, kd_wI, ln_wI, rv_wI, iv_wI, jv_wI, kd_wJ, ln_wJ, rv_wJ, iv_wJ, nI_clamp, nI_leE, nI_ltE, nI_eqE, m1_ne, bit_0, bit_1, nI_negE, leN_F, leN_T, ltN_F, ltN_T, eqN_F, or_false, false_or, or_true, true_or, not_false_eq_true, not_true_eq_false, and_true, true_and, and_false, false_and, ↓bb r0, ↓bb r1, ↓bb r3, ↓bb r4, ↓bb r10, ↓bb r11, ↓bb r13, ↓bb r14, ↓bb r15, hk, k1, k2, k3, k4, k5, k6, k7, k8, k9, l1, l2, l3, l4, l5, l6, l7, l8, l9, t1]
theorem hr_dg {T : List Nat} (hT : ∀ c ∈ T, 32 ≤ c ∧ c ≤ 126) (i : Nat) : inI (hrI T i) 48 57 = dg T i := by
  unfold hrI
  by_cases e : i < T.length
  · rw [if_pos e, inI_dg (by have := ca_in hT e; omega)]; rfl
  · rw [if_neg e]
    have : dg T i = false := by
      cases ed : dg T i
      · rfl
      · exact absurd (dg_lt ed) e
    rw [this]; decide
theorem hr_eq {T : List Nat} (hT : ∀ c ∈ T, 32 ≤ c ∧ c ≤ 126) (i : Nat) {s : Nat} (h0 : s ≠ 0) (hs : s < 127) : (hrI T i = nI s) = (ca T i = s) := by
  unfold hrI
  by_cases e : i < T.length
  · rw [if_pos e, nI_eqE (by have := ca_in hT e; omega) (by omega)]
  · rw [if_neg e]
    have e1 : ((-1 : Int32) = nI s) = False := eq_false (fun h9 => Eq.mp (m1_ne (a := s) (by omega)) h9.symm)
    rw [e1]
    exact (eq_false (fun h9 => e (ca_lt (by omega)))).symm
/-- a number's length and value -/
def rN (T : List Nat) : Nat → Nat → Nat → Nat × Nat
  | 0, _, v => (0, v)
  | d + 1, i, v => if dg T i = true then ((rN T d (i + 1) (10 * v + (ca T i - 48))).1 + 1, (rN T d (i + 1) (10 * v + (ca T i - 48))).2) else (0, v)
theorem rN_s (T : List Nat) (d i v : Nat) : rN T (d + 1) i v = if dg T i = true then ((rN T d (i + 1) (10 * v + (ca T i - 48))).1 + 1, (rN T d (i + 1) (10 * v + (ca T i - 48))).2) else (0, v) := rfl
theorem dg10 (v c : Nat) (hc : 48 ≤ c) : (10 : Int32) * nI v + nI c - 48 = nI (10 * v + (c - 48)) := by
  rw [show (10 : Int32) = nI 10 from rfl, show (48 : Int32) = nI 48 from rfl, pk_mul, nI_add, pk_sub (by omega)]
  congr 1
  omega
theorem rn_loop {m : Nat} {T : List Nat} (hT : ∀ c ∈ T, 32 ≤ c ∧ c ≤ 126) {i : Nat} (hi : i < 500) (z : Nat) : ∀ (d k v : Nat), k + d = 2 → ∀ (h : AH) (fuel : Nat), d < fuel → MO h m → RT h m T → iv h m 16 = nI (i + k) → iv h m 17 = nI v →
    ∃ h', lX9_readsNumber_10 fuel m (nI i) z h = some (if k + (rN T d (i + k) v).1 = 0 then 0 else 1, z, h') ∧ Fp m h h' ∧ iv h' m 16 = nI (i + k + (rN T d (i + k) v).1) ∧ iv h' m 17 = nI (rN T d (i + k) v).2 ∧ iv h' m 18 = iv h m 18 := by
  intro d
  induction d with
  | zero =>
    intro k v hk h fuel hf hM hX h16 h17
    obtain rfl : k = 2 := by omega
    cases fuel with
    | zero => omega
    | succ fuel =>
      refine ⟨h, ?_, Fp.rf m h, h16, h17, rfl⟩
      have hk0 := hM.1
      have e2 : nI i + 2 = nI (i + 2) := by rw [li2, nI_add]
      rw [if_neg (by omega)]
      show lX9_readsNumber_10B _ _ _ _ _ = _
      simp (disch := omega) only [lX9_readsNumber_10B, bX9_readsNumber_74, ↓gd, ↓bl, ↓on, ↓xr, ↓reduceIte, if_true, if_false, kd_wI, ln_wI, rv_wI, iv_wI, jv_wI, kd_wJ, ln_wJ, rv_wJ, iv_wJ, nI_clamp, nI_leE, nI_ltE, nI_eqE, m1_ne, bit_0, bit_1, nI_negE, leN_F, leN_T, ltN_F, ltN_T, eqN_F, or_false, false_or, or_true, true_or, not_false_eq_true, not_true_eq_false, and_true, true_and, and_false, false_and, hk0, h16, e2, Int32.le_refl]
  | succ d ih =>
    intro k v hk h fuel hf hM hX h16 h17
    cases fuel with
    | zero => omega
    | succ fuel =>
      have hk0 := hM.1
      have e2 : nI i + 2 = nI (i + 2) := by rw [li2, nI_add]
      have x1 := e9_here hM hX (i := i + k) (by omega) z
      have x2 := e9_in (hrI T (i + k)) 48 57 z h
      rw [hr_dg hT] at x2
      rw [rN_s]
      cases ed : dg T (i + k)
      · rw [ed] at x2
        refine ⟨h, ?_, Fp.rf m h, h16, h17, rfl⟩
        show lX9_readsNumber_10B _ _ _ _ _ = _
        simp (disch := omega) only [lX9_readsNumber_10B, bX9_readsNumber_74, ↓gd, ↓bl, ↓on, ↓xr, ↓reduceIte, if_true, if_false, kd_wI, ln_wI, rv_wI, iv_wI, jv_wI, kd_wJ, ln_wJ, rv_wJ, iv_wJ, nI_clamp, nI_leE, nI_ltE, nI_eqE, m1_ne, bit_0, bit_1, nI_negE, leN_F, leN_T, ltN_F, ltN_T, eqN_F, or_false, false_or, or_true, true_or, not_false_eq_true, not_true_eq_false, and_true, true_and, and_false, false_and, hk0, h16, e2, ↓bb3 x1, ↓bb3 x2, Bool.false_eq_true]
        by_cases ek : k = 0
        · subst ek
          simp
        · simp [show ¬ i + k ≤ i by omega, ek]
      · rw [ed] at x2
        have hl := dg_lt ed
        obtain ⟨r1, r2⟩ := dg_r ed
        have eh : hrI T (i + k) = nI (ca T (i + k)) := by unfold hrI; rw [if_pos hl]
        have ew := dg10 v (ca T (i + k)) r1
        have g16 : iv (wI h m 17 (nI (10 * v + (ca T (i + k) - 48)))) m 16 = nI (i + k) := by rw [iv_wI, if_pos rfl, if_neg (by omega)]; exact h16
        have hF : Fp m h (wI (wI h m 17 (nI (10 * v + (ca T (i + k) - 48)))) m 16 (nI (i + k + 1))) := (Fp.w m h (by omega) _).tr (Fp.w m _ (by omega) _)
        obtain ⟨h', v1, v2, v3, v4, v5⟩ := ih (k + 1) (10 * v + (ca T (i + k) - 48)) (by omega) _ fuel (by omega) (hF.M hM) (hF.T hX) (by rw [iv_wI, if_pos rfl, if_pos rfl]; rfl) (by rw [iv_wI, if_pos rfl, if_neg (by omega), iv_wI, if_pos rfl, if_pos rfl])
        rw [show i + (k + 1) = i + k + 1 by omega] at v1 v3 v4
        refine ⟨h', ?_, hF.tr v2, ?_, v4, ?_⟩
        · rw [if_pos rfl, if_neg (by omega)]
          rw [if_neg (by omega)] at v1
          rw [eh] at x1 x2
          show lX9_readsNumber_10B _ _ _ _ _ = _
          simp (disch := omega) only [lX9_readsNumber_10B, ↓gd, ↓bl, ↓on, ↓xr, ↓reduceIte, if_true, if_false, kd_wI, ln_wI, rv_wI, iv_wI, jv_wI, kd_wJ, ln_wJ, rv_wJ, iv_wJ, nI_clamp, nI_leE, nI_ltE, nI_eqE, m1_ne, bit_0, bit_1, nI_negE, leN_F, leN_T, ltN_F, ltN_T, eqN_F, or_false, false_or, or_true, true_or, not_false_eq_true, not_true_eq_false, and_true, true_and, and_false, false_and, hk0, h16, h17, e2, ↓bb3 x1, ↓bb3 x2, ne10, ew, g16, nI_1]
          exact v1
        · rw [v3]
          simp only [if_true]
          congr 1
          omega
        · rw [v5, iv_wI, if_pos rfl, if_neg (by omega), iv_wI, if_pos rfl, if_neg (by omega)]
theorem e9_rdN {h : AH} {m : Nat} {T : List Nat} (hT : ∀ c ∈ T, 32 ≤ c ∧ c ≤ 126) (hM : MO h m) (hX : RT h m T) {i : Nat} (hi : i < 500) (h16 : iv h m 16 = nI i) (z : Nat) :
    ∃ h', fX9_readsNumber m z h = some (if (rN T 2 i 0).1 = 0 then 0 else 1, z, h') ∧ Fp m h h' ∧ iv h' m 16 = nI (i + (rN T 2 i 0).1) ∧ iv h' m 17 = nI (rN T 2 i 0).2 ∧ iv h' m 18 = iv h m 18 := by
  have hF : Fp m h (wI h m 17 0) := Fp.w m h (by omega) _
  have g16 : iv (wI h m 17 0) m 16 = nI i := by rw [iv_wI, if_pos rfl, if_neg (by omega)]; exact h16
  obtain ⟨h', v1, v2, v3, v4, v5⟩ := rn_loop hT hi z 2 0 0 (by omega) (wI h m 17 0) fu (by unfold fu; omega) (hF.M hM) (hF.T hX) g16 (by rw [iv_wI, if_pos rfl, if_pos rfl]; rfl)
  rw [Nat.add_zero] at v1 v3 v4
  rw [Nat.zero_add] at v1
  refine ⟨h', ?_, hF.tr v2, v3, v4, by rw [v5, iv_wI, if_pos rfl, if_neg (by omega)]⟩
  have hk0 := hM.1
  simp (disch := omega) only [fX9_readsNumber, ↓gd, ↓bl, ↓reduceIte, hk0, g16]
  exact v1
/-- a command behind its letter at i: whether it is whole, where it ends, its numbers -/
def cmE (T : List Nat) (i a b : Nat) : Bool × Nat × Nat × Nat := if ca T i = 59 then (true, i + 1, a, b) else (false, i, a, b)
def cmT (T : List Nat) (i : Nat) : Bool × Nat × Nat × Nat :=
  if (rN T 2 (i + 1) 0).1 = 0 then (false, i + 1, 0, 0)
  else if na (ca T i) = 2 then
    (if ca T (i + 1 + (rN T 2 (i + 1) 0).1) = 44 then
      (if (rN T 2 (i + 1 + (rN T 2 (i + 1) 0).1 + 1) 0).1 = 0 then (false, i + 1 + (rN T 2 (i + 1) 0).1 + 1, 0, 0)
       else cmE T (i + 1 + (rN T 2 (i + 1) 0).1 + 1 + (rN T 2 (i + 1 + (rN T 2 (i + 1) 0).1 + 1) 0).1) (rN T 2 (i + 1) 0).2 (rN T 2 (i + 1 + (rN T 2 (i + 1) 0).1 + 1) 0).2)
     else (false, i + 1 + (rN T 2 (i + 1) 0).1, 0, 0))
  else cmE T (i + 1 + (rN T 2 (i + 1) 0).1) (rN T 2 (i + 1) 0).2 0
theorem rN_c (T : List Nat) (i : Nat) : (dg T i = false ∧ rN T 2 i 0 = (0, 0)) ∨ (dg T i = true ∧ dg T (i + 1) = false ∧ rN T 2 i 0 = (1, ca T i - 48)) ∨ (dg T i = true ∧ dg T (i + 1) = true ∧ rN T 2 i 0 = (2, 10 * (ca T i - 48) + (ca T (i + 1) - 48))) := by
  cases e1 : dg T i
  · refine Or.inl ⟨rfl, ?_⟩
    rw [rN_s, e1]; rfl
  · cases e2 : dg T (i + 1)
    · refine Or.inr (Or.inl ⟨rfl, rfl, ?_⟩)
      rw [rN_s, e1, if_pos rfl, rN_s, e2, if_neg (by decide)]
      simp
    · refine Or.inr (Or.inr ⟨rfl, rfl, ?_⟩)
      rw [rN_s, e1, if_pos rfl, rN_s, e2, if_pos rfl]
      simp [rN]
theorem rN_2 (T : List Nat) (i : Nat) : (rN T 2 i 0).1 ≤ 2 := by
  rcases rN_c T i with ⟨_, e⟩ | ⟨_, _, e⟩ | ⟨_, _, e⟩ <;> rw [e] <;> simp
theorem e9_79 {h : AH} {m : Nat} {T : List Nat} (hT : ∀ c ∈ T, 32 ≤ c ∧ c ≤ 126) (hM : MO h m) (hX : RT h m T) {i : Nat} (hi : i < 500) (a b : Nat) (h16 : iv h m 16 = nI i) (z : Nat) :
    ∃ h', bX9_readsCommand_79 m z h = some (if (cmE T i a b).1 then 1 else 0, z, h') ∧ Fp m h h' ∧ iv h' m 16 = nI (cmE T i a b).2.1 ∧ iv h' m 17 = iv h m 17 ∧ iv h' m 18 = iv h m 18 := by
  have hk0 := hM.1
  have x1 := e9_here hM hX (i := i) (by omega) z
  have e := hr_eq hT i (s := 59) (by omega) (by omega)
  have e : (hrI T i = 59) = (ca T i = 59) := e
  unfold cmE
  by_cases e1 : ca T i = 59
  · rw [if_pos e1]
    refine ⟨wI h m 16 (nI (i + 1)), ?_, Fp.w m h (by omega) _, by rw [iv_wI, if_pos rfl, if_pos rfl], by rw [iv_wI, if_pos rfl, if_neg (by omega)], by rw [iv_wI, if_pos rfl, if_neg (by omega)]⟩
    simp (disch := omega) only [bX9_readsCommand_79, ↓gd, ↓bl, ↓reduceIte, hk0, h16, ↓bb3 x1, e, e1, nI_1]
  · rw [if_neg e1]
    refine ⟨h, ?_, Fp.rf m h, h16, rfl, rfl⟩
    simp (disch := omega) only [bX9_readsCommand_79, ↓gd, ↓bl, ↓reduceIte, hk0, h16, ↓bb3 x1, e, e1, Bool.false_eq_true]
theorem e9_cmd {h : AH} {m : Nat} {T : List Nat} (hT : ∀ c ∈ T, 32 ≤ c ∧ c ≤ 126) (hM : MO h m) (hX : RT h m T) {i : Nat} (hi : i < T.length) (h16 : iv h m 16 = nI i) (z : Nat) :
    ∃ h', fX9_readsCommand m (nI (ca T i)) z h = some (if (cmT T i).1 then 1 else 0, z, h') ∧ Fp m h h' ∧ iv h' m 16 = nI (cmT T i).2.1 ∧ ((cmT T i).1 = true → iv h' m 17 = nI (cmT T i).2.2.1 ∧ (na (ca T i) = 2 → iv h' m 18 = nI (cmT T i).2.2.2)) := by
  have hl := hX.2.1
  have hF : Fp m h (wI h m 16 (nI (i + 1))) := Fp.w m h (by omega) _
  obtain ⟨h1, v1, v2, v3, v4, v5⟩ := e9_rdN hT (hF.M hM) (hF.T hX) (i := i + 1) (by omega) (by rw [iv_wI, if_pos rfl, if_pos rfl]) z
  have n1 := rN_2 T (i + 1)
  have hk0 := hM.1
  have hM1 := v2.M (hF.M hM)
  have hX1 := v2.T (hF.T hX)
  have hk1 := hM1.1
  unfold cmT
  by_cases e1 : (rN T 2 (i + 1) 0).1 = 0
  · rw [if_pos e1]
    rw [if_pos e1] at v1
    rw [e1] at v3
    refine ⟨h1, ?_, hF.tr v2, v3, fun h9 => by cases h9⟩
    simp (disch := omega) only [fX9_readsCommand, ↓gd, ↓bl, ↓reduceIte, hk0, h16, nI_1, ↓bb3 v1, Bool.false_eq_true]
  · rw [if_neg e1]
    rw [if_neg e1] at v1
    obtain ⟨c1, c2⟩ := ca_in hT hi
    have x2 := e9_na (c := ca T i) (by omega) z h1
    have nl := na_le (ca T i)
    have f2 : (nI (na (ca T i)) = 2) = (na (ca T i) = 2) := nI_eqE (b := 2) (by omega) (by omega)
    by_cases e2 : na (ca T i) = 2
    · rw [if_pos e2]
      have f3 : (nI (na (ca T i)) = 2) = True := by rw [f2]; exact eq_true e2
      have x3 := e9_here hM1 hX1 (i := i + 1 + (rN T 2 (i + 1) 0).1) (by omega) z
      have e := hr_eq hT (i + 1 + (rN T 2 (i + 1) 0).1) (s := 44) (by omega) (by omega)
      have e : (hrI T (i + 1 + (rN T 2 (i + 1) 0).1) = 44) = (ca T (i + 1 + (rN T 2 (i + 1) 0).1) = 44) := e
      by_cases e3 : ca T (i + 1 + (rN T 2 (i + 1) 0).1) = 44
      · rw [if_pos e3]
        have hF2 : Fp m h1 (wI h1 m 16 (nI (i + 1 + (rN T 2 (i + 1) 0).1 + 1))) := Fp.w m h1 (by omega) _
        obtain ⟨h2, w1, w2, w3, w4, w5⟩ := e9_rdN hT (hF2.M hM1) (hF2.T hX1) (i := i + 1 + (rN T 2 (i + 1) 0).1 + 1) (by omega) (by rw [iv_wI, if_pos rfl, if_pos rfl]) z
        have n2 := rN_2 T (i + 1 + (rN T 2 (i + 1) 0).1 + 1)
        have hM2 := w2.M (hF2.M hM1)
        have hX2 := w2.T (hF2.T hX1)
        have hk2 := hM2.1
        by_cases e4 : (rN T 2 (i + 1 + (rN T 2 (i + 1) 0).1 + 1) 0).1 = 0
        · rw [if_pos e4]
          rw [if_pos e4] at w1
          rw [e4] at w3
          refine ⟨h2, ?_, (hF.tr v2).tr (hF2.tr w2), w3, fun h9 => by cases h9⟩
          simp (disch := omega) only [fX9_readsCommand, ↓gd, ↓bl, ↓reduceIte, hk0, h16, nI_1, ↓bb3 v1, ne10, hk1, ↓bb3 x2, f3, v3, ↓bb3 x3, e, e3, ↓bb3 w1, Bool.false_eq_true]
        · rw [if_neg e4]
          rw [if_neg e4] at w1
          have hF3 : Fp m h2 (wI (wI h2 m 18 (iv h2 m 17)) m 17 (iv h1 m 17)) := (Fp.w m h2 (by omega) _).tr (Fp.w m _ (by omega) _)
          obtain ⟨h3, y1, y2, y3, y4, y5⟩ := e9_79 hT (hF3.M hM2) (hF3.T hX2) (i := i + 1 + (rN T 2 (i + 1) 0).1 + 1 + (rN T 2 (i + 1 + (rN T 2 (i + 1) 0).1 + 1) 0).1) (by omega) (rN T 2 (i + 1) 0).2 (rN T 2 (i + 1 + (rN T 2 (i + 1) 0).1 + 1) 0).2 (by rw [iv_wI, if_pos rfl, if_neg (by omega), iv_wI, if_pos rfl, if_neg (by omega)]; exact w3) z
          refine ⟨h3, ?_, ((hF.tr v2).tr (hF2.tr w2)).tr (hF3.tr y2), y3, fun h9 => ?_⟩
          · simp (disch := omega) only [fX9_readsCommand, ↓gd, ↓bl, ↓reduceIte, hk0, h16, nI_1, ↓bb3 v1, ne10, hk1, ↓bb3 x2, f3, v3, ↓bb3 x3, e, e3, ↓bb3 w1, hk2]
            exact y1
          · have q1 : (cmE T (i + 1 + (rN T 2 (i + 1) 0).1 + 1 + (rN T 2 (i + 1 + (rN T 2 (i + 1) 0).1 + 1) 0).1) (rN T 2 (i + 1) 0).2 (rN T 2 (i + 1 + (rN T 2 (i + 1) 0).1 + 1) 0).2).2.2 = ((rN T 2 (i + 1) 0).2, (rN T 2 (i + 1 + (rN T 2 (i + 1) 0).1 + 1) 0).2) := by unfold cmE; split <;> rfl
            rw [q1]
            refine ⟨?_, fun _ => ?_⟩
            · rw [y4, iv_wI, if_pos rfl, if_pos rfl]; exact v4
            · rw [y5, iv_wI, if_pos rfl, if_neg (by omega), iv_wI, if_pos rfl, if_pos rfl]; exact w4
      · rw [if_neg e3]
        refine ⟨h1, ?_, hF.tr v2, v3, fun h9 => by cases h9⟩
        simp (disch := omega) only [fX9_readsCommand, ↓gd, ↓bl, ↓reduceIte, hk0, h16, nI_1, ↓bb3 v1, ne10, hk1, ↓bb3 x2, f3, v3, ↓bb3 x3, e, e3, Bool.false_eq_true]
    · rw [if_neg e2]
      obtain ⟨h3, y1, y2, y3, y4, y5⟩ := e9_79 hT hM1 hX1 (i := i + 1 + (rN T 2 (i + 1) 0).1) (by omega) (rN T 2 (i + 1) 0).2 0 v3 z
      refine ⟨h3, ?_, (hF.tr v2).tr y2, y3, fun h9 => ?_⟩
      · simp (disch := omega) only [fX9_readsCommand, ↓gd, ↓bl, ↓reduceIte, hk0, h16, nI_1, ↓bb3 v1, ne10, hk1, ↓bb3 x2, f2, e2]
        exact y1
      · have q1 : (cmE T (i + 1 + (rN T 2 (i + 1) 0).1) (rN T 2 (i + 1) 0).2 0).2.2.1 = (rN T 2 (i + 1) 0).2 := by unfold cmE; split <;> rfl
        rw [q1]
        exact ⟨by rw [y4]; exact v4, fun h8 => absurd h8 e2⟩
/-! both say the same of the text -/
theorem cF_num {T : List Nat} {due i : Nat} (hd : due ≠ 0) (hi : i ≤ T.length) : cF T (T.length - i) due 0 i = if (rN T 2 i 0).1 = 0 then nI i else cF T (T.length - (i + (rN T 2 i 0).1)) due (rN T 2 i 0).1 (i + (rN T 2 i 0).1) := by
  rcases rN_c T i with ⟨e1, e⟩ | ⟨e1, e2, e⟩ | ⟨e1, e2, e⟩
  · rw [e, if_pos rfl]
    by_cases el : i = T.length
    · rw [el, Nat.sub_self, cF_0, if_neg hd]
    · rw [show T.length - i = (T.length - (i + 1)) + 1 by omega, cF_s, if_neg hd, e1, if_neg (by decide), if_pos rfl]
  · rw [e, if_neg (by simp)]
    have hl := dg_lt e1
    rw [show T.length - i = (T.length - (i + 1)) + 1 by omega, cF_s, if_neg hd, e1, if_pos rfl, if_pos (by omega)]
  · rw [e, if_neg (by simp)]
    have hl := dg_lt e1
    have hl2 := dg_lt e2
    rw [show T.length - i = (T.length - (i + 1)) + 1 by omega, cF_s, if_neg hd, e1, if_pos rfl, if_pos (by omega), show T.length - (i + 1) = (T.length - (i + 1 + 1)) + 1 by omega, cF_s, if_neg hd, e2, if_pos rfl, if_pos (by omega)]
    rfl
theorem cF_sep {T : List Nat} {due dig i : Nat} (hd : due ≠ 0) (h1 : 1 ≤ dig) (h2 : dig = 1 → dg T i = false) (h3 : dig ≤ 2) (hi : i ≤ T.length) : cF T (T.length - i) due dig i = if ca T i = (if due ≤ 1 then 59 else 44) then cF T (T.length - (i + 1)) (due - 1) 0 (i + 1) else nI i := by
  by_cases e : i = T.length
  · have e0 : ca T i = 0 := Decidable.byContradiction (fun h9 => by have := ca_lt h9; omega)
    rw [if_neg (by rw [e0]; split <;> omega), e, Nat.sub_self, cF_0, if_neg hd]
  · rw [show T.length - i = (T.length - (i + 1)) + 1 by omega, cF_s, if_neg hd]
    cases e1 : dg T i
    · rw [if_neg (by decide), if_neg (by omega)]
    · have : dig = 2 := by
        by_cases e2 : dig = 1
        · rw [h2 e2] at e1; cases e1
        · omega
      obtain ⟨r1, r2⟩ := dg_r e1
      rw [if_pos rfl, if_neg (by omega), if_neg (by split <;> omega)]
theorem rN_1 {T : List Nat} {i : Nat} (h : (rN T 2 i 0).1 = 1) : dg T (i + 1) = false := by
  rcases rN_c T i with ⟨e1, e⟩ | ⟨e1, e2, e⟩ | ⟨e1, e2, e⟩
  · rw [e] at h; simp at h
  · exact e2
  · rw [e] at h; simp at h
theorem rN_len {T : List Nat} {i : Nat} (h : (rN T 2 i 0).1 ≠ 0) : i + (rN T 2 i 0).1 ≤ T.length := by
  rcases rN_c T i with ⟨e1, e⟩ | ⟨e1, e2, e⟩ | ⟨e1, e2, e⟩
  · rw [e] at h; simp at h
  · have := dg_lt e1
    rw [e]; show i + 1 ≤ _; omega
  · have := dg_lt e2
    rw [e]; show i + 2 ≤ _; omega
theorem cmE_c {T : List Nat} {i due dig a b : Nat} (hd : due = 1) (h1 : 1 ≤ dig) (h2 : dig = 1 → dg T i = false) (h3 : dig ≤ 2) (hi : i ≤ T.length) : cF T (T.length - i) due dig i = if (cmE T i a b).1 = true then cF T (T.length - (cmE T i a b).2.1) 0 0 (cmE T i a b).2.1 else nI (cmE T i a b).2.1 := by
  rw [cF_sep (by omega) h1 h2 h3 hi, hd, if_pos (by omega : 1 ≤ 1)]
  unfold cmE
  by_cases e : ca T i = 59
  · rw [if_pos e, if_pos e, if_pos rfl]
  · rw [if_neg e, if_neg e, if_neg (by simp)]
theorem cF_cmd {T : List Nat} {i : Nat} (hi : i < T.length) (hn : na (ca T i) ≠ 0) : cF T (T.length - i) 0 0 i = if (cmT T i).1 = true then cF T (T.length - (cmT T i).2.1) 0 0 (cmT T i).2.1 else nI (cmT T i).2.1 := by
  have hl := na_le (ca T i)
  rw [show T.length - i = (T.length - (i + 1)) + 1 by omega, cF_s, if_pos rfl, if_neg hn, cF_num hn (by omega)]
  unfold cmT
  have n1 := rN_2 T (i + 1)
  by_cases e1 : (rN T 2 (i + 1) 0).1 = 0
  · rw [if_pos e1, if_pos e1]
    simp
  · rw [if_neg e1, if_neg e1]
    have l1 := rN_len e1
    by_cases e2 : na (ca T i) = 2
    · rw [if_pos e2, cF_sep hn (by omega) (fun h => by have := rN_1 h; rw [h]; exact this) n1 l1, if_neg (by omega : ¬ na (ca T i) ≤ 1)]
      by_cases e3 : ca T (i + 1 + (rN T 2 (i + 1) 0).1) = 44
      · have l2 := ca_lt (T := T) (i := i + 1 + (rN T 2 (i + 1) 0).1) (by omega)
        rw [if_pos e3, if_pos e3, cF_num (by omega) (by omega)]
        have n2 := rN_2 T (i + 1 + (rN T 2 (i + 1) 0).1 + 1)
        by_cases e4 : (rN T 2 (i + 1 + (rN T 2 (i + 1) 0).1 + 1) 0).1 = 0
        · rw [if_pos e4, if_pos e4]
          simp
        · rw [if_neg e4, if_neg e4]
          exact cmE_c (by omega) (by omega) (fun h => by have := rN_1 h; rw [h]; exact this) n2 (rN_len e4)
      · rw [if_neg e3, if_neg e3]
        simp
    · rw [if_neg e2]
      exact cmE_c (by omega) (by omega) (fun h => by have := rN_1 h; rw [h]; exact this) n1 l1
theorem cmE_len {T : List Nat} {i a b : Nat} (h : (cmE T i a b).1 = true) : (cmE T i a b).2.1 ≤ T.length ∧ i < (cmE T i a b).2.1 := by
  unfold cmE at h ⊢
  split
  · rename_i e
    have := ca_lt (T := T) (i := i) (by omega)
    exact ⟨by show i + 1 ≤ _; omega, by show i < i + 1; omega⟩
  · rename_i e
    rw [if_neg e] at h
    cases h
theorem cmT_len {T : List Nat} {i : Nat} (h : (cmT T i).1 = true) : (cmT T i).2.1 ≤ T.length ∧ i < (cmT T i).2.1 := by
  unfold cmT at h ⊢
  by_cases e1 : (rN T 2 (i + 1) 0).1 = 0
  · rw [if_pos e1] at h; cases h
  · rw [if_neg e1] at h ⊢
    by_cases e2 : na (ca T i) = 2
    · rw [if_pos e2] at h ⊢
      by_cases e3 : ca T (i + 1 + (rN T 2 (i + 1) 0).1) = 44
      · rw [if_pos e3] at h ⊢
        by_cases e4 : (rN T 2 (i + 1 + (rN T 2 (i + 1) 0).1 + 1) 0).1 = 0
        · rw [if_pos e4] at h; cases h
        · rw [if_neg e4] at h ⊢
          have := cmE_len h
          exact ⟨this.1, by omega⟩
      · rw [if_neg e3] at h; cases h
    · rw [if_neg e2] at h ⊢
      have := cmE_len h
      exact ⟨this.1, by omega⟩
theorem f9_loop {m : Nat} {T : List Nat} (hT : ∀ c ∈ T, 32 ≤ c ∧ c ≤ 126) (z : Nat) : ∀ (n i : Nat), T.length ≤ i + n → i ≤ T.length → ∀ (h : AH) (fuel : Nat), n < fuel → MO h m → RT h m T → iv h m 16 = nI i →
    ∃ h', lX9_faultOf_5 fuel m z h = some (cF T (T.length - i) 0 0 i, z, h') ∧ Fp m h h' := by
  intro n
  induction n with
  | zero =>
    intro i h1 h2 h fuel hf hM hX h16
    obtain rfl : i = T.length := by omega
    cases fuel with
    | zero => omega
    | succ fuel =>
      refine ⟨h, ?_, Fp.rf m h⟩
      have hk0 := hM.1
      have t1 := hX.1
      rw [Nat.sub_self, cF_0, if_pos rfl]
      show lX9_faultOf_5B _ _ _ _ = _
      simp (disch := omega) only [lX9_faultOf_5B, ↓gd, ↓reduceIte, hk0, t1, h16, Int32.le_refl]
  | succ n ih =>
    intro i h1 h2 h fuel hf hM hX h16
    cases fuel with
    | zero => omega
    | succ fuel =>
      have hk0 := hM.1
      obtain ⟨t1, t2, t3⟩ := id hX
      by_cases e : i = T.length
      · subst e
        refine ⟨h, ?_, Fp.rf m h⟩
        rw [Nat.sub_self, cF_0, if_pos rfl]
        show lX9_faultOf_5B _ _ _ _ = _
        simp (disch := omega) only [lX9_faultOf_5B, ↓gd, ↓reduceIte, hk0, t1, h16, Int32.le_refl]
      · have hil : i < T.length := by omega
        obtain ⟨c1, c2⟩ := ca_in hT hil
        have x1 := e9_here hM hX (i := i) (by omega) z
        rw [show hrI T i = nI (ca T i) by unfold hrI; rw [if_pos hil]] at x1
        have x2 := e9_na (c := ca T i) (by omega) z h
        have nl := na_le (ca T i)
        by_cases e1 : na (ca T i) = 0
        · refine ⟨h, ?_, Fp.rf m h⟩
          rw [show T.length - i = (T.length - (i + 1)) + 1 by omega, cF_s, if_pos rfl, if_pos e1]
          rw [e1] at x2
          show lX9_faultOf_5B _ _ _ _ = _
          simp (disch := omega) only [lX9_faultOf_5B, bX9_faultOf_40, ↓gd, ↓bl, ↓on, ↓xr, ↓reduceIte, if_true, if_false, kd_wI, ln_wI, rv_wI, iv_wI, jv_wI, kd_wJ, ln_wJ, rv_wJ, iv_wJ, nI_clamp, nI_leE, nI_ltE, nI_eqE, m1_ne, bit_0, bit_1, nI_negE, leN_F, leN_T, ltN_F, ltN_T, eqN_F, or_false, false_or, or_true, true_or, not_false_eq_true, not_true_eq_false, and_true, true_and, and_false, false_and, hk0, t1, h16, ↓bb3 x1, ↓bb3 x2, nI_0]
        · have e1' : (nI (na (ca T i)) = 0) = False := by rw [nI_0E (by omega)]; exact eq_false e1
          obtain ⟨h1', v1, v2, v3, v4⟩ := e9_cmd hT hM hX hil h16 z
          rw [cF_cmd hil e1]
          have hk1 := (v2.M hM).1
          cases e2 : (cmT T i).1
          · rw [e2] at v1
            refine ⟨h1', ?_, v2⟩
            show lX9_faultOf_5B _ _ _ _ = _
            simp (disch := omega) only [lX9_faultOf_5B, bX9_faultOf_40, ↓gd, ↓bl, ↓on, ↓xr, ↓reduceIte, if_true, if_false, kd_wI, ln_wI, rv_wI, iv_wI, jv_wI, kd_wJ, ln_wJ, rv_wJ, iv_wJ, nI_clamp, nI_leE, nI_ltE, nI_eqE, m1_ne, bit_0, bit_1, nI_negE, leN_F, leN_T, ltN_F, ltN_T, eqN_F, or_false, false_or, or_true, true_or, not_false_eq_true, not_true_eq_false, and_true, true_and, and_false, false_and, hk0, t1, h16, ↓bb3 x1, ↓bb3 x2, e1', ↓bb3 v1, Bool.false_eq_true, hk1, v3]
          · rw [e2] at v1
            obtain ⟨l1, l2⟩ := cmT_len e2
            obtain ⟨h2', w1, w2⟩ := ih (cmT T i).2.1 (by omega) l1 h1' fuel (by omega) (v2.M hM) (v2.T hX) v3
            refine ⟨h2', ?_, v2.tr w2⟩
            rw [if_pos rfl]
            show lX9_faultOf_5B _ _ _ _ = _
            simp (disch := omega) only [lX9_faultOf_5B, ↓gd, ↓bl, ↓on, ↓xr, ↓reduceIte, if_true, if_false, kd_wI, ln_wI, rv_wI, iv_wI, jv_wI, kd_wJ, ln_wJ, rv_wJ, iv_wJ, nI_clamp, nI_leE, nI_ltE, nI_eqE, m1_ne, bit_0, bit_1, nI_negE, leN_F, leN_T, ltN_F, ltN_T, eqN_F, or_false, false_or, or_true, true_or, not_false_eq_true, not_true_eq_false, and_true, true_and, and_false, false_and, hk0, t1, h16, ↓bb3 x1, ↓bb3 x2, e1', ↓bb3 v1, ne10]
            exact w1
theorem e9_faultOf {h : AH} {m : Nat} {T : List Nat} (hT : ∀ c ∈ T, 32 ≤ c ∧ c ≤ 126) (hM : MO h m) (hX : RT h m T) (z : Nat) : ∃ h', fX9_faultOf m z h = some (vFa T, z, h') ∧ Fp m h h' := by
  have hF : Fp m h (wI h m 16 0) := Fp.w m h (by omega) _
  obtain ⟨h', v1, v2⟩ := f9_loop hT z T.length 0 (by omega) (by omega) (wI h m 16 0) fu (by have := hX.2.1; unfold fu; omega) (hF.M hM) (hF.T hX) (by rw [iv_wI, if_pos rfl, if_pos rfl]; rfl)
  refine ⟨h', ?_, hF.tr v2⟩
  have hk0 := hM.1
  simp (disch := omega) only [fX9_faultOf, ↓gd, ↓bl, ↓reduceIte, hk0]
  exact v1
theorem Fp_R {m : Nat} {h h' : AH} (hF : Fp m h h') : Fq (PR m) h h' := hF.1.mono (fun b hb => by unfold PR; omega)
theorem r_fault {h : AH} {m z : Nat} {A : TS} {B : Nat} (hR : RI h m A) (hT : TI A B) : RP (fX9_fault m z h) h m z (vFa A.2.2, A) := by
  obtain ⟨c1, c2, c3⟩ := RI_code hR 0
  obtain ⟨h', v1, v2⟩ := e9_faultOf hT.2.2 c1.1 c1.tx z
  refine ⟨h', ?_, v2.I c1, c2.tr (Fp_R v2)⟩
  have hk0 := hR.1.1
  simp (disch := omega) only [fX9_fault, ↓gd, ↓bl, ↓reduceIte, hk0, ↓bb3 v1]
