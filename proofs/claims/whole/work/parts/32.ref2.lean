theorem li1 : (1 : Int32) = nI 1 := rfl
theorem li2 : (2 : Int32) = nI 2 := rfl
theorem li3 : (3 : Int32) = nI 3 := rfl
theorem li4 : (4 : Int32) = nI 4 := rfl
theorem li5 : (5 : Int32) = nI 5 := rfl
theorem li9 : (9 : Int32) = nI 9 := rfl
theorem li10 : (10 : Int32) = nI 10 := rfl
theorem li13 : (13 : Int32) = nI 13 := rfl
theorem li16 : (16 : Int32) = nI 16 := rfl
theorem li21 : (21 : Int32) = nI 21 := rfl
theorem li22 : (22 : Int32) = nI 22 := rfl
theorem li93 : (93 : Int32) = nI 93 := rfl
theorem li613 : (613 : Int32) = nI 613 := rfl
theorem lt00 : ((0 : Int32) < 0) = False := eq_false (by decide)
theorem ne10 : ((1 : Int32) = 0) = False := eq_false (by decide)
theorem fu_s : fu = 19999 + 1 := rfl
/-- what the reference's state keeps of its resources -/
def WFr (p : Nat → Int32) : Prop := p 0 = nI (nr p) ∧ nr p ≤ 16 ∧ ∀ r, r < nr p → p (1 + r) = -1 ∨ ∃ q, q < r ∧ p (1 + r) = nI q
def belF (p : Nat → Int32) (o : Nat) : Nat → Nat → Bool
  | 0, _ => false
  | n + 1, r => decide (r = o) || (decide (p (1 + r) ≠ -1) && belF p o n (p (1 + r)).toNatClampNeg)
/-- r is o, or lies below it -/
def bel (p : Nat → Int32) (r o : Nat) : Bool := belF p o (r + 1) r
theorem belF_more {p : Nat → Int32} (hW : WFr p) (o : Nat) : ∀ (b r : Nat), r < b → r < nr p → ∀ n, r < n → belF p o n r = belF p o (r + 1) r := by
  intro b
  induction b with
  | zero => intro r h; omega
  | succ b ih =>
    intro r hb hr n hn
    have hn16 := hW.2.1
    cases n with
    | zero => omega
    | succ n =>
      unfold belF
      rcases hW.2.2 r hr with e | ⟨q, hq, e⟩
      · simp [e]
      · simp (disch := omega) only [e, nI_clamp]
        rw [ih q (by omega) (by omega) n (by omega), ih q (by omega) (by omega) r (by omega)]
theorem bel_eq {p : Nat → Int32} (hW : WFr p) {r o : Nat} (hr : r < nr p) : bel p r o = (decide (r = o) || (decide (p (1 + r) ≠ -1) && bel p (p (1 + r)).toNatClampNeg o)) := by
  have hn16 := hW.2.1
  unfold bel
  rw [belF]
  rcases hW.2.2 r hr with e | ⟨q, hq, e⟩
  · simp [e]
  · simp (disch := omega) only [e, nI_clamp]
    rw [belF_more hW o (q + 1) q (by omega) (by omega) r (by omega)]
theorem e9_bel_loop {h : AH} {m : Nat} (hM : MO h m) (hW : WFr (ps h m)) {o : Nat} (ho : o < 2 ^ 31) (z : Nat) : ∀ (b r : Nat), r < b → r < nr (ps h m) → ∀ fuel, r + 1 < fuel → lX9_isBelow_2 fuel m (nI o) (nI r) z h = some (if bel (ps h m) r o then 1 else 0, z, h) := by
  intro b
  induction b with
  | zero => intro r hb; omega
  | succ b ih =>
    intro r hb hr fuel hf
    have hn := hW.2.1
    cases fuel with
    | zero => omega
    | succ fuel =>
      show lX9_isBelow_2B _ _ _ _ _ _ = _
      rw [bel_eq hW hr]
      obtain ⟨hk, r0, r1, r3, r4, r10, r11, r13, r14, r15, k1, k2, k3, k4, k5, k6, k7, k8, k9, l1, l2, l3, l4, l5, l6, l7, l8, l9⟩ := id hM
      have hix : (1 : Int32) + nI r = nI (1 + r) := nI_add 1 r
      by_cases e : r = o
      · subst e
        simp (disch := omega) only [lX9_isBelow_2B, bX9_isBelow_24, ↓gd, ↓bl, ↓on, ↓xr, ↓reduceIte, if_true, if_false, kd_wI, ln_wI, rv_wI, iv_wI, jv_wI, kd_wJ, ln_wJ, rv_wJ, iv_wJ, nI_clamp, nI_leE, nI_ltE, nI_eqE, m1_ne, bit_0, bit_1, nI_negE, leN_F, leN_T, ltN_F, ltN_T, eqN_F, or_false, false_or, or_true, true_or, not_false_eq_true, not_true_eq_false, and_true, true_and, and_false, false_and, decide_true, Bool.true_or]
      · have hcase := hW.2.2 r hr
        rcases hcase with e2 | ⟨q, hq, e2⟩
        · have e3 : iv h (m + 1) (1 + r) = -1 := e2
          cases fuel with
          | zero => omega
          | succ fuel =>
            simp (disch := omega) only [lX9_isBelow_2B, bX9_isBelow_24, ↓gd, ↓bl, ↓on, ↓xr, ↓reduceIte, if_true, if_false, kd_wI, ln_wI, rv_wI, iv_wI, jv_wI, kd_wJ, ln_wJ, rv_wJ, iv_wJ, nI_clamp, nI_leE, nI_ltE, nI_eqE, m1_ne, bit_0, bit_1, nI_negE, leN_F, leN_T, ltN_F, ltN_T, eqN_F, or_false, false_or, or_true, true_or, not_false_eq_true, not_true_eq_false, and_true, true_and, and_false, false_and, ↓bb r0, ↓bb r1, ↓bb r3, ↓bb r4, ↓bb r10, ↓bb r11, ↓bb r13, ↓bb r14, ↓bb r15, hk, k1, k2, k3, k4, k5, k6, k7, k8, k9, l1, l2, l3, l4, l5, l6, l7, l8, l9, hix, e, e3, decide_false, Bool.false_or, lX9_isBelow_2]
            have : ¬ ((-1 : Int32) = nI o) := fun h9 => by
              have := m1_ne (a := o) ho
              rw [h9] at this
              simp at this
            simp [this]
        · have e3 : iv h (m + 1) (1 + r) = nI q := e2
          simp (disch := omega) only [lX9_isBelow_2B, bX9_isBelow_24, ↓gd, ↓bl, ↓on, ↓xr, ↓reduceIte, if_true, if_false, kd_wI, ln_wI, rv_wI, iv_wI, jv_wI, kd_wJ, ln_wJ, rv_wJ, iv_wJ, nI_clamp, nI_leE, nI_ltE, nI_eqE, m1_ne, bit_0, bit_1, nI_negE, leN_F, leN_T, ltN_F, ltN_T, eqN_F, or_false, false_or, or_true, true_or, not_false_eq_true, not_true_eq_false, and_true, true_and, and_false, false_and, ↓bb r0, ↓bb r1, ↓bb r3, ↓bb r4, ↓bb r10, ↓bb r11, ↓bb r13, ↓bb r14, ↓bb r15, hk, k1, k2, k3, k4, k5, k6, k7, k8, k9, l1, l2, l3, l4, l5, l6, l7, l8, l9, hix, e, e3, decide_false, Bool.false_or]
          rw [ih q (by omega) (by omega) fuel (by omega)]
          simp (disch := omega) [m1_ne, nI_clamp]
theorem e9_isBelow {h : AH} {m : Nat} (hM : MO h m) (hW : WFr (ps h m)) {r o : Nat} (hr : r < nr (ps h m)) (ho : o < 2 ^ 31) (z : Nat) : fX9_isBelow m (nI r) (nI o) z h = some (if bel (ps h m) r o then 1 else 0, z, h) :=
  e9_bel_loop hM hW ho z (r + 1) r (by omega) hr fu (by have := hW.2.1; unfold fu; omega)
/-- r and o overlap -/
def ov (p : Nat → Int32) (r o : Nat) : Bool := bel p r o || bel p o r
theorem e9_overlaps {h : AH} {m : Nat} (hM : MO h m) (hW : WFr (ps h m)) {r o : Nat} (hr : r < nr (ps h m)) (ho : o < nr (ps h m)) (z : Nat) : fX9_overlaps m (nI r) (nI o) z h = some (if ov (ps h m) r o then 1 else 0, z, h) := by
  have hn := hW.2.1
  unfold fX9_overlaps ov
  simp only [gd, hM.1, ↓reduceIte, bb3 (e9_isBelow hM hW hr (show o < 2 ^ 31 by omega) z)]
  cases bel (ps h m) r o
  · simp only [bb3 (e9_isBelow hM hW ho (show r < 2 ^ 31 by omega) z)]
    cases bel (ps h m) o r <;> simp
  · simp
/-- waiting -/
def wt (p : Nat → Int32) (t : Nat) : Bool := th p t && decide (p (32 + 6 * t + 4) = 1)
def wtI (p : Nat → Int32) (x : Int32) : Bool := inI x 0 9 && wt p x.toNatClampNeg
theorem e9_isWaiting {h : AH} {m : Nat} (hM : MO h m) (x : Int32) (z : Nat) : fX9_isWaiting m x z h = some (if wtI (ps h m) x then 1 else 0, z, h) := by
  unfold fX9_isWaiting wtI wt
  simp only [gd, hM.1, ↓reduceIte, bb3 (e9_isTask hM _ _)]
  unfold tkI
  cases hx : inI x 0 9
  · simp
  · obtain ⟨t, ht, rfl⟩ := inI_of (n := 9) (by omega) hx
    rw [nI_clamp (by omega)]
    cases th (ps h m) t
    · simp
    · have h1 := e9_of (w := 4) hM (t := t) (by omega) (by omega) z
      simp only [Bool.and_self, if_true, ne10, if_false, li4, bb3 h1, Bool.true_and]
      by_cases e : ps h m (32 + 6 * t + 4) = 1 <;> simp [e]
theorem or_same (x b : Int32) : (x ||| b) ||| b = x ||| b := by
  refine b_ext (fun i _ => ?_)
  rw [b_or, b_or]
  cases bt x i <;> cases bt b i <;> rfl
theorem or_0 (x : Int32) : x ||| 0 = x := by
  refine b_ext (fun i _ => ?_)
  rw [b_or, b_0]
  simp
/-- task k is in the way of task t and resource r -/
def way (p : Nat → Int32) (t r : Nat) (k : Nat) : Bool := decide (k ≠ t) && (th p k && anyB (nr p) (fun i => bt (p (32 + 6 * k + 3)) i && ov p r i))
theorem e9_way_in {h : AH} {m : Nat} (hM : MO h m) (hW : WFr (ps h m)) {t r k : Nat} (ht : t < 10) (hr : r < nr (ps h m)) (hk : k < 10) (hne : k ≠ t) (hth : th (ps h m) k = true) (z : Nat) (q5 : Nat → Int32 → Int32 → Int32 → Int32 → Nat → AH → Option (Int32 × Nat × AH)) (acc : Int32) :
    ∀ (d i : Nat), i + d = nr (ps h m) → ∀ fuel, d < fuel → lX9_inTheWay_15 q5 fuel m (nI t) (nI r) (if anyB i (fun i => bt (ps h m (32 + 6 * k + 3)) i && ov (ps h m) r i) then acc ||| ((1 : Int32) <<< (nI k &&& 31)) else acc) (nI k) (nI i) z h = q5 m (nI t) (nI r) (if anyB (nr (ps h m)) (fun i => bt (ps h m (32 + 6 * k + 3)) i && ov (ps h m) r i) then acc ||| ((1 : Int32) <<< (nI k &&& 31)) else acc) (nI k + 1) z h := by
  intro d
  have hn := hW.2.1
  have h0 : iv h (m + 1) 0 = nI (nr (ps h m)) := hW.1
  have htk : tkI (ps h m) (nI k) = true := by
    unfold tkI
    rw [show (9 : Int32) = nI 9 from rfl, inI_nI (by omega) (by omega), nI_clamp (by omega), hth]
    simp; omega
  induction d with
  | zero =>
    intro i hi fuel hf
    cases fuel with
    | zero => omega
    | succ fuel =>
      show lX9_inTheWay_15B _ _ _ _ _ _ _ _ _ _ = _
      obtain rfl : i = nr (ps h m) := by omega
      obtain ⟨hk, r0, r1, r3, r4, r10, r11, r13, r14, r15, k1, k2, k3, k4, k5, k6, k7, k8, k9, l1, l2, l3, l4, l5, l6, l7, l8, l9⟩ := id hM
      simp (disch := omega) only [lX9_inTheWay_15B, bX9_inTheWay_84, ↓gd, ↓bb r0, ↓bb r1, ↓bb r3, ↓bb r4, ↓bb r10, ↓bb r11, ↓bb r13, ↓bb r14, ↓bb r15, hk, k1, k2, k3, k4, k5, k6, k7, k8, k9, l1, l2, l3, l4, l5, l6, l7, l8, l9, ↓reduceIte, ix0, lt00, h0, leN_F, or_false, false_or, not_false_eq_true, Int32.le_refl]
  | succ d ih =>
    intro i hi fuel hf
    cases fuel with
    | zero => omega
    | succ fuel =>
      show lX9_inTheWay_15B _ _ _ _ _ _ _ _ _ _ = _
      have h1 := e9_of (w := 3) hM (t := k) (by omega) (by omega) z
      have h2 := ih (i + 1) (by omega) fuel (by omega)
      have h3 : nI i + 1 = nI (i + 1) := nI_1 i
      obtain ⟨hk, r0, r1, r3, r4, r10, r11, r13, r14, r15, k1, k2, k3, k4, k5, k6, k7, k8, k9, l1, l2, l3, l4, l5, l6, l7, l8, l9⟩ := id hM
      simp (disch := omega) only [lX9_inTheWay_15B, bX9_inTheWay_84, bX9_inTheWay_75, bX9_inTheWay_76, ↓gd, ↓bl, ↓on, ↓xr, ↓reduceIte, if_true, if_false, kd_wI, ln_wI, rv_wI, iv_wI, jv_wI, kd_wJ, ln_wJ, rv_wJ, iv_wJ, nI_clamp, nI_leE, nI_ltE, nI_eqE, m1_ne, bit_0, bit_1, nI_negE, leN_F, leN_T, ltN_F, ltN_T, eqN_F, or_false, false_or, or_true, true_or, not_false_eq_true, not_true_eq_false, and_true, true_and, and_false, false_and, ↓bb r0, ↓bb r1, ↓bb r3, ↓bb r4, ↓bb r10, ↓bb r11, ↓bb r13, ↓bb r14, ↓bb r15, hk, k1, k2, k3, k4, k5, k6, k7, k8, k9, l1, l2, l3, l4, l5, l6, l7, l8, l9, ix0, lt00, h0, ↓bb3 (e9_isTask hM _ _), htk, ne10, li3, ↓bb3 h1]
      simp only [anyB] at h2
      cases hb : bt (ps h m (32 + 6 * k + 3)) i
      · simp only [hb, Bool.false_and, Bool.or_false] at h2
        simp only [Bool.false_eq_true, if_false, or_0, h3, h2]
      · simp only [if_true, ↓bb3 (e9_overlaps hM hW hr (show i < nr (ps h m) by omega) z)]
        cases ho : ov (ps h m) r i
        · simp only [ho, Bool.and_false, Bool.or_false] at h2
          simp only [Bool.false_eq_true, if_false, if_true, or_0, h3, h2]
        · simp only [hb, ho, Bool.and_self, Bool.or_true, if_true] at h2
          simp only [if_true, ne10, if_false, h3]
          rw [← h2]
          congr 1
          split
          · exact or_same _ _
          · rfl
