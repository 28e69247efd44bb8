theorem li6 : (6 : Int32) = nI 6 := rfl
theorem li7 : (7 : Int32) = nI 7 := rfl
theorem li17 : (17 : Int32) = nI 17 := rfl
/-- the heap with the reference's state p and its counts c -/
def mh (h : AH) (m : Nat) (p c : Nat → Int32) : AH := (h.1, u1 (u1 h.2.1 (m + 1) p) (m + 3) c, h.2.2.1, h.2.2.2)
theorem kd_mh (h : AH) (m : Nat) (p c : Nat → Int32) (b : Nat) : kd (mh h m p c) b = kd h b := rfl
theorem ln_mh (h : AH) (m : Nat) (p c : Nat → Int32) (b : Nat) : ln (mh h m p c) b = ln h b := rfl
theorem rv_mh (h : AH) (m : Nat) (p c : Nat → Int32) : rv (mh h m p c) = rv h := rfl
theorem jv_mh (h : AH) (m : Nat) (p c : Nat → Int32) : jv (mh h m p c) = jv h := rfl
theorem iv_mh1 (h : AH) (m : Nat) (p c : Nat → Int32) : iv (mh h m p c) (m + 1) = p := by
  show u1 (u1 h.2.1 (m + 1) p) (m + 3) c (m + 1) = p
  rw [u1_ne _ _ (by omega), u1_self]
theorem iv_mh3 (h : AH) (m : Nat) (p c : Nat → Int32) : iv (mh h m p c) (m + 3) = c := u1_self _ _ _
theorem iv_mh (h : AH) (m : Nat) (p c : Nat → Int32) {b : Nat} (h1 : b ≠ m + 1) (h3 : b ≠ m + 3) : iv (mh h m p c) b = iv h b := by
  show u1 (u1 h.2.1 (m + 1) p) (m + 3) c b = h.2.1 b
  rw [u1_ne _ _ h3, u1_ne _ _ h1]
theorem ps_mh (h : AH) (m : Nat) (p c : Nat → Int32) : ps (mh h m p c) m = p := iv_mh1 h m p c
theorem AH_ext {g h : AH} (h1 : g.1 = h.1) (h2 : ∀ b, g.2.1 b = h.2.1 b) (h3 : g.2.2.1 = h.2.2.1) (h4 : g.2.2.2 = h.2.2.2) : g = h := by
  obtain ⟨a, b, c, d⟩ := g
  obtain ⟨a', b', c', d'⟩ := h
  simp only at h1 h2 h3 h4
  rw [h1, h3, h4, show b = b' from funext h2]
theorem mh_w1 (h : AH) (m : Nat) (p c : Nat → Int32) (k : Nat) (x : Int32) : wI (mh h m p c) (m + 1) k x = mh h m (upd p k x) c := by
  refine AH_ext rfl (fun b => ?_) rfl rfl
  show u2 _ _ _ _ b = u1 _ _ _ b
  by_cases e : b = m + 1
  · subst e
    rw [u2_self]
    show (fun j => if j = k then x else iv (mh h m p c) (m + 1) j) = _
    rw [iv_mh1, u1_ne _ _ (by omega), u1_self]
    rfl
  · rw [u2_ne _ _ _ e]
    show u1 _ _ _ b = _
    unfold u1
    simp [e]
theorem mh_w3 (h : AH) (m : Nat) (p c : Nat → Int32) (k : Nat) (x : Int32) : wI (mh h m p c) (m + 3) k x = mh h m p (upd c k x) := by
  refine AH_ext rfl (fun b => ?_) rfl rfl
  show u2 _ _ _ _ b = u1 _ _ _ b
  by_cases e : b = m + 3
  · subst e
    rw [u2_self, u1_self]
    show (fun j => if j = k then x else iv (mh h m p c) (m + 3) j) = _
    rw [iv_mh3]
    rfl
  · rw [u2_ne _ _ _ e]
    show u1 _ _ _ b = _
    unfold u1
    simp [e]
theorem mh_id (h : AH) (m : Nat) : mh h m (iv h (m + 1)) (iv h (m + 3)) = h := by
  refine AH_ext rfl (fun b => ?_) rfl rfl
  show u1 _ _ _ b = _
  unfold u1
  split
  · rename_i e; rw [e]
  · split
    · rename_i e; rw [e]
    · rfl
theorem MO_mh {h : AH} {m : Nat} (hM : MO h m) (p c : Nat → Int32) : MO (mh h m p c) m := hM
theorem upd_s (f : Nat → Int32) (k : Nat) (x : Int32) (j : Nat) : upd f k x j = if j = k then x else f j := rfl
theorem e9_of0 {h : AH} {m : Nat} (hM : MO h m) {t : Nat} (ht : t < 10) (p c : Nat → Int32) (z : Nat) : fX9_of m (nI t) 0 z (mh h m p c) = some (p (32 + 6 * t + 0), z, mh h m p c) := by
  have h1 := e9_of (w := 0) (MO_mh hM p c) (t := t) ht (by omega) z
  rw [ps_mh] at h1
  exact h1
theorem e9_pu0 {h : AH} {m : Nat} (hM : MO h m) {t : Nat} (ht : t < 10) (p c : Nat → Int32) (x : Int32) (z : Nat) : fX9_puts m (nI t) 0 x z (mh h m p c) = some (z, mh h m (upd p (32 + 6 * t + 0) x) c) := by
  have h1 := e9_puts (w := 0) (MO_mh hM p c) (t := t) ht (by omega) x z
  rw [mh_w1] at h1
  exact h1
theorem e9_of1 {h : AH} {m : Nat} (hM : MO h m) {t : Nat} (ht : t < 10) (p c : Nat → Int32) (z : Nat) : fX9_of m (nI t) 1 z (mh h m p c) = some (p (32 + 6 * t + 1), z, mh h m p c) := by
  have h1 := e9_of (w := 1) (MO_mh hM p c) (t := t) ht (by omega) z
  rw [ps_mh] at h1
  exact h1
theorem e9_pu1 {h : AH} {m : Nat} (hM : MO h m) {t : Nat} (ht : t < 10) (p c : Nat → Int32) (x : Int32) (z : Nat) : fX9_puts m (nI t) 1 x z (mh h m p c) = some (z, mh h m (upd p (32 + 6 * t + 1) x) c) := by
  have h1 := e9_puts (w := 1) (MO_mh hM p c) (t := t) ht (by omega) x z
  rw [mh_w1] at h1
  exact h1
theorem e9_of2 {h : AH} {m : Nat} (hM : MO h m) {t : Nat} (ht : t < 10) (p c : Nat → Int32) (z : Nat) : fX9_of m (nI t) 2 z (mh h m p c) = some (p (32 + 6 * t + 2), z, mh h m p c) := by
  have h1 := e9_of (w := 2) (MO_mh hM p c) (t := t) ht (by omega) z
  rw [ps_mh] at h1
  exact h1
theorem e9_pu2 {h : AH} {m : Nat} (hM : MO h m) {t : Nat} (ht : t < 10) (p c : Nat → Int32) (x : Int32) (z : Nat) : fX9_puts m (nI t) 2 x z (mh h m p c) = some (z, mh h m (upd p (32 + 6 * t + 2) x) c) := by
  have h1 := e9_puts (w := 2) (MO_mh hM p c) (t := t) ht (by omega) x z
  rw [mh_w1] at h1
  exact h1
theorem e9_of3 {h : AH} {m : Nat} (hM : MO h m) {t : Nat} (ht : t < 10) (p c : Nat → Int32) (z : Nat) : fX9_of m (nI t) 3 z (mh h m p c) = some (p (32 + 6 * t + 3), z, mh h m p c) := by
  have h1 := e9_of (w := 3) (MO_mh hM p c) (t := t) ht (by omega) z
  rw [ps_mh] at h1
  exact h1
theorem e9_pu3 {h : AH} {m : Nat} (hM : MO h m) {t : Nat} (ht : t < 10) (p c : Nat → Int32) (x : Int32) (z : Nat) : fX9_puts m (nI t) 3 x z (mh h m p c) = some (z, mh h m (upd p (32 + 6 * t + 3) x) c) := by
  have h1 := e9_puts (w := 3) (MO_mh hM p c) (t := t) ht (by omega) x z
  rw [mh_w1] at h1
  exact h1
theorem e9_of4 {h : AH} {m : Nat} (hM : MO h m) {t : Nat} (ht : t < 10) (p c : Nat → Int32) (z : Nat) : fX9_of m (nI t) 4 z (mh h m p c) = some (p (32 + 6 * t + 4), z, mh h m p c) := by
  have h1 := e9_of (w := 4) (MO_mh hM p c) (t := t) ht (by omega) z
  rw [ps_mh] at h1
  exact h1
theorem e9_pu4 {h : AH} {m : Nat} (hM : MO h m) {t : Nat} (ht : t < 10) (p c : Nat → Int32) (x : Int32) (z : Nat) : fX9_puts m (nI t) 4 x z (mh h m p c) = some (z, mh h m (upd p (32 + 6 * t + 4) x) c) := by
  have h1 := e9_puts (w := 4) (MO_mh hM p c) (t := t) ht (by omega) x z
  rw [mh_w1] at h1
  exact h1
theorem e9_of5 {h : AH} {m : Nat} (hM : MO h m) {t : Nat} (ht : t < 10) (p c : Nat → Int32) (z : Nat) : fX9_of m (nI t) 5 z (mh h m p c) = some (p (32 + 6 * t + 5), z, mh h m p c) := by
  have h1 := e9_of (w := 5) (MO_mh hM p c) (t := t) ht (by omega) z
  rw [ps_mh] at h1
  exact h1
theorem e9_pu5 {h : AH} {m : Nat} (hM : MO h m) {t : Nat} (ht : t < 10) (p c : Nat → Int32) (x : Int32) (z : Nat) : fX9_puts m (nI t) 5 x z (mh h m p c) = some (z, mh h m (upd p (32 + 6 * t + 5) x) c) := by
  have h1 := e9_puts (w := 5) (MO_mh hM p c) (t := t) ht (by omega) x z
  rw [mh_w1] at h1
  exact h1
/-- a grant -/
def grP (p : Nat → Int32) (t r : Nat) : Nat → Int32 := upd (upd p (32 + 6 * t + 3) (p (32 + 6 * t + 3) ||| ((1 : Int32) <<< (nI r &&& 31)))) (32 + 6 * t + 4) 0
theorem e9_grants {h : AH} {m : Nat} (hM : MO h m) {t r : Nat} (ht : t < 10) (p c : Nat → Int32) (z : Nat) : fX9_grants m (nI t) (nI r) z (mh h m p c) = some (z, mh h m (grP p t r) (upd c 7 (c 7 + 1))) := by
  obtain ⟨hk, r0, r1, r3, r4, r10, r11, r13, r14, r15, k1, k2, k3, k4, k5, k6, k7, k8, k9, l1, l2, l3, l4, l5, l6, l7, l8, l9⟩ := id hM
  have q0 : ∀ p c, rv (mh h m p c) m 0 = some (m + 1) := fun _ _ => r0
  have q1 : ∀ p c, rv (mh h m p c) m 1 = some (m + 2) := fun _ _ => r1
  have q3 : ∀ p c, rv (mh h m p c) m 3 = some (m + 3) := fun _ _ => r3
  have q4 : ∀ p c, rv (mh h m p c) m 4 = some (m + 4) := fun _ _ => r4
  have q10 : ∀ p c, rv (mh h m p c) m 10 = some (m + 5) := fun _ _ => r10
  have q11 : ∀ p c, rv (mh h m p c) m 11 = some (m + 6) := fun _ _ => r11
  have q13 : ∀ p c, rv (mh h m p c) m 13 = some (m + 7) := fun _ _ => r13
  have q14 : ∀ p c, rv (mh h m p c) m 14 = some (m + 8) := fun _ _ => r14
  have q15 : ∀ p c, rv (mh h m p c) m 15 = some (m + 9) := fun _ _ => r15
  simp (disch := omega) only [fX9_grants, ↓gd, ↓bl, ↓on, ↓xr, ↓reduceIte, if_true, if_false, kd_wI, ln_wI, rv_wI, iv_wI, jv_wI, kd_wJ, ln_wJ, rv_wJ, iv_wJ, nI_clamp, nI_leE, nI_ltE, nI_eqE, m1_ne, bit_0, bit_1, nI_negE, leN_F, leN_T, ltN_F, ltN_T, eqN_F, or_false, false_or, or_true, true_or, not_false_eq_true, not_true_eq_false, and_true, true_and, and_false, false_and, ↓bb (q0 _ _), ↓bb (q1 _ _), ↓bb (q3 _ _), ↓bb (q4 _ _), ↓bb (q10 _ _), ↓bb (q11 _ _), ↓bb (q13 _ _), ↓bb (q14 _ _), ↓bb (q15 _ _), kd_mh, ln_mh, rv_mh, ↓bb r0, ↓bb r1, ↓bb r3, ↓bb r4, ↓bb r10, ↓bb r11, ↓bb r13, ↓bb r14, ↓bb r15, hk, k1, k2, k3, k4, k5, k6, k7, k8, k9, l1, l2, l3, l4, l5, l6, l7, l8, l9, li7, ↓bb3 (e9_of3 hM ht _ _ _), ↓bb2 (e9_pu3 hM ht _ _ _ _), ↓bb2 (e9_pu4 hM ht _ _ _ _), iv_mh3, mh_w3]
  rfl
/-- a task begins to wait -/
def waP (p : Nat → Int32) (t r : Nat) : Nat → Int32 :=
  upd (upd (upd (upd p (32 + 6 * t + 4) 1) (32 + 6 * t + 5) (nI r)) (22 + (p 21).toNatClampNeg) (nI t)) 21 (p 21 + 1)
theorem e9_waits {h : AH} {m : Nat} (hM : MO h m) {t r n : Nat} (ht : t < 10) (p c : Nat → Int32) (hn : p 21 = nI n) (hn9 : n < 10) (z : Nat) : fX9_waits m (nI t) (nI r) z (mh h m p c) = some (z, mh h m (waP p t r) c) := by
  have e1 : upd (upd p (32 + 6 * t + 4) 1) (32 + 6 * t + 5) (nI r) 21 = nI n := by
    simp (disch := omega) only [upd_s, eqN_F, if_false, hn]
  obtain ⟨hk, r0, r1, r3, r4, r10, r11, r13, r14, r15, k1, k2, k3, k4, k5, k6, k7, k8, k9, l1, l2, l3, l4, l5, l6, l7, l8, l9⟩ := id hM
  have q0 : ∀ p c, rv (mh h m p c) m 0 = some (m + 1) := fun _ _ => r0
  have q1 : ∀ p c, rv (mh h m p c) m 1 = some (m + 2) := fun _ _ => r1
  have q3 : ∀ p c, rv (mh h m p c) m 3 = some (m + 3) := fun _ _ => r3
  have q4 : ∀ p c, rv (mh h m p c) m 4 = some (m + 4) := fun _ _ => r4
  have q10 : ∀ p c, rv (mh h m p c) m 10 = some (m + 5) := fun _ _ => r10
  have q11 : ∀ p c, rv (mh h m p c) m 11 = some (m + 6) := fun _ _ => r11
  have q13 : ∀ p c, rv (mh h m p c) m 13 = some (m + 7) := fun _ _ => r13
  have q14 : ∀ p c, rv (mh h m p c) m 14 = some (m + 8) := fun _ _ => r14
  have q15 : ∀ p c, rv (mh h m p c) m 15 = some (m + 9) := fun _ _ => r15
  simp (disch := omega) only [fX9_waits, ↓gd, ↓bl, ↓on, ↓xr, ↓reduceIte, if_true, if_false, kd_wI, ln_wI, rv_wI, iv_wI, jv_wI, kd_wJ, ln_wJ, rv_wJ, iv_wJ, nI_clamp, nI_leE, nI_ltE, nI_eqE, m1_ne, bit_0, bit_1, nI_negE, leN_F, leN_T, ltN_F, ltN_T, eqN_F, or_false, false_or, or_true, true_or, not_false_eq_true, not_true_eq_false, and_true, true_and, and_false, false_and, ↓bb (q0 _ _), ↓bb (q1 _ _), ↓bb (q3 _ _), ↓bb (q4 _ _), ↓bb (q10 _ _), ↓bb (q11 _ _), ↓bb (q13 _ _), ↓bb (q14 _ _), ↓bb (q15 _ _), kd_mh, ln_mh, rv_mh, ↓bb r0, ↓bb r1, ↓bb r3, ↓bb r4, ↓bb r10, ↓bb r11, ↓bb r13, ↓bb r14, ↓bb r15, hk, k1, k2, k3, k4, k5, k6, k7, k8, k9, l1, l2, l3, l4, l5, l6, l7, l8, l9, li21, li22, ↓bb2 (e9_pu4 hM ht _ _ _ _), ↓bb2 (e9_pu5 hM ht _ _ _ _), iv_mh1, e1, nI_add, mh_w1]
  have e2 : upd (upd (upd p (32 + 6 * t + 4) 1) (32 + 6 * t + 5) (nI r)) (22 + n) (nI t) 21 = nI n := by
    simp (disch := omega) only [upd_s, eqN_F, if_false, hn]
  unfold waP
  rw [e2, hn, nI_clamp (by omega)]
/-- where a task is in the order -/
def plF (p : Nat → Int32) (t : Nat) : Nat → Int32
  | 0 => -1
  | k + 1 => if p (22 + k) = nI t then nI k else plF p t k
theorem e9_place_loop {h : AH} {m : Nat} (hM : MO h m) {t n : Nat} (p c : Nat → Int32) (hn : p 21 = nI n) (hn9 : n ≤ 10) (z : Nat) : ∀ (d k : Nat), k + d = n → ∀ fuel, d < fuel → lX9_placeOf_4 fuel m (nI t) (plF p t k) (nI k) z (mh h m p c) = some (plF p t n, z, mh h m p c) := by
  intro d
  induction d with
  | zero =>
    intro k hk fuel hf
    obtain rfl : k = n := by omega
    cases fuel with
    | zero => omega
    | succ fuel =>
      show lX9_placeOf_4B _ _ _ _ _ _ _ = _
      obtain ⟨hk, r0, r1, r3, r4, r10, r11, r13, r14, r15, k1, k2, k3, k4, k5, k6, k7, k8, k9, l1, l2, l3, l4, l5, l6, l7, l8, l9⟩ := id hM
      have q0 : ∀ p c, rv (mh h m p c) m 0 = some (m + 1) := fun _ _ => r0
      have q1 : ∀ p c, rv (mh h m p c) m 1 = some (m + 2) := fun _ _ => r1
      have q3 : ∀ p c, rv (mh h m p c) m 3 = some (m + 3) := fun _ _ => r3
      have q4 : ∀ p c, rv (mh h m p c) m 4 = some (m + 4) := fun _ _ => r4
      have q10 : ∀ p c, rv (mh h m p c) m 10 = some (m + 5) := fun _ _ => r10
      have q11 : ∀ p c, rv (mh h m p c) m 11 = some (m + 6) := fun _ _ => r11
      have q13 : ∀ p c, rv (mh h m p c) m 13 = some (m + 7) := fun _ _ => r13
      have q14 : ∀ p c, rv (mh h m p c) m 14 = some (m + 8) := fun _ _ => r14
      have q15 : ∀ p c, rv (mh h m p c) m 15 = some (m + 9) := fun _ _ => r15
      simp (disch := omega) only [lX9_placeOf_4B, ↓gd, ↓reduceIte, ↓bb (q0 _ _), ↓bb (q1 _ _), ↓bb (q3 _ _), ↓bb (q4 _ _), ↓bb (q10 _ _), ↓bb (q11 _ _), ↓bb (q13 _ _), ↓bb (q14 _ _), ↓bb (q15 _ _), kd_mh, ln_mh, rv_mh, ↓bb r0, ↓bb r1, ↓bb r3, ↓bb r4, ↓bb r10, ↓bb r11, ↓bb r13, ↓bb r14, ↓bb r15, hk, k1, k2, k3, k4, k5, k6, k7, k8, k9, l1, l2, l3, l4, l5, l6, l7, l8, l9, li21, nI_negE, nI_clamp, leN_F, or_false, false_or, not_false_eq_true, iv_mh1, hn, Int32.le_refl]
  | succ d ih =>
    intro k hk fuel hf
    cases fuel with
    | zero => omega
    | succ fuel =>
      have h3 := ih (k + 1) (by omega) fuel (by omega)
      show lX9_placeOf_4B _ _ _ _ _ _ _ = _
      obtain ⟨hk, r0, r1, r3, r4, r10, r11, r13, r14, r15, k1, k2, k3, k4, k5, k6, k7, k8, k9, l1, l2, l3, l4, l5, l6, l7, l8, l9⟩ := id hM
      have q0 : ∀ p c, rv (mh h m p c) m 0 = some (m + 1) := fun _ _ => r0
      have q1 : ∀ p c, rv (mh h m p c) m 1 = some (m + 2) := fun _ _ => r1
      have q3 : ∀ p c, rv (mh h m p c) m 3 = some (m + 3) := fun _ _ => r3
      have q4 : ∀ p c, rv (mh h m p c) m 4 = some (m + 4) := fun _ _ => r4
      have q10 : ∀ p c, rv (mh h m p c) m 10 = some (m + 5) := fun _ _ => r10
      have q11 : ∀ p c, rv (mh h m p c) m 11 = some (m + 6) := fun _ _ => r11
      have q13 : ∀ p c, rv (mh h m p c) m 13 = some (m + 7) := fun _ _ => r13
      have q14 : ∀ p c, rv (mh h m p c) m 14 = some (m + 8) := fun _ _ => r14
      have q15 : ∀ p c, rv (mh h m p c) m 15 = some (m + 9) := fun _ _ => r15
      simp (disch := omega) only [lX9_placeOf_4B, bX9_placeOf_33, ↓gd, ↓bl, ↓on, ↓xr, ↓reduceIte, if_true, if_false, kd_wI, ln_wI, rv_wI, iv_wI, jv_wI, kd_wJ, ln_wJ, rv_wJ, iv_wJ, nI_clamp, nI_leE, nI_ltE, nI_eqE, m1_ne, bit_0, bit_1, nI_negE, leN_F, leN_T, ltN_F, ltN_T, eqN_F, or_false, false_or, or_true, true_or, not_false_eq_true, not_true_eq_false, and_true, true_and, and_false, false_and, ↓bb (q0 _ _), ↓bb (q1 _ _), ↓bb (q3 _ _), ↓bb (q4 _ _), ↓bb (q10 _ _), ↓bb (q11 _ _), ↓bb (q13 _ _), ↓bb (q14 _ _), ↓bb (q15 _ _), kd_mh, ln_mh, rv_mh, ↓bb r0, ↓bb r1, ↓bb r3, ↓bb r4, ↓bb r10, ↓bb r11, ↓bb r13, ↓bb r14, ↓bb r15, hk, k1, k2, k3, k4, k5, k6, k7, k8, k9, l1, l2, l3, l4, l5, l6, l7, l8, l9, li21, li22, nI_add, nI_1, iv_mh1, hn]
      rw [show plF p t (k + 1) = if p (22 + k) = nI t then nI k else plF p t k from rfl] at h3
      by_cases e : p (22 + k) = nI t
      · rw [if_pos e] at h3 ⊢; exact h3
      · rw [if_neg e] at h3 ⊢; exact h3
theorem e9_placeOf {h : AH} {m : Nat} (hM : MO h m) {t n : Nat} (p c : Nat → Int32) (hn : p 21 = nI n) (hn9 : n ≤ 10) (z : Nat) : fX9_placeOf m (nI t) z (mh h m p c) = some (plF p t n, z, mh h m p c) := by
  have := e9_place_loop hM (t := t) p c hn hn9 z n 0 (by omega) fu (by unfold fu; omega)
  rw [nI_0] at this
  exact this
/-- the order without its place a -/
def shP (p : Nat → Int32) (n a : Nat) : Nat → Int32 := fun j => if j = 21 then nI n else if 22 + a ≤ j ∧ j < 22 + n then p (j + 1) else p j
theorem e9_leave_loop {h : AH} {m : Nat} (hM : MO h m) {n a : Nat} (p c : Nat → Int32) (ha : a ≤ n) (hn9 : n < 10) (z : Nat) : ∀ (d k : Nat), k + d = n → a ≤ k → ∀ fuel, d < fuel → lX9_leaves_24 fuel m (nI k) z (mh h m (fun j => if j = 21 then nI n else if 22 + a ≤ j ∧ j < 22 + k then p (j + 1) else p j) c) = some (z, mh h m (shP p n a) c) := by
  intro d
  induction d with
  | zero =>
    intro k hk hak fuel hf
    obtain rfl : k = n := by omega
    cases fuel with
    | zero => omega
    | succ fuel =>
      show lX9_leaves_24B _ _ _ _ _ = _
      obtain ⟨hk, r0, r1, r3, r4, r10, r11, r13, r14, r15, k1, k2, k3, k4, k5, k6, k7, k8, k9, l1, l2, l3, l4, l5, l6, l7, l8, l9⟩ := id hM
      have q0 : ∀ p c, rv (mh h m p c) m 0 = some (m + 1) := fun _ _ => r0
      have q1 : ∀ p c, rv (mh h m p c) m 1 = some (m + 2) := fun _ _ => r1
      have q3 : ∀ p c, rv (mh h m p c) m 3 = some (m + 3) := fun _ _ => r3
      have q4 : ∀ p c, rv (mh h m p c) m 4 = some (m + 4) := fun _ _ => r4
      have q10 : ∀ p c, rv (mh h m p c) m 10 = some (m + 5) := fun _ _ => r10
      have q11 : ∀ p c, rv (mh h m p c) m 11 = some (m + 6) := fun _ _ => r11
      have q13 : ∀ p c, rv (mh h m p c) m 13 = some (m + 7) := fun _ _ => r13
      have q14 : ∀ p c, rv (mh h m p c) m 14 = some (m + 8) := fun _ _ => r14
      have q15 : ∀ p c, rv (mh h m p c) m 15 = some (m + 9) := fun _ _ => r15
      simp (disch := omega) only [lX9_leaves_24B, ↓gd, ↓reduceIte, ↓bb (q0 _ _), ↓bb (q1 _ _), ↓bb (q3 _ _), ↓bb (q4 _ _), ↓bb (q10 _ _), ↓bb (q11 _ _), ↓bb (q13 _ _), ↓bb (q14 _ _), ↓bb (q15 _ _), kd_mh, ln_mh, rv_mh, ↓bb r0, ↓bb r1, ↓bb r3, ↓bb r4, ↓bb r10, ↓bb r11, ↓bb r13, ↓bb r14, ↓bb r15, hk, k1, k2, k3, k4, k5, k6, k7, k8, k9, l1, l2, l3, l4, l5, l6, l7, l8, l9, li21, nI_negE, nI_clamp, leN_F, or_false, false_or, not_false_eq_true, iv_mh1, Int32.le_refl]
      rfl
  | succ d ih =>
    intro k hk hak fuel hf
    cases fuel with
    | zero => omega
    | succ fuel =>
      have h3 := ih (k + 1) (by omega) (by omega) fuel (by omega)
      show lX9_leaves_24B _ _ _ _ _ = _
      obtain ⟨hk, r0, r1, r3, r4, r10, r11, r13, r14, r15, k1, k2, k3, k4, k5, k6, k7, k8, k9, l1, l2, l3, l4, l5, l6, l7, l8, l9⟩ := id hM
      have q0 : ∀ p c, rv (mh h m p c) m 0 = some (m + 1) := fun _ _ => r0
      have q1 : ∀ p c, rv (mh h m p c) m 1 = some (m + 2) := fun _ _ => r1
      have q3 : ∀ p c, rv (mh h m p c) m 3 = some (m + 3) := fun _ _ => r3
      have q4 : ∀ p c, rv (mh h m p c) m 4 = some (m + 4) := fun _ _ => r4
      have q10 : ∀ p c, rv (mh h m p c) m 10 = some (m + 5) := fun _ _ => r10
      have q11 : ∀ p c, rv (mh h m p c) m 11 = some (m + 6) := fun _ _ => r11
      have q13 : ∀ p c, rv (mh h m p c) m 13 = some (m + 7) := fun _ _ => r13
      have q14 : ∀ p c, rv (mh h m p c) m 14 = some (m + 8) := fun _ _ => r14
      have q15 : ∀ p c, rv (mh h m p c) m 15 = some (m + 9) := fun _ _ => r15
      simp (disch := omega) only [lX9_leaves_24B, ↓gd, ↓bl, ↓on, ↓xr, ↓reduceIte, if_true, if_false, kd_wI, ln_wI, rv_wI, iv_wI, jv_wI, kd_wJ, ln_wJ, rv_wJ, iv_wJ, nI_clamp, nI_leE, nI_ltE, nI_eqE, m1_ne, bit_0, bit_1, nI_negE, leN_F, leN_T, ltN_F, ltN_T, eqN_F, or_false, false_or, or_true, true_or, not_false_eq_true, not_true_eq_false, and_true, true_and, and_false, false_and, ↓bb (q0 _ _), ↓bb (q1 _ _), ↓bb (q3 _ _), ↓bb (q4 _ _), ↓bb (q10 _ _), ↓bb (q11 _ _), ↓bb (q13 _ _), ↓bb (q14 _ _), ↓bb (q15 _ _), kd_mh, ln_mh, rv_mh, ↓bb r0, ↓bb r1, ↓bb r3, ↓bb r4, ↓bb r10, ↓bb r11, ↓bb r13, ↓bb r14, ↓bb r15, hk, k1, k2, k3, k4, k5, k6, k7, k8, k9, l1, l2, l3, l4, l5, l6, l7, l8, l9, li21, li22, nI_add, nI_1, iv_mh1, mh_w1]
      rw [← h3]
      congr 2
      funext j
      simp only [upd_s]
      by_cases e : j = 22 + k
      · subst e
        simp (disch := omega) only [eqN_F, if_false, if_true, ltN_T, ltN_F, leN_T, and_true, true_and, and_false]
      · rw [if_neg e]
        by_cases e2 : j = 21
        · rw [if_pos e2, if_pos e2]
        · rw [if_neg e2, if_neg e2]
          have : (22 + a ≤ j ∧ j < 22 + k) = (22 + a ≤ j ∧ j < 22 + (k + 1)) := by simp; omega
          simp only [this]
theorem plF_ge {p : Nat → Int32} {t : Nat} : ∀ n, plF p t n = -1 ∨ ∃ a, a < n ∧ plF p t n = nI a ∧ p (22 + a) = nI t := by
  intro n
  induction n with
  | zero => exact Or.inl rfl
  | succ n ih =>
    unfold plF
    split
    · rename_i e; exact Or.inr ⟨n, by omega, rfl, e⟩
    · rcases ih with e | ⟨a, h1, h2, h3⟩
      · exact Or.inl e
      · exact Or.inr ⟨a, by omega, h2, h3⟩
/-- a task out of the order -/
def lvP (p : Nat → Int32) (t : Nat) : Nat → Int32 := if plF p t (p 21).toNatClampNeg = -1 then p else shP p ((p 21).toNatClampNeg - 1) (plF p t (p 21).toNatClampNeg).toNatClampNeg
theorem e9_leaves {h : AH} {m : Nat} (hM : MO h m) {t n : Nat} (p c : Nat → Int32) (hn : p 21 = nI n) (hn9 : n ≤ 10) (z : Nat) : fX9_leaves m (nI t) z (mh h m p c) = some (z, mh h m (lvP p t) c) := by
  have h1 := e9_placeOf hM (t := t) p c hn hn9 z
  unfold lvP
  rw [hn, nI_clamp (by omega)]
  obtain ⟨hk, r0, r1, r3, r4, r10, r11, r13, r14, r15, k1, k2, k3, k4, k5, k6, k7, k8, k9, l1, l2, l3, l4, l5, l6, l7, l8, l9⟩ := id hM
  have q0 : ∀ p c, rv (mh h m p c) m 0 = some (m + 1) := fun _ _ => r0
  have q1 : ∀ p c, rv (mh h m p c) m 1 = some (m + 2) := fun _ _ => r1
  have q3 : ∀ p c, rv (mh h m p c) m 3 = some (m + 3) := fun _ _ => r3
  have q4 : ∀ p c, rv (mh h m p c) m 4 = some (m + 4) := fun _ _ => r4
  have q10 : ∀ p c, rv (mh h m p c) m 10 = some (m + 5) := fun _ _ => r10
  have q11 : ∀ p c, rv (mh h m p c) m 11 = some (m + 6) := fun _ _ => r11
  have q13 : ∀ p c, rv (mh h m p c) m 13 = some (m + 7) := fun _ _ => r13
  have q14 : ∀ p c, rv (mh h m p c) m 14 = some (m + 8) := fun _ _ => r14
  have q15 : ∀ p c, rv (mh h m p c) m 15 = some (m + 9) := fun _ _ => r15
  rcases plF_ge (p := p) (t := t) n with e | ⟨a, ha, e, -⟩
  · simp (disch := omega) only [fX9_leaves, ↓gd, ↓bl, ↓on, ↓xr, ↓reduceIte, if_true, if_false, kd_wI, ln_wI, rv_wI, iv_wI, jv_wI, kd_wJ, ln_wJ, rv_wJ, iv_wJ, nI_clamp, nI_leE, nI_ltE, nI_eqE, m1_ne, bit_0, bit_1, nI_negE, leN_F, leN_T, ltN_F, ltN_T, eqN_F, or_false, false_or, or_true, true_or, not_false_eq_true, not_true_eq_false, and_true, true_and, and_false, false_and, kd_mh, hk, ↓bb3 h1, e]
  · have e1 : nI n - 1 = nI (n - 1) := by
      rw [show (1 : Int32) = nI 1 from rfl, pk_sub (by omega)]
    simp (disch := omega) only [fX9_leaves, ↓gd, ↓bl, ↓on, ↓xr, ↓reduceIte, if_true, if_false, kd_wI, ln_wI, rv_wI, iv_wI, jv_wI, kd_wJ, ln_wJ, rv_wJ, iv_wJ, nI_clamp, nI_leE, nI_ltE, nI_eqE, m1_ne, bit_0, bit_1, nI_negE, leN_F, leN_T, ltN_F, ltN_T, eqN_F, or_false, false_or, or_true, true_or, not_false_eq_true, not_true_eq_false, and_true, true_and, and_false, false_and, ↓bb (q0 _ _), ↓bb (q1 _ _), ↓bb (q3 _ _), ↓bb (q4 _ _), ↓bb (q10 _ _), ↓bb (q11 _ _), ↓bb (q13 _ _), ↓bb (q14 _ _), ↓bb (q15 _ _), kd_mh, ln_mh, rv_mh, ↓bb r0, ↓bb r1, ↓bb r3, ↓bb r4, ↓bb r10, ↓bb r11, ↓bb r13, ↓bb r14, ↓bb r15, hk, k1, k2, k3, k4, k5, k6, k7, k8, k9, l1, l2, l3, l4, l5, l6, l7, l8, l9, li21, ↓bb3 h1, e, iv_mh1, hn, mh_w1, e1]
    have h2 := e9_leave_loop hM (n := n - 1) (a := a) p c (by omega) (by omega) z (n - 1 - a) a (by omega) (by omega) fu (by unfold fu; omega)
    rw [← h2]
    congr 2
    funext j
    simp only [upd_s]
    split
    · rfl
    · rw [if_neg (by omega)]
