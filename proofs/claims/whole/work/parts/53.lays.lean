/-! the reference's view of who waits, among some tasks -/
def er (q : Nat → Int32) (am : Int32) (t : Nat) : Int32 := if bt am t then ng q t &&& am else 0
theorem MO_c {h h' : AH} {m : Nat} (e1 : h'.1 = h.1) (e2 : h'.2.2.2 = h.2.2.2) (hB : MO h m) : MO h' m := by
  unfold MO kd ln rv at hB ⊢
  rw [e1, e2]
  exact hB
def PL2 (m b : Nat) : Prop := b = m + 7 ∨ b = m + 8
theorem l9_in {m : Nat} (R : Nat → Int32) {v : Nat} (hv : v < 10) (qq : Nat → Int32 → Nat → AH → Option (Nat × AH)) (z : Nat) : ∀ (d k : Nat), k + d = 10 → ∀ (h : AH) (fuel : Nat), d < fuel → MO h m → agr (iv h (m + 8)) (wro R v k) →
    ∃ h', lX9_lays_62 qq fuel m (nI v) (nI k) z h = qq m (nI (v + 1)) z h' ∧ Fq (PL2 m) h h' ∧ iv h' (m + 7) = iv h (m + 7) ∧ agr (iv h' (m + 8)) (wro R v 10) := by
  intro d
  induction d with
  | zero =>
    intro k hk h fuel hf hM hR
    obtain rfl : k = 10 := by omega
    cases fuel with
    | zero => omega
    | succ fuel =>
      refine ⟨h, ?_, Fq.rf _ h, rfl, hR⟩
      show lX9_lays_62B _ _ _ _ _ _ _ = _
      simp (disch := omega) only [lX9_lays_62B, nI_leE, leN_T, ↓reduceIte, li10, nI_1]
  | succ d ih =>
    intro k hk h fuel hf hM hR
    cases fuel with
    | zero => omega
    | succ fuel =>
      have hF : Fq (PL2 m) h (wI h (m + 8) k (if bt (wro R v k k) v then wro R v k k ||| wro R v k v else wro R v k k)) := Fq.w h _ _ (Or.inr rfl)
      obtain ⟨h', v1, v2, v3, v4⟩ := ih (k + 1) (by omega) (wI h (m + 8) k (if bt (wro R v k k) v then wro R v k k ||| wro R v k v else wro R v k k)) fuel (by omega) (MO_c rfl rfl hM) (fun j hj => by
        show _ = wst (wro R v k) v k j
        unfold wst
        rw [upd_s, iv_wI, if_pos rfl, hR j hj])
      refine ⟨h', ?_, hF.tr v2, by rw [v3, iv_wI_ne _ _ _ (by omega)], v4⟩
      rw [← v1]
      have ek := hR k (by omega)
      have ev := hR v hv
      show lX9_lays_62B _ _ _ _ _ _ _ = _
      obtain ⟨hk, r0, r1, r3, r4, r10, r11, r13, r14, r15, k1, k2, k3, k4, k5, k6, k7, k8, k9, l1, l2, l3, l4, l5, l6, l7, l8, l9⟩ := id hM
      simp (disch := omega) only [lX9_lays_62B, bX9_lays_99, ↓brv_wI, ↓brv_wJ, ↓gd, ↓bl, ↓on, ↓xr, ↓reduceIte, if_true, if_false, kd_wI, ln_wI, rv_wI, iv_wI, jv_wI, kd_wJ, ln_wJ, rv_wJ, iv_wJ, nI_clamp, nI_leE, nI_ltE, nI_eqE, m1_ne, bit_0, bit_1, nI_negE, leN_F, leN_T, ltN_F, ltN_T, eqN_F, or_false, false_or, or_true, true_or, not_false_eq_true, not_true_eq_false, and_true, true_and, and_false, false_and, ↓bb r0, ↓bb r1, ↓bb r3, ↓bb r4, ↓bb r10, ↓bb r11, ↓bb r13, ↓bb r14, ↓bb r15, hk, k1, k2, k3, k4, k5, k6, k7, k8, k9, l1, l2, l3, l4, l5, l6, l7, l8, l9, li10, ek, ev, nI_1, or_0]
      cases hb : bt (wro R v k k) v <;> simp
theorem l9_out {m : Nat} (R : Nat → Int32) (z : Nat) : ∀ (d v : Nat), v + d = 10 → ∀ (h : AH) (fuel : Nat), d < fuel → MO h m → agr (iv h (m + 8)) (wal R v) →
    ∃ h', lX9_lays_54 fuel m (nI v) z h = some (z, h') ∧ Fq (PL2 m) h h' ∧ iv h' (m + 7) = iv h (m + 7) ∧ agr (iv h' (m + 8)) (rc R) := by
  intro d
  induction d with
  | zero =>
    intro v hk h fuel hf hM hR
    obtain rfl : v = 10 := by omega
    cases fuel with
    | zero => omega
    | succ fuel =>
      refine ⟨h, ?_, Fq.rf _ h, rfl, hR⟩
      show lX9_lays_54B _ _ _ _ _ = _
      simp (disch := omega) only [lX9_lays_54B, nI_leE, leN_T, ↓reduceIte, li10]
  | succ d ih =>
    intro v hk h fuel hf hM hR
    cases fuel with
    | zero => omega
    | succ fuel =>
      obtain ⟨h1, v1, v2, v3, v4⟩ := l9_in (wal R v) (v := v) (by omega) (lX9_lays_54 fuel) z 10 0 (by omega) h fu (by unfold fu; omega) hM hR
      obtain ⟨h', w1, w2, w3, w4⟩ := ih (v + 1) (by omega) h1 fuel (by omega) (MO_c v2.1 v2.2.1 hM) v4
      refine ⟨h', ?_, v2.tr w2, by rw [w3, v3], w4⟩
      rw [nI_0] at v1
      show lX9_lays_54B _ _ _ _ _ = _
      simp (disch := omega) only [lX9_lays_54B, nI_leE, leN_F, ↓reduceIte, li10, v1, w1]
theorem l9_nx {m : Nat} {q : Nat → Int32} (hW : WFr q) (hw : WFw q) (am : Int32) (z : Nat) : ∀ (d k : Nat), k + d = 10 → ∀ (h : AH) (fuel : Nat), d < fuel → MO h m → ps h m = q → (∀ j, j < k → iv h (m + 7) j = er q am j ∧ iv h (m + 8) j = er q am j) →
    ∃ h', lX9_lays_2 fuel m am (nI k) z h = some (z, h') ∧ Fq (PL2 m) h h' ∧ agr (iv h' (m + 7)) (er q am) ∧ agr (iv h' (m + 8)) (rc (er q am)) := by
  intro d
  induction d with
  | zero =>
    intro k hk h fuel hf hM hp hN
    obtain rfl : k = 10 := by omega
    cases fuel with
    | zero => omega
    | succ fuel =>
      obtain ⟨h', v1, v2, v3, v4⟩ := l9_out (er q am) z 10 0 (by omega) h fu (by unfold fu; omega) hM (fun j hj => (hN j hj).2)
      refine ⟨h', ?_, v2, by rw [v3]; exact fun j hj => (hN j hj).1, v4⟩
      rw [nI_0] at v1
      show lX9_lays_2B _ _ _ _ _ _ = _
      simp (disch := omega) only [lX9_lays_2B, nI_leE, leN_T, ↓reduceIte, li10, v1]
  | succ d ih =>
    intro k hk h fuel hf hM hp hN
    cases fuel with
    | zero => omega
    | succ fuel =>
      have x1 : fX9_waitsFor m (nI k) z h = some (ng q k, z, h) := by
        have := e9_waitsFor hM (by rw [hp]; exact hW) (by rw [hp]; exact hw) (t := k) (by omega) z
        rw [hp] at this
        exact this
      have hF : Fq (PL2 m) h (wI (wI h (m + 7) k (er q am k)) (m + 8) k (er q am k)) := (Fq.w h _ _ (Or.inl rfl)).tr (Fq.w _ _ _ (Or.inr rfl))
      obtain ⟨h', v1, v2, v3, v4⟩ := ih (k + 1) (by omega) (wI (wI h (m + 7) k (er q am k)) (m + 8) k (er q am k)) fuel (by omega) (MO_c rfl rfl hM) (by
        show iv _ (m + 1) = q
        rw [iv_wI_ne _ _ _ (by omega), iv_wI_ne _ _ _ (by omega)]; exact hp) (fun j hj => by
        rw [iv_wI_ne (b := m + 7) _ _ _ (by omega), iv_wI, if_pos rfl, iv_wI, if_pos rfl]
        by_cases e : j = k
        · subst e; simp
        · rw [if_neg e, if_neg e, iv_wI_ne (b := m + 8) _ _ _ (by omega)]; exact hN j (by omega))
      refine ⟨h', ?_, hF.tr v2, v3, v4⟩
      rw [← v1]
      show lX9_lays_2B _ _ _ _ _ _ = _
      obtain ⟨hk, r0, r1, r3, r4, r10, r11, r13, r14, r15, k1, k2, k3, k4, k5, k6, k7, k8, k9, l1, l2, l3, l4, l5, l6, l7, l8, l9⟩ := id hM
      cases hb : bt am k
      · have e1 : er q am k = 0 := by unfold er; rw [hb]; rfl
        simp (disch := omega) only [lX9_lays_2B, bX9_lays_33, ↓brv_wI, ↓brv_wJ, ↓gd, ↓bl, ↓on, ↓xr, ↓reduceIte, if_true, if_false, kd_wI, ln_wI, rv_wI, iv_wI, jv_wI, kd_wJ, ln_wJ, rv_wJ, iv_wJ, nI_clamp, nI_leE, nI_ltE, nI_eqE, m1_ne, bit_0, bit_1, nI_negE, leN_F, leN_T, ltN_F, ltN_T, eqN_F, or_false, false_or, or_true, true_or, not_false_eq_true, not_true_eq_false, and_true, true_and, and_false, false_and, ↓bb r0, ↓bb r1, ↓bb r3, ↓bb r4, ↓bb r10, ↓bb r11, ↓bb r13, ↓bb r14, ↓bb r15, hk, k1, k2, k3, k4, k5, k6, k7, k8, k9, l1, l2, l3, l4, l5, l6, l7, l8, l9, li10, hb, Bool.false_eq_true, nI_1, e1]
      · have e1 : er q am k = ng q k &&& am := by unfold er; rw [hb]; rfl
        simp (disch := omega) only [lX9_lays_2B, bX9_lays_33, ↓brv_wI, ↓brv_wJ, ↓gd, ↓bl, ↓on, ↓xr, ↓reduceIte, if_true, if_false, kd_wI, ln_wI, rv_wI, iv_wI, jv_wI, kd_wJ, ln_wJ, rv_wJ, iv_wJ, nI_clamp, nI_leE, nI_ltE, nI_eqE, m1_ne, bit_0, bit_1, nI_negE, leN_F, leN_T, ltN_F, ltN_T, eqN_F, or_false, false_or, or_true, true_or, not_false_eq_true, not_true_eq_false, and_true, true_and, and_false, false_and, ↓bb r0, ↓bb r1, ↓bb r3, ↓bb r4, ↓bb r10, ↓bb r11, ↓bb r13, ↓bb r14, ↓bb r15, hk, k1, k2, k3, k4, k5, k6, k7, k8, k9, l1, l2, l3, l4, l5, l6, l7, l8, l9, li10, hb, ↓bb3 x1, nI_1, e1]
theorem w9_lays {h : AH} {m : Nat} {q : Nat → Int32} (hM : MO h m) (hp : ps h m = q) (hW : WFr q) (hw : WFw q) (am : Int32) (z : Nat) : ∃ h', fX9_lays m am z h = some (z, h') ∧ Fq (PL2 m) h h' ∧ agr (iv h' (m + 7)) (er q am) ∧ agr (iv h' (m + 8)) (rc (er q am)) := by
  obtain ⟨h', v1, v2, v3⟩ := l9_nx hW hw am z 10 0 (by omega) h fu (by unfold fu; omega) hM hp (fun j hj => by omega)
  rw [nI_0] at v1
  exact ⟨h', v1, v2, v3⟩
theorem and_bit (r : Int32) (k : Nat) (hk : k < 32) : r &&& ((1 : Int32) <<< (nI k &&& 31)) = if bt r k then (1 : Int32) <<< (nI k &&& 31) else 0 := by
  refine b_ext (fun i hi => ?_)
  rw [b_and, bt_pow k hk]
  by_cases e : i = k
  · subst e
    cases hb : bt r i
    · simp [b_0]
    · simp [bt_pow i hk]
  · cases hb : bt r k
    · simp [e, b_0]
    · simp [e, bt_pow k hk]
theorem c9_loop {h : AH} {m : Nat} (hM : MO h m) {R : Nat → Int32} (hR : agr (iv h (m + 8)) R) (z : Nat) : ∀ (d k : Nat), k + d = 10 → ∀ fuel, d < fuel → lX9_cyclic_9 fuel m (mk k (fun t => bt (R t) t)) (nI k) z h = some (og R, z, h) := by
  intro d
  induction d with
  | zero =>
    intro k hk fuel hf
    obtain rfl : k = 10 := by omega
    cases fuel with
    | zero => omega
    | succ fuel =>
      show lX9_cyclic_9B _ _ _ _ _ _ = _
      simp (disch := omega) only [lX9_cyclic_9B, nI_leE, leN_T, ↓reduceIte, li10]
      rfl
  | succ d ih =>
    intro k hk fuel hf
    cases fuel with
    | zero => omega
    | succ fuel =>
      have h3 := ih (k + 1) (by omega) fuel (by omega)
      rw [mk_s] at h3
      have ek := hR k (by omega)
      show lX9_cyclic_9B _ _ _ _ _ _ = _
      obtain ⟨hk, r0, r1, r3, r4, r10, r11, r13, r14, r15, k1, k2, k3, k4, k5, k6, k7, k8, k9, l1, l2, l3, l4, l5, l6, l7, l8, l9⟩ := id hM
      simp (disch := omega) only [lX9_cyclic_9B, ↓brv_wI, ↓brv_wJ, ↓gd, ↓bl, ↓on, ↓xr, ↓reduceIte, if_true, if_false, kd_wI, ln_wI, rv_wI, iv_wI, jv_wI, kd_wJ, ln_wJ, rv_wJ, iv_wJ, nI_clamp, nI_leE, nI_ltE, nI_eqE, m1_ne, bit_0, bit_1, nI_negE, leN_F, leN_T, ltN_F, ltN_T, eqN_F, or_false, false_or, or_true, true_or, not_false_eq_true, not_true_eq_false, and_true, true_and, and_false, false_and, ↓bb r0, ↓bb r1, ↓bb r3, ↓bb r4, ↓bb r10, ↓bb r11, ↓bb r13, ↓bb r14, ↓bb r15, hk, k1, k2, k3, k4, k5, k6, k7, k8, k9, l1, l2, l3, l4, l5, l6, l7, l8, l9, li10, ek, and_bit, nI_1]
      rw [← h3]
      congr 1
      cases hb : bt (R k) k
      · simp [or_0]
      · simp
theorem w9_cyclic {h : AH} {m : Nat} {q : Nat → Int32} (hM : MO h m) (hp : ps h m = q) (hW : WFr q) (hw : WFw q) (am : Int32) (z : Nat) : ∃ h', fX9_cyclic m am z h = some (og (rc (er q am)), z, h') ∧ Fq (PL2 m) h h' ∧ agr (iv h' (m + 7)) (er q am) ∧ agr (iv h' (m + 8)) (rc (er q am)) := by
  obtain ⟨h', v1, v2, v3, v4⟩ := w9_lays hM hp hW hw am z
  refine ⟨h', ?_, v2, v3, v4⟩
  have hk := hM.1
  have x1 := c9_loop (MO_c v2.1 v2.2.1 hM) v4 z 10 0 (by omega) fu (by unfold fu; omega)
  rw [nI_0] at x1
  simp only [fX9_cyclic, ↓gd, ↓reduceIte, hk, ↓bb2 v1]
  exact x1
theorem b_1023 : ∀ i, i < 32 → bt 1023 i = decide (i < 10) := by decide +kernel
theorem er_all (q : Nat → Int32) : agr (er q 1023) (ng q) := fun j hj => by
  unfold er
  rw [b_1023 j (by omega), if_pos (by simp [hj])]
  unfold ng
  refine b_ext (fun i hi => ?_)
  rw [b_and, b_1023 i hi, bt_mk 10 _ (by omega)]
  by_cases e : i < 10 <;> simp [e]
theorem wf_nord {p q : Nat → Int32} (h : nord p q) (hW : WFr p) (hw : WFw p) {t : Nat} (ht : t < 10) (k : Nat) : wf p t k = wf q t k := by
  unfold wf
  rw [← wt_nord h]
  cases e : wt p t
  · rw [Bool.false_and, Bool.false_and]
  · rw [← wan_nord h, way_nord h hW (hw t ht e).1]
theorem ng_nord {p q : Nat → Int32} (h : nord p q) (hW : WFr p) (hw : WFw p) : agr (ng p) (ng q) := fun t ht => mk_congr (fun k _ => wf_nord h hW hw ht k)
theorem rc_a {R S : Nat → Int32} (h : agr R S) : agr (rc R) (rc S) := wal_a h 10 (by omega)
theorem og_a {R S : Nat → Int32} (h : agr R S) : og R = og S := mk_congr (fun k hk => by rw [h k hk])
