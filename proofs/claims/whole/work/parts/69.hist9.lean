/-! the reference as a whole -/
def cut (P : Nat → Int32) (i : Nat) : Nat → Int32 := fun j => if j < 613 then P (613 * i + j) else 0
def PH (P : Nat → Int32) (H : List Rec) : Prop := ∀ i r, H[i]? = some r → RF (cut P i) r.1 r.2
def RI (h : AH) (m : Nat) (A : TS) : Prop :=
  MO h m ∧ RF (iv h (m + 1)) A.1.1.1 A.1.1.2.1 ∧ iv h (m + 3) = A.1.1.2.2 ∧ LM h m A.1.2 ∧ iv h m 2 = nI A.2.1.length ∧ A.2.1.length ≤ 5 ∧ PH (iv h (m + 2)) A.2.1 ∧ iv h m 5 = nI A.2.2.length ∧ A.2.2.length ≤ 120 ∧ ∀ i c, A.2.2[i]? = some c → iv h (m + 4) i = nI c
theorem RI_x {h h' : AH} {m : Nat} {A : TS} (e : ∀ b, m ≤ b ∧ b < m + 10 → sc h h' b) (hR : RI h m A) : RI h' m A := by
  obtain ⟨r1, r2, r3, r4, r5, r6, r7, r8, r9, r10⟩ := hR
  have e0 := sc_iv (e m (by omega))
  have e1 := sc_iv (e (m + 1) (by omega))
  have e2 := sc_iv (e (m + 2) (by omega))
  have e3 := sc_iv (e (m + 3) (by omega))
  have e4 := sc_iv (e (m + 4) (by omega))
  refine ⟨MO_x e r1, by rw [e1]; exact r2, by rw [e3]; exact r3, ?_, by rw [e0]; exact r5, r6, by rw [e2]; exact r7, by rw [e0]; exact r8, r9, by rw [e4]; exact r10⟩
  unfold LM
  rw [e0]
  exact r4
def PR (m b : Nat) : Prop := m ≤ b ∧ b < m + 10
/-- a step of the reference on its state -/
theorem RI_op {h h' : AH} {m : Nat} {w w' : Ac} {H : List Rec} {T : List Nat} {p' : Nat → Int32} (hR : RI h m (w, H, T)) (hF : Fm m h h') (h1 : RF p' w'.1.1 w'.1.2.1) (h2 : LM h' m w'.2) : RI (mh h' m p' w'.1.2.2) m (w', H, T) := by
  obtain ⟨r1, r2, r3, r4, r5, r6, r7, r8, r9, r10⟩ := hR
  have g : ∀ b, b ≠ m + 1 → b ≠ m + 3 → iv (mh h' m p' w'.1.2.2) b = iv h' b := fun b b1 b3 => iv_mh _ _ _ _ b1 b3
  refine ⟨MO_mh (hF.M r1) _ _, by rw [iv_mh1]; exact h1, iv_mh3 _ _ _ _, ?_, ?_, r6, ?_, ?_, r9, ?_⟩
  · unfold LM
    rw [g m (by omega) (by omega)]
    exact h2
  · rw [g m (by omega) (by omega), hF.2 2 (by omega) (by omega) (by omega) (by omega)]; exact r5
  · rw [g (m + 2) (by omega) (by omega), iv_F hF.1 (by unfold PN; omega)]; exact r7
  · rw [g m (by omega) (by omega), hF.2 5 (by omega) (by omega) (by omega) (by omega)]; exact r8
  · rw [g (m + 4) (by omega) (by omega), iv_F hF.1 (by unfold PN; omega)]; exact r10
theorem RI_mh {h : AH} {m : Nat} {A : TS} (hR : RI h m A) : h = mh h m (iv h (m + 1)) A.1.1.2.2 := by
  rw [← hR.2.2.1, mh_id]
theorem Fq_mh {h h' : AH} {m : Nat} {p p' c c' : Nat → Int32} (hF : Fm m h h') : Fq (PR m) (mh h m p c) (mh h' m p' c') :=
  ⟨hF.1.1, hF.1.2.1, fun b hb => by
    have hb1 : b ≠ m + 1 ∧ b ≠ m + 3 ∧ ¬ PN m b := by unfold PR at hb; unfold PN; omega
    refine ⟨?_, (hF.1.2.2 b hb1.2.2).2⟩
    exact ((iv_mh h' m p' c' hb1.1 hb1.2.1).trans (hF.1.2.2 b hb1.2.2).1).trans (iv_mh h m p c hb1.1 hb1.2.1).symm⟩
theorem li2452 : (2452 : Int32) = nI 2452 := rfl
theorem bg_loop {m : Nat} (z : Nat) : ∀ (d k : Nat), k + d = 613 → ∀ (h : AH) (fuel : Nat), d < fuel → MO h m → (∀ j, j < k → iv h (m + 5) j = iv h (m + 1) j) →
    ∃ h', lX9_begins_2 fuel m (nI k) z h = some (z, h') ∧ Fq (fun b => b = m + 5) h h' ∧ ∀ j, j < 613 → iv h' (m + 5) j = iv h (m + 1) j := by
  intro d
  induction d with
  | zero =>
    intro k hk h fuel hf hM hP
    obtain rfl : k = 613 := by omega
    cases fuel with
    | zero => omega
    | succ fuel =>
      refine ⟨h, ?_, Fq.rf _ h, hP⟩
      show lX9_begins_2B _ _ _ _ _ = _
      simp (disch := omega) only [lX9_begins_2B, li613, Int32.le_refl, ↓reduceIte]
  | succ d ih =>
    intro k hk h fuel hf hM hP
    cases fuel with
    | zero => omega
    | succ fuel =>
      obtain ⟨h', v1, v2, v3⟩ := ih (k + 1) (by omega) (wI h (m + 5) k (iv h (m + 1) k)) fuel (by omega) (MO_c rfl rfl hM) (fun j hj => by
        rw [iv_wI, if_pos rfl, iv_wI_ne _ _ _ (by omega)]
        by_cases e : j = k
        · rw [if_pos e, e]
        · rw [if_neg e]; exact hP j (by omega))
      refine ⟨h', ?_, (Fq.w (P := fun b => b = m + 5) h _ _ rfl).tr v2, fun j hj => by rw [v3 j hj, iv_wI_ne _ _ _ (by omega)]⟩
      rw [← v1]
      show lX9_begins_2B _ _ _ _ _ = _
      obtain ⟨hk, r0, r1, r3, r4, r10, r11, r13, r14, r15, k1, k2, k3, k4, k5, k6, k7, k8, k9, l1, l2, l3, l4, l5, l6, l7, l8, l9⟩ := id hM
      simp (disch := omega) only [lX9_begins_2B, ↓brv_wI, ↓brv_wJ, ↓gd, ↓bl, ↓on, ↓xr, ↓reduceIte, if_true, if_false, kd_wI, ln_wI, rv_wI, iv_wI, jv_wI, kd_wJ, ln_wJ, rv_wJ, iv_wJ, nI_clamp, nI_leE, nI_ltE, nI_eqE, m1_ne, bit_0, bit_1, nI_negE, leN_F, leN_T, ltN_F, ltN_T, eqN_F, or_false, false_or, or_true, true_or, not_false_eq_true, not_true_eq_false, and_true, true_and, and_false, false_and, ↓bb r0, ↓bb r1, ↓bb r3, ↓bb r4, ↓bb r10, ↓bb r11, ↓bb r13, ↓bb r14, ↓bb r15, hk, k1, k2, k3, k4, k5, k6, k7, k8, k9, l1, l2, l3, l4, l5, l6, l7, l8, l9, li613, nI_1]
theorem rc_loop {m n : Nat} (hn : n < 5) (z : Nat) : ∀ (d k : Nat), k + d = 613 → ∀ (h : AH) (fuel : Nat), d < fuel → MO h m → iv h m 2 = nI n → (∀ j, j < k → iv h (m + 2) (613 * n + j) = iv h (m + 5) j) →
    ∃ h', lX9_records_51 fuel m (nI k) z h = some (z, h') ∧ Fq (fun b => b = m ∨ b = m + 2) h h' ∧ (∀ j, j ≠ 2 → iv h' m j = iv h m j) ∧ iv h' m 2 = nI (n + 1) ∧ (∀ j, j < 613 * n → iv h' (m + 2) j = iv h (m + 2) j) ∧ ∀ j, j < 613 → iv h' (m + 2) (613 * n + j) = iv h (m + 5) j := by
  intro d
  induction d with
  | zero =>
    intro k hk h fuel hf hM h2 hP
    obtain rfl : k = 613 := by omega
    cases fuel with
    | zero => omega
    | succ fuel =>
      have hk0 := hM.1
      refine ⟨wI h m 2 (nI (n + 1)), ?_, Fq.w h _ _ (Or.inl rfl), fun j hj => by rw [iv_wI, if_pos rfl, if_neg hj], by rw [iv_wI, if_pos rfl, if_pos rfl], fun j hj => by rw [iv_wI_ne _ _ _ (by omega)], fun j hj => by rw [iv_wI_ne _ _ _ (by omega)]; exact hP j hj⟩
      show lX9_records_51B _ _ _ _ _ = _
      simp (disch := omega) only [lX9_records_51B, li613, Int32.le_refl, ↓reduceIte, ↓gd, ↓bl, hk0, h2, nI_1]
  | succ d ih =>
    intro k hk h fuel hf hM h2 hP
    cases fuel with
    | zero => omega
    | succ fuel =>
      obtain ⟨h', v1, v2, v3, v4, v5, v6⟩ := ih (k + 1) (by omega) (wI h (m + 2) (613 * n + k) (iv h (m + 5) k)) fuel (by omega) (MO_c rfl rfl hM) (by rw [iv_wI_ne _ _ _ (by omega)]; exact h2) (fun j hj => by
        rw [iv_wI, if_pos rfl, iv_wI_ne _ _ _ (by omega)]
        by_cases e : j = k
        · rw [if_pos (by omega), e]
        · rw [if_neg (by omega)]; exact hP j (by omega))
      refine ⟨h', ?_, (Fq.w h _ _ (Or.inr rfl)).tr v2, fun j hj => by rw [v3 j hj, iv_wI_ne _ _ _ (by omega)], v4, fun j hj => by rw [v5 j hj, iv_wI, if_pos rfl, if_neg (by omega)], fun j hj => by rw [v6 j hj, iv_wI_ne _ _ _ (by omega)]⟩
      rw [← v1]
      have em : (613 : Int32) * nI n + nI k = nI (613 * n + k) := by rw [li613, pk_mul, nI_add]
      have e6 : (613 : Int32) ≤ nI k ↔ False := by rw [li613, nI_leE (by omega) (by omega)]; simp; omega
      show lX9_records_51B _ _ _ _ _ = _
      obtain ⟨hk, r0, r1, r3, r4, r10, r11, r13, r14, r15, k1, k2, k3, k4, k5, k6, k7, k8, k9, l1, l2, l3, l4, l5, l6, l7, l8, l9⟩ := id hM
      simp (disch := omega) only [lX9_records_51B, ↓brv_wI, ↓brv_wJ, ↓gd, ↓bl, ↓on, ↓xr, ↓reduceIte, if_true, if_false, kd_wI, ln_wI, rv_wI, iv_wI, jv_wI, kd_wJ, ln_wJ, rv_wJ, iv_wJ, nI_clamp, nI_leE, nI_ltE, nI_eqE, m1_ne, bit_0, bit_1, nI_negE, leN_F, leN_T, ltN_F, ltN_T, eqN_F, or_false, false_or, or_true, true_or, not_false_eq_true, not_true_eq_false, and_true, true_and, and_false, false_and, ↓bb r0, ↓bb r1, ↓bb r3, ↓bb r4, ↓bb r10, ↓bb r11, ↓bb r13, ↓bb r14, ↓bb r15, hk, k1, k2, k3, k4, k5, k6, k7, k8, k9, l1, l2, l3, l4, l5, l6, l7, l8, l9, e6, h2, em, nI_1]
theorem sh_loop {m : Nat} (z : Nat) (P : Nat → Int32) : ∀ (d k : Nat), k + d = 2452 → ∀ (h : AH) (fuel : Nat), d < fuel → MO h m → iv h m 2 = nI 5 → (∀ j, j < k → iv h (m + 2) j = P (j + 613)) → (∀ j, k ≤ j → iv h (m + 2) j = P j) →
    ∃ h', lX9_records_10 fuel m (nI k) z h = bX9_records_49 m z h' ∧ Fq (fun b => b = m ∨ b = m + 2) h h' ∧ (∀ j, j ≠ 2 → iv h' m j = iv h m j) ∧ iv h' m 2 = nI 4 ∧ ∀ j, j < 2452 → iv h' (m + 2) j = P (j + 613) := by
  intro d
  induction d with
  | zero =>
    intro k hk h fuel hf hM h2 hP hP2
    obtain rfl : k = 2452 := by omega
    cases fuel with
    | zero => omega
    | succ fuel =>
      have hk0 := hM.1
      have e1 : nI 5 - 1 = nI 4 := by decide
      refine ⟨wI h m 2 (nI 4), ?_, Fq.w h _ _ (Or.inl rfl), fun j hj => by rw [iv_wI, if_pos rfl, if_neg hj], by rw [iv_wI, if_pos rfl, if_pos rfl], fun j hj => by rw [iv_wI_ne _ _ _ (by omega)]; exact hP j hj⟩
      show lX9_records_10B _ _ _ _ _ = _
      simp (disch := omega) only [lX9_records_10B, li2452, Int32.le_refl, ↓reduceIte, ↓gd, ↓bl, hk0, h2, e1]
  | succ d ih =>
    intro k hk h fuel hf hM h2 hP hP2
    cases fuel with
    | zero => omega
    | succ fuel =>
      obtain ⟨h', v1, v2, v3, v4, v5⟩ := ih (k + 1) (by omega) (wI h (m + 2) k (iv h (m + 2) (k + 613))) fuel (by omega) (MO_c rfl rfl hM) (by rw [iv_wI_ne _ _ _ (by omega)]; exact h2) (fun j hj => by
        rw [iv_wI, if_pos rfl]
        by_cases e : j = k
        · rw [if_pos e, e, hP2 _ (by omega)]
        · rw [if_neg e]; exact hP j (by omega)) (fun j hj => by rw [iv_wI, if_pos rfl, if_neg (by omega)]; exact hP2 j (by omega))
      refine ⟨h', ?_, (Fq.w h _ _ (Or.inr rfl)).tr v2, fun j hj => by rw [v3 j hj, iv_wI_ne _ _ _ (by omega)], v4, v5⟩
      rw [← v1]
      show lX9_records_10B _ _ _ _ _ = _
      obtain ⟨hk, r0, r1, r3, r4, r10, r11, r13, r14, r15, k1, k2, k3, k4, k5, k6, k7, k8, k9, l1, l2, l3, l4, l5, l6, l7, l8, l9⟩ := id hM
      simp (disch := omega) only [lX9_records_10B, ↓brv_wI, ↓brv_wJ, ↓gd, ↓bl, ↓on, ↓xr, ↓reduceIte, if_true, if_false, kd_wI, ln_wI, rv_wI, iv_wI, jv_wI, kd_wJ, ln_wJ, rv_wJ, iv_wJ, nI_clamp, nI_leE, nI_ltE, nI_eqE, m1_ne, bit_0, bit_1, nI_negE, leN_F, leN_T, ltN_F, ltN_T, eqN_F, or_false, false_or, or_true, true_or, not_false_eq_true, not_true_eq_false, and_true, true_and, and_false, false_and, ↓bb r0, ↓bb r1, ↓bb r3, ↓bb r4, ↓bb r10, ↓bb r11, ↓bb r13, ↓bb r14, ↓bb r15, hk, k1, k2, k3, k4, k5, k6, k7, k8, k9, l1, l2, l3, l4, l5, l6, l7, l8, l9, li2452, li613, nI_add, nI_1]
/-- beyond the row there is nothing -/
def Zq (q : Nat → Int32) : Prop := ∀ j, 613 ≤ j → q j = 0
theorem RF_cut {p q : Nat → Int32} {P : Nat → Int32} {L : List Nat} {i : Nat} (hZ : Zq q) (hR : RF p q L) (e : ∀ j, j < 613 → P (613 * i + j) = p j) : RF (cut P i) q L := by
  have en : ∀ j, cut P i j = p j := fun j => by
    unfold cut
    by_cases h : j < 613
    · rw [if_pos h, e j h]
    · rw [if_neg h, hR.1 j (by omega), hZ j (by omega)]
  rw [show cut P i = p from funext en]
  exact hR
theorem w9_begins {h : AH} {m : Nat} {A : TS} (hZ : Zq A.1.1.1) (hR : RI h m A) (z : Nat) : ∃ h', fX9_begins m z h = some (z, h') ∧ RI h' m A ∧ Fq (PR m) h h' ∧ iv h' m = iv h m ∧ RF (cut (iv h' (m + 5)) 0) A.1.1.1 A.1.1.2.1 := by
  obtain ⟨h', v1, v2, v3⟩ := bg_loop z 613 0 (by omega) h fu (by unfold fu; omega) hR.1 (fun j hj => by omega)
  rw [nI_0] at v1
  refine ⟨h', v1, ?_, v2.mono (fun b hb => by unfold PR; omega), iv_F v2 (by omega), RF_cut hZ hR.2.1 (fun j hj => by rw [show 613 * 0 + j = j by omega]; exact v3 j hj)⟩
  obtain ⟨r1, r2, r3, r4, r5, r6, r7, r8, r9, r10⟩ := hR
  have g : ∀ b, b ≠ m + 5 → iv h' b = iv h b := fun b hb => iv_F v2 hb
  refine ⟨MO_c v2.1 v2.2.1 r1, by rw [g _ (by omega)]; exact r2, by rw [g _ (by omega)]; exact r3, ?_, by rw [g _ (by omega)]; exact r5, r6, by rw [g _ (by omega)]; exact r7, by rw [g _ (by omega)]; exact r8, r9, by rw [g _ (by omega)]; exact r10⟩
  unfold LM
  rw [g _ (by omega)]
  exact r4
theorem w9_records {h : AH} {m : Nat} {w : Ac} {H : List Rec} {T : List Nat} {r : Rec} (hR : RI h m (w, H, T)) (hb : RF (cut (iv h (m + 5)) 0) r.1 r.2) (z : Nat) : ∃ h', fX9_records m z h = some (z, h') ∧ RI h' m (w, pushH H r, T) ∧ Fq (PR m) h h' ∧ iv h' (m + 1) = iv h (m + 1) ∧ ∀ j, j ≠ 2 → iv h' m j = iv h m j := by
  have key : ∀ (g : AH) (G : List Rec), G.length < 5 → MO g m → iv g m 2 = nI G.length → Fq (PR m) h g → (∀ j, j ≠ 2 → iv g m j = iv h m j) → (∀ b, b ≠ m → b ≠ m + 2 → iv g b = iv h b) → PH (iv g (m + 2)) G →
      ∃ h', bX9_records_49 m z g = some (z, h') ∧ RI h' m (w, G ++ [r], T) ∧ Fq (PR m) h h' ∧ iv h' (m + 1) = iv h (m + 1) ∧ ∀ j, j ≠ 2 → iv h' m j = iv h m j := by
    intro g G hG hM h2 hF h0 hrest hPH
    obtain ⟨h', v1, v2, v3, v4, v5, v6⟩ := rc_loop hG z 613 0 (by omega) g fu (by unfold fu; omega) hM h2 (fun j hj => by omega)
    rw [nI_0] at v1
    obtain ⟨r1, r2, r3, r4, r5, r6, r7, r8, r9, r10⟩ := hR
    have gg : ∀ b, b ≠ m → b ≠ m + 2 → iv h' b = iv h b := fun b b1 b2 => (iv_F v2 (by omega)).trans (hrest b b1 b2)
    have g0 : ∀ j, j ≠ 2 → iv h' m j = iv h m j := fun j hj => (v3 j hj).trans (h0 j hj)
    have hl : (G ++ [r]).length = G.length + 1 := by rw [List.length_append]; rfl
    refine ⟨h', v1, ⟨MO_c v2.1 v2.2.1 hM, by rw [gg _ (by omega) (by omega)]; exact r2, by rw [gg _ (by omega) (by omega)]; exact r3, ?_, by rw [v4]; show _ = nI (G ++ [r]).length; rw [hl], by show (G ++ [r]).length ≤ 5; omega, fun i r' hr => ?_, by rw [g0 5 (by omega)]; exact r8, r9, by rw [gg _ (by omega) (by omega)]; exact r10⟩, hF.tr (v2.mono (fun b hb => by unfold PR; omega)), gg _ (by omega) (by omega), g0⟩
    · unfold LM
      rw [g0 7 (by omega), g0 8 (by omega), g0 9 (by omega)]
      exact r4
    · have hr : (G ++ [r])[i]? = some r' := hr
      have hi := (List.getElem?_eq_some_iff.mp hr).1
      by_cases e : i < G.length
      · rw [List.getElem?_append_left e] at hr
        have e1 : cut (iv h' (m + 2)) i = cut (iv g (m + 2)) i := by
          funext j
          unfold cut
          by_cases hj : j < 613
          · rw [if_pos hj, if_pos hj, v5 _ (by
              have : 613 * (i + 1) ≤ 613 * G.length := Nat.mul_le_mul_left 613 e
              omega)]
          · rw [if_neg hj, if_neg hj]
        rw [e1]
        exact hPH i r' hr
      · obtain rfl : i = G.length := by omega
        simp at hr
        subst hr
        have e1 : cut (iv h' (m + 2)) G.length = cut (iv h (m + 5)) 0 := by
          funext j
          unfold cut
          by_cases hj : j < 613
          · rw [if_pos hj, if_pos hj, v6 j hj, hrest _ (by omega) (by omega), show 613 * 0 + j = j by omega]
          · rw [if_neg hj, if_neg hj]
        rw [e1]
        exact hb
  have r5 : iv h m 2 = nI H.length := hR.2.2.2.2.1
  have r6 : H.length ≤ 5 := hR.2.2.2.2.2.1
  have hk0 := hR.1.1
  unfold pushH
  by_cases e : H.length = 5
  · rw [if_pos e]
    rw [e] at r5
    obtain ⟨h1, v1, v2, v3, v4, v5⟩ := sh_loop (m := m) z (iv h (m + 2)) 2452 0 (by omega) h fu (by unfold fu; omega) hR.1 r5 (fun j hj => by omega) (fun j _ => rfl)
    rw [nI_0] at v1
    have hl : H.tail.length = 4 := by rw [List.length_tail]; omega
    obtain ⟨h', u1, u2⟩ := key h1 H.tail (by omega) (MO_c v2.1 v2.2.1 hR.1) (by rw [hl]; exact v4) (v2.mono (fun b hb => by unfold PR; omega)) v3 (fun b b1 b2 => iv_F v2 (by omega)) (fun i r' hr => by
      have hi := (List.getElem?_eq_some_iff.mp hr).1
      rw [List.getElem?_tail] at hr
      have e1 : cut (iv h1 (m + 2)) i = cut (iv h (m + 2)) (i + 1) := by
        funext j
        unfold cut
        by_cases hj : j < 613
        · rw [if_pos hj, if_pos hj, v5 _ (by omega), show 613 * i + j + 613 = 613 * (i + 1) + j by omega]
        · rw [if_neg hj, if_neg hj]
      rw [e1]
      exact hR.2.2.2.2.2.2.1 (i + 1) r' hr)
    refine ⟨h', ?_, u2⟩
    have e5 : (nI 5 = 5) = True := eq_true rfl
    simp (disch := omega) only [fX9_records, ↓gd, ↓reduceIte, hk0, r5, e5]
    rw [v1, u1]
  · rw [if_neg e]
    obtain ⟨h', u1, u2⟩ := key h H (by omega) hR.1 r5 (Fq.rf _ h) (fun _ _ => rfl) (fun _ _ _ => rfl) hR.2.2.2.2.2.2.1
    refine ⟨h', ?_, u2⟩
    have e5 : (nI H.length = 5) = False := eq_false (by rw [li5, nI_eqE (by omega) (by omega)]; exact e)
    simp (disch := omega) only [fX9_records, ↓gd, ↓reduceIte, hk0, r5, e5]
    exact u1
theorem ud_loop {m n : Nat} (hn : n < 5) (z : Nat) : ∀ (d k : Nat), k + d = 613 → ∀ (h : AH) (fuel : Nat), d < fuel → MO h m → iv h m 2 = nI n → (∀ j, j < k → iv h (m + 1) j = iv h (m + 2) (613 * n + j)) →
    ∃ h', lX9_undo_37 fuel m (nI k) z h = some (nI n, z, h') ∧ Fq (fun b => b = m + 1) h h' ∧ (∀ j, j < 613 → iv h' (m + 1) j = iv h (m + 2) (613 * n + j)) ∧ ∀ j, 613 ≤ j → iv h' (m + 1) j = iv h (m + 1) j := by
  intro d
  induction d with
  | zero =>
    intro k hk h fuel hf hM h2 hP
    obtain rfl : k = 613 := by omega
    cases fuel with
    | zero => omega
    | succ fuel =>
      have hk0 := hM.1
      refine ⟨h, ?_, Fq.rf _ h, hP, fun _ _ => rfl⟩
      show lX9_undo_37B _ _ _ _ _ = _
      simp (disch := omega) only [lX9_undo_37B, li613, Int32.le_refl, ↓reduceIte, ↓gd, hk0, h2]
  | succ d ih =>
    intro k hk h fuel hf hM h2 hP
    cases fuel with
    | zero => omega
    | succ fuel =>
      obtain ⟨h', v1, v2, v3, v4⟩ := ih (k + 1) (by omega) (wI h (m + 1) k (iv h (m + 2) (613 * n + k))) fuel (by omega) (MO_c rfl rfl hM) (by rw [iv_wI_ne _ _ _ (by omega)]; exact h2) (fun j hj => by
        rw [iv_wI, if_pos rfl, iv_wI_ne _ _ _ (by omega)]
        by_cases e : j = k
        · rw [if_pos e, e]
        · rw [if_neg e]; exact hP j (by omega))
      refine ⟨h', ?_, (Fq.w (P := fun b => b = m + 1) h _ _ rfl).tr v2, fun j hj => by rw [v3 j hj, iv_wI_ne _ _ _ (by omega)], fun j hj => by rw [v4 j hj, iv_wI, if_pos rfl, if_neg (by omega)]⟩
      rw [← v1]
      have em : (613 : Int32) * nI n + nI k = nI (613 * n + k) := by rw [li613, pk_mul, nI_add]
      have e6 : (613 : Int32) ≤ nI k ↔ False := by rw [li613, nI_leE (by omega) (by omega)]; simp; omega
      show lX9_undo_37B _ _ _ _ _ = _
      obtain ⟨hk, r0, r1, r3, r4, r10, r11, r13, r14, r15, k1, k2, k3, k4, k5, k6, k7, k8, k9, l1, l2, l3, l4, l5, l6, l7, l8, l9⟩ := id hM
      simp (disch := omega) only [lX9_undo_37B, ↓brv_wI, ↓brv_wJ, ↓gd, ↓bl, ↓on, ↓xr, ↓reduceIte, if_true, if_false, kd_wI, ln_wI, rv_wI, iv_wI, jv_wI, kd_wJ, ln_wJ, rv_wJ, iv_wJ, nI_clamp, nI_leE, nI_ltE, nI_eqE, m1_ne, bit_0, bit_1, nI_negE, leN_F, leN_T, ltN_F, ltN_T, eqN_F, or_false, false_or, or_true, true_or, not_false_eq_true, not_true_eq_false, and_true, true_and, and_false, false_and, ↓bb r0, ↓bb r1, ↓bb r3, ↓bb r4, ↓bb r10, ↓bb r11, ↓bb r13, ↓bb r14, ↓bb r15, hk, k1, k2, k3, k4, k5, k6, k7, k8, k9, l1, l2, l3, l4, l5, l6, l7, l8, l9, e6, h2, em, nI_1]
