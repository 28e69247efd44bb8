/-! wouldEnd -/
def fiA (s : Ab) (t : Nat) : Ab := seA (dsP s.1 t, s.2.1, s.2.2)
def weA : Nat → Ab → Nat × Ab
  | 0, s => (0, s)
  | n + 1, s => if ff (ru s.1) 0 10 = 10 then (0, s) else ((weA n (fiA s (ff (ru s.1) 0 10))).1 + 1, (weA n (fiA s (ff (ru s.1) 0 10))).2)
theorem weA_s (n : Nat) (s : Ab) : weA (n + 1) s = if ff (ru s.1) 0 10 = 10 then (0, s) else ((weA n (fiA s (ff (ru s.1) 0 10))).1 + 1, (weA n (fiA s (ff (ru s.1) 0 10))).2) := rfl
theorem weA_le : ∀ n s, (weA n s).1 ≤ n := by
  intro n
  induction n with
  | zero => intro s; exact Nat.le_refl _
  | succ n ih =>
    intro s
    rw [weA_s]
    split
    · exact Nat.zero_le _
    · have := ih (fiA s (ff (ru s.1) 0 10)); show (weA n _).1 + 1 ≤ n + 1; omega
theorem ru_ff {q : Nat → Int32} (h : ¬ ff (ru q) 0 10 = 10) : ff (ru q) 0 10 < 10 ∧ ru q (ff (ru q) 0 10) = true := by
  have h1 := (ff_le (ru q) 10 0).1
  have h2 : ff (ru q) 0 10 < 0 + 10 := by omega
  exact ⟨by omega, ff_c (ru q) 10 0 h2⟩
theorem ru_p {q : Nat → Int32} {t : Nat} (ht : t < 10) (h : ru q t = true) : th q t = true ∧ wt q t = false ∧ kF q (nI t) = 0 := by
  unfold ru at h
  rw [Bool.and_eq_true, decide_eq_true_eq] at h
  refine ⟨h.1, wt_0 h.2 (by decide), ?_⟩
  unfold kF
  rw [tkI_nI ht, h.1]
  have : stt q (nI t) = 0 := by unfold stt; rw [show tn' (nI t) = t from nI_clamp (by omega)]; exact h.2
  simp [this]
theorem fi_s {s : Ab} {l : Int32 × Int32 × Int32} {t : Nat} (ht : t < 10) : sF (s, l) (nI t) = (fiA s t, l) := by
  unfold sF fiA
  rw [show tn' (nI t) = t from nI_clamp (by omega)]
theorem fi_WS {s : Ab} {l : Int32 × Int32 × Int32} {B t : Nat} (h : WS (s, l) B) (ht : t < 10) (hr : ru s.1 t = true) : WS (fiA s t, l) B := by
  have := WS_F (x := nI t) h (ru_p ht hr).2.2
  rw [fi_s ht] at this
  exact this
theorem fi_th {s : Ab} {B t : Nat} (hQ : WA s B) (ht : t < 10) (hr : ru s.1 t = true) (k : Nat) : th (fiA s t).1 k = (th s.1 k && decide (k ≠ t)) := by
  unfold fiA seA
  show th (stl s.2.1 (dsP s.1 t)).2.1 k = _
  rw [stl_th, dsP_th]
theorem weA_WS {B : Nat} {l : Int32 × Int32 × Int32} : ∀ n s, WS (s, l) B → WS ((weA n s).2, l) B := by
  intro n
  induction n with
  | zero => intro s h; exact h
  | succ n ih =>
    intro s h
    rw [weA_s]
    split
    · exact h
    · rename_i e
      obtain ⟨h1, h2⟩ := ru_ff e
      exact ih _ (fi_WS h h1 h2)
theorem weA_c {j : Nat} (hj : j ≠ 7) : ∀ n s, (weA n s).2.2.2 j = s.2.2 j := by
  intro n
  induction n with
  | zero => intro s; rfl
  | succ n ih =>
    intro s
    rw [weA_s]
    split
    · rfl
    · show (weA n _).2.2.2 j = _
      rw [ih]
      unfold fiA seA
      show upd s.2.2 7 _ j = _
      rw [upd_s, if_neg hj]
theorem cnt_dec {b c : Nat → Bool} {t : Nat} (hb : b t = true) (hc : ∀ k, c k = (b k && decide (k ≠ t))) : ∀ n, t < n → cnt n b = cnt n c + 1 := by
  intro n hn
  rw [cnt_rm hb n hn]
  congr 1
  exact cnt_congr (fun i _ => by rw [hc i, Bool.and_comm])
theorem CI_sp {h h' : AH} {x z : Nat} {A : TS} {B : Nat} (hT : TI A B) (hC : CI h x z A) (hF : Fr h h' (x + 17)) : CI h' x z A ∧ FK x h h' := by
  obtain ⟨w, H, T⟩ := A
  have hq : Fq (fun b => x + 17 ≤ b ∧ b < x + 33) h h' := Fq.fr hF (fun b h1 h2 => ⟨h1, by omega⟩)
  have hL : CL h' x w := ⟨CS_F hT.W hq (fun b hb => by omega) hC.2.2.1.1, LT_F hq (by omega) hC.2.2.1.2⟩
  have hH : HI h' x H := by
    obtain ⟨c7, c8, c9⟩ := hC.2.2.2.2.1
    refine ⟨by rw [iv_F hq (by omega)]; exact c7, c8, fun i r hr => ?_⟩
    obtain ⟨a, ha, hCB⟩ := c9 i r hr
    have hi : i < 5 := by
      have h9 : i < H.length := (List.getElem?_eq_some_iff.mp hr).1
      have h8 : H.length ≤ 5 := c8
      omega
    obtain ⟨a1, a2, -⟩ := hC.2.2.2.1.1 i a hi ha
    refine ⟨a, ?_, CB_x (hT.H r (List.mem_of_getElem? hr)) (fun b hb => sc.fq hq (by omega)) hCB⟩
    have : rv h' (x + 40) = rv h (x + 40) := by unfold rv; rw [hq.2.1]
    rw [this]; exact ha
  have hX : TX h' x T := TX_x (iv_F hq (by omega)) (iv_F hq (by omega)) hC.2.2.2.2.2.1
  exact ⟨CI_s hq.1 hq.2.1 hC hL hH hX, fun b h1 h2 => sc.fq hq (by omega)⟩
theorem we8_loop {x : Nat} {l : Int32 × Int32 × Int32} {B : Nat} (z : Nat) : ∀ (d k : Nat), k + d = 10 → ∀ (h : AH) (s : Ab) (c fuel : Nat), d < fuel → kd h x = 9 → rv h x 1 = some (x + 17) → WS (s, l) B → CB h (x + 17) s.1 s.2.1 →
    ∃ h', lX8_wouldEnd_15 fuel x (nI c) (nI k) z h = some (nI (c + (weA d s).1), z, h') ∧ Fr h h' (x + 17) := by
  intro d
  induction d with
  | zero =>
    intro k hk h s c fuel hf hk9 hr1 hQ hCB
    obtain rfl : k = 10 := by omega
    cases fuel with
    | zero => omega
    | succ fuel =>
      refine ⟨h, ?_, Fr.rf h _⟩
      show lX8_wouldEnd_15B _ _ _ _ _ _ = _
      simp (disch := omega) only [lX8_wouldEnd_15B, li10, Int32.le_refl, ↓reduceIte]
      rfl
  | succ d ih =>
    intro k hk h s c fuel hf hk9 hr1 hQ hCB
    cases fuel with
    | zero => omega
    | succ fuel =>
      have x1 := e0_lowestRunning hCB.1 hCB.2.2.1 z
      have kb : kd h (x + 17) = 1 := hCB.1.1
      rw [weA_s]
      by_cases e : ff (ru s.1) 0 10 = 10
      · rw [if_pos e]
        rw [e] at x1
        have en : fn 10 = -1 := rfl
        rw [en] at x1
        refine ⟨h, ?_, Fr.rf h _⟩
        show lX8_wouldEnd_15B _ _ _ _ _ _ = _
        simp (disch := omega) only [lX8_wouldEnd_15B, ↓gd, ↓bl, ↓on, ↓xr, ↓reduceIte, if_true, if_false, kd_wI, ln_wI, rv_wI, iv_wI, jv_wI, kd_wJ, ln_wJ, rv_wJ, iv_wJ, nI_clamp, nI_leE, nI_ltE, nI_eqE, m1_ne, bit_0, bit_1, nI_negE, leN_F, leN_T, ltN_F, ltN_T, eqN_F, or_false, false_or, or_true, true_or, not_false_eq_true, not_true_eq_false, and_true, true_and, and_false, false_and, li10, hk9, ↓bb hr1, kb, ↓bb3 x1]
        rfl
      · rw [if_neg e]
        obtain ⟨h1, h2⟩ := ru_ff e
        generalize ff (ru s.1) 0 10 = t at e h1 h2 x1
        have en : fn t = nI t := by unfold fn; rw [if_neg e]
        rw [en] at x1
        obtain ⟨p1, p2, p3⟩ := ru_p h1 h2
        have hQd : WQ (dsP s.1 t) s.2.1 B := WQ_ds h1 p2 hQ.1
        obtain ⟨ha, v1, v2, v3⟩ := e0_dismiss hQ.1.1 hCB h1 p1 z
        obtain ⟨hb, y1, y2, y3⟩ := w0_settle hQd.1 hQd.t hQd.w v3 hQd.len (LO10 hQd) hQd.2.2.2.1.1 z
        obtain ⟨h', w1, w2⟩ := ih (k + 1) (by omega) hb (fiA s t) (c + 1) fuel (by omega) (by rw [show kd hb x = kd h x by unfold kd; rw [y2.1, v2.1]]; exact hk9) (by rw [show rv hb x = rv h x by unfold rv; rw [y2.2.1, v2.2.1]]; exact hr1) (fi_WS hQ h1 h2) y3
        refine ⟨h', ?_, (v2.tr y2).tr w2⟩
        rw [show c + ((weA d (fiA s t)).1 + 1) = c + 1 + (weA d (fiA s t)).1 by omega, ← w1]
        have ka : kd ha x = 9 := by rw [show kd ha x = kd h x by unfold kd; rw [v2.1]]; exact hk9
        have ra : rv ha x 1 = some (x + 17) := by rw [show rv ha x = rv h x by unfold rv; rw [v2.2.1]]; exact hr1
        have kc : kd ha (x + 17) = 1 := v3.1.1
        have em : (nI t = -1) = False := m1_ne (by omega)
        show lX8_wouldEnd_15B _ _ _ _ _ _ = _
        simp (disch := omega) only [lX8_wouldEnd_15B, ↓gd, ↓bl, ↓on, ↓xr, ↓reduceIte, if_true, if_false, kd_wI, ln_wI, rv_wI, iv_wI, jv_wI, kd_wJ, ln_wJ, rv_wJ, iv_wJ, nI_clamp, nI_leE, nI_ltE, nI_eqE, m1_ne, bit_0, bit_1, nI_negE, leN_F, leN_T, ltN_F, ltN_T, eqN_F, or_false, false_or, or_true, true_or, not_false_eq_true, not_true_eq_false, and_true, true_and, and_false, false_and, li10, hk9, ↓bb hr1, kb, ↓bb3 x1, em, ↓bb2 v1, ka, ↓bb ra, kc, ↓bb3 y1, nI_1]
def vWe (A : TS) : Int32 := nI (weA 10 A.1.1).1
theorem c_wouldEnd {h : AH} {x z : Nat} {A : TS} {B : Nat} (hC : CI h x z A) (hT : TI A B) : CP (fX8_wouldEnd x z h) h x z (vWe A, A) := by
  obtain ⟨h1, v1, v2, v3, v4⟩ := CB_copy hT.W hT.1.1.len hC.2.2.1.1.2.1 hC.2.1 (by omega) z
  have o := hC.1
  obtain ⟨h2, w1, w2⟩ := we8_loop (x := x) (l := A.1.2) z 10 0 (by omega) h1 A.1.1 0 fu (by unfold fu; omega) (by rw [show kd h1 x = kd h x by unfold kd; rw [v2.1]]; exact o.1) (by rw [show rv h1 x = rv h x by unfold rv; rw [v2.2.1]]; exact o.2.2.1) hT.1 v3
  rw [nI_0, Nat.zero_add] at w1
  obtain ⟨k1, k2⟩ := CI_sp hT hC (v2.tr w2)
  refine ⟨z, h2, ?_, Nat.le_refl _, k1, k2⟩
  have kb : kd h (x + 17) = 1 := hC.2.1.1
  obtain ⟨o1, o2, o3, o4, o5, o6, o7, o8, o9, o10, o11, o12, o13, o14, o15, o16⟩ := id hC.1
  have hB := hC.2.2.1.1.2.1.1
  have u1 := hB.1
  have u2 := hB.2.1
  have u3 := hB.2.2.2.2.2.2.2.2.2.1
  have u4 := hC.2.2.1.1.1.1
  simp (disch := omega) only [fX8_wouldEnd, ↓gd, ↓bl, ↓xr, ↓reduceIte, o1, ↓bb o2, ↓bb o3, ↓bb o4, ↓bb o5, ↓bb o6, ↓bb o7, ↓bb o8, o9, ↓bb o10, o11, o12, o13, ↓bb o14, o15, o16, u1, ↓bb u2, u3, u4, kb, ↓bb2 v1]
  exact w1
theorem w66 {m : Nat} (g : Int32) (c z : Nat) : ∀ (d k : Nat), k + d = 613 → ∀ (h : AH) (fuel : Nat), d < fuel → MO h m → (∀ j, j < k → iv h (m + 1) j = iv h (m + 5) j) →
    ∃ h', lX9_wouldEnd_66 fuel m g (nI c) (nI k) z h = some (nI c, z, h') ∧ Fq (fun b => b = m + 1 ∨ b = m + 3) h h' ∧ (∀ j, j < 613 → iv h' (m + 1) j = iv h (m + 5) j) ∧ (∀ j, 613 ≤ j → iv h' (m + 1) j = iv h (m + 1) j) ∧ iv h' (m + 3) = upd (iv h (m + 3)) 7 g := by
  intro d
  induction d with
  | zero =>
    intro k hk h fuel hf hM hP
    obtain rfl : k = 613 := by omega
    cases fuel with
    | zero => omega
    | succ fuel =>
      refine ⟨wI h (m + 3) 7 g, ?_, Fq.w h _ _ (Or.inr rfl), fun j hj => by rw [iv_wI_ne _ _ _ (by omega)]; exact hP j hj, fun j hj => by rw [iv_wI_ne _ _ _ (by omega)], by rw [iv_wI_self]; rfl⟩
      have i3 : ((7 : Int32) < 0) = False := eq_false (by decide)
      have i4 : Int32.toNatClampNeg 7 = 7 := by decide
      obtain ⟨hk, r0, r1, r3, r4, r10, r11, r13, r14, r15, k1, k2, k3, k4, k5, k6, k7, k8, k9, l1, l2, l3, l4, l5, l6, l7, l8, l9⟩ := id hM
      show lX9_wouldEnd_66B _ _ _ _ _ _ _ = _
      simp (disch := omega) only [lX9_wouldEnd_66B, li613, Int32.le_refl, ↓gd, ↓bl, ↓reduceIte, ↓bb r0, ↓bb r1, ↓bb r3, ↓bb r4, ↓bb r10, ↓bb r11, ↓bb r13, ↓bb r14, ↓bb r15, hk, k1, k2, k3, k4, k5, k6, k7, k8, k9, l1, l2, l3, l4, l5, l6, l7, l8, l9, i3, i4, leN_F, or_false, not_false_eq_true]
  | succ d ih =>
    intro k hk h fuel hf hM hP
    cases fuel with
    | zero => omega
    | succ fuel =>
      obtain ⟨h', v1, v2, v3, v4, v5⟩ := ih (k + 1) (by omega) (wI h (m + 1) k (iv h (m + 5) k)) fuel (by omega) (MO_c rfl rfl hM) (fun j hj => by
        rw [iv_wI, if_pos rfl, iv_wI_ne _ _ _ (by omega)]
        by_cases e : j = k
        · rw [if_pos e, e]
        · rw [if_neg e]; exact hP j (by omega))
      refine ⟨h', ?_, (Fq.w h _ _ (Or.inl rfl)).tr v2, fun j hj => by rw [v3 j hj, iv_wI_ne _ _ _ (by omega)], fun j hj => by rw [v4 j hj, iv_wI, if_pos rfl, if_neg (by omega)], by rw [v5, iv_wI_ne _ _ _ (by omega)]⟩
      rw [← v1]
      have e6 : (613 : Int32) ≤ nI k ↔ False := by rw [li613, nI_leE (by omega) (by omega)]; simp; omega
      show lX9_wouldEnd_66B _ _ _ _ _ _ _ = _
      obtain ⟨hk, r0, r1, r3, r4, r10, r11, r13, r14, r15, k1, k2, k3, k4, k5, k6, k7, k8, k9, l1, l2, l3, l4, l5, l6, l7, l8, l9⟩ := id hM
      simp (disch := omega) only [lX9_wouldEnd_66B, ↓brv_wI, ↓brv_wJ, ↓gd, ↓bl, ↓on, ↓xr, ↓reduceIte, if_true, if_false, kd_wI, ln_wI, rv_wI, iv_wI, jv_wI, kd_wJ, ln_wJ, rv_wJ, iv_wJ, nI_clamp, nI_leE, nI_ltE, nI_eqE, m1_ne, bit_0, bit_1, nI_negE, leN_F, leN_T, ltN_F, ltN_T, eqN_F, or_false, false_or, or_true, true_or, not_false_eq_true, not_true_eq_false, and_true, true_and, and_false, false_and, ↓bb r0, ↓bb r1, ↓bb r3, ↓bb r4, ↓bb r10, ↓bb r11, ↓bb r13, ↓bb r14, ↓bb r15, hk, k1, k2, k3, k4, k5, k6, k7, k8, k9, l1, l2, l3, l4, l5, l6, l7, l8, l9, e6, nI_1]
theorem ru_nord {p q : Nat → Int32} (h : nord p q) (t : Nat) : ru p t = ru q t := by unfold ru; rw [th_nord h, h (32 + 6 * t + 4) (by omega)]
theorem e9_isRu {h : AH} {m : Nat} (hM : MO h m) {p q : Nat → Int32} (c : Nat → Int32) (hn : nord p q) {t : Nat} (ht : t < 10) (z : Nat) : fX9_isRunning m (nI t) z (mh h m p c) = some (if ru q t then 1 else 0, z, mh h m p c) := by
  have := e9_isRun (h := mh h m p c) (MO_mh hM p c) (q := q) (by rw [ps_mh]; exact hn) (nI t) z
  rw [tkI_nI ht] at this
  unfold stt at this
  rw [show tn' (nI t) = t from nI_clamp (by omega)] at this
  exact this
theorem cnt_0 {b : Nat → Bool} : ∀ n, cnt n b = 0 → ∀ i, i < n → b i = false := by
  intro n
  induction n with
  | zero => intro _ i hi; omega
  | succ n ih =>
    intro h i hi
    rw [cnt_s1] at h
    by_cases e : i = n
    · subst e
      cases eb : b i
      · rfl
      · rw [eb] at h; simp at h
    · exact ih (by omega) i (by omega)
theorem ff_10 {b : Nat → Bool} (h : ff b 0 10 = 10) {i : Nat} (hi : i < 10) : b i = false := ff_n b 10 0 i (by omega) (by omega)
theorem ff_at {b : Nat → Bool} {t : Nat} (h : ∀ i, i < t → b i = false) (ht : b t = true) (h10 : t < 10) : ff b 0 10 = t := by
  have h1 := (ff_le b 10 0).1
  rcases Nat.lt_trichotomy (ff b 0 10) t with e | e | e
  · have := ff_c b 10 0 (by omega)
    rw [h _ e] at this
    cases this
  · exact e
  · have := ff_n b 10 0 t (by omega) e
    rw [ht] at this
    cases this
theorem we9_loop {h : AH} {m : Nat} (hM : MO h m) {l : Int32 × Int32 × Int32} {B : Nat} (g : Int32) (z : Nat) : ∀ (n : Nat) (s : Ab) (c : Nat), WS (s, l) B → cnt 10 (th s.1) ≤ n → ∀ (d t : Nat), t + d = 10 → (∀ i, i < t → ru s.1 i = false) → ∀ (p : Nat → Int32) (fuel : Nat), d + 11 * n < fuel → RF p s.1 s.2.1 →
    ∃ p', lX9_wouldEnd_21 fuel m g (nI c) (nI t) z (mh h m p s.2.2) = lX9_wouldEnd_66 fu m g (nI (c + (weA n s).1)) 0 z (mh h m p' (weA n s).2.2.2) ∧ RF p' (weA n s).2.1 (weA n s).2.2.1 := by
  intro n
  have hk0 := hM.1
  induction n with
  | zero =>
    intro s c hQ hc d
    have h0 := cnt_0 10 (by omega : cnt 10 (th s.1) = 0)
    induction d with
    | zero =>
      intro t ht hru p fuel hf hR
      obtain rfl : t = 10 := by omega
      cases fuel with
      | zero => omega
      | succ fuel =>
        refine ⟨p, ?_, hR⟩
        show lX9_wouldEnd_21B _ _ _ _ _ _ _ = _
        simp (disch := omega) only [lX9_wouldEnd_21B, li10, Int32.le_refl, ↓reduceIte]
        rfl
    | succ d ihd =>
      intro t ht hru p fuel hf hR
      cases fuel with
      | zero => omega
      | succ fuel =>
        have er : ru s.1 t = false := by unfold ru; rw [h0 t (by omega)]; rfl
        obtain ⟨p', v1, v2⟩ := ihd (t + 1) (by omega) (fun i hi => by
          by_cases e : i = t
          · rw [e]; exact er
          · exact hru i (by omega)) p fuel (by omega) hR
        refine ⟨p', ?_, v2⟩
        rw [← v1]
        have x1 := e9_isRu hM s.2.2 hR.1 (t := t) (by omega) z
        rw [er] at x1
        show lX9_wouldEnd_21B _ _ _ _ _ _ _ = _
        simp (disch := omega) only [lX9_wouldEnd_21B, bX9_wouldEnd_47, bX9_wouldEnd_59, ↓gd, ↓bl, ↓on, ↓xr, ↓reduceIte, if_true, if_false, kd_wI, ln_wI, rv_wI, iv_wI, jv_wI, kd_wJ, ln_wJ, rv_wJ, iv_wJ, nI_clamp, nI_leE, nI_ltE, nI_eqE, m1_ne, bit_0, bit_1, nI_negE, leN_F, leN_T, ltN_F, ltN_T, eqN_F, or_false, false_or, or_true, true_or, not_false_eq_true, not_true_eq_false, and_true, true_and, and_false, false_and, li10, kd_mh, hk0, ↓bb3 x1, Bool.false_eq_true, nI_1]
  | succ n ih =>
    intro s c hQ hc d
    induction d with
    | zero =>
      intro t ht hru p fuel hf hR
      obtain rfl : t = 10 := by omega
      cases fuel with
      | zero => omega
      | succ fuel =>
        have e : ff (ru s.1) 0 10 = 10 := Decidable.byContradiction (fun e => by
          obtain ⟨h1, h2⟩ := ru_ff e
          rw [hru _ h1] at h2
          cases h2)
        rw [weA_s, if_pos e]
        refine ⟨p, ?_, hR⟩
        show lX9_wouldEnd_21B _ _ _ _ _ _ _ = _
        simp (disch := omega) only [lX9_wouldEnd_21B, li10, Int32.le_refl, ↓reduceIte]
        rfl
    | succ d ihd =>
      intro t ht hru p fuel hf hR
      cases fuel with
      | zero => omega
      | succ fuel =>
        have x1 := e9_isRu hM s.2.2 hR.1 (t := t) (by omega) z
        cases er : ru s.1 t
        · obtain ⟨p', v1, v2⟩ := ihd (t + 1) (by omega) (fun i hi => by
            by_cases e : i = t
            · rw [e]; exact er
            · exact hru i (by omega)) p fuel (by omega) hR
          refine ⟨p', ?_, v2⟩
          rw [← v1]
          rw [er] at x1
          show lX9_wouldEnd_21B _ _ _ _ _ _ _ = _
          simp (disch := omega) only [lX9_wouldEnd_21B, bX9_wouldEnd_47, bX9_wouldEnd_59, ↓gd, ↓bl, ↓on, ↓xr, ↓reduceIte, if_true, if_false, kd_wI, ln_wI, rv_wI, iv_wI, jv_wI, kd_wJ, ln_wJ, rv_wJ, iv_wJ, nI_clamp, nI_leE, nI_ltE, nI_eqE, m1_ne, bit_0, bit_1, nI_negE, leN_F, leN_T, ltN_F, ltN_T, eqN_F, or_false, false_or, or_true, true_or, not_false_eq_true, not_true_eq_false, and_true, true_and, and_false, false_and, li10, kd_mh, hk0, ↓bb3 x1, Bool.false_eq_true, nI_1]
        · have ht10 : t < 10 := by omega
          have e : ff (ru s.1) 0 10 = t := ff_at hru er ht10
          obtain ⟨p1, p2, p3⟩ := ru_p ht10 er
          rw [weA_s, if_neg (by omega), e]
          obtain ⟨pa, y1, y2⟩ := w9_finishes hM hR hQ.1 ht10 p2 z
          have hc2 : cnt 10 (th (fiA s t).1) ≤ n := by
            have := cnt_dec (c := th (fiA s t).1) p1 (fun k => fi_th hQ.1 ht10 er k) 10 ht10
            omega
          obtain ⟨p', v1, v2⟩ := ih (fiA s t) (c + 1) (fi_WS hQ ht10 er) hc2 10 0 (by omega) (fun i hi => by omega) pa fuel (by omega) y2
          refine ⟨p', ?_, v2⟩
          rw [show c + ((weA n (fiA s t)).1 + 1) = c + 1 + (weA n (fiA s t)).1 by omega, ← v1, nI_0]
          rw [er] at x1
          show lX9_wouldEnd_21B _ _ _ _ _ _ _ = _
          simp (disch := omega) only [lX9_wouldEnd_21B, bX9_wouldEnd_47, bX9_wouldEnd_59, ↓gd, ↓bl, ↓on, ↓xr, ↓reduceIte, if_true, if_false, kd_wI, ln_wI, rv_wI, iv_wI, jv_wI, kd_wJ, ln_wJ, rv_wJ, iv_wJ, nI_clamp, nI_leE, nI_ltE, nI_eqE, m1_ne, bit_0, bit_1, nI_negE, leN_F, leN_T, ltN_F, ltN_T, eqN_F, or_false, false_or, or_true, true_or, not_false_eq_true, not_true_eq_false, and_true, true_and, and_false, false_and, li10, kd_mh, hk0, ↓bb3 x1, ne10, ↓bb2 y1, nI_1]
          rfl
theorem r_wouldEnd {h : AH} {m z : Nat} {A : TS} {B : Nat} (hR : RI h m A) (hT : TI A B) : RP (fX9_wouldEnd m z h) h m z (vWe A, A) := by
  obtain ⟨w, H, T⟩ := A
  obtain ⟨c1, c2, c3⟩ := RI_code hR 0
  obtain ⟨h2, b1, b2, b3, b4, b5⟩ := w9_begins hT.1.2 c1 z
  have em := RI_mh b2
  simp only at em
  have hq : iv h2 (m + 3) = w.1.2.2 := b2.2.2.1
  obtain ⟨p', v1, v2⟩ := we9_loop b2.1 (l := w.2) (w.1.2.2 7) z 10 w.1 0 hT.1 (cnt_le 10 _) 10 0 (by omega) (fun i hi => by omega) (iv h2 (m + 1)) fu (by unfold fu; omega) b2.2.1
  rw [← em, nI_0, Nat.zero_add] at v1
  have hW := weA_WS 10 w.1 hT.1
  obtain ⟨h', y1, y2, y3, y4, y5⟩ := w66 (m := m) (w.1.2.2 7) (weA 10 w.1).1 z 613 0 (by omega) (mh h2 m p' (weA 10 w.1).2.2.2) fu (by unfold fu; omega) (MO_mh b2.1 _ _) (fun j hj => by omega)
  rw [nI_0] at y1
  rw [iv_mh1] at y4
  rw [iv_mh3] at y5
  have y3 : ∀ j, j < 613 → iv h' (m + 1) j = iv h2 (m + 5) j := fun j hj => by rw [y3 j hj, iv_mh _ _ _ _ (by omega) (by omega)]
  have gm : ∀ b, b ≠ m + 1 → b ≠ m + 3 → iv h' b = iv h2 b := fun b h1 h3 => by rw [iv_F y2 (by omega), iv_mh _ _ _ _ h1 h3]
  have g1 : iv h' (m + 1) = cut (iv h2 (m + 5)) 0 := by
    funext j
    unfold cut
    by_cases hj : j < 613
    · rw [if_pos hj, y3 j hj, show 613 * 0 + j = j by omega]
    · rw [if_neg hj, y4 j (by omega), v2.1 j (by omega)]
      exact hW.2 j (by omega)
  have g3 : iv h' (m + 3) = w.1.2.2 := by
    rw [y5]
    funext j
    rw [upd_s]
    by_cases hj : j = 7
    · rw [if_pos hj, hj]
    · rw [if_neg hj, weA_c hj]
  refine ⟨h', ?_, ?_, ?_⟩
  · have i3 : ((7 : Int32) < 0) = False := eq_false (by decide)
    have i4 : Int32.toNatClampNeg 7 = 7 := by decide
    have hk0 := hR.1.1
    have hM := b2.1
    have hq7 : iv h2 (m + 3) 7 = w.1.2.2 7 := by rw [hq]
    obtain ⟨hk, r0, r1, r3, r4, r10, r11, r13, r14, r15, k1, k2, k3, k4, k5, k6, k7, k8, k9, l1, l2, l3, l4, l5, l6, l7, l8, l9⟩ := id hM
    simp (disch := omega) only [fX9_wouldEnd, ↓gd, ↓bl, ↓reduceIte, hk0, ↓bb2 b1, ↓bb r0, ↓bb r1, ↓bb r3, ↓bb r4, ↓bb r10, ↓bb r11, ↓bb r13, ↓bb r14, ↓bb r15, hk, k1, k2, k3, k4, k5, k6, k7, k8, k9, l1, l2, l3, l4, l5, l6, l7, l8, l9, i3, i4, leN_F, or_false, not_false_eq_true, hq7]
    rw [v1, y1]
    rfl
  · obtain ⟨r1, r2, r3, r4, r5, r6, r7, r8, r9, r10⟩ := b2
    refine ⟨MO_c y2.1 y2.2.1 (MO_mh r1 _ _), by rw [g1]; exact b5, g3, ?_, by rw [gm m (by omega) (by omega)]; exact r5, r6, by rw [gm _ (by omega) (by omega)]; exact r7, by rw [gm m (by omega) (by omega)]; exact r8, r9, by rw [gm _ (by omega) (by omega)]; exact r10⟩
    unfold LM at r4 ⊢
    rw [gm m (by omega) (by omega)]; exact r4
  · have f1 : Fq (PR m) h h2 := c2.tr b3
    have f2 : Fq (PR m) h2 (mh h2 m p' (weA 10 w.1).2.2.2) := ⟨rfl, rfl, fun b hb => ⟨iv_mh _ _ _ _ (by unfold PR at hb; omega) (by unfold PR at hb; omega), rfl⟩⟩
    exact (f1.tr f2).tr (y2.mono (fun b hb => by unfold PR; omega))
