theorem e0_hiw_t {h : AH} {a : Nat} {p : Nat → Int32} (hB : BO h a) (hW : WFr p) (hF : WFt p) (hR : RBr h a p) (hT : RBt h a p) {t r : Nat} (ht : t < 10) (hr : r < nr p) (z : Nat) : fX0_holdersInWay a (nI t) (nI r) z h = some (mk 10 (way p t r), z, h) := by
  rw [e0_hiw hB hW hF hR hT hr z]
  congr 2
  refine mk_congr (fun k hk => ?_)
  unfold way
  congr 1
  simp (disch := omega) only [nI_eqE, ne_eq]
theorem way_0 {p : Nat → Int32} {t : Nat} : (mk 10 (way p t (wan p t)) = 0) = (fr p t = true) := by
  apply propext
  rw [mk_0 (by omega)]
  unfold fr
  rw [Bool.not_eq_true', anyB_false]
theorem grP_WFt {p : Nat → Int32} (hF : WFt p) {t r : Nat} (hn : nr p ≤ 16) (hr : r < nr p) (hth : th p t = true) : WFt (grP p t r) := by
  intro k hk
  obtain ⟨h1, h2⟩ := hF k hk
  rw [grP_th, grP_nr, grP_at, if_neg (by omega)]
  by_cases e : k = t
  · subst e
    rw [if_pos rfl]
    refine ⟨fun h => (by rw [hth] at h; cases h), fun i hi hi2 => ?_⟩
    rw [b_or, h2 i hi hi2, bt_pow r (by omega)]
    simp; omega
  · rw [if_neg (by omega)]
    exact ⟨h1, h2⟩
theorem wt_th {p : Nat → Int32} {t : Nat} (h : wt p t = true) : th p t = true := by
  unfold wt at h
  rw [Bool.and_eq_true] at h
  exact h.1
theorem e0_stl_loop {a : Nat} (z : Nat) : ∀ (B K : List Nat) (i g : Nat) (p : Nat → Int32) (h : AH) (fuel : Nat), BO h a → WFr p → WFt p → WFw p → RBr h a p → RBt h a p → iv h a 8 = nI (i + B.length) → i + B.length ≤ 10 → K.length ≤ i →
    (∀ j x, K[j]? = some x → iv h (a + 15) j = nI x) → (∀ j x, B[j]? = some x → iv h (a + 15) (i + j) = nI x) → (∀ t ∈ B, t < 10 ∧ wt p t = true) → B.Nodup → B.length < fuel →
    ∃ h', lX0_settle_6 fuel a (nI K.length) (nI g) (nI i) z h = some (nI (g + (stl B p).2.2), z, h') ∧ Fr h h' a ∧ RBr h' a (stl B p).2.1 ∧ RBt h' a (stl B p).2.1 ∧ iv h' a 8 = nI (K.length + (stl B p).1.length) ∧ (∀ j x, (K ++ (stl B p).1)[j]? = some x → iv h' (a + 15) j = nI x) ∧ (∀ j, j ≠ 8 → iv h' a j = iv h a j) ∧ (∀ b, a + 5 ≤ b → b < a + 10 → iv h' b = iv h b) ∧ h'.2.2.1 = h.2.2.1 := by
  intro B
  induction B with
  | nil =>
    intro K i g p h fuel hB hW hF hw hR hT hq h10 hK hKo hBo hBt hnd hfu
    cases fuel with
    | zero => simp at hfu
    | succ fuel =>
      simp only [List.length_nil, Nat.add_zero] at hq h10
      refine ⟨wI h a 8 (nI K.length), ?_, Fr.w h _ _ (by omega) (by omega), ?_, ?_, ?_, ?_, ?_, ?_, rfl⟩
      · show lX0_settle_6B _ _ _ _ _ _ _ = _
        have hk := hB.1
        simp (disch := omega) only [lX0_settle_6B, bX0_settle_92, ↓gd, ↓bl, ↓reduceIte, hk, hq, Int32.le_refl]
        rfl
      · exact RBr_s hW (fun b _ _ => iv_wI_ne _ _ _ (by omega)) (fun _ _ => rfl) hR
      · obtain ⟨t1, t2, t3⟩ := hT
        refine ⟨?_, fun k hk => ?_, fun k hk hkt => ?_⟩
        · simp (disch := omega) only [iv_wI, eqN_F, if_false, if_true]; exact t1
        · simp (disch := omega) only [iv_wI, eqN_F, if_false]; exact t2 k hk
        · simp (disch := omega) only [iv_wI, eqN_F, if_false]; exact t3 k hk hkt
      · rw [iv_wI, if_pos rfl, if_pos rfl]; rfl
      · intro j x hj
        rw [iv_wI_ne _ _ _ (by omega)]
        have hj : (K ++ [])[j]? = some x := hj
        rw [List.append_nil] at hj
        exact hKo j x hj
      · intro j hj; rw [iv_wI, if_pos rfl, if_neg hj]
      · intro b h1 h2; exact iv_wI_ne _ _ _ (by omega)
  | cons t B ih =>
    intro K i g p h fuel hB hW hF hw hR hT hq h10 hK hKo hBo hBt hnd hfu
    simp only [List.length_cons] at hq h10 hfu
    obtain ⟨ht, hwt⟩ := hBt t List.mem_cons_self
    obtain ⟨hwan, hwan2⟩ := hw t ht hwt
    have hth := wt_th hwt
    have hn := hW.2.1
    have e1 : iv h (a + 15) i = nI t := hBo 0 t rfl
    have e2 : iv h (a + 14) t = nI (wan p t) := by rw [hT.2.2 t ht hth, if_pos hwt, hwan2]
    have x1 : fX0_has a (iv h (a + 15) (Int32.toNatClampNeg (nI i))) z h = some (1, z, h) := by
      rw [nI_clamp (by omega), e1, e0_has hB hT (nI t) z, tkI_nI ht, hth]; rfl
    have x2 : fX0_holdersInWay a (iv h (a + 15) (Int32.toNatClampNeg (nI i))) (iv h (a + 14) (Int32.toNatClampNeg (iv h (a + 15) (Int32.toNatClampNeg (nI i))))) z h = some (mk 10 (way p t (wan p t)), z, h) := by
      rw [nI_clamp (by omega), e1, nI_clamp (by omega), e2]; exact e0_hiw_t hB hW hF hR hT ht hwan z
    rw [List.nodup_cons] at hnd
    cases fuel with
    | zero => omega
    | succ fuel =>
      cases hf : fr p t
      · have hs : stl (t :: B) p = (t :: (stl B p).1, (stl B p).2.1, (stl B p).2.2) := by
          rw [stl, hf]; rfl
        have hT2 : RBt (wI h (a + 15) K.length (nI t)) a p := by
          obtain ⟨t1, t2, t3⟩ := hT
          refine ⟨?_, fun k hk => ?_, fun k hk hkt => ?_⟩
          · simp (disch := omega) only [iv_wI, eqN_F, if_false]; exact t1
          · simp (disch := omega) only [iv_wI, eqN_F, if_false]; exact t2 k hk
          · simp (disch := omega) only [iv_wI, eqN_F, if_false]; exact t3 k hk hkt
        obtain ⟨h', w1, w2, w3, w4, w5, w6, w7, w8, w9⟩ := ih (K ++ [t]) (i + 1) g p (wI h (a + 15) K.length (nI t)) fuel (BO_c rfl rfl hB) hW hF hw (RBr_s hW (fun b _ _ => iv_wI_ne _ _ _ (by omega)) (fun _ _ => rfl) hR) hT2
          (by rw [iv_wI_ne _ _ _ (by omega), hq]; congr 1; omega) (by omega) (by simp; omega)
          (fun j x hj => by
            rw [iv_wI, if_pos rfl]
            by_cases e : j = K.length
            · subst e
              simp at hj
              rw [if_pos rfl, hj]
            · rw [if_neg e]
              have hl := (List.getElem?_eq_some_iff.mp hj).1
              simp at hl
              rw [List.getElem?_append_left (by omega)] at hj
              exact hKo j x hj)
          (fun j x hj => by
            rw [iv_wI, if_pos rfl, if_neg (by omega), show i + 1 + j = i + (j + 1) by omega]
            exact hBo (j + 1) x (by simpa using hj))
          (fun u hu => hBt u (List.mem_cons_of_mem _ hu)) hnd.2 (by omega)
        refine ⟨h', ?_, (Fr.w h _ _ (by omega) (by omega)).tr w2, by rw [hs]; exact w3, by rw [hs]; exact w4, by rw [hs, w5]; simp; congr 1; omega, fun j x hj => w6 j x (by rw [hs] at hj; simpa using hj), fun j hj => by rw [w7 j hj, iv_wI_ne _ _ _ (by omega)], fun b h1 h2 => by rw [w8 b h1 h2, iv_wI_ne _ _ _ (by omega)], w9⟩
        have e0 : (mk 10 (way p t (wan p t)) = 0) = False := by rw [way_0, hf]; simp
        show lX0_settle_6B _ _ _ _ _ _ _ = _
        rw [hs]
        obtain ⟨bk, b0, b1, b2, b3, b4, b5, b6, b7, fk, f0, f1, f2, mk0, m0, m1, m2, m3, kf0, kf1, kf2, lf0, lf1, lf2, km0, km1, km2, km3, lm0, lm1, lm2, lm3, kb2, kb3, kb4, kb5, kb6, kb7, lb2, lb3, lb4, lb5, lb6, lb7⟩ := id hB
        simp (disch := omega) only [lX0_settle_6B, bX0_settle_92, bX0_settle_48, bX0_settle_86, ↓gd, ↓bl, ↓on, ↓xr, ↓reduceIte, if_true, if_false, kd_wI, ln_wI, rv_wI, iv_wI, jv_wI, kd_wJ, ln_wJ, rv_wJ, iv_wJ, nI_clamp, nI_leE, nI_ltE, nI_eqE, m1_ne, bit_0, bit_1, nI_negE, leN_F, leN_T, ltN_F, ltN_T, eqN_F, or_false, false_or, or_true, true_or, not_false_eq_true, not_true_eq_false, and_true, true_and, and_false, false_and, bk, ↓bb b0, ↓bb b1, ↓bb b2, ↓bb b3, ↓bb b4, ↓bb b5, ↓bb b6, ↓bb b7, fk, ↓bb f0, ↓bb f1, ↓bb f2, mk0, ↓bb m0, ↓bb m1, ↓bb m2, ↓bb m3, kf0, kf1, kf2, lf0, lf1, lf2, km0, km1, km2, km3, lm0, lm1, lm2, lm3, kb2, kb3, kb4, kb5, kb6, kb7, lb2, lb3, lb4, lb5, lb6, lb7, hq, li10, e1, ↓bb3 x1, ne10, e2, ↓bb3 x2, e0, nI_1]
        simpa using w1
      · have hs : stl (t :: B) p = ((stl B (grP p t (wan p t))).1, (stl B (grP p t (wan p t))).2.1, (stl B (grP p t (wan p t))).2.2 + 1) := by
          rw [stl, hf]; rfl
        obtain ⟨h1, v1, v2, v3, v4, v5, v6, v7, v8⟩ := e0_grant hB hW hR hT ht hth hwan z
        have v1 : fX0_grant a (iv h (a + 15) (Int32.toNatClampNeg (nI i))) (iv h (a + 14) (Int32.toNatClampNeg (iv h (a + 15) (Int32.toNatClampNeg (nI i))))) z h = some (z, h1) := by
          rw [nI_clamp (by omega), e1, nI_clamp (by omega), e2]; exact v1
        obtain ⟨h', w1, w2, w3, w4, w5, w6, w7, w8, w9⟩ := ih K (i + 1) (g + 1) (grP p t (wan p t)) h1 fuel (BO_f v2 hB) (grP_WFr hW _ _) (grP_WFt hF hn hwan hth) (grP_WFw hw _ _) v3 v4
          (by rw [v5, hq]; congr 1; omega) (by omega) (by omega) (fun j x hj => by rw [v6]; exact hKo j x hj)
          (fun j x hj => by rw [v6, show i + 1 + j = i + (j + 1) by omega]; exact hBo (j + 1) x (by simpa using hj))
          (fun u hu => ⟨(hBt u (List.mem_cons_of_mem _ hu)).1, by
            rw [grP_wt, (hBt u (List.mem_cons_of_mem _ hu)).2]
            have : u ≠ t := fun e => hnd.1 (e ▸ hu)
            simp [this]⟩) hnd.2 (by omega)
        refine ⟨h', ?_, v2.tr w2, by rw [hs]; exact w3, by rw [hs]; exact w4, by rw [hs, w5], fun j x hj => w6 j x (by rw [hs] at hj; exact hj), fun j hj => by rw [w7 j hj, v5], fun b y1 y2 => by rw [w8 b y1 y2, v7 b y1 y2], by rw [w9, v8]⟩
        have e0 : (mk 10 (way p t (wan p t)) = 0) = True := by rw [way_0, hf]; simp
        show lX0_settle_6B _ _ _ _ _ _ _ = _
        rw [hs]
        obtain ⟨bk, b0, b1, b2, b3, b4, b5, b6, b7, fk, f0, f1, f2, mk0, m0, m1, m2, m3, kf0, kf1, kf2, lf0, lf1, lf2, km0, km1, km2, km3, lm0, lm1, lm2, lm3, kb2, kb3, kb4, kb5, kb6, kb7, lb2, lb3, lb4, lb5, lb6, lb7⟩ := id hB
        simp (disch := omega) only [lX0_settle_6B, bX0_settle_92, bX0_settle_48, bX0_settle_86, ↓gd, ↓bl, ↓on, ↓xr, ↓reduceIte, if_true, if_false, kd_wI, ln_wI, rv_wI, iv_wI, jv_wI, kd_wJ, ln_wJ, rv_wJ, iv_wJ, nI_clamp, nI_leE, nI_ltE, nI_eqE, m1_ne, bit_0, bit_1, nI_negE, leN_F, leN_T, ltN_F, ltN_T, eqN_F, or_false, false_or, or_true, true_or, not_false_eq_true, not_true_eq_false, and_true, true_and, and_false, false_and, bk, ↓bb b0, ↓bb b1, ↓bb b2, ↓bb b3, ↓bb b4, ↓bb b5, ↓bb b6, ↓bb b7, fk, ↓bb f0, ↓bb f1, ↓bb f2, mk0, ↓bb m0, ↓bb m1, ↓bb m2, ↓bb m3, kf0, kf1, kf2, lf0, lf1, lf2, km0, km1, km2, km3, lm0, lm1, lm2, lm3, kb2, kb3, kb4, kb5, kb6, kb7, lb2, lb3, lb4, lb5, lb6, lb7, hq, li10, e1, ↓bb3 x1, ne10, e2, ↓bb3 x2, e0, ↓bb2 v1, nI_1]
        rw [w1]
        congr 3
        omega
