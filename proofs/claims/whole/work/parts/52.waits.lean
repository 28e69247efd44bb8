theorem e8_inS {s' s : Int32} (e : s' = s) {k : Nat} (hk : k < 32) (z : Nat) (h : AH) : fX8_inSet s' (nI k) z h = some (if bt s k then 1 else 0, z, h) := by rw [e]; exact e8_inSet s hk z h
/-! who waits for whom, and who comes to whom -/
def wst (R : Nat → Int32) (v t : Nat) : Nat → Int32 := upd R t (if bt (R t) v then R t ||| R v else R t)
def wro (R : Nat → Int32) (v : Nat) : Nat → Nat → Int32
  | 0 => R
  | k + 1 => wst (wro R v k) v k
def wal (R : Nat → Int32) : Nat → Nat → Int32
  | 0 => R
  | k + 1 => wro (wal R k) k 10
def agr (R S : Nat → Int32) : Prop := ∀ j, j < 10 → R j = S j
theorem agr.rf (R : Nat → Int32) : agr R R := fun _ _ => rfl
theorem agr.tr {R S T : Nat → Int32} (h1 : agr R S) (h2 : agr S T) : agr R T := fun j hj => (h1 j hj).trans (h2 j hj)
theorem wst_a {R S : Nat → Int32} (h : agr R S) {v t : Nat} (hv : v < 10) (ht : t < 10) : agr (wst R v t) (wst S v t) := fun j hj => by
  unfold wst
  rw [upd_s, upd_s, h j hj, h t ht, h v hv]
theorem wro_a {R S : Nat → Int32} (h : agr R S) {v : Nat} (hv : v < 10) : ∀ k, k ≤ 10 → agr (wro R v k) (wro S v k) := by
  intro k
  induction k with
  | zero => intro _; exact h
  | succ k ih => intro hk; exact wst_a (ih (by omega)) hv (by omega)
theorem wal_a {R S : Nat → Int32} (h : agr R S) : ∀ k, k ≤ 10 → agr (wal R k) (wal S k) := by
  intro k
  induction k with
  | zero => intro _; exact h
  | succ k ih => intro hk; exact wro_a (ih (by omega)) (by omega) 10 (by omega)
def ng (q : Nat → Int32) (t : Nat) : Int32 := mk 10 (wf q t)
def rc (E : Nat → Int32) : Nat → Int32 := wal E 10
def og (R : Nat → Int32) : Int32 := mk 10 (fun t => bt (R t) t)
/-- the class's view of who waits -/
def WV (h : AH) (x : Nat) (E : Nat → Int32) : Prop := agr (iv h (x + 36)) E ∧ agr (iv h (x + 37)) (rc E) ∧ iv h (x + 35) 2 = og (rc E)
def PW (x b : Nat) : Prop := x + 35 ≤ b ∧ b < x + 38
theorem iv_F {P : Nat → Prop} {h h' : AH} (hF : Fq P h h') {b : Nat} (hb : ¬ P b) : iv h' b = iv h b := (hF.2.2 b hb).1
theorem jv_F {P : Nat → Prop} {h h' : AH} (hF : Fq P h h') {b : Nat} (hb : ¬ P b) : jv h' b = jv h b := (hF.2.2 b hb).2
theorem CS_F {P : Nat → Prop} {h h' : AH} {x : Nat} {s : Ab} (hW : WFr s.1) (hF : Fq P h h') (hP : ∀ b, P b → ¬ (x + 1 ≤ b ∧ b < x + 17) ∧ b ≠ x + 34) (hS : CS h x s) : CS h' x s := by
  refine ⟨DS_c hF.1 hF.2.1 hS.1, CB_c (BO_c hF.1 hF.2.1 hS.2.1.1) hW (fun b h1 h2 => iv_F hF (fun hb => (hP b hb).1 ⟨h1, by omega⟩)) (jv_F hF (fun hb => (hP _ hb).1 ⟨by omega, by omega⟩)) (nord.rf _) hS.2.1, fun k hk => ?_⟩
  rw [iv_F hF (fun hb => (hP _ hb).2 rfl)]
  exact hS.2.2 k hk
theorem PW_ok {x : Nat} : ∀ b, PW x b → ¬ (x + 1 ≤ b ∧ b < x + 17) ∧ b ≠ x + 34 := fun b hb => by unfold PW at hb; omega
theorem w7_in {x : Nat} (R : Nat → Int32) {v : Nat} (hv : v < 10) (qq : Nat → Int32 → Nat → AH → Option (Nat × AH)) (z : Nat) : ∀ (d k : Nat), k + d = 10 → ∀ (h : AH) (fuel : Nat), d < fuel → DS h x → agr (iv h (x + 37)) (wro R v k) →
    ∃ h', lX7_read_47 qq fuel (x + 35) (nI v) (nI k) z h = qq (x + 35) (nI (v + 1)) z h' ∧ Fq (fun b => b = x + 37) h h' ∧ agr (iv h' (x + 37)) (wro R v 10) := by
  intro d
  induction d with
  | zero =>
    intro k hk h fuel hf hD hR
    obtain rfl : k = 10 := by omega
    cases fuel with
    | zero => omega
    | succ fuel =>
      refine ⟨h, ?_, Fq.rf _ h, hR⟩
      show lX7_read_47B _ _ _ _ _ _ _ = _
      simp (disch := omega) only [lX7_read_47B, nI_leE, leN_T, ↓reduceIte, li10, nI_1]
  | succ d ih =>
    intro k hk h fuel hf hD hR
    cases fuel with
    | zero => omega
    | succ fuel =>
      obtain ⟨d1, d2, d3, d4, d5, d6, d7, d8, d9, d10, d11, d12, d13, d14, d15⟩ := id hD
      have x1 := e8_inS (show iv h (x + 37) (Int32.toNatClampNeg (nI k)) = wro R v k k by rw [nI_clamp (by omega), hR k (by omega)]) (show v < 32 by omega) z h
      cases hb : bt (wro R v k k) v
      · rw [hb] at x1
        have hs : agr (iv h (x + 37)) (wro R v (k + 1)) := fun j hj => by
          show _ = wst (wro R v k) v k j
          unfold wst
          rw [hb, upd_s, hR j hj]
          split
          · rename_i e; subst e; rfl
          · rfl
        obtain ⟨h', v1, v2, v3⟩ := ih (k + 1) (by omega) h fuel (by omega) hD hs
        refine ⟨h', ?_, v2, v3⟩
        rw [← v1]
        show lX7_read_47B _ _ _ _ _ _ _ = _
        simp (disch := omega) only [lX7_read_47B, bX7_read_81, ↓brv_wI, ↓brv_wJ, ↓gd, ↓bl, ↓on, ↓xr, ↓reduceIte, if_true, if_false, kd_wI, ln_wI, rv_wI, iv_wI, jv_wI, kd_wJ, ln_wJ, rv_wJ, iv_wJ, nI_clamp, nI_leE, nI_ltE, nI_eqE, m1_ne, bit_0, bit_1, nI_negE, leN_F, leN_T, ltN_F, ltN_T, eqN_F, or_false, false_or, or_true, true_or, not_false_eq_true, not_true_eq_false, and_true, true_and, and_false, false_and, li10, d9, ↓bb d11, d14, d15, ↓bb3 x1, Bool.false_eq_true, nI_1]
      · rw [hb] at x1
        have hF : Fq (fun b => b = x + 37) h (wI h (x + 37) k (wro R v k k ||| wro R v k v)) := Fq.w h _ _ rfl
        obtain ⟨h', v1, v2, v3⟩ := ih (k + 1) (by omega) (wI h (x + 37) k (wro R v k k ||| wro R v k v)) fuel (by omega) (DS_c rfl rfl hD) (fun j hj => by
          show _ = wst (wro R v k) v k j
          unfold wst
          rw [hb, upd_s, iv_wI, if_pos rfl, hR j hj]
          rfl)
        refine ⟨h', ?_, hF.tr v2, v3⟩
        rw [← v1]
        have ek := hR k (by omega)
        have ev := hR v hv
        show lX7_read_47B _ _ _ _ _ _ _ = _
        simp (disch := omega) only [lX7_read_47B, bX7_read_81, ↓brv_wI, ↓brv_wJ, ↓gd, ↓bl, ↓on, ↓xr, ↓reduceIte, if_true, if_false, kd_wI, ln_wI, rv_wI, iv_wI, jv_wI, kd_wJ, ln_wJ, rv_wJ, iv_wJ, nI_clamp, nI_leE, nI_ltE, nI_eqE, m1_ne, bit_0, bit_1, nI_negE, leN_F, leN_T, ltN_F, ltN_T, eqN_F, or_false, false_or, or_true, true_or, not_false_eq_true, not_true_eq_false, and_true, true_and, and_false, false_and, li10, d9, ↓bb d11, d14, d15, ↓bb3 x1, ne10, nI_1, ek, ev]
theorem w7_on {x : Nat} (R : Nat → Int32) (z : Nat) : ∀ (d k : Nat), k + d = 10 → ∀ (h : AH) (fuel : Nat), d < fuel → DS h x → agr (iv h (x + 37)) R → iv h (x + 35) 2 = mk k (fun t => bt (R t) t) →
    ∃ h', lX7_read_100 fuel (x + 35) (nI k) z h = some (z, h') ∧ Fq (fun b => b = x + 35) h h' ∧ iv h' (x + 35) 2 = og R := by
  intro d
  induction d with
  | zero =>
    intro k hk h fuel hf hD hR hO
    obtain rfl : k = 10 := by omega
    cases fuel with
    | zero => omega
    | succ fuel =>
      refine ⟨h, ?_, Fq.rf _ h, hO⟩
      show lX7_read_100B _ _ _ _ _ = _
      simp (disch := omega) only [lX7_read_100B, nI_leE, leN_T, ↓reduceIte, li10]
  | succ d ih =>
    intro k hk h fuel hf hD hR hO
    cases fuel with
    | zero => omega
    | succ fuel =>
      obtain ⟨d1, d2, d3, d4, d5, d6, d7, d8, d9, d10, d11, d12, d13, d14, d15⟩ := id hD
      have x1 := e8_inS (show iv h (x + 37) (Int32.toNatClampNeg (nI k)) = R k by rw [nI_clamp (by omega), hR k (by omega)]) (show k < 32 by omega) z h
      cases hb : bt (R k) k
      · rw [hb] at x1
        obtain ⟨h', v1, v2, v3⟩ := ih (k + 1) (by omega) h fuel (by omega) hD hR (by rw [hO, mk_s, hb]; rfl)
        refine ⟨h', ?_, v2, v3⟩
        rw [← v1]
        show lX7_read_100B _ _ _ _ _ = _
        simp (disch := omega) only [lX7_read_100B, bX7_read_131, ↓brv_wI, ↓brv_wJ, ↓gd, ↓bl, ↓on, ↓xr, ↓reduceIte, if_true, if_false, kd_wI, ln_wI, rv_wI, iv_wI, jv_wI, kd_wJ, ln_wJ, rv_wJ, iv_wJ, nI_clamp, nI_leE, nI_ltE, nI_eqE, m1_ne, bit_0, bit_1, nI_negE, leN_F, leN_T, ltN_F, ltN_T, eqN_F, or_false, false_or, or_true, true_or, not_false_eq_true, not_true_eq_false, and_true, true_and, and_false, false_and, li10, d9, ↓bb d11, d14, d15, ↓bb3 x1, Bool.false_eq_true, nI_1]
      · rw [hb] at x1
        have hF : Fq (fun b => b = x + 35) h (wI h (x + 35) 2 (mk k (fun t => bt (R t) t) ||| ((1 : Int32) <<< (nI k &&& 31)))) := Fq.w h _ _ rfl
        obtain ⟨h', v1, v2, v3⟩ := ih (k + 1) (by omega) (wI h (x + 35) 2 (mk k (fun t => bt (R t) t) ||| ((1 : Int32) <<< (nI k &&& 31)))) fuel (by omega) (DS_c rfl rfl hD) (by rw [iv_wI_ne _ _ _ (by omega)]; exact hR) (by rw [mk_s, hb, iv_wI, if_pos rfl, if_pos rfl]; rfl)
        refine ⟨h', ?_, hF.tr v2, v3⟩
        rw [← v1]
        show lX7_read_100B _ _ _ _ _ = _
        simp (disch := omega) only [lX7_read_100B, bX7_read_131, ↓brv_wI, ↓brv_wJ, ↓gd, ↓bl, ↓on, ↓xr, ↓reduceIte, if_true, if_false, kd_wI, ln_wI, rv_wI, iv_wI, jv_wI, kd_wJ, ln_wJ, rv_wJ, iv_wJ, nI_clamp, nI_leE, nI_ltE, nI_eqE, m1_ne, bit_0, bit_1, nI_negE, leN_F, leN_T, ltN_F, ltN_T, eqN_F, or_false, false_or, or_true, true_or, not_false_eq_true, not_true_eq_false, and_true, true_and, and_false, false_and, li10, d9, ↓bb d11, d14, d15, ↓bb3 x1, ne10, nI_1, hO]
theorem w7_out {x : Nat} (R : Nat → Int32) (z : Nat) : ∀ (d v : Nat), v + d = 10 → ∀ (h : AH) (fuel : Nat), d < fuel → DS h x → agr (iv h (x + 37)) (wal R v) →
    ∃ h', lX7_read_39 fuel (x + 35) (nI v) z h = some (z, h') ∧ Fq (fun b => b = x + 35 ∨ b = x + 37) h h' ∧ agr (iv h' (x + 37)) (rc R) ∧ iv h' (x + 35) 2 = og (rc R) := by
  intro d
  induction d with
  | zero =>
    intro v hk h fuel hf hD hR
    obtain rfl : v = 10 := by omega
    cases fuel with
    | zero => omega
    | succ fuel =>
      obtain ⟨h', v1, v2, v3⟩ := w7_on (rc R) z 10 0 (by omega) (wI h (x + 35) 2 0) fu (by unfold fu; omega) (DS_c rfl rfl hD) (by rw [iv_wI_ne _ _ _ (by omega)]; exact hR) (by rw [iv_wI, if_pos rfl, if_pos rfl]; rfl)
      refine ⟨h', ?_, (Fq.w h _ _ (Or.inl rfl)).tr (v2.mono (fun b hb => Or.inl hb)), ?_, v3⟩
      · rw [nI_0] at v1
        have d9 := hD.2.2.2.2.2.2.2.2.1
        show lX7_read_39B _ _ _ _ _ = _
        simp (disch := omega) only [lX7_read_39B, ↓gd, ↓bl, nI_leE, leN_T, ↓reduceIte, li10, d9, v1]
      · rw [iv_F v2 (by omega), iv_wI_ne _ _ _ (by omega)]; exact hR
  | succ d ih =>
    intro v hk h fuel hf hD hR
    cases fuel with
    | zero => omega
    | succ fuel =>
      obtain ⟨h1, v1, v2, v3⟩ := w7_in (wal R v) (v := v) (by omega) (lX7_read_39 fuel) z 10 0 (by omega) h fu (by unfold fu; omega) hD hR
      obtain ⟨h', w1, w2, w3, w4⟩ := ih (v + 1) (by omega) h1 fuel (by omega) (DS_c v2.1 v2.2.1 hD) v3
      refine ⟨h', ?_, (v2.mono (fun b hb => Or.inr hb)).tr w2, w3, w4⟩
      rw [nI_0] at v1
      show lX7_read_39B _ _ _ _ _ = _
      simp (disch := omega) only [lX7_read_39B, nI_leE, leN_F, ↓reduceIte, li10, v1, w1]
theorem w7_nx {x : Nat} {s : Ab} {B : Nat} (hQ : WA s B) (z : Nat) : ∀ (d k : Nat), k + d = 10 → ∀ (h : AH) (fuel : Nat), d < fuel → CS h x s → (∀ j, j < k → iv h (x + 36) j = ng s.1 j ∧ iv h (x + 37) j = ng s.1 j) →
    ∃ h', lX7_read_2 fuel (x + 35) (x + 1) (nI k) z h = some (z, h') ∧ Fq (PW x) h h' ∧ WV h' x (ng s.1) := by
  intro d
  induction d with
  | zero =>
    intro k hk h fuel hf hS hN
    obtain rfl : k = 10 := by omega
    cases fuel with
    | zero => omega
    | succ fuel =>
      obtain ⟨h', v1, v2, v3, v4⟩ := w7_out (ng s.1) z 10 0 (by omega) h fu (by unfold fu; omega) hS.1 (fun j hj => (hN j hj).2)
      refine ⟨h', ?_, v2.mono (fun b hb => by unfold PW; omega), ?_, v3, v4⟩
      · rw [nI_0] at v1
        show lX7_read_2B _ _ _ _ _ _ = _
        simp (disch := omega) only [lX7_read_2B, nI_leE, leN_T, ↓reduceIte, li10, v1]
      · rw [iv_F v2 (by omega)]; exact fun j hj => (hN j hj).1
  | succ d ih =>
    intro k hk h fuel hf hS hN
    cases fuel with
    | zero => omega
    | succ fuel =>
      obtain ⟨d1, d2, d3, d4, d5, d6, d7, d8, d9, d10, d11, d12, d13, d14, d15⟩ := id hS.1
      have hk1 := hS.2.1.1.1
      have x1 : fX0_waitsFor (x + 1) (nI k) z h = some (ng s.1 k, z, h) := e0_waitsFor hQ.1 hQ.t hQ.w hS.2.1 (by omega) z
      have hF : Fq (PW x) h (wI (wI h (x + 36) k (ng s.1 k)) (x + 37) k (ng s.1 k)) := (Fq.w h _ _ (by unfold PW; omega)).tr (Fq.w _ _ _ (by unfold PW; omega))
      have hS2 := CS_F hQ.1 hF PW_ok hS
      obtain ⟨h', v1, v2, v3⟩ := ih (k + 1) (by omega) _ fuel (by omega) hS2 (fun j hj => by
        rw [iv_wI_ne (b := x + 36) _ _ _ (by omega), iv_wI, if_pos rfl, iv_wI, if_pos rfl]
        by_cases e : j = k
        · subst e; simp
        · rw [if_neg e, if_neg e, iv_wI_ne (b := x + 37) _ _ _ (by omega)]; exact hN j (by omega))
      refine ⟨h', ?_, hF.tr v2, v3⟩
      rw [← v1]
      show lX7_read_2B _ _ _ _ _ _ = _
      simp (disch := omega) only [lX7_read_2B, ↓brv_wI, ↓brv_wJ, ↓gd, ↓bl, ↓on, ↓xr, ↓reduceIte, if_true, if_false, kd_wI, ln_wI, rv_wI, iv_wI, jv_wI, kd_wJ, ln_wJ, rv_wJ, iv_wJ, nI_clamp, nI_leE, nI_ltE, nI_eqE, m1_ne, bit_0, bit_1, nI_negE, leN_F, leN_T, ltN_F, ltN_T, eqN_F, or_false, false_or, or_true, true_or, not_false_eq_true, not_true_eq_false, and_true, true_and, and_false, false_and, li10, d9, ↓bb d10, ↓bb d11, hk1, ↓bb3 x1, d12, d13, d14, d15, nI_1]
theorem w7_read {h : AH} {x : Nat} {s : Ab} {B : Nat} (hQ : WA s B) (hS : CS h x s) (z : Nat) : ∃ h', fX7_read (x + 35) (x + 1) z h = some (z, h') ∧ Fq (PW x) h h' ∧ WV h' x (ng s.1) := by
  obtain ⟨h', v1, v2, v3⟩ := w7_nx hQ z 10 0 (by omega) h fu (by unfold fu; omega) hS (fun j hj => by omega)
  rw [nI_0] at v1
  exact ⟨h', v1, v2, v3⟩
