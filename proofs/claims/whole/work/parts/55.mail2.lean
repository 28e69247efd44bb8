theorem sdP_WFm {q : Nat → Int32} (h : WFm q) (hlt : nm q < 40) {n t hp : Nat} {f : Nat → Int32} (h1 : 1 ≤ n) (h9 : n + hp ≤ 9) (ht : t < 10) (hf : ∀ e, e < n → ∃ u, u < 10 ∧ f e = nI u) : WFm (sdP q n f (nI t) (nI hp)) := by
  obtain ⟨hm, hn40, hms⟩ := h
  have e1 := sdP_nm (q := q) n f (nI t) (nI hp) hm hlt
  refine ⟨?_, by omega, fun k hk => ?_⟩
  · rw [e1]; unfold sdP; rw [if_pos rfl, hm, nI_1]
  · rw [e1] at hk
    by_cases ek : k = nm q
    · subst ek
      have el : mln (sdP q n f (nI t) (nI hp)) (nm q) = n := by unfold mln; rw [sdP_2, nI_clamp (by omega)]
      refine ⟨⟨t, ht, sdP_0 _ _ _ _ _⟩, ⟨hp, sdP_1 _ _ _ _ _, by omega, by rw [el]; exact sdP_2 _ _ _ _ _, by omega⟩, fun e he => ?_⟩
      rw [el] at he
      rw [sdP_3 q f _ _ (by omega) he]
      exact hf e he
    · exact MS_c (fun j hj => (sdP_old q n f (nI t) (nI hp) (by omega) (by omega)).symm) (hms k (by omega))
theorem sdP_nord {p q : Nat → Int32} (h : nord p q) (n : Nat) (f : Nat → Int32) (t hp : Int32) : nord (sdP p n f t hp) (sdP q n f t hp) := by
  intro j hj
  have e : nm p = nm q := by unfold nm; rw [h 92 (by omega)]
  unfold sdP
  rw [e, h j hj, h 92 (by omega)]
theorem RF_sd {p q : Nat → Int32} {L : List Nat} (hR : RF p q L) (n : Nat) (f : Nat → Int32) (t hp : Int32) : RF (sdP p n f t hp) (sdP q n f t hp) L := by
  refine RF_keep hR (sdP_nord hR.1 n f t hp) (fun j _ _ => sdP_lo _ _ _ _ _ (by omega)) (fun k hk => ?_)
  unfold wt th
  rw [sdP_lo _ _ _ _ _ (by omega), sdP_lo _ _ _ _ _ (by omega)]
def sdA (s : Ab) (n : Nat) (f : Nat → Int32) (t hp : Int32) : Ab := if nm s.1 = 40 then (s.1, s.2.1, upd s.2.2 1 (s.2.2 1 + 1)) else (sdP s.1 n f t hp, s.2.1, upd s.2.2 0 (s.2.2 0 + 1))
def sdN (c : Nat → Bool) (n : Nat) (f : Nat → Int32) (hp : Int32) (s : Ab) : Nat → Ab
  | 0 => s
  | k + 1 => if c k then sdA (sdN c n f hp s k) n f (nI k) hp else sdN c n f hp s k
theorem WA_sd {s : Ab} {B n t hp : Nat} {f : Nat → Int32} (h : WA s B) (h1 : 1 ≤ n) (h9 : n + hp ≤ 9) (ht : t < 10) (hf : ∀ e, e < n → ∃ u, u < 10 ∧ f e = nI u) : WA (sdA s n f (nI t) (nI hp)) B := by
  unfold sdA
  have hm := h.2.2.2.2.2
  split
  · exact h
  · rename_i e
    exact WQ_mail h (fun j hj => (sdP_lo _ _ _ _ _ hj).symm) (sdP_WFm hm (by have := hm.2.1; omega) h1 h9 ht hf)
theorem WA_sdN {s : Ab} {B n hp : Nat} {f : Nat → Int32} {c : Nat → Bool} (h : WA s B) (h1 : 1 ≤ n) (h9 : n + hp ≤ 9) (hf : ∀ e, e < n → ∃ u, u < 10 ∧ f e = nI u) : ∀ k, k ≤ 10 → WA (sdN c n f (nI hp) s k) B := by
  intro k
  induction k with
  | zero => intro _; exact h
  | succ k ih =>
    intro hk
    unfold sdN
    split
    · exact WA_sd (ih (by omega)) h1 h9 (by omega) hf
    · exact ih (by omega)
def PS (x b : Nat) : Prop := (x + 1 ≤ b ∧ b < x + 17) ∨ b = x + 34
theorem PS_bk {x : Nat} : ∀ b, x + 1 ≤ b → b < x + 1 + 16 → PS x b := fun b h1 h2 => Or.inl ⟨h1, by omega⟩
theorem e1_sd_loop {x : Nat} {s : Ab} {B n hp : Nat} {f : Nat → Int32} {y : Int64} {g : Int32} (hQ : WA s B) (h1 : 1 ≤ n) (h9 : n + hp ≤ 9) (hf : ∀ e, e < n → ∃ u, u < 10 ∧ f e = nI u) (hy : PL y n f) (z : Nat) : ∀ (d k : Nat), k + d = 10 → ∀ (h : AH) (fuel : Nat), d < fuel → CS h x (sdN (bt g) n f (nI hp) s k) →
    ∃ h', lX1_sendToAll_3 fuel (x + 38) g y (nI n) (nI hp) (nI k) z h = some (z, h') ∧ Fq (PS x) h h' ∧ CS h' x (sdN (bt g) n f (nI hp) s 10) := by
  intro d
  induction d with
  | zero =>
    intro k hk h fuel hfu hS
    obtain rfl : k = 10 := by omega
    cases fuel with
    | zero => omega
    | succ fuel =>
      refine ⟨h, ?_, Fq.rf _ h, hS⟩
      show lX1_sendToAll_3B _ _ _ _ _ _ _ _ _ = _
      simp (disch := omega) only [lX1_sendToAll_3B, nI_leE, leN_T, ↓reduceIte, li10]
  | succ d ih =>
    intro k hk h fuel hfu hS
    cases fuel with
    | zero => omega
    | succ fuel =>
      cases hb : bt g k
      · have hs : sdN (bt g) n f (nI hp) s (k + 1) = sdN (bt g) n f (nI hp) s k := by rw [sdN, hb]; rfl
        obtain ⟨h', v1, v2, v3⟩ := ih (k + 1) (by omega) h fuel (by omega) (by rw [hs]; exact hS)
        refine ⟨h', ?_, v2, v3⟩
        have x1 := e8_inSet g (show k < 32 by omega) z h
        rw [hb] at x1
        rw [← v1]
        show lX1_sendToAll_3B _ _ _ _ _ _ _ _ _ = _
        simp (disch := omega) only [lX1_sendToAll_3B, bX1_sendToAll_52, ↓brv_wI, ↓brv_wJ, ↓gd, ↓bl, ↓on, ↓xr, ↓reduceIte, if_true, if_false, kd_wI, ln_wI, rv_wI, iv_wI, jv_wI, kd_wJ, ln_wJ, rv_wJ, iv_wJ, nI_clamp, nI_leE, nI_ltE, nI_eqE, m1_ne, bit_0, bit_1, nI_negE, leN_F, leN_T, ltN_F, ltN_T, eqN_F, or_false, false_or, or_true, true_or, not_false_eq_true, not_true_eq_false, and_true, true_and, and_false, false_and, li10, ↓bb3 x1, Bool.false_eq_true, nI_1]
      · have hs : sdN (bt g) n f (nI hp) s (k + 1) = sdA (sdN (bt g) n f (nI hp) s k) n f (nI k) (nI hp) := by rw [sdN, hb]; rfl
        have hQk := WA_sdN (c := bt g) hQ h1 h9 hf k (by omega)
        have x1 := e8_inSet g (show k < 32 by omega) z h
        rw [hb] at x1
        generalize hsk : sdN (bt g) n f (nI hp) s k = sk at hs hS hQk
        obtain ⟨h1', y1, y2, y3⟩ := e4_send hQk.1 hS.2.1 hQk.2.2.2.2.2 (by omega) hy (nI k) (nI hp) z
        have hS1 := CS_bk hS y2 y3
        obtain ⟨d1, d2, d3, d4, d5, -⟩ := hS.1
        obtain ⟨f1, f2, f3, f4, f5, -⟩ := id hS1.1
        have hB := hS.2.1.1
        by_cases e : nm sk.1 = 40
        · rw [if_pos e] at y1 hS1
          have hs2 : sdA sk n f (nI k) (nI hp) = (sk.1, sk.2.1, upd sk.2.2 1 (sk.2.2 1 + 1)) := by unfold sdA; rw [if_pos e]
          have u1 : fX6_add (x + 33) 1 1 z h1' = some (z, wI h1' (x + 34) 1 (iv h1' (x + 34) 1 + 1)) := e6_add hS1.1 (k := 1) (by omega) 1 z
          have u3 : CS (wI h1' (x + 34) 1 (iv h1' (x + 34) 1 + 1)) x (sdN (bt g) n f (nI hp) s (k + 1)) := by
            rw [hs, hs2]
            exact ⟨DS_c rfl rfl hS1.1, CB_c (BO_c rfl rfl hS1.2.1.1) hQk.1 (fun b _ _ => iv_wI_ne _ _ _ (by omega)) rfl (nord.rf _) hS1.2.1, fun j hj => by
              rw [iv_wI, if_pos rfl, hS1.2.2 1 (by omega), hS1.2.2 j hj]; rfl⟩
          obtain ⟨h', v1, v2, v3⟩ := ih (k + 1) (by omega) _ fuel (by omega) u3
          refine ⟨h', ?_, ((Fq.fr y2 PS_bk).tr (Fq.w (P := PS x) _ _ _ (Or.inr rfl))).tr v2, v3⟩
          rw [← v1]
          show lX1_sendToAll_3B _ _ _ _ _ _ _ _ _ = _
          obtain ⟨bk, b0, b1, b2, b3, b4, b5, b6, b7, fk, f0, f1, f2, mk0, m0, m1, m2, m3, kf0, kf1, kf2, lf0, lf1, lf2, km0, km1, km2, km3, lm0, lm1, lm2, lm3, kb2, kb3, kb4, kb5, kb6, kb7, lb2, lb3, lb4, lb5, lb6, lb7⟩ := id hB
          simp (disch := omega) only [lX1_sendToAll_3B, bX1_sendToAll_48, bX1_sendToAll_52, ↓brv_wI, ↓brv_wJ, ↓gd, ↓bl, ↓on, ↓xr, ↓reduceIte, if_true, if_false, kd_wI, ln_wI, rv_wI, iv_wI, jv_wI, kd_wJ, ln_wJ, rv_wJ, iv_wJ, nI_clamp, nI_leE, nI_ltE, nI_eqE, m1_ne, bit_0, bit_1, nI_negE, leN_F, leN_T, ltN_F, ltN_T, eqN_F, or_false, false_or, or_true, true_or, not_false_eq_true, not_true_eq_false, and_true, true_and, and_false, false_and, li10, ↓bb3 x1, ne10, d1, ↓bb d2, ↓bb d3, bk, ↓bb b0, ↓bb b1, ↓bb b2, ↓bb b3, ↓bb b4, ↓bb b5, ↓bb b6, ↓bb b7, fk, ↓bb f0, ↓bb f1, ↓bb f2, mk0, ↓bb m0, ↓bb m1, ↓bb m2, ↓bb m3, kf0, kf1, kf2, lf0, lf1, lf2, km0, km1, km2, km3, lm0, lm1, lm2, lm3, kb2, kb3, kb4, kb5, kb6, kb7, lb2, lb3, lb4, lb5, lb6, lb7, ↓bb3 y1, f5, ↓bb2 u1, nI_1]
        · rw [if_neg e] at y1 hS1
          have hs2 : sdA sk n f (nI k) (nI hp) = (sdP sk.1 n f (nI k) (nI hp), sk.2.1, upd sk.2.2 0 (sk.2.2 0 + 1)) := by unfold sdA; rw [if_neg e]
          have u1 := e6_add hS1.1 (k := 0) (by omega) 1 z
          rw [nI_0] at u1
          have hW1 : WFr (sdP sk.1 n f (nI k) (nI hp)) := sres_WFr (fun j hj => (sdP_lo _ _ _ _ _ (by omega)).symm) hQk.1
          have u3 : CS (wI h1' (x + 34) 0 (iv h1' (x + 34) 0 + 1)) x (sdN (bt g) n f (nI hp) s (k + 1)) := by
            rw [hs, hs2]
            exact ⟨DS_c rfl rfl hS1.1, CB_c (BO_c rfl rfl hS1.2.1.1) hW1 (fun b _ _ => iv_wI_ne _ _ _ (by omega)) rfl (nord.rf _) hS1.2.1, fun j hj => by
              rw [iv_wI, if_pos rfl, hS1.2.2 0 (by omega), hS1.2.2 j hj]; rfl⟩
          obtain ⟨h', v1, v2, v3⟩ := ih (k + 1) (by omega) _ fuel (by omega) u3
          refine ⟨h', ?_, ((Fq.fr y2 PS_bk).tr (Fq.w (P := PS x) _ _ _ (Or.inr rfl))).tr v2, v3⟩
          rw [← v1]
          show lX1_sendToAll_3B _ _ _ _ _ _ _ _ _ = _
          obtain ⟨bk, b0, b1, b2, b3, b4, b5, b6, b7, fk, f0, f1, f2, mk0, m0, m1, m2, m3, kf0, kf1, kf2, lf0, lf1, lf2, km0, km1, km2, km3, lm0, lm1, lm2, lm3, kb2, kb3, kb4, kb5, kb6, kb7, lb2, lb3, lb4, lb5, lb6, lb7⟩ := id hB
          simp (disch := omega) only [lX1_sendToAll_3B, bX1_sendToAll_48, bX1_sendToAll_52, ↓brv_wI, ↓brv_wJ, ↓gd, ↓bl, ↓on, ↓xr, ↓reduceIte, if_true, if_false, kd_wI, ln_wI, rv_wI, iv_wI, jv_wI, kd_wJ, ln_wJ, rv_wJ, iv_wJ, nI_clamp, nI_leE, nI_ltE, nI_eqE, m1_ne, bit_0, bit_1, nI_negE, leN_F, leN_T, ltN_F, ltN_T, eqN_F, or_false, false_or, or_true, true_or, not_false_eq_true, not_true_eq_false, and_true, true_and, and_false, false_and, li10, ↓bb3 x1, ne10, d1, ↓bb d2, ↓bb d3, bk, ↓bb b0, ↓bb b1, ↓bb b2, ↓bb b3, ↓bb b4, ↓bb b5, ↓bb b6, ↓bb b7, fk, ↓bb f0, ↓bb f1, ↓bb f2, mk0, ↓bb m0, ↓bb m1, ↓bb m2, ↓bb m3, kf0, kf1, kf2, lf0, lf1, lf2, km0, km1, km2, km3, lm0, lm1, lm2, lm3, kb2, kb3, kb4, kb5, kb6, kb7, lb2, lb3, lb4, lb5, lb6, lb7, ↓bb3 y1, f5, ↓bb2 u1, nI_1]
theorem w1_sendToAll {h : AH} {x : Nat} {s : Ab} {B n hp : Nat} {f : Nat → Int32} {y : Int64} {g : Int32} (hQ : WA s B) (h1 : 1 ≤ n) (h9 : n + hp ≤ 9) (hf : ∀ e, e < n → ∃ u, u < 10 ∧ f e = nI u) (hy : PL y n f) (hS : CS h x s) (z : Nat) :
    ∃ h', fX1_sendToAll (x + 38) g y (nI n) (nI hp) z h = some (z, h') ∧ Fq (PS x) h h' ∧ CS h' x (sdN (bt g) n f (nI hp) s 10) :=
  e1_sd_loop hQ h1 h9 hf hy z 10 0 (by omega) h fu (by unfold fu; omega) hS
theorem e7_of {h : AH} {x : Nat} {E : Nat → Int32} (hD : DS h x) (hV : WV h x E) {t : Nat} (ht : t < 10) (z : Nat) : fX7_of (x + 35) (nI t) z h = some (E t, z, h) := by
  obtain ⟨d1, d2, d3, d4, d5, d6, d7, d8, d9, d10, d11, d12, d13, d14, d15⟩ := hD
  have e := hV.1 t ht
  simp (disch := omega) only [fX7_of, ↓brv_wI, ↓brv_wJ, ↓gd, ↓bl, ↓on, ↓xr, ↓reduceIte, if_true, if_false, kd_wI, ln_wI, rv_wI, iv_wI, jv_wI, kd_wJ, ln_wJ, rv_wJ, iv_wJ, nI_clamp, nI_leE, nI_ltE, nI_eqE, m1_ne, bit_0, bit_1, nI_negE, leN_F, leN_T, ltN_F, ltN_T, eqN_F, or_false, false_or, or_true, true_or, not_false_eq_true, not_true_eq_false, and_true, true_and, and_false, false_and, li10, d9, ↓bb d10, d12, d13, e]
/-- a probe begins -/
def prA (s : Ab) (t : Nat) : Ab := sdN (bt (ng s.1 t)) 1 (fun _ => nI t) (s.1 19 - 1) s 10
theorem w1_startProbe {h : AH} {x : Nat} {s : Ab} {B : Nat} (hQ : WA s B) (hS : CS h x s) {t : Nat} (ht : t < 10) (z : Nat) : ∃ h', fX1_startProbe (x + 38) (nI t) z h = some ((prA s t).1 92, z, h') ∧ Fq (PD x) h h' ∧ CS h' x (prA s t) ∧ WA (prA s t) B := by
  obtain ⟨h1, v1, v2, v3⟩ := w7_read hQ hS z
  have hS1 := CS_F hQ.1 v2 PW_ok hS
  obtain ⟨b, hb1, hb9, hb⟩ := hQ.2.2.2.2.1.2.2
  have hb' : s.1 19 - 1 = nI (b - 1) := by rw [hb, show (1 : Int32) = nI 1 from rfl, pk_sub hb1]
  have x1 := e7_of hS1.1 v3 ht z
  have hf : ∀ e, e < 1 → ∃ u, u < 10 ∧ (fun _ : Nat => nI t) e = nI u := fun e _ => ⟨t, ht, rfl⟩
  obtain ⟨h2, w1, w2, w3⟩ := w1_sendToAll (n := 1) (hp := b - 1) (f := fun _ => nI t) (g := ng s.1 t) hQ (by omega) (by omega) hf (PL_one ht _ rfl) hS1 z
  have hQ2 := WA_sdN (n := 1) (hp := b - 1) (f := fun _ => nI t) (c := bt (ng s.1 t)) hQ (by omega) (by omega) hf 10 (by omega)
  have h12 : iv h1 (x + 1) 12 - 1 = nI (b - 1) := by
    rw [hS1.2.1.2.2.2.2.1.2.2.1]; exact hb'
  have w1 : fX1_sendToAll (x + 38) (ng s.1 t) (Int32.toInt64 (nI t)) 1 (iv h1 (x + 1) 12 - 1) z h1 = some (z, h2) := by rw [h12]; exact w1
  unfold prA
  rw [hb']
  refine ⟨h2, ?_, (v2.mono (fun b hb => by unfold PD; unfold PW at hb; omega)).tr (w2.mono (fun b hb => by unfold PD; unfold PS at hb; omega)), w3, hQ2⟩
  obtain ⟨d1, d2, d3, d4, d5, d6, d7, d8, d9, -⟩ := hS.1
  obtain ⟨j1, j2, j3, j4, j5, j6, j7, j8, j9, -⟩ := hS1.1
  obtain ⟨g1, g2, g3, g4, g5, -⟩ := w3.1
  have hk1 := hS1.2.1.1.1
  have s5 := w3.2.1.2.2.2.2.2.1
  have hB := w3.2.1.1
  obtain ⟨bk, b0, b1, b2, b3, b4, b5, b6, b7, fk, f0, f1, f2, mk0, m0, m1, m2, m3, kf0, kf1, kf2, lf0, lf1, lf2, km0, km1, km2, km3, lm0, lm1, lm2, lm3, kb2, kb3, kb4, kb5, kb6, kb7, lb2, lb3, lb4, lb5, lb6, lb7⟩ := id hB
  simp (disch := omega) only [fX1_startProbe, ↓brv_wI, ↓brv_wJ, ↓gd, ↓bl, ↓on, ↓xr, ↓reduceIte, if_true, if_false, kd_wI, ln_wI, rv_wI, iv_wI, jv_wI, kd_wJ, ln_wJ, rv_wJ, iv_wJ, nI_clamp, nI_leE, nI_ltE, nI_eqE, m1_ne, bit_0, bit_1, nI_negE, leN_F, leN_T, ltN_F, ltN_T, eqN_F, or_false, false_or, or_true, true_or, not_false_eq_true, not_true_eq_false, and_true, true_and, and_false, false_and, d1, ↓bb d2, ↓bb d4, d9, ↓bb2 v1, j1, ↓bb j4, j9, ↓bb3 x1, ↓bb j2, hk1, ↓bb2 w1, g1, ↓bb g2, bk, ↓bb b0, ↓bb b1, ↓bb b2, ↓bb b3, ↓bb b4, ↓bb b5, ↓bb b6, ↓bb b7, fk, ↓bb f0, ↓bb f1, ↓bb f2, mk0, ↓bb m0, ↓bb m1, ↓bb m2, ↓bb m3, kf0, kf1, kf2, lf0, lf1, lf2, km0, km1, km2, km3, lm0, lm1, lm2, lm3, kb2, kb3, kb4, kb5, kb6, kb7, lb2, lb3, lb4, lb5, lb6, lb7, s5]
