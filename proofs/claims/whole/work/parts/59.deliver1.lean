abbrev Ac : Type := Ab × Int32 × Int32 × Int32
/-- one message is delivered -/
def dlA (w : Ac) : Ac :=
  if dSt w.1.1 = true then ((drP w.1.1, w.1.2.1, upd w.1.2.2 2 (w.1.2.2 2 + 1)), w.2)
  else if dT w.1.1 = dU w.1.1 0 then (seA (skA (drP w.1.1, w.1.2.1, upd w.1.2.2 4 (w.1.2.2 4 + 1)) (vp w.1.1 (dU w.1.1) (mln w.1.1 0))), pm (dF w.1.1) (mln w.1.1 0), nI (vp w.1.1 (dU w.1.1) (mln w.1.1 0)), nI (dU w.1.1 0))
  else if wt w.1.1 (dT w.1.1) = true ∧ anyB (mln w.1.1 0) (fun e => decide (dU w.1.1 e = dT w.1.1)) = false then
    (if dH w.1.1 = 0 then ((drP w.1.1, w.1.2.1, upd (upd w.1.2.2 3 (w.1.2.2 3 + 1)) 5 (w.1.2.2 5 + (if bt (og (rc (ng w.1.1))) (dU w.1.1 0) then 1 else 0))), w.2)
     else (sdN (bt (ng w.1.1 (dT w.1.1))) (mln w.1.1 0 + 1) (fun e => if e = mln w.1.1 0 then nI (dT w.1.1) else dF w.1.1 e) (nI (dH w.1.1 - 1)) (drP w.1.1, w.1.2.1, w.1.2.2) 10, w.2))
  else ((drP w.1.1, w.1.2.1, w.1.2.2), w.2)
def LT (h : AH) (x : Nat) (l : Int32 × Int32 × Int32) : Prop := iv h (x + 33) 1 = l.1 ∧ iv h (x + 33) 2 = l.2.1 ∧ iv h (x + 33) 3 = l.2.2
def CL (h : AH) (x : Nat) (w : Ac) : Prop := CS h x w.1 ∧ LT h x w.2
def PE (x b : Nat) : Prop := (x + 1 ≤ b ∧ b < x + 17) ∨ (x + 33 ≤ b ∧ b < x + 38)
theorem LT_F {P : Nat → Prop} {h h' : AH} {x : Nat} {l : Int32 × Int32 × Int32} (hF : Fq P h h') (hP : ¬ P (x + 33)) (h1 : LT h x l) : LT h' x l := by
  unfold LT
  rw [iv_F hF hP]
  exact h1
theorem WV_a {h : AH} {x : Nat} {E E' : Nat → Int32} (e : agr E E') (hV : WV h x E) : WV h x E' := ⟨hV.1.tr e, hV.2.1.tr (rc_a e), by rw [hV.2.2, og_a (rc_a e)]⟩
theorem WV_F {P : Nat → Prop} {h h' : AH} {x : Nat} {E : Nat → Int32} (hF : Fq P h h') (hP : ∀ b, P b → ¬ PW x b) (hV : WV h x E) : WV h' x E := by
  unfold WV
  rw [iv_F hF (fun hb => hP _ hb (by unfold PW; omega)), iv_F hF (fun hb => hP _ hb (by unfold PW; omega)), iv_F hF (fun hb => hP _ hb (by unfold PW; omega))]
  exact hV
theorem ng_w {q : Nat → Int32} {t k : Nat} (hk : k < 10) (h : bt (ng q t) k = true) : wt q t = true := by
  unfold ng at h
  rw [bt_mk10 hk] at h
  unfold wf at h
  rw [Bool.and_eq_true] at h
  exact h.1
theorem dU_th {q : Nat → Int32} (hWm : WFm q) (h0 : 0 < nm q) (hst : dSt q = false) : ∀ e, e < mln q 0 → th q (dU q e) = true := fun e he => by
  obtain ⟨m1, m2, m3, m4, m5, m6, m7⟩ := dM hWm h0
  have h1 := (anyB_false.mp hst) e he
  unfold dBad at h1
  rw [Bool.not_eq_false'] at h1
  refine wt_th (ng_w ?_ h1)
  split
  · rename_i h9; exact (m7 (e + 1) h9).2
  · exact m2
theorem bf_lo {p q : Nat → Int32} (h : ∀ j, j < 92 → p j = q j) {a b : Nat} (ha : a < 10) (hb : b < 10) : bfN p a b = bfN q a b := by
  have e1 : ∀ t, t < 10 → ky p t = ky q t := fun t ht => by unfold ky; rw [h 18 (by omega), h _ (by omega), h _ (by omega)]
  have e2 : ∀ t, t < 10 → ag p t = ag q t := fun t ht => by unfold ag; rw [h _ (by omega)]
  unfold bfN
  rw [e1 a ha, e1 b hb, e2 a ha, e2 b hb]
/-- the victim of the first message's path -/
theorem vic_IM {q : Nat → Int32} {L : List Nat} {B : Nat} (hB31 : B < 2 ^ 31) (hQ : WQ q L B) (h0 : 0 < nm q) (hst : dSt q = false) : IM q (fun t => anyB (mln q 0) (fun e => decide (dU q e = t))) (vp q (dU q) (mln q 0)) ∧ vp q (dU q) (mln q 0) < 10 ∧ th q (vp q (dU q) (mln q 0)) = true := by
  have hWm := hQ.2.2.2.2.2
  obtain ⟨m1, m2, m3, m4, m5, m6, m7⟩ := dM hWm h0
  have hth := dU_th hWm h0 hst
  obtain ⟨⟨e, he, ev⟩, h2⟩ := vp_m (q := q) (u := dU q) (n := mln q 0) (fun a b ha hb hne => ag_ne hB31 hQ (m7 a ha).2 (m7 b hb).2 hne (hth a ha) (hth b hb)) (mln q 0) m5 (Nat.le_refl _)
  exact ⟨h2, by rw [ev]; exact (m7 e he).2, by rw [ev]; exact hth e he⟩
theorem e6_note {h : AH} {x : Nat} (hD : DS h x) (a b c : Int32) (z : Nat) : fX6_noteDeadlock (x + 33) a b c z h = some (z, wI (wI (wI (wI h (x + 33) 1 a) (x + 33) 2 b) (x + 33) 3 c) (x + 34) 4 (iv h (x + 34) 4 + 1)) := by
  have x1 := e6_add (h := wI (wI (wI h (x + 33) 1 a) (x + 33) 2 b) (x + 33) 3 c) (DS_c rfl rfl hD) (k := 4) (by omega) 1 z
  have x1 : fX6_add (x + 33) 4 1 z (wI (wI (wI h (x + 33) 1 a) (x + 33) 2 b) (x + 33) 3 c) = some (z, wI (wI (wI (wI h (x + 33) 1 a) (x + 33) 2 b) (x + 33) 3 c) (x + 34) 4 (iv h (x + 34) 4 + 1)) := by
    rw [show (4 : Int32) = nI 4 from rfl, x1, iv_wI_ne _ _ _ (by omega), iv_wI_ne _ _ _ (by omega), iv_wI_ne _ _ _ (by omega)]
  have d5 := hD.2.2.2.2.1
  simp (disch := omega) only [fX6_noteDeadlock, ↓brv_wI, ↓brv_wJ, ↓gd, ↓bl, ↓on, ↓xr, ↓reduceIte, if_true, if_false, kd_wI, ln_wI, rv_wI, iv_wI, jv_wI, kd_wJ, ln_wJ, rv_wJ, iv_wJ, nI_clamp, nI_leE, nI_ltE, nI_eqE, m1_ne, bit_0, bit_1, nI_negE, leN_F, leN_T, ltN_F, ltN_T, eqN_F, or_false, false_or, or_true, true_or, not_false_eq_true, not_true_eq_false, and_true, true_and, and_false, false_and, d5, ↓bb2 x1]
theorem w1_break {h : AH} {x : Nat} {s : Ab} {B : Nat} (hB31 : B < 2 ^ 31) (hQ : WA s B) (hS : CS h x s) {g : Int32} (hg : ∀ k, k < 10 → bt g k = true → th s.1 k = true) {v : Nat} (hv : IM s.1 (fun u => bt g u && decide (u < 10)) v) (hv10 : v < 10) (hvt : th s.1 v = true) (i : Int32) (z : Nat) :
    ∃ h', fX1_breakDeadlock (x + 38) g i z h = some (z, h') ∧ Fq (PE x) h h' ∧ CL h' x (seA (skA (s.1, s.2.1, upd s.2.2 4 (s.2.2 4 + 1)) v), g, nI v, i) ∧ WV h' x (ng (seA (skA (s.1, s.2.1, upd s.2.2 4 (s.2.2 4 + 1)) v)).1) := by
  have x1 := e1_victimOf hB31 hQ hS hg hv z
  have x2 := e6_note hS.1 g (nI v) i z
  have hF1 : Fq (PE x) h (wI (wI (wI (wI h (x + 33) 1 g) (x + 33) 2 (nI v)) (x + 33) 3 i) (x + 34) 4 (iv h (x + 34) 4 + 1)) := (((Fq.w h _ _ (Or.inr ⟨by omega, by omega⟩)).tr (Fq.w _ _ _ (Or.inr ⟨by omega, by omega⟩))).tr (Fq.w _ _ _ (Or.inr ⟨by omega, by omega⟩))).tr (Fq.w _ _ _ (Or.inr ⟨by omega, by omega⟩))
  generalize hh1 : wI (wI (wI (wI h (x + 33) 1 g) (x + 33) 2 (nI v)) (x + 33) 3 i) (x + 34) 4 (iv h (x + 34) 4 + 1) = h1 at x2 hF1
  have hS1 : CS h1 x (s.1, s.2.1, upd s.2.2 4 (s.2.2 4 + 1)) := by
    refine ⟨DS_c hF1.1 hF1.2.1 hS.1, CB_c (BO_c hF1.1 hF1.2.1 hS.2.1.1) hQ.1 (fun b _ _ => ?_) ?_ (nord.rf _) hS.2.1, fun k hk => ?_⟩
    · rw [← hh1, iv_wI_ne _ _ _ (by omega), iv_wI_ne _ _ _ (by omega), iv_wI_ne _ _ _ (by omega), iv_wI_ne _ _ _ (by omega)]
    · rw [← hh1]; rfl
    · rw [← hh1, iv_wI, if_pos rfl, iv_wI_ne _ _ _ (by omega), iv_wI_ne _ _ _ (by omega), iv_wI_ne _ _ _ (by omega), hS.2.2 k hk, hS.2.2 4 (by omega)]; rfl
  have hLT1 : LT h1 x (g, nI v, i) := by
    refine ⟨?_, ?_, ?_⟩ <;> rw [← hh1] <;> simp (disch := omega) only [iv_wI, eqN_F, if_false, if_true]
  obtain ⟨h2, y1, y2, y3⟩ := w0_strike hQ.1 hS1.2.1 hQ.len (fun t ht => (LO10 hQ t ht).1) hv10 hvt z
  have hS2 := CS_bk hS1 y2 y3
  obtain ⟨h3, u1, u2, u3⟩ := CS_add (k := 6) (sres_WFr (skP_sres _ _) hQ.1) hS2 (by omega) 1 z
  have hS3 : CS h3 x (skA (s.1, s.2.1, upd s.2.2 4 (s.2.2 4 + 1)) v) := u3
  have hQ3 : WA (skA (s.1, s.2.1, upd s.2.2 4 (s.2.2 4 + 1)) v) B := WQ_sk hv10 hvt hQ
  generalize skA (s.1, s.2.1, upd s.2.2 4 (s.2.2 4 + 1)) v = s3 at hS3 hQ3 ⊢
  obtain ⟨vv, h4, h5, a1, a2, a3, a4, a5, a6⟩ := w1_settle hQ3 hS3 z
  have hQ4 : WA (seA s3) B := WQ_stl hQ3
  obtain ⟨h6, b1', b2', b3'⟩ := w7_read hQ4 a6 z
  have hF2 : Fq (PD x) h1 h5 := ((Fq.fr y2 PD_bk).tr u2).tr a5
  refine ⟨h6, ?_, (hF1.tr (hF2.mono (fun b hb => by unfold PE; unfold PD at hb; omega))).tr (b2'.mono (fun b hb => by unfold PE; unfold PW at hb; omega)), ⟨CS_F (WQ_stl hQ3).1 b2' PW_ok a6, LT_F b2' (by unfold PW; omega) (LT_F hF2 (by unfold PD; omega) hLT1)⟩, b3'⟩
  obtain ⟨d1, d2, d3, d4, d5, d6, d7, d8, d9, -⟩ := hS.1
  obtain ⟨f1, f2, f3, f4, f5, f6, f7, f8, f9, -⟩ := hS1.1
  obtain ⟨g1, g2, g3, g4, g5, g6, g7, g8, g9, -⟩ := hS2.1
  obtain ⟨i1, i2, i3, i4, i5, i6, i7, i8, i9, -⟩ := hS3.1
  obtain ⟨j1, j2, j3, j4, j5, j6, j7, j8, j9, -⟩ := a4
  obtain ⟨n1, n2, n3, n4, n5, n6, n7, n8, n9, -⟩ := a6.1
  have hk1 := hS1.2.1.1.1
  have hk3 := hS3.2.1.1.1
  have u1 : fX6_add (x + 33) 6 1 z h2 = some (z, h3) := u1
  have a2 : fX6_add (x + 33) 7 vv z h4 = some (z, h5) := a2
  simp (disch := omega) only [fX1_breakDeadlock, ↓brv_wI, ↓brv_wJ, ↓gd, ↓bl, ↓on, ↓xr, ↓reduceIte, if_true, if_false, kd_wI, ln_wI, rv_wI, iv_wI, jv_wI, kd_wJ, ln_wJ, rv_wJ, iv_wJ, nI_clamp, nI_leE, nI_ltE, nI_eqE, m1_ne, bit_0, bit_1, nI_negE, leN_F, leN_T, ltN_F, ltN_T, eqN_F, or_false, false_or, or_true, true_or, not_false_eq_true, not_true_eq_false, and_true, true_and, and_false, false_and, d1, ↓bb3 x1, ↓bb d3, d5, ↓bb2 x2, f1, ↓bb f2, hk1, ↓bb2 y1, g1, ↓bb g3, g5, ↓bb2 u1, i1, ↓bb i3, ↓bb i2, hk3, ↓bb3 a1, j5, ↓bb2 a2, n1, ↓bb n4, ↓bb n2, n9, ↓bb2 b1']
theorem sdN_lo {c : Nat → Bool} {n : Nat} {f : Nat → Int32} {hp : Int32} {s : Ab} {j : Nat} (hj : j < 92) : ∀ k, (sdN c n f hp s k).1 j = s.1 j := by
  intro k
  induction k with
  | zero => rfl
  | succ k ih =>
    unfold sdN
    split
    · unfold sdA
      split
      · exact ih
      · exact (sdP_lo _ _ _ _ _ hj).trans ih
    · exact ih
