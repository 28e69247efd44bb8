theorem ovr_s {p q : Nat → Int32} (h : sres p q) (hW : WFr p) {t r : Nat} (hr : r < nr p) (e : p (32 + 6 * t + 3) = q (32 + 6 * t + 3)) : ovr p t r = ovr q t r := by
  unfold ovr
  rw [← sres_nr h, e]
  exact anyB_congr (fun i _ => by rw [sres_bel h hW i (r + 1) r (by omega) hr])
theorem nord_sres {p q : Nat → Int32} (h : nord p q) : sres p q := fun j hj => h j (by omega)
theorem yg_nord {p q : Nat → Int32} (h : nord p q) (t : Nat) (s : Nat → Bool) : yg p t s = yg q t s := by
  funext k
  unfold yg
  rw [h _ (by omega), h _ (by omega)]
/-- who would be aborted -/
def gnA (q : Nat → Int32) (t r : Nat) : Int32 := mk 10 (yg q t (bt (mk 10 (way q t r))))
/-- what would happen -/
def hpA (q : Nat → Int32) (t r : Nat) : Nat :=
  if ovr q t r = true ∨ mk 10 (way q t r) = 0 then 0 else if q 17 = 0 then 1 else if q 17 = 1 then (if gnA q t r = mk 10 (way q t r) then 1 else 2) else if gnA q t r = 0 then 1 else if gnA q t r = mk 10 (way q t r) then 3 else 4
theorem mkway_nord {p q : Nat → Int32} (h : nord p q) (hW : WFr p) {t r : Nat} (hr : r < nr p) : mk 10 (way p t r) = mk 10 (way q t r) := mk_congr (fun k _ => way_nord h hW hr k)
theorem gnA_nord {p q : Nat → Int32} (h : nord p q) (hW : WFr p) {t r : Nat} (hr : r < nr p) : gnA p t r = gnA q t r := by unfold gnA; rw [mkway_nord h hW hr, yg_nord h]
theorem hpA_nord {p q : Nat → Int32} (h : nord p q) (hW : WFr p) {t r : Nat} (hr : r < nr p) : hpA p t r = hpA q t r := by
  unfold hpA
  rw [mkway_nord h hW hr, gnA_nord h hW hr, ovr_s (nord_sres h) hW hr (h _ (by omega)), h 17 (by omega)]
theorem e9m_isOver {h : AH} {m : Nat} (hM : MO h m) {p : Nat → Int32} (c : Nat → Int32) (hW : WFr p) {t r : Nat} (ht : t < 10) (hr : r < nr p) (z : Nat) : fX9_isOver m (nI t) (nI r) z (mh h m p c) = some (if ovr p t r then 1 else 0, z, mh h m p c) := by
  have := e9_isOver (MO_mh hM p c) (by rw [ps_mh]; exact hW) ht (by rw [ps_mh]; exact hr) z
  rwa [ps_mh] at this
theorem e9m_inTheWay {h : AH} {m : Nat} (hM : MO h m) {p : Nat → Int32} (c : Nat → Int32) (hW : WFr p) {t r : Nat} (ht : t < 10) (hr : r < nr p) (z : Nat) : fX9_inTheWay m (nI t) (nI r) z (mh h m p c) = some (mk 10 (way p t r), z, mh h m p c) := by
  have := e9_inTheWay (MO_mh hM p c) (by rw [ps_mh]; exact hW) ht (by rw [ps_mh]; exact hr) z
  rwa [ps_mh] at this
theorem e9m_younger {h : AH} {m : Nat} (hM : MO h m) {p : Nat → Int32} (c : Nat → Int32) {t : Nat} (ht : t < 10) (s : Int32) (z : Nat) : fX9_younger m (nI t) s z (mh h m p c) = some (mk 10 (yg p t (bt s)), z, mh h m p c) := by
  have := e9_younger (MO_mh hM p c) ht s z
  rwa [ps_mh] at this
theorem e9m_isTask {h : AH} {m : Nat} (hM : MO h m) (p c : Nat → Int32) (x : Int32) (z : Nat) : fX9_isTask m x z (mh h m p c) = some (if tkI p x then 1 else 0, z, mh h m p c) := by
  have := e9_isTask (MO_mh hM p c) x z
  rwa [ps_mh] at this
theorem e9m_isWaiting {h : AH} {m : Nat} (hM : MO h m) (p c : Nat → Int32) (x : Int32) (z : Nat) : fX9_isWaiting m x z (mh h m p c) = some (if wtI p x then 1 else 0, z, mh h m p c) := by
  have := e9_isWaiting (MO_mh hM p c) x z
  rwa [ps_mh] at this
theorem e9_happens {h : AH} {m : Nat} (hM : MO h m) {p : Nat → Int32} (c : Nat → Int32) (hW : WFr p) (hs : WFs p) {t r : Nat} (ht : t < 10) (hr : r < nr p) (z : Nat) : fX9_happens m (nI t) (nI r) z (mh h m p c) = some (nI (hpA p t r), z, mh h m p c) := by
  have h17 := hs.1
  obtain ⟨hk, r0, r1, r3, r4, r10, r11, r13, r14, r15, k1, k2, k3, k4, k5, k6, k7, k8, k9, l1, l2, l3, l4, l5, l6, l7, l8, l9⟩ := id hM
  have q0 : ∀ p c, rv (mh h m p c) m 0 = some (m + 1) := fun _ _ => r0
  have q1 : ∀ p c, rv (mh h m p c) m 1 = some (m + 2) := fun _ _ => r1
  have q3 : ∀ p c, rv (mh h m p c) m 3 = some (m + 3) := fun _ _ => r3
  have q4 : ∀ p c, rv (mh h m p c) m 4 = some (m + 4) := fun _ _ => r4
  have q10 : ∀ p c, rv (mh h m p c) m 10 = some (m + 5) := fun _ _ => r10
  have q11 : ∀ p c, rv (mh h m p c) m 11 = some (m + 6) := fun _ _ => r11
  have q13 : ∀ p c, rv (mh h m p c) m 13 = some (m + 7) := fun _ _ => r13
  have q14 : ∀ p c, rv (mh h m p c) m 14 = some (m + 8) := fun _ _ => r14
  have q15 : ∀ p c, rv (mh h m p c) m 15 = some (m + 9) := fun _ _ => r15
  cases e : ovr p t r
  · have x1 := e9m_isOver hM c hW ht hr z
    rw [e] at x1
    simp (disch := omega) only [fX9_happens, bX9_happens_19, ↓gd, ↓bl, ↓on, ↓xr, ↓reduceIte, if_true, if_false, kd_wI, ln_wI, rv_wI, iv_wI, jv_wI, kd_wJ, ln_wJ, rv_wJ, iv_wJ, nI_clamp, nI_leE, nI_ltE, nI_eqE, m1_ne, bit_0, bit_1, nI_negE, leN_F, leN_T, ltN_F, ltN_T, eqN_F, or_false, false_or, or_true, true_or, not_false_eq_true, not_true_eq_false, and_true, true_and, and_false, false_and, ↓bb (q0 _ _), ↓bb (q1 _ _), ↓bb (q3 _ _), ↓bb (q4 _ _), ↓bb (q10 _ _), ↓bb (q11 _ _), ↓bb (q13 _ _), ↓bb (q14 _ _), ↓bb (q15 _ _), kd_mh, ln_mh, rv_mh, ↓bb r0, ↓bb r1, ↓bb r3, ↓bb r4, ↓bb r10, ↓bb r11, ↓bb r13, ↓bb r14, ↓bb r15, hk, k1, k2, k3, k4, k5, k6, k7, k8, k9, l1, l2, l3, l4, l5, l6, l7, l8, l9, li17, ↓bb3 x1, Bool.false_eq_true, ↓bb3 (e9m_inTheWay hM c hW ht hr z), ↓bb3 (e9m_younger hM c ht _ z), iv_mh1]
    unfold hpA
    simp only [e, Bool.false_eq_true, false_or]
    unfold gnA
    by_cases e1 : mk 10 (way p t r) = 0
    · simp [e1]; rfl
    · rw [if_neg e1, if_neg e1]
      by_cases e2 : p 17 = 0
      · simp [e2]; rfl
      · rw [if_neg e2, if_neg e2]
        by_cases e3 : p 17 = 1
        · rw [if_pos e3, if_pos e3]; split <;> rfl
        · rw [if_neg e3, if_neg e3]
          split
          · rfl
          · split <;> rfl
  · have x1 := e9m_isOver hM c hW ht hr z
    rw [e] at x1
    simp (disch := omega) only [fX9_happens, bX9_happens_19, ↓gd, ↓bl, ↓on, ↓xr, ↓reduceIte, if_true, if_false, kd_wI, ln_wI, rv_wI, iv_wI, jv_wI, kd_wJ, ln_wJ, rv_wJ, iv_wJ, nI_clamp, nI_leE, nI_ltE, nI_eqE, m1_ne, bit_0, bit_1, nI_negE, leN_F, leN_T, ltN_F, ltN_T, eqN_F, or_false, false_or, or_true, true_or, not_false_eq_true, not_true_eq_false, and_true, true_and, and_false, false_and, ↓bb (q0 _ _), ↓bb (q1 _ _), ↓bb (q3 _ _), ↓bb (q4 _ _), ↓bb (q10 _ _), ↓bb (q11 _ _), ↓bb (q13 _ _), ↓bb (q14 _ _), ↓bb (q15 _ _), kd_mh, ln_mh, rv_mh, ↓bb r0, ↓bb r1, ↓bb r3, ↓bb r4, ↓bb r10, ↓bb r11, ↓bb r13, ↓bb r14, ↓bb r15, hk, k1, k2, k3, k4, k5, k6, k7, k8, k9, l1, l2, l3, l4, l5, l6, l7, l8, l9, ↓bb3 x1, ne10, ↓bb3 (e9m_younger hM c ht _ z)]
    simp [hpA, e]; rfl
theorem len_lt {q : Nat → Int32} {L : List Nat} {B t : Nat} (h : WQ q L B) (ht : t < 10) (hwt : wt q t = false) : L.length < 10 := by
  have h1 := h.2.2.2.1
  have hn : t ∉ L := fun hc => by rw [((h1.2 t).mp hc).2] at hwt; cases hwt
  have : (t :: L).length ≤ (List.range 10).length := (List.nodup_cons.mpr ⟨hn, h1.1⟩).length_le_of_subset (fun k hk => by
    rw [List.mem_range]
    rcases List.mem_cons.mp hk with e | e
    · subst e; exact ht
    · exact ((h1.2 k).mp e).1)
  simp at this
  omega
theorem gn_th {q : Nat → Int32} {t r k : Nat} (hk : k < 10) (h : bt (gnA q t r) k = true) : th q k = true ∧ k ≠ t := by
  unfold gnA at h
  rw [bt_mk10 hk] at h
  unfold yg at h
  rw [Bool.and_eq_true, bt_mk10 hk] at h
  have h1 := h.1
  unfold way at h1
  simp only [Bool.and_eq_true, decide_eq_true_eq] at h1
  exact ⟨h1.2.1, h1.1⟩
def askA (s : Ab) (t r : Nat) : Ab :=
  if hpA s.1 t r = 0 then (if ovr s.1 t r then s else grA s t r)
  else if hpA s.1 t r = 1 then wqA s t r
  else if hpA s.1 t r = 2 then seA (skA s t)
  else if hpA s.1 t r = 3 then seA (grA (skN 10 (bt (gnA s.1 t r)) s) t r)
  else seA (wqA (skN 10 (bt (gnA s.1 t r)) s) t r)
theorem skN_wt (c : Nat → Bool) (s : Ab) {t : Nat} (hc : c t = false) (k : Nat) : wt (skN k c s).1 t = wt s.1 t := by
  unfold wt
  rw [skN_th, skN_at c s hc (by omega)]
theorem skN_ovr (c : Nat → Bool) (s : Ab) {t r : Nat} (hW : WFr s.1) (hr : r < nr s.1) (hc : c t = false) (k : Nat) : ovr (skN k c s).1 t r = ovr s.1 t r :=
  (ovr_s (fun j hj => (skN_lo c s (by omega) k).symm) hW hr (skN_at c s hc (by omega) k).symm).symm
theorem skN_nr (c : Nat → Bool) (s : Ab) (k : Nat) : nr (skN k c s).1 = nr s.1 := by unfold nr; rw [skN_lo c s (by omega) k]
theorem hp_ov {q : Nat → Int32} {t r : Nat} (h : hpA q t r ≠ 0) : ovr q t r = false := by
  cases e : ovr q t r
  · rfl
  · exact absurd (by unfold hpA; rw [if_pos (Or.inl e)]) h
theorem hp_le (q : Nat → Int32) (t r : Nat) : hpA q t r ≤ 4 := by
  unfold hpA
  repeat' split
  all_goals omega
theorem WA_ask {s : Ab} {B t r : Nat} (h : WA s B) (ht : t < 10) (hth : th s.1 t = true) (hwt : wt s.1 t = false) (hr : r < nr s.1) : WA (askA s t r) B := by
  have hgt : bt (gnA s.1 t r) t = false := by
    cases e : bt (gnA s.1 t r) t
    · rfl
    · exact absurd rfl (gn_th ht e).2
  have hN := WA_skN h (c := bt (gnA s.1 t r)) (fun k hk e => (gn_th hk e).1) 10 (by omega)
  have hth' : th (skN 10 (bt (gnA s.1 t r)) s).1 t = true := by rw [skN_th]; exact hth
  have hwt' : wt (skN 10 (bt (gnA s.1 t r)) s).1 t = false := by rw [skN_wt _ _ hgt]; exact hwt
  have hr' : r < nr (skN 10 (bt (gnA s.1 t r)) s).1 := by rw [skN_nr]; exact hr
  unfold askA
  split
  · split
    · exact h
    · exact WQ_gr0 ht hth hwt hr h
  · split
    · exact WQ_wq ht hth hwt hr h
    · split
      · exact WQ_stl (WQ_sk ht hth h)
      · split
        · exact WQ_stl (WQ_gr0 ht hth' hwt' hr' hN)
        · exact WQ_stl (WQ_wq ht hth' hwt' hr' hN)
theorem e9_asks_loop {h : AH} {m : Nat} (hM : MO h m) {s : Ab} {g : Int32} (x y w : Int32) (z : Nat) : ∀ (d k : Nat), k + d = 10 → ∀ (p : Nat → Int32) (fuel : Nat), d < fuel → RF p (skN k (bt g) s).1 (skN k (bt g) s).2.1 →
    ∃ p', lX9_asks_36 fuel m x y w g (nI k) z (mh h m p (skN k (bt g) s).2.2) = lX9_asks_36B (lX9_asks_36 0) m x y w g (nI 10) z (mh h m p' (skN 10 (bt g) s).2.2) ∧ RF p' (skN 10 (bt g) s).1 (skN 10 (bt g) s).2.1 := by
  intro d
  have hk0 := hM.1
  induction d with
  | zero =>
    intro k hk p fuel hf hR
    obtain rfl : k = 10 := by omega
    cases fuel with
    | zero => omega
    | succ fuel =>
      refine ⟨p, ?_, hR⟩
      show lX9_asks_36B _ _ _ _ _ _ _ _ _ = _
      simp (disch := omega) only [lX9_asks_36B, nI_leE, leN_T, ↓reduceIte, li10]
  | succ d ih =>
    intro k hk p fuel hf hR
    cases fuel with
    | zero => omega
    | succ fuel =>
      cases hb : bt g k
      · have hs : skN (k + 1) (bt g) s = skN k (bt g) s := by rw [skN, hb]; rfl
        obtain ⟨p', v1, v2⟩ := ih (k + 1) (by omega) p fuel (by omega) (by rw [hs]; exact hR)
        refine ⟨p', ?_, v2⟩
        rw [← v1, hs]
        show lX9_asks_36B _ _ _ _ _ _ _ _ _ = _
        simp (disch := omega) only [lX9_asks_36B, bX9_asks_60, ↓gd, ↓bl, ↓on, ↓xr, ↓reduceIte, if_true, if_false, kd_wI, ln_wI, rv_wI, iv_wI, jv_wI, kd_wJ, ln_wJ, rv_wJ, iv_wJ, nI_clamp, nI_leE, nI_ltE, nI_eqE, m1_ne, bit_0, bit_1, nI_negE, leN_F, leN_T, ltN_F, ltN_T, eqN_F, or_false, false_or, or_true, true_or, not_false_eq_true, not_true_eq_false, and_true, true_and, and_false, false_and, li10, hb, Bool.false_eq_true, nI_1]
      · have hs : skN (k + 1) (bt g) s = skA (skN k (bt g) s) k := by rw [skN, hb]; rfl
        obtain ⟨p1, y1, y2⟩ := w9_ends hM (c := (skN k (bt g) s).2.2) hR (t := k) (by omega) z
        obtain ⟨p', v1, v2⟩ := ih (k + 1) (by omega) p1 fuel (by omega) (by rw [hs]; exact y2)
        refine ⟨p', ?_, v2⟩
        rw [← v1, hs]
        show lX9_asks_36B _ _ _ _ _ _ _ _ _ = _
        simp (disch := omega) only [lX9_asks_36B, bX9_asks_60, ↓gd, ↓bl, ↓on, ↓xr, ↓reduceIte, if_true, if_false, kd_wI, ln_wI, rv_wI, iv_wI, jv_wI, kd_wJ, ln_wJ, rv_wJ, iv_wJ, nI_clamp, nI_leE, nI_ltE, nI_eqE, m1_ne, bit_0, bit_1, nI_negE, leN_F, leN_T, ltN_F, ltN_T, eqN_F, or_false, false_or, or_true, true_or, not_false_eq_true, not_true_eq_false, and_true, true_and, and_false, false_and, li10, hb, nI_1, kd_mh, hk0, ↓bb2 y1]
        rfl
theorem bt0 : bt 0 = fun _ => false := by funext i; exact b_0 i
theorem skN_F (s : Ab) : ∀ k, skN k (fun _ => false) s = s := by
  intro k
  induction k with
  | zero => rfl
  | succ k ih => unfold skN; simpa using ih
theorem w9_asks {h : AH} {m : Nat} (hM : MO h m) {p : Nat → Int32} {s : Ab} {B : Nat} (hR : RF p s.1 s.2.1) (hQ : WA s B) {t r : Nat} (ht : t < 10) (hth : th s.1 t = true) (hwt : wt s.1 t = false) (hr : r < nr s.1) (z : Nat) :
    ∃ p', fX9_asks m (nI t) (nI r) z (mh h m p s.2.2) = some (z, mh h m p' (askA s t r).2.2) ∧ RF p' (askA s t r).1 (askA s t r).2.1 := by
  have hQp := hR.wq hQ
  have hk0 := hM.1
  have hnp : nr p = nr s.1 := nr_nord hR.1
  have x1 := e9_happens hM s.2.2 hQp.1 hQp.2.2.2.2.1 ht (show r < nr p by omega) z
  rw [hpA_nord hR.1 hQp.1 (by omega)] at x1
  have x2 := e9m_inTheWay hM s.2.2 hQp.1 ht (show r < nr p by omega) z
  have x3 := e9m_younger hM (p := p) s.2.2 ht (mk 10 (way p t r)) z
  have x3 : fX9_younger m (nI t) (mk 10 (way p t r)) z (mh h m p s.2.2) = some (gnA s.1 t r, z, mh h m p s.2.2) := by
    rw [x3, mkway_nord hR.1 hQp.1 (by omega), yg_nord hR.1]; rfl
  have hgt : bt (gnA s.1 t r) t = false := by
    cases e : bt (gnA s.1 t r) t
    · rfl
    · exact absurd rfl (gn_th ht e).2
  have hN := WA_skN hQ (c := bt (gnA s.1 t r)) (fun k hk e => (gn_th hk e).1) 10 (by omega)
  have hth' : th (skN 10 (bt (gnA s.1 t r)) s).1 t = true := by rw [skN_th]; exact hth
  have hwt' : wt (skN 10 (bt (gnA s.1 t r)) s).1 t = false := by rw [skN_wt _ _ hgt]; exact hwt
  have hr' : r < nr (skN 10 (bt (gnA s.1 t r)) s).1 := by rw [skN_nr]; exact hr
  have hle := hp_le s.1 t r
  unfold askA
  rcases Nat.lt_or_ge 2 (hpA s.1 t r) with h3 | h3
  · -- others are aborted
    have hov := hp_ov (q := s.1) (t := t) (r := r) (by omega)
    obtain ⟨p1, y1, y2⟩ := e9_asks_loop hM (s := s) (g := gnA s.1 t r) (nI t) (nI r) (nI (hpA s.1 t r)) z 10 0 (by omega) p fu (by unfold fu; omega) hR
    have y1 : bX9_asks_31 m (nI t) (nI r) (nI (hpA s.1 t r)) (gnA s.1 t r) z (mh h m p s.2.2) = _ := y1
    rw [if_neg (by omega), if_neg (by omega), if_neg (by omega)]
    have hQ1 := y2.wq hN
    have z1 := e9m_isOver hM (skN 10 (bt (gnA s.1 t r)) s).2.2 hQ1.1 ht (show r < nr p1 by rw [nr_nord y2.1]; exact hr') z
    rw [ovr_s (nord_sres y2.1) hQ1.1 (by rw [nr_nord y2.1]; exact hr') (y2.1 _ (by omega)), skN_ovr _ _ hQ.1 hr hgt, hov] at z1
    by_cases e3 : hpA s.1 t r = 3
    · rw [if_pos e3]
      rw [e3] at x1 y1
      obtain ⟨p2, w1, w2⟩ := w9_settles hM (c := (grA (skN 10 (bt (gnA s.1 t r)) s) t r).2.2) (RF_gr y2 (t := t) (r := r) hwt') (WQ_gr0 ht hth' hwt' hr' hN) z
      refine ⟨p2, ?_, w2⟩
      simp (disch := omega) only [fX9_asks, ↓gd, ↓bl, ↓on, ↓xr, ↓reduceIte, if_true, if_false, kd_wI, ln_wI, rv_wI, iv_wI, jv_wI, kd_wJ, ln_wJ, rv_wJ, iv_wJ, nI_clamp, nI_leE, nI_ltE, nI_eqE, m1_ne, bit_0, bit_1, nI_negE, leN_F, leN_T, ltN_F, ltN_T, eqN_F, or_false, false_or, or_true, true_or, not_false_eq_true, not_true_eq_false, and_true, true_and, and_false, false_and, kd_mh, hk0, ↓bb3 x1, ↓bb3 x2, ↓bb3 x3, li2, li3, y1]
      simp (disch := omega) only [lX9_asks_36B, bX9_asks_113, ↓gd, ↓bl, ↓on, ↓xr, ↓reduceIte, if_true, if_false, kd_wI, ln_wI, rv_wI, iv_wI, jv_wI, kd_wJ, ln_wJ, rv_wJ, iv_wJ, nI_clamp, nI_leE, nI_ltE, nI_eqE, m1_ne, bit_0, bit_1, nI_negE, leN_F, leN_T, ltN_F, ltN_T, eqN_F, or_false, false_or, or_true, true_or, not_false_eq_true, not_true_eq_false, and_true, true_and, and_false, false_and, kd_mh, hk0, li10, li1, li2, li3, li4, ↓bb3 z1, Bool.false_eq_true, ↓bb2 (e9_grants hM ht _ _ z)]
      exact (bb2 w1 _)
    · have e4 : hpA s.1 t r = 4 := by omega
      rw [if_neg e3]
      rw [e4] at x1 y1
      obtain ⟨p3, u1, u2⟩ := w9_waits hM (c := (skN 10 (bt (gnA s.1 t r)) s).2.2) (r := r) y2 ht hth' hwt' (len_lt hN ht hwt') z
      obtain ⟨p2, w1, w2⟩ := w9_settles hM (c := (skN 10 (bt (gnA s.1 t r)) s).2.2) u2 (WQ_wq ht hth' hwt' hr' hN) z
      refine ⟨p2, ?_, w2⟩
      simp (disch := omega) only [fX9_asks, ↓gd, ↓bl, ↓on, ↓xr, ↓reduceIte, if_true, if_false, kd_wI, ln_wI, rv_wI, iv_wI, jv_wI, kd_wJ, ln_wJ, rv_wJ, iv_wJ, nI_clamp, nI_leE, nI_ltE, nI_eqE, m1_ne, bit_0, bit_1, nI_negE, leN_F, leN_T, ltN_F, ltN_T, eqN_F, or_false, false_or, or_true, true_or, not_false_eq_true, not_true_eq_false, and_true, true_and, and_false, false_and, kd_mh, hk0, ↓bb3 x1, ↓bb3 x2, ↓bb3 x3, li2, y1]
      simp (disch := omega) only [lX9_asks_36B, bX9_asks_113, bX9_asks_89, ↓gd, ↓bl, ↓on, ↓xr, ↓reduceIte, if_true, if_false, kd_wI, ln_wI, rv_wI, iv_wI, jv_wI, kd_wJ, ln_wJ, rv_wJ, iv_wJ, nI_clamp, nI_leE, nI_ltE, nI_eqE, m1_ne, bit_0, bit_1, nI_negE, leN_F, leN_T, ltN_F, ltN_T, eqN_F, or_false, false_or, or_true, true_or, not_false_eq_true, not_true_eq_false, and_true, true_and, and_false, false_and, kd_mh, hk0, li10, li1, li2, li4, ↓bb2 u1, ↓bb2 w1]
      rfl
  · obtain ⟨p1, y1, y2⟩ := e9_asks_loop hM (s := s) (g := 0) (nI t) (nI r) (nI (hpA s.1 t r)) z 10 0 (by omega) p fu (by unfold fu; omega) hR
    have y1 : bX9_asks_31 m (nI t) (nI r) (nI (hpA s.1 t r)) 0 z (mh h m p s.2.2) = _ := y1
    rw [bt0, skN_F] at y1 y2
    by_cases e2 : hpA s.1 t r = 2
    · rw [if_neg (by omega), if_neg (by omega), if_pos e2]
      rw [e2] at x1 y1
      obtain ⟨p3, u1, u2⟩ := w9_ends hM (c := s.2.2) y2 ht z
      obtain ⟨p2, w1, w2⟩ := w9_settles hM (c := (skA s t).2.2) u2 (WQ_sk ht hth hQ) z
      refine ⟨p2, ?_, w2⟩
      simp (disch := omega) only [fX9_asks, ↓gd, ↓bl, ↓on, ↓xr, ↓reduceIte, if_true, if_false, kd_wI, ln_wI, rv_wI, iv_wI, jv_wI, kd_wJ, ln_wJ, rv_wJ, iv_wJ, nI_clamp, nI_leE, nI_ltE, nI_eqE, m1_ne, bit_0, bit_1, nI_negE, leN_F, leN_T, ltN_F, ltN_T, eqN_F, or_false, false_or, or_true, true_or, not_false_eq_true, not_true_eq_false, and_true, true_and, and_false, false_and, kd_mh, hk0, ↓bb3 x1, ↓bb3 x2, li2, y1]
      simp (disch := omega) only [lX9_asks_36B, bX9_asks_113, ↓gd, ↓bl, ↓on, ↓xr, ↓reduceIte, if_true, if_false, kd_wI, ln_wI, rv_wI, iv_wI, jv_wI, kd_wJ, ln_wJ, rv_wJ, iv_wJ, nI_clamp, nI_leE, nI_ltE, nI_eqE, m1_ne, bit_0, bit_1, nI_negE, leN_F, leN_T, ltN_F, ltN_T, eqN_F, or_false, false_or, or_true, true_or, not_false_eq_true, not_true_eq_false, and_true, true_and, and_false, false_and, kd_mh, hk0, li10, li1, li2, ↓bb2 u1]
      exact (bb2 w1 _)
    · by_cases e1 : hpA s.1 t r = 1
      · rw [if_neg (by omega), if_pos e1]
        rw [e1] at x1 y1
        obtain ⟨p3, u1, u2⟩ := w9_waits hM (c := s.2.2) (r := r) y2 ht hth hwt (len_lt hQ ht hwt) z
        refine ⟨p3, ?_, u2⟩
        simp (disch := omega) only [fX9_asks, ↓gd, ↓bl, ↓on, ↓xr, ↓reduceIte, if_true, if_false, kd_wI, ln_wI, rv_wI, iv_wI, jv_wI, kd_wJ, ln_wJ, rv_wJ, iv_wJ, nI_clamp, nI_leE, nI_ltE, nI_eqE, m1_ne, bit_0, bit_1, nI_negE, leN_F, leN_T, ltN_F, ltN_T, eqN_F, or_false, false_or, or_true, true_or, not_false_eq_true, not_true_eq_false, and_true, true_and, and_false, false_and, kd_mh, hk0, ↓bb3 x1, ↓bb3 x2, li2, y1]
        simp (disch := omega) only [lX9_asks_36B, bX9_asks_113, bX9_asks_89, ↓gd, ↓bl, ↓on, ↓xr, ↓reduceIte, if_true, if_false, kd_wI, ln_wI, rv_wI, iv_wI, jv_wI, kd_wJ, ln_wJ, rv_wJ, iv_wJ, nI_clamp, nI_leE, nI_ltE, nI_eqE, m1_ne, bit_0, bit_1, nI_negE, leN_F, leN_T, ltN_F, ltN_T, eqN_F, or_false, false_or, or_true, true_or, not_false_eq_true, not_true_eq_false, and_true, true_and, and_false, false_and, kd_mh, hk0, li10, li1, li2, ↓bb2 u1]
        rfl
      · have e0 : hpA s.1 t r = 0 := by omega
        rw [if_pos e0]
        rw [e0] at x1 y1
        have hQ1 := y2.wq hQ
        have z1 := e9m_isOver hM s.2.2 hQ1.1 ht (show r < nr p1 by rw [nr_nord y2.1]; exact hr) z
        rw [ovr_s (nord_sres y2.1) hQ1.1 (by rw [nr_nord y2.1]; exact hr) (y2.1 _ (by omega))] at z1
        cases eo : ovr s.1 t r
        · rw [eo] at z1
          refine ⟨grP p1 t r, ?_, RF_gr y2 hwt⟩
          simp (disch := omega) only [fX9_asks, ↓gd, ↓bl, ↓on, ↓xr, ↓reduceIte, if_true, if_false, kd_wI, ln_wI, rv_wI, iv_wI, jv_wI, kd_wJ, ln_wJ, rv_wJ, iv_wJ, nI_clamp, nI_leE, nI_ltE, nI_eqE, m1_ne, bit_0, bit_1, nI_negE, leN_F, leN_T, ltN_F, ltN_T, eqN_F, or_false, false_or, or_true, true_or, not_false_eq_true, not_true_eq_false, and_true, true_and, and_false, false_and, kd_mh, hk0, ↓bb3 x1, ↓bb3 x2, li2, y1]
          simp (disch := omega) only [lX9_asks_36B, bX9_asks_113, ↓gd, ↓bl, ↓on, ↓xr, ↓reduceIte, if_true, if_false, kd_wI, ln_wI, rv_wI, iv_wI, jv_wI, kd_wJ, ln_wJ, rv_wJ, iv_wJ, nI_clamp, nI_leE, nI_ltE, nI_eqE, m1_ne, bit_0, bit_1, nI_negE, leN_F, leN_T, ltN_F, ltN_T, eqN_F, or_false, false_or, or_true, true_or, not_false_eq_true, not_true_eq_false, and_true, true_and, and_false, false_and, kd_mh, hk0, li10, li1, li2, li4, ↓bb3 z1, Bool.false_eq_true, ↓bb2 (e9_grants hM ht _ _ z)]
          rfl
        · rw [eo] at z1
          refine ⟨p1, ?_, y2⟩
          simp (disch := omega) only [fX9_asks, ↓gd, ↓bl, ↓on, ↓xr, ↓reduceIte, if_true, if_false, kd_wI, ln_wI, rv_wI, iv_wI, jv_wI, kd_wJ, ln_wJ, rv_wJ, iv_wJ, nI_clamp, nI_leE, nI_ltE, nI_eqE, m1_ne, bit_0, bit_1, nI_negE, leN_F, leN_T, ltN_F, ltN_T, eqN_F, or_false, false_or, or_true, true_or, not_false_eq_true, not_true_eq_false, and_true, true_and, and_false, false_and, kd_mh, hk0, ↓bb3 x1, ↓bb3 x2, li2, y1]
          simp (disch := omega) only [lX9_asks_36B, bX9_asks_113, ↓gd, ↓bl, ↓on, ↓xr, ↓reduceIte, if_true, if_false, kd_wI, ln_wI, rv_wI, iv_wI, jv_wI, kd_wJ, ln_wJ, rv_wJ, iv_wJ, nI_clamp, nI_leE, nI_ltE, nI_eqE, m1_ne, bit_0, bit_1, nI_negE, leN_F, leN_T, ltN_F, ltN_T, eqN_F, or_false, false_or, or_true, true_or, not_false_eq_true, not_true_eq_false, and_true, true_and, and_false, false_and, kd_mh, hk0, li10, li1, li2, li4, ↓bb3 z1, ne10]
          rfl
theorem w9_lets {h : AH} {m : Nat} (hM : MO h m) {p : Nat → Int32} {s : Ab} {B : Nat} (hR : RF p s.1 s.2.1) (hQ : WA s B) {t r : Nat} (ht : t < 10) (z : Nat) :
    ∃ p', fX9_lets m (nI t) (nI r) z (mh h m p s.2.2) = some (z, mh h m p' (seA (lgP s.1 t r, s.2.1, s.2.2)).2.2) ∧ RF p' (seA (lgP s.1 t r, s.2.1, s.2.2)).1 (seA (lgP s.1 t r, s.2.1, s.2.2)).2.1 := by
  have hk0 := hM.1
  obtain ⟨p2, w1, w2⟩ := w9_settles hM (c := s.2.2) (RF_lg hR (t := t) (r := r)) (WQ_lg ht hQ) z
  refine ⟨p2, ?_, w2⟩
  simp (disch := omega) only [fX9_lets, ↓gd, ↓bl, ↓on, ↓xr, ↓reduceIte, if_true, if_false, kd_wI, ln_wI, rv_wI, iv_wI, jv_wI, kd_wJ, ln_wJ, rv_wJ, iv_wJ, nI_clamp, nI_leE, nI_ltE, nI_eqE, m1_ne, bit_0, bit_1, nI_negE, leN_F, leN_T, ltN_F, ltN_T, eqN_F, or_false, false_or, or_true, true_or, not_false_eq_true, not_true_eq_false, and_true, true_and, and_false, false_and, kd_mh, hk0, li3, ↓bb3 (e9_of3 hM ht _ _ z), ↓bb2 (e9_pu3 hM ht _ _ _ z)]
  exact (bb2 w1 _)
theorem w9_finishes {h : AH} {m : Nat} (hM : MO h m) {p : Nat → Int32} {s : Ab} {B : Nat} (hR : RF p s.1 s.2.1) (hQ : WA s B) {t : Nat} (ht : t < 10) (hwt : wt s.1 t = false) (z : Nat) :
    ∃ p', fX9_finishes m (nI t) z (mh h m p s.2.2) = some (z, mh h m p' (seA (dsP s.1 t, s.2.1, s.2.2)).2.2) ∧ RF p' (seA (dsP s.1 t, s.2.1, s.2.2)).1 (seA (dsP s.1 t, s.2.1, s.2.2)).2.1 := by
  have hk0 := hM.1
  obtain ⟨p2, w1, w2⟩ := w9_settles hM (c := s.2.2) (RF_ds hR (t := t) hwt) (WQ_ds ht hwt hQ) z
  refine ⟨p2, ?_, w2⟩
  simp (disch := omega) only [fX9_finishes, ↓gd, ↓bl, ↓on, ↓xr, ↓reduceIte, if_true, if_false, kd_wI, ln_wI, rv_wI, iv_wI, jv_wI, kd_wJ, ln_wJ, rv_wJ, iv_wJ, nI_clamp, nI_leE, nI_ltE, nI_eqE, m1_ne, bit_0, bit_1, nI_negE, leN_F, leN_T, ltN_F, ltN_T, eqN_F, or_false, false_or, or_true, true_or, not_false_eq_true, not_true_eq_false, and_true, true_and, and_false, false_and, kd_mh, hk0, ↓bb2 (e9_pu0 hM ht _ _ _ z), ↓bb2 (e9_pu3 hM ht _ _ _ z)]
  exact (bb2 w1 _)
theorem w9_aborts {h : AH} {m : Nat} (hM : MO h m) {p : Nat → Int32} {s : Ab} {B : Nat} (hR : RF p s.1 s.2.1) (hQ : WA s B) {t : Nat} (ht : t < 10) (hth : th s.1 t = true) (z : Nat) :
    ∃ p', fX9_aborts m (nI t) z (mh h m p s.2.2) = some (z, mh h m p' (seA (skA s t)).2.2) ∧ RF p' (seA (skA s t)).1 (seA (skA s t)).2.1 := by
  have hk0 := hM.1
  obtain ⟨p3, u1, u2⟩ := w9_ends hM (c := s.2.2) hR ht z
  obtain ⟨p2, w1, w2⟩ := w9_settles hM (c := (skA s t).2.2) u2 (WQ_sk ht hth hQ) z
  refine ⟨p2, ?_, w2⟩
  simp (disch := omega) only [fX9_aborts, ↓gd, ↓bl, ↓on, ↓xr, ↓reduceIte, if_true, if_false, kd_wI, ln_wI, rv_wI, iv_wI, jv_wI, kd_wJ, ln_wJ, rv_wJ, iv_wJ, nI_clamp, nI_leE, nI_ltE, nI_eqE, m1_ne, bit_0, bit_1, nI_negE, leN_F, leN_T, ltN_F, ltN_T, eqN_F, or_false, false_or, or_true, true_or, not_false_eq_true, not_true_eq_false, and_true, true_and, and_false, false_and, kd_mh, hk0, ↓bb2 u1]
  exact (bb2 w1 _)
