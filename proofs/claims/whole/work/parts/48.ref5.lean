/-- the reference's state p is q with the order L -/
def RF (p q : Nat → Int32) (L : List Nat) : Prop := nord p q ∧ od p = L ∧ WFo p
theorem WFo_keep {p p' : Nat → Int32} (hO : WFo p) (e : ∀ j, 21 ≤ j → j < 32 → p' j = p j) (hw : ∀ k, k < 10 → wt p' k = wt p k) : WFo p' ∧ od p' = od p := by
  have e2 := od_congr (p := p') (q := p) e hO.2.1
  obtain ⟨o1, o2, o3, o4, o5⟩ := hO
  have e3 : oq p' = oq p := by unfold oq; rw [e 21 (by omega) (by omega)]
  refine ⟨⟨by rw [e 21 (by omega) (by omega), e3]; exact o1, by omega, fun i hi => ?_, by rw [e2]; exact o4, fun t ht => by rw [e2, hw t ht]; exact o5 t ht⟩, e2⟩
  rw [e3] at hi
  unfold oi
  rw [e (22 + i) (by omega) (by omega)]
  exact o3 i hi
theorem er_fil : ∀ {l : List Nat} {a t : Nat}, l.Nodup → l[a]? = some t → l.eraseIdx a = l.filter (fun x => decide (x ≠ t))
  | [], a, t, _, h => by simp at h
  | x :: l, 0, t, hn, h => by
    simp at h
    subst h
    rw [List.nodup_cons] at hn
    rw [List.eraseIdx_zero, List.tail_cons, List.filter_cons, if_neg (by simp)]
    exact (List.filter_eq_self.mpr (fun y hy => by
      have : y ≠ x := fun e => hn.1 (e ▸ hy)
      simp [this])).symm
  | x :: l, a + 1, t, hn, h => by
    rw [List.nodup_cons] at hn
    simp at h
    have hx : x ≠ t := fun e => hn.1 (e ▸ List.mem_of_getElem? h)
    rw [List.eraseIdx_cons_succ, List.filter_cons, if_pos (by simp [hx]), er_fil hn.2 h]
theorem RF.wq {p q : Nat → Int32} {L : List Nat} {B : Nat} (hR : RF p q L) (h : WQ q L B) : WQ p L B := WQ_ord h hR.1.sy
theorem RF.x {p q : Nat → Int32} {L : List Nat} {B : Nat} (hR : RF p q L) (h : WQ q L B) : WFx p := ⟨(hR.wq h).1, (hR.wq h).w, hR.2.2⟩
theorem skP_nord {p q : Nat → Int32} (h : nord p q) (t : Nat) : nord (skP p t) (skP q t) := by
  intro j hj
  rw [skP_at, skP_at, h j hj]
theorem RF_sk {p q : Nat → Int32} {L : List Nat} (hR : RF p q L) {t : Nat} (ht : t < 10) : RF (skP (lvP p t) t) (skP q t) (L.filter (fun x => decide (x ≠ t))) := by
  obtain ⟨h1, h2, h3⟩ := hR
  have n1 := lvP_nord p h3.2.1 t
  have hn : nord (skP (lvP p t) t) (skP q t) := skP_nord (n1.tr h1) t
  by_cases hm : t ∈ od p
  · obtain ⟨a, ha⟩ := List.getElem?_of_mem hm
    have h5 := WFo_er h3 ha (q := skP (lvP p t) t) (fun j hj1 hj2 => by rw [skP_at, if_neg (by omega), if_neg (by omega), lvP_at h3 ha]) (fun k hk => by rw [skP_wt, wt_nord n1])
    refine ⟨hn, ?_, h5.1⟩
    rw [h5.2, er_fil h3.2.2.2.1 ha, h2]
  · have e := lvP_no h3 ht hm
    rw [e] at hn ⊢
    have hw : wt p t = false := by
      cases hc : wt p t
      · rfl
      · exact absurd ((h3.2.2.2.2 t ht).mpr hc) hm
    obtain ⟨w1, w2⟩ := WFo_keep h3 (p' := skP p t) (fun j _ _ => by rw [skP_at, if_neg (by omega), if_neg (by omega)]) (fun k _ => by rw [skP_wt, wt_F hw])
    refine ⟨hn, ?_, w1⟩
    rw [w2, h2]
    rw [h2] at hm
    exact (List.filter_eq_self.mpr (fun y hy => by
      have : y ≠ t := fun e => hm (e ▸ hy)
      simp [this])).symm
theorem w9_ends {h : AH} {m : Nat} (hM : MO h m) {p q c : Nat → Int32} {L : List Nat} (hR : RF p q L) {t : Nat} (ht : t < 10) (z : Nat) : ∃ p', fX9_ends m (nI t) z (mh h m p c) = some (z, mh h m p' (upd c 6 (c 6 + 1))) ∧ RF p' (skP q t) (L.filter (fun x => decide (x ≠ t))) := by
  refine ⟨skP (lvP p t) t, ?_, RF_sk hR ht⟩
  obtain ⟨-, -, o1, o2, -⟩ := hR
  obtain ⟨hk, r0, r1, r3, r4, r10, r11, r13, r14, r15, k1, k2, k3, k4, k5, k6, k7, k8, k9, l1, l2, l3, l4, l5, l6, l7, l8, l9⟩ := id hM
  have q0 : ∀ p c, rv (mh h m p c) m 0 = some (m + 1) := fun _ _ => r0
  have q1 : ∀ p c, rv (mh h m p c) m 1 = some (m + 2) := fun _ _ => r1
  have q3 : ∀ p c, rv (mh h m p c) m 3 = some (m + 3) := fun _ _ => r3
  have q4 : ∀ p c, rv (mh h m p c) m 4 = some (m + 4) := fun _ _ => r4
  have q10 : ∀ p c, rv (mh h m p c) m 10 = some (m + 5) := fun _ _ => r10
  have q11 : ∀ p c, rv (mh h m p c) m 11 = some (m + 6) := fun _ _ => r11
  have q13 : ∀ p c, rv (mh h m p c) m 13 = some (m + 7) := fun _ _ => r13
  have q14 : ∀ p c, rv (mh h m p c) m 14 = some (m + 8) := fun _ _ => r14
  have q15 : ∀ p c, rv (mh h m p c) m 15 = some (m + 9) := fun _ _ => r15
  simp (disch := omega) only [fX9_ends, ↓gd, ↓bl, ↓on, ↓xr, ↓reduceIte, if_true, if_false, kd_wI, ln_wI, rv_wI, iv_wI, jv_wI, kd_wJ, ln_wJ, rv_wJ, iv_wJ, nI_clamp, nI_leE, nI_ltE, nI_eqE, m1_ne, bit_0, bit_1, nI_negE, leN_F, leN_T, ltN_F, ltN_T, eqN_F, or_false, false_or, or_true, true_or, not_false_eq_true, not_true_eq_false, and_true, true_and, and_false, false_and, ↓bb (q0 _ _), ↓bb (q1 _ _), ↓bb (q3 _ _), ↓bb (q4 _ _), ↓bb (q10 _ _), ↓bb (q11 _ _), ↓bb (q13 _ _), ↓bb (q14 _ _), ↓bb (q15 _ _), kd_mh, ln_mh, rv_mh, ↓bb r0, ↓bb r1, ↓bb r3, ↓bb r4, ↓bb r10, ↓bb r11, ↓bb r13, ↓bb r14, ↓bb r15, hk, k1, k2, k3, k4, k5, k6, k7, k8, k9, l1, l2, l3, l4, l5, l6, l7, l8, l9, li6, ↓bb2 (e9_leaves hM _ _ o1 o2 _), ↓bb2 (e9_pu3 hM ht _ _ _ _), ↓bb2 (e9_pu4 hM ht _ _ _ _), iv_mh3, mh_w3]
  rfl
theorem RF_keep {p q p' q' : Nat → Int32} {L : List Nat} (hR : RF p q L) (hn : nord p' q') (e : ∀ j, 21 ≤ j → j < 32 → p' j = p j) (hw : ∀ k, k < 10 → wt p' k = wt p k) : RF p' q' L := by
  obtain ⟨w1, w2⟩ := WFo_keep hR.2.2 e hw
  exact ⟨hn, by rw [w2]; exact hR.2.1, w1⟩
theorem RF_gr {p q : Nat → Int32} {L : List Nat} (hR : RF p q L) {t r : Nat} (hwt : wt q t = false) : RF (grP p t r) (grP q t r) L :=
  RF_keep hR (grP_nord hR.1 t r) (fun j _ h2 => grP_lo p t r h2) (fun k _ => by rw [grP_wt, wt_F (by rw [wt_nord hR.1]; exact hwt)])
theorem lgP_nord {p q : Nat → Int32} (h : nord p q) (t r : Nat) : nord (lgP p t r) (lgP q t r) := by
  intro j hj
  rw [lgP_at, lgP_at, h j hj, h (32 + 6 * t + 3) (by omega)]
theorem RF_lg {p q : Nat → Int32} {L : List Nat} (hR : RF p q L) {t r : Nat} : RF (lgP p t r) (lgP q t r) L :=
  RF_keep hR (lgP_nord hR.1 t r) (fun j _ _ => by rw [lgP_at, if_neg (by omega)]) (fun k _ => lgP_wt p t r k)
theorem dsP_nord {p q : Nat → Int32} (h : nord p q) (t : Nat) : nord (dsP p t) (dsP q t) := by
  intro j hj
  rw [dsP_at, dsP_at, h j hj]
theorem RF_ds {p q : Nat → Int32} {L : List Nat} (hR : RF p q L) {t : Nat} (hwt : wt q t = false) : RF (dsP p t) (dsP q t) L :=
  RF_keep hR (dsP_nord hR.1 t) (fun j _ _ => by rw [dsP_at, if_neg (by omega), if_neg (by omega)]) (fun k _ => by rw [dsP_wt, wt_F (by rw [wt_nord hR.1]; exact hwt)])
theorem rvP_nord {p q : Nat → Int32} (h : nord p q) (t : Nat) : nord (rvP p t) (rvP q t) := by
  intro j hj
  rw [rvP_at, rvP_at, h j hj]
theorem RF_rv {p q : Nat → Int32} {L : List Nat} (hR : RF p q L) {t : Nat} (hwt : wt q t = false) : RF (rvP p t) (rvP q t) L :=
  RF_keep hR (rvP_nord hR.1 t) (fun j _ _ => by rw [rvP_at, if_neg (by omega)]) (fun k _ => by rw [rvP_wt, wt_F (by rw [wt_nord hR.1]; exact hwt)])
theorem crP_at (q : Nat → Int32) (t : Nat) (c : Int32) (j : Nat) : crP q t c j = if j = 20 then q 20 + 1 else if j = 32 + 6 * t + 4 then 0 else if j = 32 + 6 * t + 3 then 0 else if j = 32 + 6 * t + 2 then q 20 else if j = 32 + 6 * t + 1 then c else if j = 32 + 6 * t + 0 then 1 else q j := rfl
theorem RF_cr {p q : Nat → Int32} {L : List Nat} (hR : RF p q L) {t : Nat} {c : Int32} (hth : th q t = false) : RF (crP p t c) (crP q t c) L := by
  refine RF_keep hR (fun j hj => ?_) (fun j _ _ => ?_) (fun k _ => ?_)
  · rw [crP_at, crP_at, hR.1 j hj, hR.1 20 (by omega)]
  · rw [crP_at, if_neg (by omega), if_neg (by omega), if_neg (by omega), if_neg (by omega), if_neg (by omega), if_neg (by omega)]
  · have hth' : th p t = false := by rw [th_nord hR.1]; exact hth
    unfold wt
    by_cases e : k = t
    · subst e
      rw [crP_at, if_neg (by omega), if_pos rfl, hth']; simp
    · have : th (crP p t c) k = th p k := by
        unfold th
        rw [crP_at, if_neg (by omega), if_neg (by omega), if_neg (by omega), if_neg (by omega), if_neg (by omega), if_neg (by omega)]
      rw [this, crP_at, if_neg (by omega), if_neg (by omega), if_neg (by omega), if_neg (by omega), if_neg (by omega), if_neg (by omega)]
theorem waP_nord {p q : Nat → Int32} (h : nord p q) {t r : Nat} (hq : oq p < 10) : nord (waP p t r) (wqP q t r) := by
  intro j hj
  unfold waP
  have : (p 21).toNatClampNeg < 10 := hq
  rw [upd_s, if_neg (by omega), upd_s, if_neg (by omega), upd_s, upd_s, wqP_at, h j hj]
theorem RF_wa {p q : Nat → Int32} {L : List Nat} (hR : RF p q L) {t r : Nat} (ht : t < 10) (hth : th q t = true) (hwt : wt q t = false) (hL : L.length < 10) : RF (waP p t r) (wqP q t r) (L ++ [t]) := by
  obtain ⟨h1, h2, o1, o2, o3, o4, o5⟩ := hR
  have hq : oq p < 10 := by rw [← od_len, h2]; exact hL
  have hq' : (p 21).toNatClampNeg = oq p := rfl
  have e21 : waP p t r 21 = nI (oq p + 1) := by unfold waP; rw [upd_k, o1, nI_1]
  have eq1 : oq (waP p t r) = oq p + 1 := by unfold oq; rw [e21, nI_clamp (by omega)]; rfl
  have eo : ∀ i, i < oq p → waP p t r (22 + i) = p (22 + i) := fun i hi => by
    unfold waP
    rw [upd_s, if_neg (by omega), upd_s, if_neg (by omega), upd_s, if_neg (by omega), upd_s, if_neg (by omega)]
  have en : waP p t r (22 + oq p) = nI t := by
    unfold waP
    rw [upd_s, if_neg (by omega), upd_s, if_pos (by rw [hq'])]
  have eod : od (waP p t r) = od p ++ [t] := by
    apply List.ext_getElem?
    intro i
    by_cases hi : i < oq p
    · rw [od_get (by omega), List.getElem?_append_left (by rw [od_len]; exact hi), od_get hi]
      unfold oi
      rw [eo i hi]
    · by_cases hi2 : i = oq p
      · subst hi2
        rw [od_get (by omega), List.getElem?_append_right (by rw [od_len]; omega), od_len]
        unfold oi
        rw [en, nI_clamp (by omega)]
        simp
      · rw [List.getElem?_eq_none (by rw [od_len]; omega), List.getElem?_eq_none (by simp [od_len]; omega)]
  have hwt2 : ∀ k, wt (waP p t r) k = if k = t then th q t else wt q k := fun k => by rw [wt_nord (waP_nord h1 hq), wqP_wt]
  refine ⟨waP_nord h1 hq, by rw [eod, h2], by rw [e21, eq1], by omega, fun i hi => ?_, ?_, fun k hk => ?_⟩
  · rw [eq1] at hi
    by_cases hi2 : i = oq p
    · subst hi2
      unfold oi
      rw [en, nI_clamp (by omega)]
      exact ⟨ht, rfl⟩
    · unfold oi
      rw [eo i (by omega)]
      exact o3 i (by omega)
  · rw [eod, List.nodup_append]
    refine ⟨o4, by simp, fun a ha b hb e => ?_⟩
    rw [List.mem_singleton] at hb
    subst hb
    subst e
    rw [(o5 a ht), wt_nord h1, hwt] at ha
    cases ha
  · rw [eod, List.mem_append, o5 k hk, List.mem_singleton, hwt2 k, wt_nord h1]
    by_cases e : k = t
    · subst e; simp [hth]
    · simp [e]
theorem w9_waits {h : AH} {m : Nat} (hM : MO h m) {p q c : Nat → Int32} {L : List Nat} (hR : RF p q L) {t r : Nat} (ht : t < 10) (hth : th q t = true) (hwt : wt q t = false) (hL : L.length < 10) (z : Nat) : ∃ p', fX9_waits m (nI t) (nI r) z (mh h m p c) = some (z, mh h m p' c) ∧ RF p' (wqP q t r) (L ++ [t]) :=
  ⟨waP p t r, e9_waits hM ht p c hR.2.2.1 (by rw [← od_len, hR.2.1]; exact hL) z, RF_wa hR ht hth hwt hL⟩
theorem w9_settles {h : AH} {m : Nat} (hM : MO h m) {p q c : Nat → Int32} {L : List Nat} {B : Nat} (hR : RF p q L) (hQ : WQ q L B) (z : Nat) : ∃ p', fX9_settles m z (mh h m p c) = some (z, mh h m p' (upd c 7 (c 7 + nI (stl L q).2.2))) ∧ RF p' (stl L q).2.1 (stl L q).1 := by
  obtain ⟨p', v1, v2, v3, v4⟩ := e9_settles hM c (hR.x hQ) z
  obtain ⟨y1, y2, y3⟩ := stl_nord L p q hR.1 (hR.wq hQ).1 (fun t ht => by
    obtain ⟨a, b⟩ := (hQ.2.2.2.1.2 t).mp ht
    exact ((hR.wq hQ).w t a (by rw [wt_nord hR.1]; exact b)).1)
  rw [hR.2.1, y3] at v1
  rw [hR.2.1] at v2 v3
  rw [y1] at v2
  exact ⟨p', v1, v3.tr y2, v2, v4.2.2⟩
/-! the state with its order and counts -/
abbrev Ab : Type := (Nat → Int32) × List Nat × (Nat → Int32)
def skA (s : Ab) (t : Nat) : Ab := (skP s.1 t, s.2.1.filter (fun x => decide (x ≠ t)), upd s.2.2 6 (s.2.2 6 + 1))
def grA (s : Ab) (t r : Nat) : Ab := (grP s.1 t r, s.2.1, upd s.2.2 7 (s.2.2 7 + 1))
def wqA (s : Ab) (t r : Nat) : Ab := (wqP s.1 t r, s.2.1 ++ [t], s.2.2)
def seA (s : Ab) : Ab := ((stl s.2.1 s.1).2.1, (stl s.2.1 s.1).1, upd s.2.2 7 (s.2.2 7 + nI (stl s.2.1 s.1).2.2))
def skN : Nat → (Nat → Bool) → Ab → Ab
  | 0, _, s => s
  | k + 1, c, s => if c k then skA (skN k c s) k else skN k c s
def WA (s : Ab) (B : Nat) : Prop := WQ s.1 s.2.1 B
def RA (p c : Nat → Int32) (s : Ab) : Prop := RF p s.1 s.2.1 ∧ c = s.2.2
theorem skN_th (c : Nat → Bool) (s : Ab) (t : Nat) : ∀ k, th (skN k c s).1 t = th s.1 t := by
  intro k
  induction k with
  | zero => rfl
  | succ k ih =>
    unfold skN
    split
    · exact (skP_th _ _ _).trans ih
    · exact ih
theorem skN_at (c : Nat → Bool) (s : Ab) {t : Nat} (hc : c t = false) {j : Nat} (hj : ¬ (j < 32) ∧ (32 + 6 * t ≤ j ∧ j < 38 + 6 * t)) : ∀ k, (skN k c s).1 j = s.1 j := by
  intro k
  induction k with
  | zero => rfl
  | succ k ih =>
    unfold skN
    split
    · rename_i e
      have : k ≠ t := fun e2 => by rw [e2, hc] at e; cases e
      show skP (skN k c s).1 k j = _
      rw [skP_at, if_neg (by omega), if_neg (by omega)]
      exact ih
    · exact ih
theorem skN_lo (c : Nat → Bool) (s : Ab) {j : Nat} (hj : j < 32) : ∀ k, (skN k c s).1 j = s.1 j := by
  intro k
  induction k with
  | zero => rfl
  | succ k ih =>
    unfold skN
    split
    · show skP (skN k c s).1 k j = _
      rw [skP_at, if_neg (by omega), if_neg (by omega)]
      exact ih
    · exact ih
theorem WA_skN {s : Ab} {B : Nat} (h : WA s B) {c : Nat → Bool} (hc : ∀ k, k < 10 → c k = true → th s.1 k = true) : ∀ k, k ≤ 10 → WA (skN k c s) B := by
  intro k
  induction k with
  | zero => intro _; exact h
  | succ k ih =>
    intro hk
    unfold skN
    split
    · rename_i e
      exact WQ_sk (by omega) (by rw [skN_th]; exact hc k (by omega) e) (ih (by omega))
    · exact ih (by omega)
