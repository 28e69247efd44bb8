theorem od_congr {p q : Nat → Int32} (h : ∀ j, 21 ≤ j → j < 32 → p j = q j) (hq : oq q ≤ 10) : od p = od q := by
  have e : oq p = oq q := by unfold oq; rw [h 21 (by omega) (by omega)]
  unfold od
  rw [e]
  apply List.map_congr_left
  intro i hi
  rw [List.mem_range] at hi
  unfold oi
  rw [h (22 + i) (by omega) (by omega)]
theorem er_nodup {l : List Nat} (h : l.Nodup) (a : Nat) : (l.eraseIdx a).Nodup := List.Sublist.nodup (List.eraseIdx_sublist l a) h
theorem er_mem {l : List Nat} (h : l.Nodup) {a t : Nat} (ha : l[a]? = some t) (x : Nat) : x ∈ l.eraseIdx a ↔ x ∈ l ∧ x ≠ t := by
  rw [List.mem_eraseIdx_iff_getElem?]
  constructor
  · rintro ⟨i, h1, h2⟩
    refine ⟨List.mem_of_getElem? h2, fun e => ?_⟩
    subst e
    exact h1 (nodup_get h h2 ha)
  · rintro ⟨h1, h2⟩
    obtain ⟨i, hi⟩ := List.getElem?_of_mem h1
    refine ⟨i, fun e => ?_, hi⟩
    subst e
    rw [hi] at ha
    exact h2 (Option.some.inj ha)
/-- a task out of the order, and no longer waiting -/
theorem WFo_er {p q : Nat → Int32} (hO : WFo p) {a t : Nat} (ha : (od p)[a]? = some t) (hq : ∀ j, 21 ≤ j → j < 32 → q j = shP p (oq p - 1) a j) (hw : ∀ k, k < 10 → wt q k = (wt p k && decide (k ≠ t))) : WFo q ∧ od q = (od p).eraseIdx a := by
  have hl : a < oq p := by
    have := (List.getElem?_eq_some_iff.mp ha).1
    rwa [od_len] at this
  obtain ⟨o1, o2, o3, o4, o5⟩ := hO
  have e1 : oq (shP p (oq p - 1) a) = oq p - 1 := by
    unfold oq shP
    rw [if_pos rfl, nI_clamp (by unfold oq at o2; omega)]
  have e2 : od q = (od p).eraseIdx a := by
    rw [od_congr hq (by omega), shP_od rfl hl o2]
  have e3 : oq q = oq p - 1 := by rw [← e1]; unfold oq; rw [hq 21 (by omega) (by omega)]; rfl
  refine ⟨⟨?_, by omega, fun i hi => ?_, by rw [e2]; exact er_nodup o4 a, fun k hk => ?_⟩, e2⟩
  · rw [e3, hq 21 (by omega) (by omega)]
    unfold shP
    rw [if_pos rfl]
  · rw [e3] at hi
    unfold oi
    rw [hq (22 + i) (by omega) (by omega)]
    unfold shP
    rw [if_neg (by omega)]
    split
    · exact o3 (i + 1) (by omega)
    · exact o3 i (by omega)
  · rw [e2, er_mem o4 ha, o5 k hk, hw k hk]
    simp
def WFx (p : Nat → Int32) : Prop := WFr p ∧ WFw p ∧ WFo p
theorem WFx_gr {p : Nat → Int32} (hX : WFx p) {a t r : Nat} (ha : (od p)[a]? = some t) : WFx (grP (lvP p t) t r) ∧ od (grP (lvP p t) t r) = (od p).eraseIdx a ∧ nord (grP (lvP p t) t r) (grP p t r) := by
  obtain ⟨h1, h2, h3⟩ := hX
  have n1 := lvP_nord p h3.2.1 t
  have h5 := WFo_er h3 ha (q := grP (lvP p t) t r) (fun j _ hj => by rw [grP_lo _ _ _ hj, lvP_at h3 ha]) (fun k hk => by rw [grP_wt, wt_nord n1])
  exact ⟨⟨grP_WFr (WFr_nord n1.sy h1) _ _, grP_WFw (WFw_nord n1.sy h2) _ _, h5.1⟩, h5.2, grP_nord n1 t r⟩
theorem e9m_waitsFor {h : AH} {m : Nat} (hM : MO h m) {p : Nat → Int32} (c : Nat → Int32) (hW : WFr p) (hw : WFw p) {t : Nat} (ht : t < 10) (z : Nat) : fX9_waitsFor m (nI t) z (mh h m p c) = some (mk 10 (wf p t), z, mh h m p c) := by
  have := e9_waitsFor (MO_mh hM p c) (by rw [ps_mh]; exact hW) (by rw [ps_mh]; exact hw) ht z
  rwa [ps_mh] at this
theorem upd_id (c : Nat → Int32) (k : Nat) : upd c k (c k) = c := by
  funext j
  rw [upd_s]
  split
  · rename_i e; rw [e]
  · rfl
theorem upd_upd (c : Nat → Int32) (k : Nat) (x y : Int32) : upd (upd c k x) k y = upd c k y := by
  funext j
  simp only [upd_s]
  split <;> rfl
theorem upd_k (c : Nat → Int32) (k : Nat) (x : Int32) : upd c k x k = x := by rw [upd_s, if_pos rfl]
/-- one turn of settling that grants nothing -/
theorem e9_stl_skip {h : AH} {m : Nat} (hM : MO h m) {p : Nat → Int32} (c : Nat → Int32) (hX : WFx p) {k : Nat} (hk : k < oq p) (hf : fr p (oi p k) = false) (z fuel : Nat) : lX9_settles_2 (fuel + 1) m (nI k) z (mh h m p c) = lX9_settles_2 fuel m (nI (k + 1)) z (mh h m p c) := by
  obtain ⟨h1, h2, o1, o2, o3, o4, o5⟩ := hX
  obtain ⟨a1, a2⟩ := o3 k hk
  have hw : wt p (oi p k) = true := (o5 _ a1).mp (List.mem_of_getElem? (od_get hk))
  have e0 : (mk 10 (wf p (oi p k)) = 0) = False := by rw [fr_iff hw, hf]; simp
  show lX9_settles_2B _ _ _ _ _ = _
  obtain ⟨hk, r0, r1, r3, r4, r10, r11, r13, r14, r15, k1, k2, k3, k4, k5, k6, k7, k8, k9, l1, l2, l3, l4, l5, l6, l7, l8, l9⟩ := id hM
  have q0 : ∀ p c, rv (mh h m p c) m 0 = some (m + 1) := fun _ _ => r0
  have q1 : ∀ p c, rv (mh h m p c) m 1 = some (m + 2) := fun _ _ => r1
  have q3 : ∀ p c, rv (mh h m p c) m 3 = some (m + 3) := fun _ _ => r3
  have q4 : ∀ p c, rv (mh h m p c) m 4 = some (m + 4) := fun _ _ => r4
  have q10 : ∀ p c, rv (mh h m p c) m 10 = some (m + 5) := fun _ _ => r10
  have q11 : ∀ p c, rv (mh h m p c) m 11 = some (m + 6) := fun _ _ => r11
  have q13 : ∀ p c, rv (mh h m p c) m 13 = some (m + 7) := fun _ _ => r13
  have q14 : ∀ p c, rv (mh h m p c) m 14 = some (m + 8) := fun _ _ => r14
  have q15 : ∀ p c, rv (mh h m p c) m 15 = some (m + 9) := fun _ _ => r15
  simp (disch := omega) only [lX9_settles_2B, bX9_settles_36, bX9_settles_57, bX9_settles_68, ↓gd, ↓bl, ↓on, ↓xr, ↓reduceIte, if_true, if_false, kd_wI, ln_wI, rv_wI, iv_wI, jv_wI, kd_wJ, ln_wJ, rv_wJ, iv_wJ, nI_clamp, nI_leE, nI_ltE, nI_eqE, m1_ne, bit_0, bit_1, nI_negE, leN_F, leN_T, ltN_F, ltN_T, eqN_F, or_false, false_or, or_true, true_or, not_false_eq_true, not_true_eq_false, and_true, true_and, and_false, false_and, ↓bb (q0 _ _), ↓bb (q1 _ _), ↓bb (q3 _ _), ↓bb (q4 _ _), ↓bb (q10 _ _), ↓bb (q11 _ _), ↓bb (q13 _ _), ↓bb (q14 _ _), ↓bb (q15 _ _), kd_mh, ln_mh, rv_mh, ↓bb r0, ↓bb r1, ↓bb r3, ↓bb r4, ↓bb r10, ↓bb r11, ↓bb r13, ↓bb r14, ↓bb r15, hk, k1, k2, k3, k4, k5, k6, k7, k8, k9, l1, l2, l3, l4, l5, l6, l7, l8, l9, li21, li22, iv_mh1, o1, nI_add, a2, ↓bb3 (e9m_waitsFor hM c h1 h2 a1 _), e0, nI_1]
theorem e9_stl_adv {h : AH} {m : Nat} (hM : MO h m) {p : Nat → Int32} (c : Nat → Int32) (hX : WFx p) (z : Nat) : ∀ (k : Nat), k ≤ oq p → (∀ i, i < k → fr p (oi p i) = false) → ∀ fuel, lX9_settles_2 (fuel + k) m 0 z (mh h m p c) = lX9_settles_2 fuel m (nI k) z (mh h m p c) := by
  intro k
  induction k with
  | zero => intro _ _ fuel; rfl
  | succ k ih =>
    intro hk hf fuel
    rw [show fuel + (k + 1) = (fuel + 1) + k by omega, ih (by omega) (fun i hi => hf i (by omega)) (fuel + 1)]
    exact e9_stl_skip hM c hX (by omega) (hf k (by omega)) z fuel
theorem app_get {A B : List Nat} {t : Nat} : (A ++ t :: B)[A.length]? = some t := by simp
theorem app_er {A B : List Nat} {t : Nat} : (A ++ t :: B).eraseIdx A.length = A ++ B := by simp [List.eraseIdx_append]
theorem e9_stl_loop {h : AH} {m : Nat} (hM : MO h m) (z : Nat) : ∀ (B A : List Nat) (p c : Nat → Int32) (fuel : Nat), WFx p → od p = A ++ B → (∀ t ∈ A, fr p t = false) → 12 * (B.length + 1) ≤ fuel →
    ∃ p', lX9_settles_2 fuel m (nI A.length) z (mh h m p c) = some (z, mh h m p' (upd c 7 (c 7 + nI (stl B p).2.2))) ∧ od p' = A ++ (stl B p).1 ∧ nord p' (stl B p).2.1 ∧ WFx p' := by
  intro B
  induction B with
  | nil =>
    intro A p c fuel hX hod hA hfu
    have hl : A.length = oq p := by rw [← od_len, hod]; simp
    have o1 := hX.2.2.1
    have o2 := hX.2.2.2.1
    refine ⟨p, ?_, hod, nord.rf p, hX⟩
    cases fuel with
    | zero => simp at hfu
    | succ fuel =>
      show lX9_settles_2B _ _ _ _ _ = _
      rw [hl]
      obtain ⟨hk, r0, r1, r3, r4, r10, r11, r13, r14, r15, k1, k2, k3, k4, k5, k6, k7, k8, k9, l1, l2, l3, l4, l5, l6, l7, l8, l9⟩ := id hM
      have q0 : ∀ p c, rv (mh h m p c) m 0 = some (m + 1) := fun _ _ => r0
      have q1 : ∀ p c, rv (mh h m p c) m 1 = some (m + 2) := fun _ _ => r1
      have q3 : ∀ p c, rv (mh h m p c) m 3 = some (m + 3) := fun _ _ => r3
      have q4 : ∀ p c, rv (mh h m p c) m 4 = some (m + 4) := fun _ _ => r4
      have q10 : ∀ p c, rv (mh h m p c) m 10 = some (m + 5) := fun _ _ => r10
      have q11 : ∀ p c, rv (mh h m p c) m 11 = some (m + 6) := fun _ _ => r11
      have q13 : ∀ p c, rv (mh h m p c) m 13 = some (m + 7) := fun _ _ => r13
      have q14 : ∀ p c, rv (mh h m p c) m 14 = some (m + 8) := fun _ _ => r14
      have q15 : ∀ p c, rv (mh h m p c) m 15 = some (m + 9) := fun _ _ => r15
      simp (disch := omega) only [lX9_settles_2B, ↓gd, ↓reduceIte, ↓bb (q0 _ _), ↓bb (q1 _ _), ↓bb (q3 _ _), ↓bb (q4 _ _), ↓bb (q10 _ _), ↓bb (q11 _ _), ↓bb (q13 _ _), ↓bb (q14 _ _), ↓bb (q15 _ _), kd_mh, ln_mh, rv_mh, ↓bb r0, ↓bb r1, ↓bb r3, ↓bb r4, ↓bb r10, ↓bb r11, ↓bb r13, ↓bb r14, ↓bb r15, hk, k1, k2, k3, k4, k5, k6, k7, k8, k9, l1, l2, l3, l4, l5, l6, l7, l8, l9, li21, nI_negE, nI_clamp, leN_F, or_false, false_or, not_false_eq_true, iv_mh1, o1, Int32.le_refl]
      have : upd c 7 (c 7 + nI (stl [] p).2.2) = c := by
        show upd c 7 (c 7 + nI 0) = c
        rw [nI_0, Int32.add_zero, upd_id]
      rw [this]
  | cons t B ih =>
    intro A p c fuel hX hod hA hfu
    have hg : (od p)[A.length]? = some t := by rw [hod]; exact app_get
    have hl : A.length < oq p := by rw [← od_len, hod]; simp
    have hoi : oi p A.length = t := by
      rw [od_get hl] at hg
      exact Option.some.inj hg
    obtain ⟨h1, h2, o1, o2, o3, o4, o5⟩ := id hX
    obtain ⟨a1, a2⟩ := o3 A.length hl
    rw [hoi] at a1 a2
    have hw : wt p t = true := (o5 t a1).mp (List.mem_of_getElem? hg)
    have hwan := h2 t a1 hw
    simp only [List.length_cons] at hfu
    cases hf : fr p t
    · -- it stays
      obtain ⟨fuel, rfl⟩ : ∃ f, fuel = f + 1 := ⟨fuel - 1, by omega⟩
      obtain ⟨p', r1, r2, r3, r4⟩ := ih (A ++ [t]) p c fuel hX (by rw [hod]; simp) (fun u hu => by
        rcases List.mem_append.mp hu with hu | hu
        · exact hA u hu
        · rw [List.mem_singleton.mp hu]; exact hf) (by omega)
      have hs : stl (t :: B) p = (t :: (stl B p).1, (stl B p).2.1, (stl B p).2.2) := by
        rw [stl, hf]; rfl
      refine ⟨p', ?_, by rw [r2, hs]; simp, by rw [hs]; exact r3, r4⟩
      rw [e9_stl_skip hM c hX hl (by rw [hoi]; exact hf) z fuel, hs]
      simpa using r1
    · -- it is granted
      have hs : stl (t :: B) p = ((stl B (grP p t (wan p t))).1, (stl B (grP p t (wan p t))).2.1, (stl B (grP p t (wan p t))).2.2 + 1) := by
        rw [stl, hf]; rfl
      obtain ⟨x1, x2, x3⟩ := WFx_gr hX (r := wan p t) hg
      have hod2 : od (grP (lvP p t) t (wan p t)) = A ++ B := by rw [x2, hod, app_er]
      have hA2 : ∀ u ∈ A, fr (grP (lvP p t) t (wan p t)) u = false := by
        intro u hu
        have hu10 : u < 10 ∧ wt p u = true := by
          have hm : u ∈ od p := by rw [hod]; exact List.mem_append_left _ hu
          obtain ⟨i, hi⟩ := List.getElem?_of_mem hm
          have hi2 : i < oq p := by
            have := (List.getElem?_eq_some_iff.mp hi).1
            rwa [od_len] at this
          rw [od_get hi2] at hi
          have := (o3 i hi2).1
          rw [Option.some.inj hi] at this
          exact ⟨this, (o5 u this).mp hm⟩
        have hwu := (h2 u hu10.1 hu10.2).1
        rw [fr_nord x3 x1.1 (by rw [wan_nord x3, nr_nord x3, grP_wan, grP_nr]; exact hwu)]
        exact grP_fr h1 t _ hwu (hA u hu)
      obtain ⟨fuel, rfl⟩ : ∃ f, fuel = (f + A.length) + 1 := ⟨fuel - 1 - A.length, by omega⟩
      obtain ⟨p', w1, w2, w3, w4⟩ := ih A (grP (lvP p t) t (wan p t)) (upd c 7 (c 7 + 1)) fuel x1 hod2 hA2 (by omega)
      obtain ⟨y1, y2, y3⟩ := stl_nord B _ _ x3 x1.1 (fun u hu => by
        have hm : u ∈ od p := by rw [hod]; exact List.mem_append_right _ (List.mem_cons_of_mem _ hu)
        obtain ⟨i, hi⟩ := List.getElem?_of_mem hm
        have hi2 : i < oq p := by
          have := (List.getElem?_eq_some_iff.mp hi).1
          rwa [od_len] at this
        rw [od_get hi2] at hi
        have h9 := (o3 i hi2).1
        rw [Option.some.inj hi] at h9
        rw [wan_nord x3, nr_nord x3, grP_wan, grP_nr]
        exact (h2 u h9 ((o5 u h9).mp hm)).1)
      refine ⟨p', ?_, by rw [w2, hs, y1], by rw [hs]; exact w3.tr y2, w4⟩
      have hl2 : A.length ≤ oq (grP (lvP p t) t (wan p t)) := by rw [← od_len, hod2]; simp
      have hadv := e9_stl_adv hM (upd c 7 (c 7 + 1)) x1 z A.length hl2 (fun i hi => by
        have : (od (grP (lvP p t) t (wan p t)))[i]? = some (oi (grP (lvP p t) t (wan p t)) i) := od_get (by omega)
        rw [hod2, List.getElem?_append_left hi] at this
        exact hA2 _ (List.mem_of_getElem? this)) fuel
      have e0 : (mk 10 (wf p t) = 0) = True := by rw [fr_iff hw, hf]; simp
      have e5 : lvP p t (32 + 6 * t + 5) = nI (wan p t) := by rw [lvP_nord p o2 t _ (by omega)]; exact hwan.2
      show lX9_settles_2B _ _ _ _ _ = _
      obtain ⟨hk, r0, r1, r3, r4, r10, r11, r13, r14, r15, k1, k2, k3, k4, k5, k6, k7, k8, k9, l1, l2, l3, l4, l5, l6, l7, l8, l9⟩ := id hM
      have q0 : ∀ p c, rv (mh h m p c) m 0 = some (m + 1) := fun _ _ => r0
      have q1 : ∀ p c, rv (mh h m p c) m 1 = some (m + 2) := fun _ _ => r1
      have q3 : ∀ p c, rv (mh h m p c) m 3 = some (m + 3) := fun _ _ => r3
      have q4 : ∀ p c, rv (mh h m p c) m 4 = some (m + 4) := fun _ _ => r4
      have q10 : ∀ p c, rv (mh h m p c) m 10 = some (m + 5) := fun _ _ => r10
      have q11 : ∀ p c, rv (mh h m p c) m 11 = some (m + 6) := fun _ _ => r11
      have q13 : ∀ p c, rv (mh h m p c) m 13 = some (m + 7) := fun _ _ => r13
      have q14 : ∀ p c, rv (mh h m p c) m 14 = some (m + 8) := fun _ _ => r14
      have q15 : ∀ p c, rv (mh h m p c) m 15 = some (m + 9) := fun _ _ => r15
      simp (disch := omega) only [lX9_settles_2B, bX9_settles_36, bX9_settles_57, bX9_settles_68, ↓gd, ↓bl, ↓on, ↓xr, ↓reduceIte, if_true, if_false, kd_wI, ln_wI, rv_wI, iv_wI, jv_wI, kd_wJ, ln_wJ, rv_wJ, iv_wJ, nI_clamp, nI_leE, nI_ltE, nI_eqE, m1_ne, bit_0, bit_1, nI_negE, leN_F, leN_T, ltN_F, ltN_T, eqN_F, or_false, false_or, or_true, true_or, not_false_eq_true, not_true_eq_false, and_true, true_and, and_false, false_and, ↓bb (q0 _ _), ↓bb (q1 _ _), ↓bb (q3 _ _), ↓bb (q4 _ _), ↓bb (q10 _ _), ↓bb (q11 _ _), ↓bb (q13 _ _), ↓bb (q14 _ _), ↓bb (q15 _ _), kd_mh, ln_mh, rv_mh, ↓bb r0, ↓bb r1, ↓bb r3, ↓bb r4, ↓bb r10, ↓bb r11, ↓bb r13, ↓bb r14, ↓bb r15, hk, k1, k2, k3, k4, k5, k6, k7, k8, k9, l1, l2, l3, l4, l5, l6, l7, l8, l9, li21, li22, iv_mh1, o1, nI_add, a2, ↓bb3 (e9m_waitsFor hM c h1 h2 a1 _), e0, ne10, ↓bb2 (e9_leaves hM p c o1 o2 _), ↓bb3 (e9_of5 hM a1 _ _ _), e5, ↓bb2 (e9_grants hM a1 _ _ _), hadv]
      rw [w1, hs, y3]
      congr 3
      rw [upd_k, upd_upd, Int32.add_assoc, Int32.add_comm 1, nI_1]
theorem e9_settles {h : AH} {m : Nat} (hM : MO h m) {p : Nat → Int32} (c : Nat → Int32) (hX : WFx p) (z : Nat) : ∃ p', fX9_settles m z (mh h m p c) = some (z, mh h m p' (upd c 7 (c 7 + nI (stl (od p) p).2.2))) ∧ od p' = (stl (od p) p).1 ∧ nord p' (stl (od p) p).2.1 ∧ WFx p' := by
  have h10 := hX.2.2.2.1
  exact e9_stl_loop hM z (od p) [] p c fu hX rfl (fun _ h => by cases h) (by rw [od_len]; unfold fu; omega)
