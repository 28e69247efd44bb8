/-! the order of the waiting ones, as a list -/
def oq (p : Nat → Int32) : Nat := (p 21).toNatClampNeg
def oi (p : Nat → Int32) (i : Nat) : Nat := (p (22 + i)).toNatClampNeg
def od (p : Nat → Int32) : List Nat := (List.range (oq p)).map (oi p)
theorem od_len (p : Nat → Int32) : (od p).length = oq p := by simp [od]
theorem od_get {p : Nat → Int32} {i : Nat} (hi : i < oq p) : (od p)[i]? = some (oi p i) := by simp [od, hi]
/-- the order is that of the waiting ones, each once -/
def WFo (p : Nat → Int32) : Prop := p 21 = nI (oq p) ∧ oq p ≤ 10 ∧ (∀ i, i < oq p → oi p i < 10 ∧ p (22 + i) = nI (oi p i)) ∧ (od p).Nodup ∧ ∀ t, t < 10 → (t ∈ od p ↔ wt p t = true)
/-- two states alike but for the order -/
def nord (p q : Nat → Int32) : Prop := ∀ j, ¬ (21 ≤ j ∧ j < 32) → p j = q j
theorem nord.rf (p : Nat → Int32) : nord p p := fun _ _ => rfl
theorem nord.tr {p q r : Nat → Int32} (h1 : nord p q) (h2 : nord q r) : nord p r := fun j hj => (h1 j hj).trans (h2 j hj)
theorem nord.sy {p q : Nat → Int32} (h : nord p q) : nord q p := fun j hj => (h j hj).symm
theorem nr_nord {p q : Nat → Int32} (h : nord p q) : nr p = nr q := by unfold nr; rw [h 0 (by omega)]
theorem th_nord {p q : Nat → Int32} (h : nord p q) (t : Nat) : th p t = th q t := by unfold th; rw [h (32 + 6 * t) (by omega)]
theorem wt_nord {p q : Nat → Int32} (h : nord p q) (t : Nat) : wt p t = wt q t := by unfold wt; rw [th_nord h, h (32 + 6 * t + 4) (by omega)]
theorem wan_nord {p q : Nat → Int32} (h : nord p q) (t : Nat) : wan p t = wan q t := by unfold wan; rw [h (32 + 6 * t + 5) (by omega)]
theorem WFr_nord {p q : Nat → Int32} (h : nord p q) (hW : WFr p) : WFr q := by
  obtain ⟨h1, h2, h3⟩ := hW
  refine ⟨?_, ?_, fun r hr => ?_⟩
  · rw [← h 0 (by omega), ← nr_nord h]; exact h1
  · rw [← nr_nord h]; exact h2
  · rw [← nr_nord h] at hr
    rw [← h (1 + r) (by omega)]
    exact h3 r hr
theorem WFw_nord {p q : Nat → Int32} (h : nord p q) (hW : WFw p) : WFw q := by
  intro t ht hw
  rw [← wt_nord h] at hw
  obtain ⟨h1, h2⟩ := hW t ht hw
  rw [← wan_nord h, ← nr_nord h, ← h (32 + 6 * t + 5) (by omega)]
  exact ⟨h1, h2⟩
theorem bel_nord {p q : Nat → Int32} (h : nord p q) (hW : WFr p) (o : Nat) : ∀ (b r : Nat), r < b → r < nr p → bel p r o = bel q r o := by
  intro b
  have hn := hW.2.1
  induction b with
  | zero => intro r hb; omega
  | succ b ih =>
    intro r hb hr
    rw [bel_eq hW hr, bel_eq (WFr_nord h hW) (by rw [← nr_nord h]; exact hr), ← h (1 + r) (by omega)]
    rcases hW.2.2 r hr with e | ⟨k, hk, e⟩
    · simp [e]
    · rw [e, nI_clamp (by omega), ih k (by omega) (by omega)]
theorem ov_nord {p q : Nat → Int32} (h : nord p q) (hW : WFr p) {r o : Nat} (hr : r < nr p) (ho : o < nr p) : ov p r o = ov q r o := by
  unfold ov
  rw [bel_nord h hW o (r + 1) r (by omega) hr, bel_nord h hW r (o + 1) o (by omega) ho]
theorem way_nord {p q : Nat → Int32} (h : nord p q) (hW : WFr p) {t r : Nat} (hr : r < nr p) (k : Nat) : way p t r k = way q t r k := by
  unfold way
  rw [th_nord h, ← nr_nord h, h (32 + 6 * k + 3) (by omega)]
  congr 2
  exact anyB_congr (fun i hi => by rw [ov_nord h hW hr hi])
/-- nobody is in the way of a waiting task -/
def fr (p : Nat → Int32) (t : Nat) : Bool := !(anyB 10 (way p t (wan p t)))
theorem fr_iff {p : Nat → Int32} {t : Nat} (hw : wt p t = true) : (mk 10 (wf p t) = 0) = (fr p t = true) := by
  have e : wf p t = way p t (wan p t) := by funext k; simp [wf, hw]
  rw [e]
  apply propext
  rw [mk_0 (by omega)]
  unfold fr
  rw [Bool.not_eq_true', anyB_false]
theorem fr_nord {p q : Nat → Int32} (h : nord p q) (hW : WFr p) {t : Nat} (hr : wan p t < nr p) : fr p t = fr q t := by
  unfold fr
  rw [← wan_nord h]
  congr 1
  exact anyB_congr (fun k _ => way_nord h hW hr k)
theorem grP_at (p : Nat → Int32) (t r j : Nat) : grP p t r j = if j = 32 + 6 * t + 4 then 0 else if j = 32 + 6 * t + 3 then p (32 + 6 * t + 3) ||| ((1 : Int32) <<< (nI r &&& 31)) else p j := rfl
theorem grP_nord {p q : Nat → Int32} (h : nord p q) (t r : Nat) : nord (grP p t r) (grP q t r) := by
  intro j hj
  rw [grP_at, grP_at, h (32 + 6 * t + 3) (by omega), h j hj]
theorem grP_lo (p : Nat → Int32) (t r : Nat) {j : Nat} (hj : j < 32) : grP p t r j = p j := by
  rw [grP_at, if_neg (by omega), if_neg (by omega)]
theorem grP_nr (p : Nat → Int32) (t r : Nat) : nr (grP p t r) = nr p := by unfold nr; rw [grP_lo p t r (by omega)]
theorem grP_WFr {p : Nat → Int32} (hW : WFr p) (t r : Nat) : WFr (grP p t r) := by
  obtain ⟨h1, h2, h3⟩ := hW
  refine ⟨by rw [grP_nr, grP_lo p t r (by omega)]; exact h1, by rw [grP_nr]; exact h2, fun i hi => ?_⟩
  rw [grP_nr] at hi
  rw [grP_lo p t r (by omega)]
  exact h3 i hi
theorem grP_th (p : Nat → Int32) (t r k : Nat) : th (grP p t r) k = th p k := by
  unfold th
  rw [grP_at, if_neg (by omega), if_neg (by omega)]
theorem grP_wt (p : Nat → Int32) (t r k : Nat) : wt (grP p t r) k = (wt p k && decide (k ≠ t)) := by
  unfold wt
  rw [grP_th, grP_at]
  by_cases e : k = t
  · subst e; simp
  · rw [if_neg (by omega), if_neg (by omega)]; simp [e]
theorem grP_wan (p : Nat → Int32) (t r k : Nat) : wan (grP p t r) k = wan p k := by
  unfold wan
  rw [grP_at, if_neg (by omega), if_neg (by omega)]
theorem grP_WFw {p : Nat → Int32} (hW : WFw p) (t r : Nat) : WFw (grP p t r) := by
  intro k hk hw
  rw [grP_wt, Bool.and_eq_true] at hw
  rw [grP_wan, grP_nr, grP_at, if_neg (by omega), if_neg (by omega)]
  exact hW k hk hw.1
theorem grP_bel {p : Nat → Int32} (hW : WFr p) (t r o : Nat) : ∀ (b i : Nat), i < b → i < nr p → bel (grP p t r) i o = bel p i o := by
  intro b
  have hn := hW.2.1
  induction b with
  | zero => intro i hb; omega
  | succ b ih =>
    intro i hb hi
    rw [bel_eq hW hi, bel_eq (grP_WFr hW t r) (by rw [grP_nr]; exact hi), grP_lo p t r (by omega)]
    rcases hW.2.2 i hi with e | ⟨k, hk, e⟩
    · simp [e]
    · rw [e, nI_clamp (by omega), ih k (by omega) (by omega)]
theorem grP_he (p : Nat → Int32) (t r k i : Nat) (h : bt (p (32 + 6 * k + 3)) i = true) : bt (grP p t r (32 + 6 * k + 3)) i = true := by
  rw [grP_at, if_neg (by omega)]
  by_cases e : k = t
  · subst e; rw [if_pos rfl, b_or, h]; simp
  · rw [if_neg (by omega)]; exact h
/-- a grant clears nobody's way -/
theorem grP_way {p : Nat → Int32} (hW : WFr p) (t r : Nat) {u s k : Nat} (hs : s < nr p) (h : way p u s k = true) : way (grP p t r) u s k = true := by
  unfold way at h ⊢
  simp only [Bool.and_eq_true, anyB_iff] at h ⊢
  obtain ⟨h1, h2, i, h3, h4, h5⟩ := h
  refine ⟨h1, by rw [grP_th]; exact h2, i, by rw [grP_nr]; exact h3, grP_he p t r k i h4, ?_⟩
  unfold ov at h5 ⊢
  rw [grP_bel hW t r i (s + 1) s (by omega) hs, grP_bel hW t r s (i + 1) i (by omega) h3]
  exact h5
theorem grP_fr {p : Nat → Int32} (hW : WFr p) (t r : Nat) {u : Nat} (hu : wan p u < nr p) (h : fr p u = false) : fr (grP p t r) u = false := by
  unfold fr at h ⊢
  rw [Bool.not_eq_false', anyB_iff] at h ⊢
  obtain ⟨k, h1, h2⟩ := h
  exact ⟨k, h1, by rw [grP_wan]; exact grP_way hW t r hu h2⟩
/-- settling: the order that stays, the state behind it (but for the order), how many were granted -/
def stl : List Nat → (Nat → Int32) → List Nat × (Nat → Int32) × Nat
  | [], p => ([], p, 0)
  | t :: L, p => if fr p t then ((stl L (grP p t (wan p t))).1, (stl L (grP p t (wan p t))).2.1, (stl L (grP p t (wan p t))).2.2 + 1) else (t :: (stl L p).1, (stl L p).2.1, (stl L p).2.2)
theorem stl_nord : ∀ (L : List Nat) (p q : Nat → Int32), nord p q → WFr p → (∀ t ∈ L, wan p t < nr p) → (stl L p).1 = (stl L q).1 ∧ nord (stl L p).2.1 (stl L q).2.1 ∧ (stl L p).2.2 = (stl L q).2.2
  | [], p, q, h, _, _ => ⟨rfl, h, rfl⟩
  | t :: L, p, q, h, hW, hL => by
    have ht := hL t List.mem_cons_self
    unfold stl
    rw [← fr_nord h hW ht, ← wan_nord h]
    split
    · obtain ⟨a, b, c⟩ := stl_nord L (grP p t (wan p t)) (grP q t (wan p t)) (grP_nord h _ _) (grP_WFr hW _ _) (fun u hu => by rw [grP_wan, grP_nr]; exact hL u (List.mem_cons_of_mem _ hu))
      exact ⟨a, b, by rw [c]⟩
    · obtain ⟨a, b, c⟩ := stl_nord L p q h hW (fun u hu => hL u (List.mem_cons_of_mem _ hu))
      exact ⟨by rw [a], b, c⟩
theorem shP_od {p : Nat → Int32} {n a : Nat} (hn : oq p = n) (ha : a < n) (hn9 : n ≤ 10) : od (shP p (n - 1) a) = (od p).eraseIdx a := by
  have hq : oq (shP p (n - 1) a) = n - 1 := by
    unfold oq shP
    rw [if_pos rfl, nI_clamp (by omega)]
  apply List.ext_getElem?
  intro i
  rw [List.getElem?_eraseIdx]
  by_cases hi : i < n - 1
  · rw [od_get (by omega)]
    by_cases hia : i < a
    · rw [if_pos hia, od_get (by omega)]
      unfold oi shP
      rw [if_neg (by omega), if_neg (by omega)]
    · rw [if_neg hia, od_get (by omega)]
      unfold oi shP
      rw [if_neg (by omega), if_pos (by omega)]
      rfl
  · rw [List.getElem?_eq_none (by rw [od_len]; omega)]
    split
    · omega
    · rw [List.getElem?_eq_none (by rw [od_len]; omega)]
theorem plF_at {p : Nat → Int32} {t a : Nat} : ∀ n, a < n → p (22 + a) = nI t → (∀ i, i < n → p (22 + i) = nI t → i = a) → plF p t n = nI a := by
  intro n
  induction n with
  | zero => intro h; omega
  | succ n ih =>
    intro ha e hu
    unfold plF
    by_cases e2 : p (22 + n) = nI t
    · rw [if_pos e2, hu n (by omega) e2]
    · rw [if_neg e2]
      have : a ≠ n := fun h => e2 (h ▸ e)
      exact ih (by omega) e (fun i hi => hu i (by omega))
theorem nodup_get : ∀ {l : List Nat}, l.Nodup → ∀ {i j x : Nat}, l[i]? = some x → l[j]? = some x → i = j
  | [], _, i, j, x, hi, _ => by simp at hi
  | a :: l, h, i, j, x, hi, hj => by
    rw [List.nodup_cons] at h
    cases i with
    | zero =>
      cases j with
      | zero => rfl
      | succ j =>
        simp at hi hj
        subst hi
        exact absurd (List.mem_of_getElem? hj) h.1
    | succ i =>
      cases j with
      | zero =>
        simp at hi hj
        subst hj
        exact absurd (List.mem_of_getElem? hi) h.1
      | succ j =>
        simp at hi hj
        rw [nodup_get h.2 hi hj]
theorem lvP_at {p : Nat → Int32} (hO : WFo p) {t a : Nat} (ha : (od p)[a]? = some t) : lvP p t = shP p (oq p - 1) a := by
  have hl : a < oq p := by
    have := (List.getElem?_eq_some_iff.mp ha).1
    rwa [od_len] at this
  have e : oi p a = t := by
    rw [od_get hl] at ha
    exact Option.some.inj ha
  have h10 := hO.2.1
  have hpl : plF p t (oq p) = nI a := by
    refine plF_at _ hl (by rw [(hO.2.2.1 a hl).2, e]) (fun i hi h => ?_)
    rw [(hO.2.2.1 i hi).2] at h
    have h1 := (hO.2.2.1 i hi).1
    have h2 := (hO.2.2.1 a hl).1
    rw [nI_eqE (by omega) (by omega)] at h
    exact nodup_get hO.2.2.2.1 ((od_get hi).trans (by rw [h])) ha
  unfold lvP
  rw [show (p 21).toNatClampNeg = oq p from rfl, hpl, if_neg (by rw [m1_ne (by omega)]; simp), nI_clamp (by omega)]
theorem lvP_no {p : Nat → Int32} (hO : WFo p) {t : Nat} (ht : t < 10) (hn : t ∉ od p) : lvP p t = p := by
  unfold lvP
  rw [show (p 21).toNatClampNeg = oq p from rfl]
  rcases plF_ge (p := p) (t := t) (oq p) with e | ⟨a, ha, -, e⟩
  · rw [if_pos e]
  · exfalso
    obtain ⟨h1, h2⟩ := hO.2.2.1 a ha
    rw [h2, nI_eqE (by omega) (by omega)] at e
    exact hn (List.mem_of_getElem? ((od_get ha).trans (by rw [e])))
theorem lvP_nord (p : Nat → Int32) (hq : oq p ≤ 10) (t : Nat) : nord (lvP p t) p := by
  intro j hj
  unfold lvP
  split
  · rfl
  · unfold shP
    rw [if_neg (by omega), if_neg]
    have : (p 21).toNatClampNeg ≤ 10 := hq
    omega
