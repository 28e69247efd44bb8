/-! who comes to whom: what the closure keeps -/
theorem or_self (x : Int32) : x ||| x = x := b_ext (fun i _ => by rw [b_or, Bool.or_self])
theorem wro_at (R : Nat → Int32) {v : Nat} : ∀ k t, wro R v k t = if t < k then (if bt (R t) v then R t ||| R v else R t) else R t := by
  intro k
  induction k with
  | zero => intro t; rw [if_neg (by omega)]; rfl
  | succ k ih =>
    intro t
    show wst (wro R v k) v k t = _
    unfold wst
    have e1 : wro R v k k = R k := by rw [ih k, if_neg (by omega)]
    have e2 : wro R v k v = R v := by
      rw [ih v, or_self]
      split
      · split <;> rfl
      · rfl
    rw [upd_s, e1, e2, ih t]
    by_cases e : t = k
    · subst e
      rw [if_pos rfl, if_pos (show t < t + 1 by omega)]
    · rw [if_neg e]
      by_cases e3 : t < k
      · rw [if_pos e3, if_pos (show t < k + 1 by omega)]
      · rw [if_neg e3, if_neg (show ¬ t < k + 1 by omega)]
theorem wal_bt (E : Nat → Int32) (k : Nat) {t : Nat} (ht : t < 10) (u : Nat) : bt (wal E (k + 1) t) u = (bt (wal E k t) u || (bt (wal E k t) k && bt (wal E k k) u)) := by
  show bt (wro (wal E k) k 10 t) u = _
  rw [wro_at, if_pos ht]
  cases e : bt (wal E k t) k
  · simp
  · simp [b_or]
theorem wal_up {E : Nat → Int32} {t : Nat} (ht : t < 10) {u : Nat} (h : bt (E t) u = true) : ∀ k, bt (wal E k t) u = true := by
  intro k
  induction k with
  | zero => exact h
  | succ k ih => rw [wal_bt E k ht, ih]; rfl
theorem wal_tr {E : Nat → Int32} : ∀ n, n ≤ 10 → ∀ k t u, k < n → t < 10 → bt (wal E n t) k = true → bt (wal E n k) u = true → bt (wal E n t) u = true := by
  intro n
  induction n with
  | zero => intro _ k t u hk; omega
  | succ n ih =>
    intro hn k t u hk ht h1 h2
    rw [wal_bt E n ht] at h1
    rw [wal_bt E n (by omega)] at h2
    rw [wal_bt E n ht]
    by_cases e : k = n
    · subst e
      have a1 : bt (wal E k t) k = true := by
        cases e1 : bt (wal E k t) k
        · rw [e1] at h1; simp at h1
        · rfl
      have a2 : bt (wal E k k) u = true := by
        cases e2 : bt (wal E k k) u
        · rw [e2] at h2; simp at h2
        · rfl
      rw [a1, a2]; simp
    · have ihk := fun t' u' ht' => ih (by omega) k t' u' (by omega) ht'
      rw [Bool.or_eq_true, Bool.and_eq_true] at h1 h2 ⊢
      rcases h1 with h1 | ⟨h1, h3⟩
      · rcases h2 with h2 | ⟨h2, h4⟩
        · exact Or.inl (ihk t u ht h1 h2)
        · exact Or.inr ⟨ihk t n ht h1 h2, h4⟩
      · rcases h2 with h2 | ⟨h2, h4⟩
        · exact Or.inr ⟨h1, ihk n u (by omega) h3 h2⟩
        · exact Or.inr ⟨h1, h4⟩
def E10 (E : Nat → Int32) : Prop := ∀ t, t < 10 → ∀ u, bt (E t) u = true → u < 10
theorem wal_de {E : Nat → Int32} (hE : E10 E) : ∀ n, n ≤ 10 → ∀ t u, t < 10 → bt (wal E n t) u = true → ∃ v, v < 10 ∧ bt (E t) v = true ∧ (v = u ∨ bt (wal E n v) u = true) := by
  intro n
  induction n with
  | zero => intro _ t u ht h; exact ⟨u, hE t ht u h, h, Or.inl rfl⟩
  | succ n ih =>
    intro hn t u ht h
    rw [wal_bt E n ht, Bool.or_eq_true, Bool.and_eq_true] at h
    rcases h with h | ⟨h1, h2⟩
    · obtain ⟨v, v1, v2, v3⟩ := ih (by omega) t u ht h
      refine ⟨v, v1, v2, ?_⟩
      rcases v3 with v3 | v3
      · exact Or.inl v3
      · refine Or.inr ?_
        rw [wal_bt E n v1, v3]; rfl
    · obtain ⟨v, v1, v2, v3⟩ := ih (by omega) t n ht h1
      refine ⟨v, v1, v2, Or.inr ?_⟩
      rw [wal_bt E n v1]
      rcases v3 with rfl | v3
      · rw [h2]; rfl
      · rw [v3, h2]; simp
theorem wal_mo {E F : Nat → Int32} (h : ∀ t, t < 10 → ∀ u, bt (E t) u = true → bt (F t) u = true) : ∀ n, n ≤ 10 → ∀ t, t < 10 → ∀ u, bt (wal E n t) u = true → bt (wal F n t) u = true := by
  intro n
  induction n with
  | zero => intro _ t ht u hu; exact h t ht u hu
  | succ n ih =>
    intro hn t ht u hu
    rw [wal_bt E n ht, Bool.or_eq_true, Bool.and_eq_true] at hu
    rw [wal_bt F n ht, Bool.or_eq_true, Bool.and_eq_true]
    rcases hu with hu | ⟨h1, h2⟩
    · exact Or.inl (ih (by omega) t ht u hu)
    · exact Or.inr ⟨ih (by omega) t ht n h1, ih (by omega) n (by omega) u h2⟩
/-- a set in which each one waits for one of it -/
def Bd (G : Nat → Int32) (N : Nat → Bool) : Prop := (∃ u, u < 10 ∧ N u = true) ∧ ∀ u, u < 10 → N u = true → ∃ v, v < 10 ∧ N v = true ∧ bt (G u) v = true
theorem Bd_diag {G : Nat → Int32} (hE : E10 G) (h : ∃ u, u < 10 ∧ bt (rc G u) u = true) : Bd G (fun u => bt (rc G u) u) := by
  refine ⟨h, fun u hu hd => ?_⟩
  obtain ⟨v, v1, v2, v3⟩ := wal_de hE 10 (by omega) u u hu hd
  refine ⟨v, v1, ?_, v2⟩
  rcases v3 with rfl | v3
  · exact hd
  · exact wal_tr 10 (by omega) u v v hu v1 v3 (wal_up hu v2 10)
theorem cnt_lt2 {c d : Nat → Bool} : ∀ n, (∀ i, i < n → c i = true → d i = true) → ∀ j, j < n → d j = true → c j = false → cnt n c < cnt n d := by
  have hle : ∀ n, (∀ i, i < n → c i = true → d i = true) → cnt n c ≤ cnt n d := by
    intro n
    induction n with
    | zero => intro _; exact Nat.le_refl _
    | succ n ih =>
      intro h
      have := ih (fun i hi => h i (by omega))
      rw [cnt_s1, cnt_s1]
      cases ec : c n
      · simp only [Bool.false_eq_true, if_false]; omega
      · rw [h n (by omega) ec]; simp only [if_true]; omega
  intro n
  induction n with
  | zero => intro _ j hj; omega
  | succ n ih =>
    intro h j hj h1 h2
    rw [cnt_s1, cnt_s1]
    by_cases e : j = n
    · subst e
      have := hle j (fun i hi => h i (by omega))
      rw [h1, h2]; simp only [Bool.false_eq_true, if_false, if_true]; omega
    · have := ih (fun i hi => h i (by omega)) j (by omega) h1 h2
      cases ec : c n
      · simp only [Bool.false_eq_true, if_false]; omega
      · rw [h n (by omega) ec]; simp only [if_true]; omega
theorem Bd_cyc {G : Nat → Int32} {N : Nat → Bool} (h : Bd G N) : ∃ u, u < 10 ∧ N u = true ∧ bt (rc G u) u = true := by
  obtain ⟨⟨u0, hu0, hn0⟩, hs⟩ := h
  refine Decidable.byContradiction (fun hno => ?_)
  have hirr : ∀ u, u < 10 → N u = true → bt (rc G u) u = false := fun u hu hn => by
    cases e : bt (rc G u) u
    · rfl
    · exact absurd ⟨u, hu, hn, e⟩ hno
  have key : ∀ n u, u < 10 → N u = true → cnt 10 (fun i => N i && bt (rc G u) i) ≤ n → False := by
    intro n
    induction n with
    | zero =>
      intro u hu hn hc
      obtain ⟨v, v1, v2, v3⟩ := hs u hu hn
      have := cnt_0 10 (by omega : cnt 10 (fun i => N i && bt (rc G u) i) = 0) v v1
      rw [v2, show bt (rc G u) v = true from wal_up hu v3 10] at this
      cases this
    | succ n ih =>
      intro u hu hn hc
      obtain ⟨v, v1, v2, v3⟩ := hs u hu hn
      have huv : bt (rc G u) v = true := wal_up hu v3 10
      have := cnt_lt2 (c := fun i => N i && bt (rc G v) i) (d := fun i => N i && bt (rc G u) i) 10 (fun i hi hci => by
        rw [Bool.and_eq_true] at hci ⊢
        exact ⟨hci.1, wal_tr 10 (by omega) v u i v1 hu huv hci.2⟩) v v1 (by rw [v2, huv]; rfl) (by rw [hirr v v1 v2, Bool.and_false])
      exact ih v v1 v2 (by omega)
  exact key _ u0 hu0 hn0 (Nat.le_refl _)
theorem og_bt (R : Nat → Int32) {u : Nat} (hu : u < 10) : bt (og R) u = bt (R u) u := by unfold og; rw [bt_mk 10 _ (by omega)]; simp [hu]
theorem og_ne {R : Nat → Int32} : og R ≠ 0 ↔ ∃ u, u < 10 ∧ bt (R u) u = true := by
  constructor
  · intro h
    refine Decidable.byContradiction (fun hno => h ?_)
    refine (mk_0 (by omega)).mpr (fun i hi => ?_)
    cases e : bt (R i) i
    · rfl
    · exact absurd ⟨i, hi, e⟩ hno
  · rintro ⟨u, hu, hd⟩ h
    have := (mk_0 (by omega)).mp h u hu
    rw [hd] at this
    cases this
theorem ng_bt (q : Nat → Int32) (t u : Nat) : bt (ng q t) u = (decide (u < 10) && wf q t u) := by unfold ng; rw [bt_mk 10 _ (by omega)]
theorem ng_10 (q : Nat → Int32) : E10 (ng q) := fun t _ u h => by
  rw [ng_bt, Bool.and_eq_true, decide_eq_true_eq] at h
  exact h.1
theorem er_bt (q : Nat → Int32) (am : Int32) (t u : Nat) : bt (er q am t) u = (bt am t && (bt (ng q t) u && bt am u)) := by
  unfold er
  cases bt am t
  · simp [b_0]
  · simp [b_and]
theorem er_10 (q : Nat → Int32) (am : Int32) : E10 (er q am) := fun t ht u h => by
  rw [er_bt, Bool.and_eq_true, Bool.and_eq_true] at h
  exact ng_10 q t ht u h.2.1
theorem cy_a {q : Nat → Int32} {am : Int32} (h : og (rc (er q am)) ≠ 0) : ∃ N, Bd (ng q) N ∧ ∀ u, u < 10 → N u = true → bt am u = true ∧ bt (og (rc (ng q))) u = true := by
  have hb := Bd_diag (er_10 q am) (og_ne.mp h)
  refine ⟨_, ⟨hb.1, fun u hu hn => ?_⟩, fun u hu hn => ⟨?_, ?_⟩⟩
  · obtain ⟨v, v1, v2, v3⟩ := hb.2 u hu hn
    rw [er_bt, Bool.and_eq_true, Bool.and_eq_true] at v3
    exact ⟨v, v1, v2, v3.2.1⟩
  · obtain ⟨v, v1, v2, v3⟩ := hb.2 u hu hn
    rw [er_bt, Bool.and_eq_true] at v3
    exact v3.1
  · rw [og_bt _ hu]
    exact wal_mo (fun t _ w hw => by
      rw [er_bt, Bool.and_eq_true, Bool.and_eq_true] at hw
      exact hw.2.1) 10 (by omega) u hu u hn
theorem cy_b {q : Nat → Int32} {am : Int32} {N : Nat → Bool} (hb : Bd (ng q) N) (hn : ∀ u, u < 10 → N u = true → bt am u = true) : og (rc (er q am)) ≠ 0 := by
  have : Bd (er q am) N := ⟨hb.1, fun u hu h => by
    obtain ⟨v, v1, v2, v3⟩ := hb.2 u hu h
    refine ⟨v, v1, v2, ?_⟩
    rw [er_bt, hn u hu h, v3, hn v v1 v2]; rfl⟩
  obtain ⟨u, u1, -, u3⟩ := Bd_cyc this
  exact og_ne.mpr ⟨u, u1, u3⟩
/-! the class takes away who waits for nobody left -/
def pl1 (E : Nat → Int32) : Nat → Int32 → Int32
  | 0, l => l
  | k + 1, l => if bt (pl1 E k l) k = true ∧ E k &&& pl1 E k l = 0 then pl1 E k l &&& (((1 : Int32) <<< (nI k &&& 31)) ^^^ (-1)) else pl1 E k l
theorem pl1_s (E : Nat → Int32) (k : Nat) (l : Int32) : pl1 E (k + 1) l = if bt (pl1 E k l) k = true ∧ E k &&& pl1 E k l = 0 then pl1 E k l &&& (((1 : Int32) <<< (nI k &&& 31)) ^^^ (-1)) else pl1 E k l := rfl
theorem clr_bt (x : Int32) {k i : Nat} (hk : k < 32) (hi : i < 32) : bt (x &&& (((1 : Int32) <<< (nI k &&& 31)) ^^^ (-1))) i = (bt x i && decide (i ≠ k)) := by
  rw [b_and, b_not _ hi, bt_pow k hk]
  by_cases e : i = k <;> simp [e]
theorem pl1_sub {E : Nat → Int32} {l : Int32} : ∀ k, k ≤ 10 → ∀ i, i < 32 → bt (pl1 E k l) i = true → bt l i = true := by
  intro k
  induction k with
  | zero => intro _ i _ h; exact h
  | succ k ih =>
    intro hk i hi h
    rw [pl1_s] at h
    split at h
    · rw [clr_bt _ (by omega) hi, Bool.and_eq_true] at h
      exact ih (by omega) i hi h.1
    · exact ih (by omega) i hi h
theorem pl1_dn {E : Nat → Int32} {l : Int32} {k : Nat} (hk : k < 10) : ∀ i, i < 32 → bt (pl1 E (k + 1) l) i = true → bt (pl1 E k l) i = true := by
  intro i hi h
  rw [pl1_s] at h
  split at h
  · rw [clr_bt _ (by omega) hi, Bool.and_eq_true] at h
    exact h.1
  · exact h
theorem pl1_bad {E : Nat → Int32} {l : Int32} {N : Nat → Bool} (hb : Bd E N) (hn : ∀ u, u < 10 → N u = true → bt l u = true) : ∀ k, k ≤ 10 → ∀ u, u < 10 → N u = true → bt (pl1 E k l) u = true := by
  intro k
  induction k with
  | zero => intro _ u hu h; exact hn u hu h
  | succ k ih =>
    intro hk u hu h
    have h0 := ih (by omega)
    rw [pl1_s]
    split
    · rename_i e
      rw [clr_bt _ (by omega) (by omega), h0 u hu h, Bool.true_and]
      refine decide_eq_true (fun ek => ?_)
      subst ek
      obtain ⟨v, v1, v2, v3⟩ := hb.2 u hu h
      have := eq0_bt.mp e.2 v (by omega)
      rw [b_and, v3, h0 v v1 v2] at this
      cases this
    · exact h0 u hu h
theorem pl1_fix {E : Nat → Int32} (hE : E10 E) {l : Int32} (hl : ∀ i, i < 32 → bt l i = true → i < 10) (h0 : l ≠ 0) (hf : pl1 E 10 l = l) : Bd E (bt l) := by
  have hall : ∀ d k, k + d = 10 → pl1 E k l = l := by
    intro d
    induction d with
    | zero =>
      intro k hk
      obtain rfl : k = 10 := by omega
      exact hf
    | succ d ih =>
      intro k hk
      have h1 := ih (k + 1) (by omega)
      refine b_ext (fun i hi => ?_)
      cases e : bt l i
      · cases e2 : bt (pl1 E k l) i
        · rfl
        · have := pl1_sub k (by omega) i hi e2
          rw [e] at this
          cases this
      · exact pl1_dn (by omega) i hi (by rw [h1]; exact e)
  refine ⟨?_, fun u hu h => ?_⟩
  · refine Decidable.byContradiction (fun hno => h0 (eq0_bt.mpr (fun i hi => ?_)))
    cases e : bt l i
    · rfl
    · exact absurd ⟨i, hl i hi e, e⟩ hno
  · have h1 := hall (10 - (u + 1)) (u + 1) (by omega)
    rw [pl1_s, hall (10 - u) u (by omega)] at h1
    have hne : E u &&& l ≠ 0 := fun e => by
      rw [if_pos ⟨h, e⟩] at h1
      have h5 : bt (l &&& (((1 : Int32) <<< (nI u &&& 31)) ^^^ (-1))) u = bt l u := by rw [h1]
      rw [clr_bt _ (by omega) (by omega), h] at h5
      simp at h5
    refine Decidable.byContradiction (fun hno => hne (eq0_bt.mpr (fun v hv => ?_)))
    rw [b_and]
    cases e1 : bt (E u) v
    · rfl
    · cases e2 : bt l v
      · rfl
      · exact absurd ⟨v, hE u hu v e1, e2, e1⟩ hno
def rf (E : Nat → Int32) : Nat → Int32 → Bool
  | 0, l => decide (l = 0)
  | d + 1, l => if l = 0 then true else if pl1 E 10 l = l then false else rf E d (pl1 E 10 l)
theorem rf_ok {E : Nat → Int32} (hE : E10 E) : ∀ d l, (∀ i, i < 32 → bt l i = true → i < 10) → cnt 10 (bt l) ≤ d → (rf E d l = false ↔ ∃ N, Bd E N ∧ ∀ u, u < 10 → N u = true → bt l u = true) := by
  have h00 : ∀ l : Int32, l = 0 → ¬ ∃ N, Bd E N ∧ ∀ u, u < 10 → N u = true → bt l u = true := by
    rintro l rfl ⟨N, hb, hn⟩
    obtain ⟨u, u1, u2⟩ := hb.1
    have := hn u u1 u2
    rw [b_0] at this
    cases this
  intro d
  induction d with
  | zero =>
    intro l hl hc
    have h0 : l = 0 := eq0_bt.mpr (fun i hi => by
      cases e : bt l i
      · rfl
      · have := cnt_0 10 (by omega : cnt 10 (bt l) = 0) i (hl i hi e)
        rw [e] at this
        cases this)
    show decide (l = 0) = false ↔ _
    rw [decide_eq_true h0]
    exact ⟨fun h => (by cases h), fun h => absurd h (h00 l h0)⟩
  | succ d ih =>
    intro l hl hc
    show (if l = 0 then true else if pl1 E 10 l = l then false else rf E d (pl1 E 10 l)) = false ↔ _
    by_cases e0 : l = 0
    · rw [if_pos e0]
      exact ⟨fun h => (by cases h), fun h => absurd h (h00 l e0)⟩
    · rw [if_neg e0]
      by_cases e1 : pl1 E 10 l = l
      · rw [if_pos e1]
        exact ⟨fun _ => ⟨_, pl1_fix hE hl e0 e1, fun u _ h => h⟩, fun _ => rfl⟩
      · rw [if_neg e1]
        have hs := pl1_sub (E := E) (l := l) 10 (by omega)
        have hc2 : cnt 10 (bt (pl1 E 10 l)) < cnt 10 (bt l) := by
          have hex : ∃ i, i < 32 ∧ bt l i = true ∧ bt (pl1 E 10 l) i = false := by
            refine Decidable.byContradiction (fun hno => e1 (b_ext (fun i hi => ?_)))
            cases e2 : bt l i
            · cases e3 : bt (pl1 E 10 l) i
              · rfl
              · have := hs i hi e3
                rw [e2] at this
                cases this
            · cases e3 : bt (pl1 E 10 l) i
              · exact absurd ⟨i, hi, e2, e3⟩ hno
              · rfl
          obtain ⟨i, i1, i2, i3⟩ := hex
          exact cnt_lt2 10 (fun j hj => hs j (by omega)) i (hl i i1 i2) i2 i3
        rw [ih _ (fun i hi h => hl i hi (hs i hi h)) (by omega)]
        constructor
        · rintro ⟨N, hb, hn⟩
          exact ⟨N, hb, fun u hu h => hs u (by omega) (hn u hu h)⟩
        · rintro ⟨N, hb, hn⟩
          exact ⟨N, hb, pl1_bad hb hn 10 (by omega)⟩
theorem rf_in {h : AH} {x : Nat} {E : Nat → Int32} (hD : DS h x) (hE : agr (iv h (x + 36)) E) (l x3 : Int32) (qq : Nat → Int32 → Int32 → Nat → AH → Option (Int32 × Nat × AH)) (z : Nat) : ∀ (d k : Nat), k + d = 10 → ∀ fuel, d < fuel → lX7_isRingFree_20 qq fuel (x + 35) (pl1 E k l) x3 l (nI k) z h = if pl1 E 10 l = l then some (0, z, h) else qq (x + 35) (pl1 E 10 l) (x3 + 1) z h := by
  intro d
  obtain ⟨d1, d2, d3, d4, d5, d6, d7, d8, d9, d10, d11, d12, d13, d14, d15⟩ := id hD
  induction d with
  | zero =>
    intro k hk fuel hf
    obtain rfl : k = 10 := by omega
    cases fuel with
    | zero => omega
    | succ fuel =>
      show lX7_isRingFree_20B _ _ _ _ _ _ _ _ _ = _
      simp (disch := omega) only [lX7_isRingFree_20B, li10, Int32.le_refl, ↓reduceIte]
  | succ d ih =>
    intro k hk fuel hf
    cases fuel with
    | zero => omega
    | succ fuel =>
      have h3 := ih (k + 1) (by omega) fuel (by omega)
      rw [pl1_s] at h3
      have x2 := e8_inSet (pl1 E k l) (k := k) (by omega) z h
      have e1 : iv h (x + 36) k = E k := hE k (by omega)
      show lX7_isRingFree_20B _ _ _ _ _ _ _ _ _ = _
      cases eb : bt (pl1 E k l) k
      · rw [eb] at x2 h3
        rw [if_neg (by simp)] at h3
        simp (disch := omega) only [lX7_isRingFree_20B, bX7_isRingFree_57, ↓gd, ↓bl, ↓on, ↓xr, ↓reduceIte, if_true, if_false, kd_wI, ln_wI, rv_wI, iv_wI, jv_wI, kd_wJ, ln_wJ, rv_wJ, iv_wJ, nI_clamp, nI_leE, nI_ltE, nI_eqE, m1_ne, bit_0, bit_1, nI_negE, leN_F, leN_T, ltN_F, ltN_T, eqN_F, or_false, false_or, or_true, true_or, not_false_eq_true, not_true_eq_false, and_true, true_and, and_false, false_and, li10, ↓bb3 x2, Bool.false_eq_true, nI_1]
        exact h3
      · rw [eb] at x2 h3
        by_cases e2 : E k &&& pl1 E k l = 0
        · rw [if_pos ⟨rfl, e2⟩] at h3
          simp (disch := omega) only [lX7_isRingFree_20B, bX7_isRingFree_57, ↓gd, ↓bl, ↓on, ↓xr, ↓reduceIte, if_true, if_false, kd_wI, ln_wI, rv_wI, iv_wI, jv_wI, kd_wJ, ln_wJ, rv_wJ, iv_wJ, nI_clamp, nI_leE, nI_ltE, nI_eqE, m1_ne, bit_0, bit_1, nI_negE, leN_F, leN_T, ltN_F, ltN_T, eqN_F, or_false, false_or, or_true, true_or, not_false_eq_true, not_true_eq_false, and_true, true_and, and_false, false_and, li10, ↓bb3 x2, ne10, d9, ↓bb d10, d12, d13, e1, e2, nI_1]
          exact h3
        · rw [if_neg (fun h9 => e2 h9.2)] at h3
          simp (disch := omega) only [lX7_isRingFree_20B, bX7_isRingFree_57, ↓gd, ↓bl, ↓on, ↓xr, ↓reduceIte, if_true, if_false, kd_wI, ln_wI, rv_wI, iv_wI, jv_wI, kd_wJ, ln_wJ, rv_wJ, iv_wJ, nI_clamp, nI_leE, nI_ltE, nI_eqE, m1_ne, bit_0, bit_1, nI_negE, leN_F, leN_T, ltN_F, ltN_T, eqN_F, or_false, false_or, or_true, true_or, not_false_eq_true, not_true_eq_false, and_true, true_and, and_false, false_and, li10, ↓bb3 x2, ne10, d9, ↓bb d10, d12, d13, e1, e2, nI_1]
          exact h3
theorem rf_out {h : AH} {x : Nat} {E : Nat → Int32} (hD : DS h x) (hE : agr (iv h (x + 36)) E) (z : Nat) : ∀ (d k : Nat) (l : Int32), k + d = 10 → ∀ fuel, d < fuel → lX7_isRingFree_4 fuel (x + 35) l (nI k) z h = some (if rf E d l then 1 else 0, z, h) := by
  intro d
  induction d with
  | zero =>
    intro k l hk fuel hf
    obtain rfl : k = 10 := by omega
    cases fuel with
    | zero => omega
    | succ fuel =>
      show lX7_isRingFree_4B _ _ _ _ _ _ = some (if decide (l = 0) then 1 else 0, z, h)
      by_cases e : l = 0
      · simp (disch := omega) only [lX7_isRingFree_4B, bX7_isRingFree_77, li10, Int32.le_refl, ↓reduceIte, e, decide_true]
      · simp (disch := omega) only [lX7_isRingFree_4B, bX7_isRingFree_77, li10, Int32.le_refl, ↓reduceIte, e, decide_false, Bool.false_eq_true]
  | succ d ih =>
    intro k l hk fuel hf
    cases fuel with
    | zero => omega
    | succ fuel =>
      have h3 := ih (k + 1) (pl1 E 10 l) (by omega) fuel (by omega)
      have h4 := rf_in hD hE l (nI k) (lX7_isRingFree_4 fuel) z 10 0 (by omega) fu (by unfold fu; omega)
      rw [nI_1, h3, nI_0, show pl1 E 0 l = l from rfl] at h4
      show lX7_isRingFree_4B _ _ _ _ _ _ = some (if (if l = 0 then true else if pl1 E 10 l = l then false else rf E d (pl1 E 10 l)) then 1 else 0, z, h)
      by_cases e : l = 0
      · simp (disch := omega) only [lX7_isRingFree_4B, bX7_isRingFree_77, ↓gd, ↓bl, ↓on, ↓xr, ↓reduceIte, if_true, if_false, kd_wI, ln_wI, rv_wI, iv_wI, jv_wI, kd_wJ, ln_wJ, rv_wJ, iv_wJ, nI_clamp, nI_leE, nI_ltE, nI_eqE, m1_ne, bit_0, bit_1, nI_negE, leN_F, leN_T, ltN_F, ltN_T, eqN_F, or_false, false_or, or_true, true_or, not_false_eq_true, not_true_eq_false, and_true, true_and, and_false, false_and, li10, e]
      · simp (disch := omega) only [lX7_isRingFree_4B, ↓gd, ↓bl, ↓on, ↓xr, ↓reduceIte, if_true, if_false, kd_wI, ln_wI, rv_wI, iv_wI, jv_wI, kd_wJ, ln_wJ, rv_wJ, iv_wJ, nI_clamp, nI_leE, nI_ltE, nI_eqE, m1_ne, bit_0, bit_1, nI_negE, leN_F, leN_T, ltN_F, ltN_T, eqN_F, or_false, false_or, or_true, true_or, not_false_eq_true, not_true_eq_false, and_true, true_and, and_false, false_and, li10, e]
        rw [h4]
        by_cases e1 : pl1 E 10 l = l
        · simp [e1]
        · simp [e1]
theorem e7_free {h : AH} {x : Nat} {E : Nat → Int32} (hD : DS h x) (hE : agr (iv h (x + 36)) E) (l : Int32) (z : Nat) : fX7_isRingFree (x + 35) l z h = some (if rf E 10 l then 1 else 0, z, h) := by
  have := rf_out hD hE z 10 0 l (by omega) fu (by unfold fu; omega)
  rw [nI_0] at this
  exact this
