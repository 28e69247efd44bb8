/-! bestVictims -/
/-- what the tasks of a set cost -/
def vco (q : Nat → Int32) (t : Nat) : Nat := tn' (q (32 + 6 * t + 1))
def cs (q : Nat → Int32) (f : Nat → Bool) : Nat → Nat
  | 0 => 0
  | k + 1 => cs q f k + (if f k then vco q k else 0)
theorem cs_s (q : Nat → Int32) (f : Nat → Bool) (k : Nat) : cs q f (k + 1) = cs q f k + (if f k then vco q k else 0) := rfl
theorem cs_c {q : Nat → Int32} {f g : Nat → Bool} : ∀ n, (∀ i, i < n → f i = g i) → cs q f n = cs q g n := by
  intro n
  induction n with
  | zero => intro _; rfl
  | succ n ih => intro h; rw [cs_s, cs_s, ih (fun i hi => h i (by omega)), h n (by omega)]
theorem vco_e {q : Nat → Int32} {L : List Nat} {B t : Nat} (h : WQ q L B) (ht : t < 10) (hth : th q t = true) : q (32 + 6 * t + 1) = nI (vco q t) ∧ 1 ≤ vco q t ∧ vco q t ≤ 99 := by
  obtain ⟨c, c1, c2, c3⟩ := co_e h ht hth
  unfold vco
  rw [c3, show tn' (nI c) = c from nI_clamp (by omega)]
  exact ⟨rfl, c1, c2⟩
theorem cs_le {q : Nat → Int32} {L : List Nat} {B : Nat} (h : WQ q L B) {f : Nat → Bool} (hf : ∀ t, t < 10 → f t = true → th q t = true) : ∀ n, n ≤ 10 → cs q f n ≤ 99 * n := by
  intro n
  induction n with
  | zero => intro _; exact Nat.le_refl _
  | succ n ih =>
    intro hn
    have := ih (by omega)
    rw [cs_s]
    cases e : f n
    · simp only [Bool.false_eq_true, if_false]; omega
    · have := (vco_e h (t := n) (by omega) (hf n (by omega) e)).2.2
      simp only [if_true]; omega
theorem cs_mono {q : Nat → Int32} {f g : Nat → Bool} : ∀ n, (∀ i, i < n → f i = true → g i = true) → cs q f n ≤ cs q g n := by
  intro n
  induction n with
  | zero => intro _; exact Nat.le_refl _
  | succ n ih =>
    intro h
    have := ih (fun i hi => h i (by omega))
    rw [cs_s, cs_s]
    cases ec : f n
    · simp only [Bool.false_eq_true, if_false]; omega
    · rw [h n (by omega) ec]; simp only [if_true]; omega
theorem cs_lt {q : Nat → Int32} {f g : Nat → Bool} : ∀ n, (∀ i, i < n → f i = true → g i = true) → ∀ j, j < n → g j = true → f j = false → 1 ≤ vco q j → cs q f n < cs q g n := by
  intro n
  induction n with
  | zero => intro _ j hj; omega
  | succ n ih =>
    intro h j hj h1 h2 h3
    rw [cs_s, cs_s]
    by_cases e : j = n
    · subst e
      have := cs_mono (q := q) j (fun i hi => h i (by omega))
      rw [h1, h2]; simp only [Bool.false_eq_true, if_false, if_true]; omega
    · have := ih (fun i hi => h i (by omega)) j (by omega) h1 h2 h3
      cases ec : f n
      · simp only [Bool.false_eq_true, if_false]; omega
      · rw [h n (by omega) ec]; simp only [if_true]; omega
theorem co7_loop {h : AH} {x : Nat} {q : Nat → Int32} {L : List Nat} {B : Nat} (hQ : WQ q L B) (hC : CB h (x + 1) q L) {S : Int32} (hS : ∀ t, t < 10 → bt S t = true → th q t = true) (z : Nat) : ∀ (d k : Nat), k + d = 10 → ∀ fuel, d < fuel → lX7_costOf_5 fuel S (x + 1 + 10) (nI (cs q (bt S) k)) (nI k) z h = some (nI (cs q (bt S) 10), z, h) := by
  intro d
  have hB := hC.1
  have kc : kd h (x + 1 + 10) = 13 := by
    obtain ⟨bk, b0, b1, b2, b3, b4, b5, b6, b7, fk, f0, f1, f2, mk0, m0, m1, m2, m3, kf0, kf1, kf2, lf0, lf1, lf2, km0, km1, km2, km3, lm0, lm1, lm2, lm3, kb2, kb3, kb4, kb5, kb6, kb7, lb2, lb3, lb4, lb5, lb6, lb7⟩ := id hB
    exact kb2
  have lc : ln h (x + 1 + 10) = 10 := by
    obtain ⟨bk, b0, b1, b2, b3, b4, b5, b6, b7, fk, f0, f1, f2, mk0, m0, m1, m2, m3, kf0, kf1, kf2, lf0, lf1, lf2, km0, km1, km2, km3, lm0, lm1, lm2, lm3, kb2, kb3, kb4, kb5, kb6, kb7, lb2, lb3, lb4, lb5, lb6, lb7⟩ := id hB
    exact lb2
  induction d with
  | zero =>
    intro k hk fuel hf
    obtain rfl : k = 10 := by omega
    cases fuel with
    | zero => omega
    | succ fuel =>
      show lX7_costOf_5B _ _ _ _ _ _ _ = _
      simp (disch := omega) only [lX7_costOf_5B, li10, Int32.le_refl, ↓reduceIte]
  | succ d ih =>
    intro k hk fuel hf
    cases fuel with
    | zero => omega
    | succ fuel =>
      have h3 := ih (k + 1) (by omega) fuel (by omega)
      rw [cs_s] at h3
      have x2 := e8_inSet S (k := k) (by omega) z h
      have el : (Int32.ofNat 10 ≤ nI k) = False := by rw [show Int32.ofNat 10 = nI 10 from rfl, nI_leE (by omega) (by omega)]; exact eq_false (by omega)
      show lX7_costOf_5B _ _ _ _ _ _ _ = _
      cases eb : bt S k
      · rw [eb] at x2 h3
        simp only [Bool.false_eq_true, if_false, Nat.add_zero] at h3
        simp (disch := omega) only [lX7_costOf_5B, bX7_costOf_35, ↓gd, ↓bl, ↓on, ↓xr, ↓reduceIte, if_true, if_false, kd_wI, ln_wI, rv_wI, iv_wI, jv_wI, kd_wJ, ln_wJ, rv_wJ, iv_wJ, nI_clamp, nI_leE, nI_ltE, nI_eqE, m1_ne, bit_0, bit_1, nI_negE, leN_F, leN_T, ltN_F, ltN_T, eqN_F, or_false, false_or, or_true, true_or, not_false_eq_true, not_true_eq_false, and_true, true_and, and_false, false_and, li10, kc, lc, el, ↓bb3 x2, Bool.false_eq_true, nI_1]
        exact h3
      · rw [eb] at x2 h3
        simp only [if_true] at h3
        have v := (hC.2.2.1.2.1 k (by omega)).1
        rw [(vco_e hQ (t := k) (by omega) (hS k (by omega) eb)).1] at v
        simp (disch := omega) only [lX7_costOf_5B, bX7_costOf_35, ↓gd, ↓bl, ↓on, ↓xr, ↓reduceIte, if_true, if_false, kd_wI, ln_wI, rv_wI, iv_wI, jv_wI, kd_wJ, ln_wJ, rv_wJ, iv_wJ, nI_clamp, nI_leE, nI_ltE, nI_eqE, m1_ne, bit_0, bit_1, nI_negE, leN_F, leN_T, ltN_F, ltN_T, eqN_F, or_false, false_or, or_true, true_or, not_false_eq_true, not_true_eq_false, and_true, true_and, and_false, false_and, li10, kc, lc, el, ↓bb3 x2, ne10, v, nI_add, nI_1]
        exact h3
theorem e7_costOf {h : AH} {x : Nat} {q : Nat → Int32} {L : List Nat} {B : Nat} (hQ : WQ q L B) (hC : CB h (x + 1) q L) {S : Int32} (hS : ∀ t, t < 10 → bt S t = true → th q t = true) (y z : Nat) : fX7_costOf y S (x + 1 + 10) z h = some (nI (cs q (bt S) 10), z, h) := by
  have := co7_loop hQ hC hS z 10 0 (by omega) fu (by unfold fu; omega)
  rw [nI_0] at this
  exact this
theorem co9_loop {h : AH} {m : Nat} {q : Nat → Int32} {L : List Nat} {B : Nat} (hQ : WQ q L B) (hM : MO h m) (hn : nord (ps h m) q) {S : Int32} (hS : ∀ t, t < 10 → bt S t = true → th q t = true) (z : Nat) : ∀ (d k : Nat), k + d = 10 → ∀ fuel, d < fuel → lX9_costOf_4 fuel m S (nI (cs q (bt S) k)) (nI k) z h = some (nI (cs q (bt S) 10), z, h) := by
  intro d
  have hk0 := hM.1
  have a0 : ∀ n : Nat, nI n + 0 = nI n := fun n => Int32.add_zero _
  induction d with
  | zero =>
    intro k hk fuel hf
    obtain rfl : k = 10 := by omega
    cases fuel with
    | zero => omega
    | succ fuel =>
      show lX9_costOf_4B _ _ _ _ _ _ _ = _
      simp (disch := omega) only [lX9_costOf_4B, li10, Int32.le_refl, ↓reduceIte]
  | succ d ih =>
    intro k hk fuel hf
    cases fuel with
    | zero => omega
    | succ fuel =>
      have h3 := ih (k + 1) (by omega) fuel (by omega)
      rw [cs_s] at h3
      have a1 : fX9_of m (nI k) 1 z h = some (q (32 + 6 * k + 1), z, h) := by rw [← hn (32 + 6 * k + 1) (by omega)]; exact e9_of (w := 1) hM (by omega) (by omega) z
      show lX9_costOf_4B _ _ _ _ _ _ _ = _
      cases eb : bt S k
      · rw [eb] at h3
        simp only [Bool.false_eq_true, if_false, Nat.add_zero] at h3
        simp (disch := omega) only [lX9_costOf_4B, bX9_costOf_30, ↓gd, ↓bl, ↓on, ↓xr, ↓reduceIte, if_true, if_false, kd_wI, ln_wI, rv_wI, iv_wI, jv_wI, kd_wJ, ln_wJ, rv_wJ, iv_wJ, nI_clamp, nI_leE, nI_ltE, nI_eqE, m1_ne, bit_0, bit_1, nI_negE, leN_F, leN_T, ltN_F, ltN_T, eqN_F, or_false, false_or, or_true, true_or, not_false_eq_true, not_true_eq_false, and_true, true_and, and_false, false_and, li10, eb, Bool.false_eq_true, a0, nI_1]
        exact h3
      · rw [eb] at h3
        simp only [if_true] at h3
        rw [(vco_e hQ (t := k) (by omega) (hS k (by omega) eb)).1] at a1
        simp (disch := omega) only [lX9_costOf_4B, bX9_costOf_30, ↓gd, ↓bl, ↓on, ↓xr, ↓reduceIte, if_true, if_false, kd_wI, ln_wI, rv_wI, iv_wI, jv_wI, kd_wJ, ln_wJ, rv_wJ, iv_wJ, nI_clamp, nI_leE, nI_ltE, nI_eqE, m1_ne, bit_0, bit_1, nI_negE, leN_F, leN_T, ltN_F, ltN_T, eqN_F, or_false, false_or, or_true, true_or, not_false_eq_true, not_true_eq_false, and_true, true_and, and_false, false_and, li10, hk0, eb, ↓bb3 a1, nI_add, nI_1]
        exact h3
theorem e9_costOf {h : AH} {m : Nat} {q : Nat → Int32} {L : List Nat} {B : Nat} (hQ : WQ q L B) (hM : MO h m) (hn : nord (ps h m) q) {S : Int32} (hS : ∀ t, t < 10 → bt S t = true → th q t = true) (z : Nat) : fX9_costOf m S z h = some (nI (cs q (bt S) 10), z, h) := by
  have := co9_loop hQ hM hn hS z 10 0 (by omega) fu (by unfold fu; omega)
  rw [nI_0] at this
  exact this
/-! the best set, by its cost, its number of tasks, its number -/
def cN (q : Nat → Int32) (s : Nat) : Nat := cs q (bt (nI s)) 10
def bcS (s : Nat) : Nat := cnt 16 (bt (nI s))
def ltS (q : Nat → Int32) (s b : Nat) : Prop := cN q s < cN q b ∨ (cN q s = cN q b ∧ bcS s < bcS b)
def klt (q : Nat → Int32) (r s : Nat) : Prop := ltS q r s ∨ (cN q r = cN q s ∧ bcS r = bcS s ∧ r < s)
theorem klt_as {q : Nat → Int32} {r s : Nat} (h : klt q r s) (h2 : klt q s r) : False := by unfold klt ltS at h h2; omega
theorem klt_tr {q : Nat → Int32} {r s t : Nat} (h : klt q r s) (h2 : klt q s t) : klt q r t := by unfold klt ltS at h h2 ⊢; omega
def Bst (q : Nat → Int32) (C : Nat → Prop) (r : Nat) : Prop := C r ∧ ∀ s, C s → s = r ∨ klt q r s
theorem Bst_un {q : Nat → Int32} {C : Nat → Prop} {r s : Nat} (h : Bst q C r) (h2 : Bst q C s) : r = s := by
  rcases h.2 s h2.1 with e | e
  · exact e.symm
  · rcases h2.2 r h.1 with e2 | e2
    · exact e2
    · exact (klt_as e e2).elim
theorem mask_n {x : Int32} (h : ∀ i, 10 ≤ i → i < 32 → bt x i = false) : ∃ n, n < 1024 ∧ x = nI n := by
  obtain ⟨n, hn, e⟩ := lo16 (x := x) (fun i h1 h2 => h i (by omega) h2)
  refine ⟨n, ?_, e⟩
  refine Nat.lt_pow_two_of_testBit (n := 10) n (fun i hi => ?_)
  by_cases e2 : i < 32
  · rw [← bt_nI n e2, ← e]; exact h i hi e2
  · exact Nat.testBit_lt_two_pow (Nat.lt_of_lt_of_le hn (by rw [show 65536 = 2 ^ 16 from rfl]; exact Nat.pow_le_pow_right (by omega) (by omega)))
theorem hi_0 {n : Nat} (hn : n < 1024) {i : Nat} (h1 : 10 ≤ i) (h2 : i < 32) : bt (nI n) i = false := by
  rw [bt_nI n h2]
  exact Nat.testBit_lt_two_pow (Nat.lt_of_lt_of_le hn (by rw [show 1024 = 2 ^ 10 from rfl]; exact Nat.pow_le_pow_right (by omega) h1))
theorem nI_inj {a b : Nat} (ha : a < 1024) (hb : b < 1024) (h : nI a = nI b) : a = b := (nI_eq (by omega) (by omega)).mp h
theorem sub_0 {x y : Int32} : (x &&& (y ^^^ (-1)) = 0) = (∀ i, i < 32 → bt x i = true → bt y i = true) := by
  rw [propext eq0_bt]
  refine propext ⟨fun h i hi hx => ?_, fun h i hi => ?_⟩
  · have := h i hi
    rw [b_and, b_not _ hi, hx] at this
    cases e : bt y i
    · rw [e] at this; cases this
    · rfl
  · rw [b_and, b_not _ hi]
    cases e : bt x i
    · rfl
    · rw [h i hi e]; rfl
/-- the reference's candidates -/
def allM (q : Nat → Int32) : Int32 := mk 10 (th q)
def gdS (q : Nat → Int32) (s : Nat) : Prop := og (rc (er q (allM q &&& (nI s ^^^ (-1))))) = 0
def sbS (q : Nat → Int32) (s : Nat) : Prop := nI s &&& (allM q ^^^ (-1)) = 0
def CA (q : Nat → Int32) (s : Nat) : Prop := s < 1024 ∧ sbS q s ∧ gdS q s
theorem wf_th {q : Nat → Int32} {t u : Nat} (h : wf q t u = true) : th q t = true ∧ th q u = true ∧ u ≠ t := by
  unfold wf way at h
  rw [Bool.and_eq_true, Bool.and_eq_true, Bool.and_eq_true, decide_eq_true_eq] at h
  exact ⟨wt_th h.1, h.2.2.1, h.2.1⟩
theorem og_th {q : Nat → Int32} {u : Nat} (hu : u < 10) (h : bt (og (rc (ng q))) u = true) : th q u = true := by
  rw [og_bt _ hu] at h
  obtain ⟨v, v1, v2, v3⟩ := wal_de (ng_10 q) 10 (by omega) u u hu h
  rw [ng_bt, Bool.and_eq_true] at v2
  exact (wf_th v2.2).1
theorem og_hi {R : Nat → Int32} {i : Nat} (h1 : 10 ≤ i) (h2 : i < 32) : bt (og R) i = false := by
  unfold og
  rw [bt_mk 10 _ (by omega), decide_eq_false (by omega)]; rfl
/-- good is free -/
theorem gd_rf {q : Nat → Int32} {s : Nat} (hs : s < 1024) : gdS q s ↔ rf (ng q) 10 (og (rc (ng q)) &&& (nI s ^^^ (-1))) = true := by
  have h1 := rf_ok (ng_10 q) 10 (og (rc (ng q)) &&& (nI s ^^^ (-1))) (fun i hi h => Decidable.byContradiction (fun e => by
    rw [b_and, og_hi (by omega) hi] at h
    cases h)) (cnt_le 10 _)
  constructor
  · intro hg
    cases e : rf (ng q) 10 (og (rc (ng q)) &&& (nI s ^^^ (-1)))
    · obtain ⟨N, hb, hn⟩ := h1.mp e
      refine absurd hg (cy_b hb (fun u hu h => ?_))
      have := hn u hu h
      rw [b_and, Bool.and_eq_true] at this
      rw [b_and, this.2, Bool.and_true]
      show bt (mk 10 (th q)) u = true
      rw [bt_mk10 hu]
      exact og_th hu this.1
    · rfl
  · intro hf
    refine Classical.byContradiction (fun hg => ?_)
    obtain ⟨N, hb, hn⟩ := cy_a hg
    have : rf (ng q) 10 (og (rc (ng q)) &&& (nI s ^^^ (-1))) = false := h1.mpr ⟨N, hb, fun u hu h => by
      obtain ⟨a1, a2⟩ := hn u hu h
      rw [b_and, Bool.and_eq_true] at a1
      rw [b_and, a2, a1.2]; rfl⟩
    rw [this] at hf
    cases hf
theorem cN_lt {q : Nat → Int32} {L : List Nat} {B : Nat} (hQ : WQ q L B) {s b : Nat} (hs : s < 1024) (hb : b < 1024) (hsub : ∀ i, i < 32 → bt (nI s) i = true → bt (nI b) i = true) (hth : ∀ t, t < 10 → bt (nI b) t = true → th q t = true) (hne : s ≠ b) : cN q s < cN q b := by
  have hex : ∃ i, i < 32 ∧ bt (nI b) i = true ∧ bt (nI s) i = false := by
    refine Decidable.byContradiction (fun hno => hne (nI_inj hs hb (b_ext (fun i hi => ?_))))
    cases e : bt (nI s) i
    · cases e2 : bt (nI b) i
      · rfl
      · exact absurd ⟨i, hi, e2, e⟩ hno
    · rw [hsub i hi e]
  obtain ⟨i, i1, i2, i3⟩ := hex
  have hi10 : i < 10 := Decidable.byContradiction (fun e => by rw [hi_0 hb (by omega) i1] at i2; cases i2)
  exact cs_lt 10 (fun j hj => hsub j (by omega)) i hi10 i2 i3 (vco_e hQ hi10 (hth i hi10 i2)).2.1
/-- the class's candidates: within the cyclic ones -/
theorem Bst_AR {q : Nat → Int32} {L : List Nat} {B : Nat} (hQ : WQ q L B) {o r : Nat} (ho : o < 1024) (eo : og (rc (ng q)) = nI o) (h : Bst q (fun s => (1 ≤ s ∧ s < o ∧ (∀ i, i < 32 → bt (nI s) i = true → bt (nI o) i = true) ∧ gdS q s) ∨ s = o) r) : Bst q (CA q) r := by
  have hth : ∀ t, t < 10 → bt (nI o) t = true → th q t = true := fun t ht hb => og_th ht (by rw [eo]; exact hb)
  have hall : ∀ i, i < 32 → bt (nI o) i = true → bt (allM q) i = true := fun i hi hb => by
    have h10 : i < 10 := Decidable.byContradiction (fun e => by rw [hi_0 ho (by omega) hi] at hb; cases hb)
    show bt (mk 10 (th q)) i = true
    rw [bt_mk10 h10]; exact hth i h10 hb
  have go : gdS q o := (gd_rf ho).mpr (by
    rw [eo]
    have : nI o &&& (nI o ^^^ (-1)) = 0 := by rw [sub_0]; exact fun i _ h => h
    rw [this]; rfl)
  have hCo : CA q o := ⟨ho, by unfold sbS; rw [sub_0]; exact hall, go⟩
  have hrs : CA q r := by
    rcases h.1 with ⟨r1, r2, r3, r4⟩ | e
    · exact ⟨by omega, by unfold sbS; rw [sub_0]; exact fun i hi hb => hall i hi (r3 i hi hb), r4⟩
    · rw [e]; exact hCo
  refine ⟨hrs, fun s hs => ?_⟩
  obtain ⟨s1, s2, s3⟩ := hs
  unfold sbS at s2
  rw [sub_0] at s2
  obtain ⟨s', t1, t2⟩ := mask_n (x := nI s &&& nI o) (fun i h1 h2 => by rw [b_and, hi_0 s1 h1 h2]; rfl)
  have b' : ∀ i, bt (nI s') i = (bt (nI s) i && bt (nI o) i) := fun i => by rw [← t2, b_and]
  have sub' : ∀ i, i < 32 → bt (nI s') i = true → bt (nI o) i = true := fun i _ hb => by rw [b' i, Bool.and_eq_true] at hb; exact hb.2
  have g' : gdS q s' := (gd_rf t1).mpr (by
    have := (gd_rf s1).mp s3
    rw [eo] at this ⊢
    have e : nI o &&& (nI s' ^^^ (-1)) = nI o &&& (nI s ^^^ (-1)) := b_ext (fun i hi => by
      rw [b_and, b_and, b_not _ hi, b_not _ hi, b' i]
      cases bt (nI o) i <;> simp)
    rw [e]; exact this)
  have hs' : (1 ≤ s' ∧ s' < o ∧ (∀ i, i < 32 → bt (nI s') i = true → bt (nI o) i = true) ∧ gdS q s') ∨ s' = o := by
    by_cases e : s' = o
    · exact Or.inr e
    · refine Or.inl ⟨?_, ?_, sub', g'⟩
      · refine Nat.one_le_iff_ne_zero.mpr (fun e0 => ?_)
        have hg := (gd_rf t1).mp g'
        rw [eo, e0] at hg
        have e1 : nI o &&& (nI 0 ^^^ (-1)) = nI o := b_ext (fun i hi => by
          rw [b_and, b_not _ hi, nI_0, b_0]; simp)
        rw [e1] at hg
        have hne : og (rc (ng q)) ≠ 0 := fun h9 => e (by
          rw [h9] at eo
          have : nI o = nI 0 := eo.symm
          have := nI_inj ho (by omega) this
          omega)
        have hbd := Bd_diag (ng_10 q) (og_ne.mp hne)
        have := (rf_ok (ng_10 q) 10 (nI o) (fun i hi hb => Decidable.byContradiction (fun e9 => by rw [hi_0 ho (by omega) hi] at hb; cases hb)) (cnt_le 10 _)).mpr ⟨_, hbd, fun u hu hd => by rw [← eo, og_bt _ hu]; exact hd⟩
        rw [this] at hg
        cases hg
      · have hle : s' ≤ o := by
          have hand : s' = s &&& o := by
            have h5 : nI s' = nI (s &&& o) := by rw [← t2, nI_and]
            exact nI_inj t1 (Nat.lt_of_le_of_lt Nat.and_le_left s1) h5
          rw [hand]; exact Nat.and_le_right
        omega
  have hr' := h.2 s' hs'
  by_cases e : s' = s
  · rcases hr' with e2 | e2
    · exact Or.inl (by omega)
    · rw [e] at e2; exact Or.inr e2
  · have hlt : cN q s' < cN q s := cN_lt hQ t1 s1 (fun i _ hb => by rw [b' i, Bool.and_eq_true] at hb; exact hb.1) (fun t ht hb => by
      have := s2 t (by omega) hb
      have h9 : bt (mk 10 (th q)) t = true := this
      rw [bt_mk10 ht] at h9; exact h9) e
    refine Or.inr (Or.inl (Or.inl ?_))
    rcases hr' with e2 | e2
    · rw [← e2]; exact hlt
    · unfold klt ltS at e2; omega
/-! the class's search -/
def cbF (q : Nat → Int32) (o : Nat) : Nat → Nat
  | 0 => o
  | k + 1 => if (nI (k + 1) &&& (nI o ^^^ (-1)) = 0 ∧ (cN q (k + 1) < cN q (cbF q o k) ∨ (cN q (k + 1) = cN q (cbF q o k) ∧ bcS (k + 1) < bcS (cbF q o k)))) ∧ rf (ng q) 10 (nI o &&& (nI (k + 1) ^^^ (-1))) = true then k + 1 else cbF q o k
theorem cbF_s (q : Nat → Int32) (o k : Nat) : cbF q o (k + 1) = if (nI (k + 1) &&& (nI o ^^^ (-1)) = 0 ∧ (cN q (k + 1) < cN q (cbF q o k) ∨ (cN q (k + 1) = cN q (cbF q o k) ∧ bcS (k + 1) < bcS (cbF q o k)))) ∧ rf (ng q) 10 (nI o &&& (nI (k + 1) ^^^ (-1))) = true then k + 1 else cbF q o k := rfl
theorem cbF_le {q : Nat → Int32} {o : Nat} : ∀ k, k < o → cbF q o k ≤ o ∧ (cbF q o k = o ∨ (1 ≤ cbF q o k ∧ cbF q o k ≤ k ∧ nI (cbF q o k) &&& (nI o ^^^ (-1)) = 0)) := by
  intro k
  induction k with
  | zero => intro _; exact ⟨Nat.le_refl _, Or.inl rfl⟩
  | succ k ih =>
    intro hk
    have := ih (by omega)
    rw [cbF_s]
    split
    · rename_i e
      exact ⟨by omega, Or.inr ⟨by omega, by omega, e.1.1⟩⟩
    · exact ⟨this.1, by rcases this.2 with e | ⟨e1, e2, e3⟩; exact Or.inl e; exact Or.inr ⟨e1, by omega, e3⟩⟩
theorem cbF_ok {q : Nat → Int32} {L : List Nat} {B : Nat} (hQ : WQ q L B) {o : Nat} (ho : o < 1024) (eo : og (rc (ng q)) = nI o) : ∀ k, k < o → Bst q (fun s => (1 ≤ s ∧ s ≤ k ∧ (∀ i, i < 32 → bt (nI s) i = true → bt (nI o) i = true) ∧ gdS q s) ∨ s = o) (cbF q o k) := by
  have hth : ∀ t, t < 10 → bt (nI o) t = true → th q t = true := fun t ht hb => og_th ht (by rw [eo]; exact hb)
  intro k
  induction k with
  | zero =>
    intro _
    refine ⟨Or.inr rfl, fun s hs => ?_⟩
    rcases hs with ⟨h1, h2, _⟩ | e
    · omega
    · exact Or.inl e
  | succ k ih =>
    intro hk
    have hB := ih (by omega)
    have hle := cbF_le (q := q) (o := o) k (by omega)
    rw [cbF_s]
    have hgd : rf (ng q) 10 (nI o &&& (nI (k + 1) ^^^ (-1))) = true ↔ gdS q (k + 1) := by
      rw [← eo]; exact (gd_rf (by omega)).symm
    by_cases e : (nI (k + 1) &&& (nI o ^^^ (-1)) = 0 ∧ (cN q (k + 1) < cN q (cbF q o k) ∨ (cN q (k + 1) = cN q (cbF q o k) ∧ bcS (k + 1) < bcS (cbF q o k)))) ∧ rf (ng q) 10 (nI o &&& (nI (k + 1) ^^^ (-1))) = true
    · rw [if_pos e]
      obtain ⟨⟨e1, e2⟩, e3⟩ := e
      rw [sub_0] at e1
      have hk1 : klt q (k + 1) (cbF q o k) := Or.inl e2
      refine ⟨Or.inl ⟨by omega, by omega, e1, hgd.mp e3⟩, fun s hs => ?_⟩
      by_cases es : s = k + 1
      · exact Or.inl es
      · have : (1 ≤ s ∧ s ≤ k ∧ (∀ i, i < 32 → bt (nI s) i = true → bt (nI o) i = true) ∧ gdS q s) ∨ s = o := by
          rcases hs with ⟨h1, h2, h3⟩ | h1
          · exact Or.inl ⟨h1, by omega, h3⟩
          · exact Or.inr h1
        rcases hB.2 s this with h9 | h9
        · rw [h9]; exact Or.inr hk1
        · exact Or.inr (klt_tr hk1 h9)
    · rw [if_neg e]
      refine ⟨?_, fun s hs => ?_⟩
      · rcases hB.1 with ⟨h1, h2, h3⟩ | h1
        · exact Or.inl ⟨h1, by omega, h3⟩
        · exact Or.inr h1
      · rcases hs with ⟨h1, h2, h3, h4⟩ | h1
        · by_cases es : s = k + 1
          · subst es
            right
            have hnl : ¬ ltS q (k + 1) (cbF q o k) := fun h9 => e ⟨⟨by rw [sub_0]; exact h3, h9⟩, hgd.mpr h4⟩
            rcases hle.2 with h9 | ⟨h9, h8, h7⟩
            · refine absurd (Or.inl ?_) hnl
              rw [h9]
              exact cN_lt hQ (by omega) ho h3 hth (by omega)
            · unfold ltS at hnl
              unfold klt ltS
              omega
          · exact hB.2 s (Or.inl ⟨h1, by omega, h3, h4⟩)
        · exact hB.2 s (Or.inr h1)
def vBv (q : Nat → Int32) (o : Nat) : Nat := cbF q o (o - 1)
theorem vBv_A {q : Nat → Int32} {L : List Nat} {B : Nat} (hQ : WQ q L B) {o : Nat} (ho : o < 1024) (eo : og (rc (ng q)) = nI o) : Bst q (CA q) (vBv q o) := by
  by_cases e : o = 0
  · subst e
    refine Bst_AR hQ ho eo ⟨Or.inr rfl, fun s hs => ?_⟩
    rcases hs with ⟨h1, h2, _⟩ | h1
    · omega
    · exact Or.inl h1
  · have := cbF_ok hQ ho eo (o - 1) (by omega)
    refine Bst_AR hQ ho eo ⟨?_, fun s hs => ?_⟩
    · rcases this.1 with ⟨h1, h2, h3⟩ | h1
      · exact Or.inl ⟨h1, by show cbF q o (o - 1) < o; omega, h3⟩
      · exact Or.inr h1
    · refine this.2 s ?_
      rcases hs with ⟨h1, h2, h3⟩ | h1
      · exact Or.inl ⟨h1, by omega, h3⟩
      · exact Or.inr h1
theorem lv_loop {h : AH} {x : Nat} {q : Nat → Int32} {L : List Nat} {B : Nat} (hQ : WQ q L B) (hD : DS h x) (hC : CB h (x + 1) q L) (hV : WV h x (ng q)) {o : Nat} (ho : o < 1024) (eo : og (rc (ng q)) = nI o) (z : Nat) : ∀ (d k : Nat), k + 1 + d = o → ∀ fuel, d < fuel →
    lX7_leastVictims_18 fuel (x + 35) (x + 1 + 10) (nI (cbF q o k)) (nI (cN q (cbF q o k))) (nI (k + 1)) z h = some (nI (vBv q o), z, h) := by
  intro d
  have d9 : kd h (x + 35) = 8 := hD.2.2.2.2.2.2.2.2.1
  have g2 : iv h (x + 35) 2 = nI o := hV.2.2.trans eo
  have hth : ∀ t, t < 10 → bt (nI o) t = true → th q t = true := fun t ht hb => og_th ht (by rw [eo]; exact hb)
  induction d with
  | zero =>
    intro k hk fuel hf
    obtain rfl : o = k + 1 := by omega
    cases fuel with
    | zero => omega
    | succ fuel =>
      show lX7_leastVictims_18B _ _ _ _ _ _ _ _ = _
      simp (disch := omega) only [lX7_leastVictims_18B, ↓gd, ↓reduceIte, d9, g2, Int32.le_refl]
      rfl
  | succ d ih =>
    intro k hk fuel hf
    cases fuel with
    | zero => omega
    | succ fuel =>
      have h3 := ih (k + 1) (by omega) fuel (by omega)
      rw [cbF_s] at h3
      have e0 : (nI o ≤ nI (k + 1)) = False := by rw [nI_leE (by omega) (by omega)]; exact eq_false (by omega)
      have hle := cbF_le (q := q) (o := o) k (by omega)
      have hsb : ∀ i, i < 32 → bt (nI (cbF q o k)) i = true → bt (nI o) i = true := by
        rcases hle.2 with h9 | ⟨_, _, h9⟩
        · rw [h9]; exact fun i _ h => h
        · rw [sub_0] at h9; exact h9
      have hbb : cN q (cbF q o k) ≤ 990 := cs_le hQ (fun t ht hb => hth t ht (hsb t (by omega) hb)) 10 (by omega)
      show lX7_leastVictims_18B _ _ _ _ _ _ _ _ = _
      by_cases es : nI (k + 1) &&& (nI o ^^^ (-1)) = 0
      · have es' := es
        rw [sub_0] at es'
        have hS : ∀ t, t < 10 → bt (nI (k + 1)) t = true → th q t = true := fun t ht hb => hth t ht (es' t (by omega) hb)
        have x1 : fX7_costOf (x + 35) (nI (k + 1)) (x + 1 + 10) z h = some (nI (cN q (k + 1)), z, h) := e7_costOf hQ hC hS (x + 35) z
        have hcb : cN q (k + 1) ≤ 990 := cs_le hQ hS 10 (by omega)
        have x4 : fJ6_bitCount_0f7a4 (nI (k + 1)) z h = some (nI (bcS (k + 1)), z, h) := e_bitc (fun i h1 h2 => hi_0 (by omega) (by omega) h2) z h
        have x5 : fJ6_bitCount_0f7a4 (nI (cbF q o k)) z h = some (nI (bcS (cbF q o k)), z, h) := e_bitc (fun i h1 h2 => hi_0 (by omega) (by omega) h2) z h
        have x6 := e7_free hD hV.1 (nI o &&& (nI (k + 1) ^^^ (-1))) z
        have hb1 : bcS (k + 1) ≤ 16 := cnt_le 16 _
        have hb2 : bcS (cbF q o k) ≤ 16 := cnt_le 16 _
        have key : ∀ c : Prop, (c ↔ (cN q (k + 1) < cN q (cbF q o k) ∨ (cN q (k + 1) = cN q (cbF q o k) ∧ bcS (k + 1) < bcS (cbF q o k)))) → [Decidable c] →
            bX7_leastVictims_77 (lX7_leastVictims_18 fuel) (x + 35) (x + 1 + 10) (nI (cbF q o k)) (nI (cN q (cbF q o k))) (nI (k + 1)) (nI (cN q (k + 1))) (if c then 1 else 0) z h = some (nI (vBv q o), z, h) := by
          intro c hc _
          by_cases e : c
          · rw [if_pos e]
            cases ef : rf (ng q) 10 (nI o &&& (nI (k + 1) ^^^ (-1)))
            · rw [ef] at x6 h3
              rw [if_neg (fun h9 => by cases h9.2)] at h3
              simp (disch := omega) only [bX7_leastVictims_77, bX7_leastVictims_106, ↓gd, ↓reduceIte, ne10, d9, g2, ↓bb3 x6, Bool.false_eq_true, nI_1]
              exact h3
            · rw [ef] at x6 h3
              rw [if_pos ⟨⟨es, hc.mp e⟩, rfl⟩] at h3
              simp (disch := omega) only [bX7_leastVictims_77, bX7_leastVictims_106, ↓gd, ↓reduceIte, ne10, d9, g2, ↓bb3 x6, nI_1]
              exact h3
          · rw [if_neg e]
            rw [if_neg (fun h9 => e (hc.mpr h9.1.2))] at h3
            simp (disch := omega) only [bX7_leastVictims_77, bX7_leastVictims_106, ↓reduceIte, nI_1]
            exact h3
        by_cases e1 : cN q (k + 1) < cN q (cbF q o k)
        · have := key True ⟨fun _ => Or.inl e1, fun _ => trivial⟩
          simp only [if_true] at this
          simp (disch := omega) only [lX7_leastVictims_18B, bX7_leastVictims_72, ↓gd, ↓bl, ↓on, ↓xr, ↓reduceIte, if_true, if_false, kd_wI, ln_wI, rv_wI, iv_wI, jv_wI, kd_wJ, ln_wJ, rv_wJ, iv_wJ, nI_clamp, nI_leE, nI_ltE, nI_eqE, m1_ne, bit_0, bit_1, nI_negE, leN_F, leN_T, ltN_F, ltN_T, eqN_F, or_false, false_or, or_true, true_or, not_false_eq_true, not_true_eq_false, and_true, true_and, and_false, false_and, d9, g2, e0, es, ↓bb3 x1, e1]
          exact this
        · by_cases e2 : cN q (k + 1) = cN q (cbF q o k)
          · by_cases e3 : bcS (k + 1) < bcS (cbF q o k)
            · have := key True ⟨fun _ => Or.inr ⟨e2, e3⟩, fun _ => trivial⟩
              simp only [if_true] at this
              have f1 : (nI (cN q (k + 1)) = nI (cN q (cbF q o k))) = True := by rw [e2]; exact eq_self _
              have f0 : (nI (cN q (k + 1)) < nI (cN q (cbF q o k))) = False := by rw [nI_ltE (by omega) (by omega)]; exact eq_false e1
              have f3 : (nI (bcS (cbF q o k)) ≤ nI (bcS (k + 1))) = False := by rw [nI_leE (by omega) (by omega)]; exact eq_false (by omega)
              simp (disch := omega) only [lX7_leastVictims_18B, bX7_leastVictims_72, ↓gd, ↓reduceIte, d9, g2, e0, es, ↓bb3 x1, f0, f1, ↓bb3 x4, ↓bb3 x5, f3]
              exact this
            · have := key False ⟨fun h => h.elim, fun h => by omega⟩
              simp only [if_false] at this
              have f1 : (nI (cN q (k + 1)) = nI (cN q (cbF q o k))) = True := by rw [e2]; exact eq_self _
              have f0 : (nI (cN q (k + 1)) < nI (cN q (cbF q o k))) = False := by rw [nI_ltE (by omega) (by omega)]; exact eq_false e1
              have f3 : (nI (bcS (cbF q o k)) ≤ nI (bcS (k + 1))) = True := by rw [nI_leE (by omega) (by omega)]; exact eq_true (by omega)
              simp (disch := omega) only [lX7_leastVictims_18B, bX7_leastVictims_76, ↓gd, ↓reduceIte, d9, g2, e0, es, ↓bb3 x1, f0, f1, ↓bb3 x4, ↓bb3 x5, f3]
              exact this
          · have := key False ⟨fun h => h.elim, fun h => by omega⟩
            simp only [if_false] at this
            have f1 : (nI (cN q (k + 1)) = nI (cN q (cbF q o k))) = False := by rw [nI_eqE (by omega) (by omega)]; exact eq_false e2
            have f0 : (nI (cN q (k + 1)) < nI (cN q (cbF q o k))) = False := by rw [nI_ltE (by omega) (by omega)]; exact eq_false e1
            simp (disch := omega) only [lX7_leastVictims_18B, bX7_leastVictims_76, ↓gd, ↓reduceIte, d9, g2, e0, es, ↓bb3 x1, f0, f1]
            exact this
      · rw [if_neg (fun h9 => es h9.1.1)] at h3
        simp (disch := omega) only [lX7_leastVictims_18B, bX7_leastVictims_106, ↓gd, ↓reduceIte, d9, g2, e0, es, nI_1]
        exact h3
theorem ogN (q : Nat → Int32) : ∃ o, o < 1024 ∧ og (rc (ng q)) = nI o := mask_n (fun i h1 h2 => og_hi h1 h2)
theorem c_bestVictims {h : AH} {x z : Nat} {A : TS} {B : Nat} (hC : CI h x z A) (hT : TI A B) {o : Nat} (ho : o < 1024) (eo : og (rc (ng A.1.1.1)) = nI o) : CP (fX8_bestVictims x z h) h x z (nI (vBv A.1.1.1 o), A) := by
  obtain ⟨h', v1, v2, v3, v4⟩ := c_read hC hT
  refine ⟨z, h', ?_, Nat.le_refl _, v2, v3⟩
  have hD := v2.2.2.1.1.1
  have hCB := v2.2.2.1.1.2.1
  have d5 : kd h (x + 35) = 8 := hC.2.2.1.1.1.2.2.2.2.2.2.2.2.1
  have g5 : kd h' (x + 35) = 8 := hD.2.2.2.2.2.2.2.2.1
  have g2 : iv h' (x + 35) 2 = nI o := v4.2.2.trans eo
  have hth : ∀ t, t < 10 → bt (nI o) t = true → th A.1.1.1 t = true := fun t ht hb => og_th ht (by rw [eo]; exact hb)
  have x1 : fX7_costOf (x + 35) (nI o) (x + 1 + 10) z h' = some (nI (cN A.1.1.1 o), z, h') := e7_costOf hT.1.1 hCB hth (x + 35) z
  have x2 : fX7_leastVictims (x + 35) (x + 1 + 10) z h' = some (nI (vBv A.1.1.1 o), z, h') := by
    by_cases e : o = 0
    · subst e
      have e1 : (nI 0 ≤ (1 : Int32)) = True := eq_true (by decide)
      rw [nI_0] at x1 g2
      have : lX7_leastVictims_18 fu (x + 35) (x + 1 + 10) 0 (nI (cN A.1.1.1 0)) 1 z h' = some (0, z, h') := by
        have e1 : ((0 : Int32) ≤ 1) = True := eq_true (by decide)
        show lX7_leastVictims_18B _ _ _ _ _ _ _ _ = _
        simp (disch := omega) only [lX7_leastVictims_18B, ↓gd, ↓reduceIte, g5, g2, e1]
      simp (disch := omega) only [fX7_leastVictims, ↓gd, ↓bl, ↓reduceIte, g5, g2, ↓bb3 x1]
      exact this
    · have := lv_loop hT.1.1 hD hCB v4 ho eo z (o - 1) 0 (by omega) fu (by unfold fu; omega)
      simp (disch := omega) only [fX7_leastVictims, ↓gd, ↓bl, ↓reduceIte, g5, g2, ↓bb3 x1]
      exact this
  have u9 : rv h' (x + 1) 2 = some (x + 1 + 10) := hCB.1.2.2.2.1
  have hC1 := v2
  obtain ⟨o1, o2, o3, o4, o5, o6, o7, o8, o9, o10, o11, o12, o13, o14, o15, o16⟩ := id hC.1
  have hB := hC.2.2.1.1.2.1.1
  have u1 := hB.1
  have u2 := hB.2.1
  have u3 := hB.2.2.2.2.2.2.2.2.2.1
  have u4 := hC.2.2.1.1.1.1
  obtain ⟨p1, p2, p3, p4, p5, p6, p7, p8, p9, p10, p11, p12, p13, p14, p15, p16⟩ := id hC1.1
  have hB1 := hC1.2.2.1.1.2.1.1
  have y1 := hB1.1
  have y2 := hB1.2.1
  have y3 := hB1.2.2.2.2.2.2.2.2.2.1
  have y4 := hC1.2.2.1.1.1.1
  simp (disch := omega) only [fX8_bestVictims, ↓gd, ↓bl, ↓xr, ↓reduceIte, o1, ↓bb o2, ↓bb o3, ↓bb o4, ↓bb o5, ↓bb o6, ↓bb o7, ↓bb o8, o9, ↓bb o10, o11, o12, o13, ↓bb o14, o15, o16, u1, ↓bb u2, u3, u4, d5, ↓bb2 v1, p1, ↓bb p2, ↓bb p3, ↓bb p4, ↓bb p5, ↓bb p6, ↓bb p7, ↓bb p8, p9, ↓bb p10, p11, p12, p13, ↓bb p14, p15, p16, y1, ↓bb y2, y3, y4, g5, ↓bb u9, ↓bb3 x2]
/-! the reference's search -/
theorem CAdec (q : Nat → Int32) (s : Nat) : CA q s ∨ ¬ CA q s := Classical.em _
theorem sub_c2 : ∀ d, d < 1000 → 1 ≤ d → ¬ (0 < -(nI d)) ∧ -(nI d) ≠ 0 := by decide +kernel
theorem sub_c3 : ∀ d, d < 1000 → 1 ≤ d → 0 < nI d := by decide +kernel
theorem sub_neg {a b : Nat} (h : a < b) : nI a - nI b = -(nI (b - a)) := by
  rw [← pk_sub (Nat.le_of_lt h), Int32.neg_sub]
def rbI (r : Option Nat) : Int32 := match r with | none => -1 | some b => nI b
/-- what the reference has found among the sets below n -/
def RB (q : Nat → Int32) (n : Nat) (r : Option Nat) : Prop := match r with
  | none => ∀ s, s < n → ¬ CA q s
  | some b => Bst q (fun s => s < n ∧ CA q s) b
theorem bv_loop {m : Nat} {A : TS} {B : Nat} (hT : TI A B) (z : Nat) : ∀ (d s : Nat) (r : Option Nat), s + d = 1024 → RB A.1.1.1 s r → ∀ (h : AH) (fuel : Nat), d < fuel → RI h m A →
    ∃ r' h', lX9_bestVictims_14 fuel m (allM A.1.1.1) (rbI r) (nI s) z h = some (rbI r', z, h') ∧ RB A.1.1.1 1024 r' ∧ RI h' m A ∧ Fq (PR m) h h' := by
  intro d
  induction d with
  | zero =>
    intro s r hs hr h fuel hf hR
    obtain rfl : s = 1024 := by omega
    cases fuel with
    | zero => omega
    | succ fuel =>
      refine ⟨r, h, ?_, hr, hR, Fq.rf _ h⟩
      show lX9_bestVictims_14B _ _ _ _ _ _ _ = _
      simp (disch := omega) only [lX9_bestVictims_14B, show (1024 : Int32) = nI 1024 from rfl, Int32.le_refl, ↓reduceIte]
  | succ d ih =>
    intro s r hs hr h fuel hf hR
    cases fuel with
    | zero => omega
    | succ fuel =>
      have e0 : ((1024 : Int32) ≤ nI s) = False := by rw [show (1024 : Int32) = nI 1024 from rfl, nI_leE (by omega) (by omega)]; exact eq_false (by omega)
      have hk0 := hR.1.1
      have skip : (¬ CA A.1.1.1 s) → RB A.1.1.1 (s + 1) r := by
        intro hn
        cases r with
        | none =>
          intro s' hs'
          by_cases e : s' = s
          · rw [e]; exact hn
          · exact hr s' (by omega)
        | some b =>
          refine ⟨⟨by have := hr.1.1; omega, hr.1.2⟩, fun s' hs' => ?_⟩
          by_cases e : s' = s
          · rw [e] at hs'; exact absurd hs'.2 hn
          · exact hr.2 s' ⟨by omega, hs'.2⟩
      by_cases es : nI s &&& (allM A.1.1.1 ^^^ (-1)) = 0
      · obtain ⟨h1, v1, v2, v3, -, -⟩ := r_cyclic (z := z) hR hT (allM A.1.1.1 &&& (nI s ^^^ (-1)))
        have hk1 := v2.1.1
        by_cases eg : og (rc (er A.1.1.1 (allM A.1.1.1 &&& (nI s ^^^ (-1))))) = 0
        · rw [eg] at v1
          have hCA : CA A.1.1.1 s := ⟨by omega, es, eg⟩
          have thS : ∀ n, n < 1024 → nI n &&& (allM A.1.1.1 ^^^ (-1)) = 0 → ∀ t, t < 10 → bt (nI n) t = true → th A.1.1.1 t = true := fun n hn h9 t ht hb => by
            rw [sub_0] at h9
            have h8 : bt (mk 10 (th A.1.1.1)) t = true := h9 t (by omega) hb
            rw [bt_mk10 ht] at h8; exact h8
          have take : ∀ (r' : Option Nat), RB A.1.1.1 (s + 1) r' → bX9_bestVictims_61 (lX9_bestVictims_14 fuel) m (allM A.1.1.1) (rbI r) (nI s) (match r with | none => 1 | some b => nI (cN A.1.1.1 b) - nI (cN A.1.1.1 s)) z h1 = lX9_bestVictims_14 fuel m (allM A.1.1.1) (rbI r') (nI (s + 1)) z h1 → ∃ r' h', lX9_bestVictims_14 (fuel + 1) m (allM A.1.1.1) (rbI r) (nI s) z h = some (rbI r', z, h') ∧ RB A.1.1.1 1024 r' ∧ RI h' m A ∧ Fq (PR m) h h' := by
            intro r' hr' hstep
            obtain ⟨r2, h2, w1, w2, w3, w4⟩ := ih (s + 1) r' (by omega) hr' h1 fuel (by omega) v2
            refine ⟨r2, h2, ?_, w2, w3, (v3.mono PL2_R).tr w4⟩
            rw [← w1, ← hstep]
            show lX9_bestVictims_14B _ _ _ _ _ _ _ = _
            cases r with
            | none =>
              simp (disch := omega) only [lX9_bestVictims_14B, ↓gd, ↓reduceIte, e0, es, hk0, ↓bb3 v1, rbI]
            | some b =>
              have hb1024 : b < 1024 := hr.1.2.1
              have eb : (nI b = -1) = False := m1_ne (by omega)
              have y1 : fX9_costOf m (nI b) z h1 = some (nI (cN A.1.1.1 b), z, h1) := e9_costOf hT.1.1 v2.1 v2.2.1.1 (thS b hb1024 hr.1.2.2.1) z
              have y2 : fX9_costOf m (nI s) z h1 = some (nI (cN A.1.1.1 s), z, h1) := e9_costOf hT.1.1 v2.1 v2.2.1.1 (thS s (by omega) es) z
              simp (disch := omega) only [lX9_bestVictims_14B, ↓gd, ↓reduceIte, e0, es, hk0, ↓bb3 v1, rbI, eb, hk1, ↓bb3 y1, ↓bb3 y2]
          cases r with
          | none =>
            refine take (some s) ⟨⟨by omega, hCA⟩, fun s' hs' => ?_⟩ ?_
            · by_cases e : s' = s
              · exact Or.inl e
              · exact absurd hs'.2 (hr s' (by omega))
            · have e1 : ((0 : Int32) < 1) = True := eq_true (by decide)
              simp (disch := omega) only [bX9_bestVictims_61, bX9_bestVictims_84, bX9_bestVictims_89, bX9_bestVictims_101, bX9_bestVictims_102, ↓reduceIte, e1, ne10, nI_1, rbI]
          | some b =>
            have hb1024 : b < 1024 := hr.1.2.1
            have hbs : b < s := hr.1.1
            have hc1 : cN A.1.1.1 b ≤ 990 := cs_le hT.1.1 (thS b hb1024 hr.1.2.2.1) 10 (by omega)
            have hc2 : cN A.1.1.1 s ≤ 990 := cs_le hT.1.1 (thS s (by omega) es) 10 (by omega)
            have new : ltS A.1.1.1 s b → RB A.1.1.1 (s + 1) (some s) := fun hl => ⟨⟨by omega, hCA⟩, fun s' hs' => by
              by_cases e : s' = s
              · exact Or.inl e
              · rcases hr.2 s' ⟨by omega, hs'.2⟩ with h9 | h9
                · rw [h9]; exact Or.inr (Or.inl hl)
                · exact Or.inr (klt_tr (Or.inl hl) h9)⟩
            have old : (¬ ltS A.1.1.1 s b) → RB A.1.1.1 (s + 1) (some b) := fun hl => ⟨⟨by omega, hr.1.2⟩, fun s' hs' => by
              by_cases e : s' = s
              · rw [e]; right; unfold ltS at hl; unfold klt ltS; omega
              · exact hr.2 s' ⟨by omega, hs'.2⟩⟩
            have z1 := e9_bits (nI s) z h1
            have z2 := e9_bits (nI b) z h1
            have z1 : fX9_bits (nI s) z h1 = some (nI (bcS s), z, h1) := z1
            have z2 : fX9_bits (nI b) z h1 = some (nI (bcS b), z, h1) := z2
            have hb1 : bcS s ≤ 16 := cnt_le 16 _
            have hb2 : bcS b ≤ 16 := cnt_le 16 _
            rcases Nat.lt_trichotomy (cN A.1.1.1 s) (cN A.1.1.1 b) with e | e | e
            · refine take (some s) (new (Or.inl e)) ?_
              have e1 : ((0 : Int32) < nI (cN A.1.1.1 b) - nI (cN A.1.1.1 s)) = True := by
                rw [pk_sub (by omega)]; exact eq_true (sub_c3 _ (by omega) (by omega))
              simp (disch := omega) only [bX9_bestVictims_61, bX9_bestVictims_84, bX9_bestVictims_89, bX9_bestVictims_101, bX9_bestVictims_102, ↓reduceIte, e1, ne10, nI_1, rbI]
            · have e1 : nI (cN A.1.1.1 b) - nI (cN A.1.1.1 s) = 0 := by rw [e, pk_sub (by omega), Nat.sub_self]; rfl
              by_cases e2 : bcS s < bcS b
              · refine take (some s) (new (Or.inr ⟨e, e2⟩)) ?_
                have f3 : (nI (bcS b) ≤ nI (bcS s)) = False := by rw [nI_leE (by omega) (by omega)]; exact eq_false (by omega)
                simp (disch := omega) only [bX9_bestVictims_61, bX9_bestVictims_84, bX9_bestVictims_89, bX9_bestVictims_101, bX9_bestVictims_102, ↓reduceIte, e1, lt00, ↓bb3 z1, rbI, ↓bb3 z2, f3, ne10, nI_1]
              · refine take (some b) (old (by unfold ltS; omega)) ?_
                have f3 : (nI (bcS b) ≤ nI (bcS s)) = True := by rw [nI_leE (by omega) (by omega)]; exact eq_true (by omega)
                simp (disch := omega) only [bX9_bestVictims_61, bX9_bestVictims_88, bX9_bestVictims_89, bX9_bestVictims_101, bX9_bestVictims_102, ↓reduceIte, e1, lt00, ↓bb3 z1, rbI, ↓bb3 z2, f3, nI_1]
            · refine take (some b) (old (by unfold ltS; omega)) ?_
              obtain ⟨p1, p2⟩ := sub_c2 (cN A.1.1.1 s - cN A.1.1.1 b) (by omega) (by omega)
              have e1 : ((0 : Int32) < nI (cN A.1.1.1 b) - nI (cN A.1.1.1 s)) = False := by rw [sub_neg e]; exact eq_false p1
              have e2 : (nI (cN A.1.1.1 b) - nI (cN A.1.1.1 s) = 0) = False := by rw [sub_neg e]; exact eq_false p2
              simp (disch := omega) only [bX9_bestVictims_61, bX9_bestVictims_88, bX9_bestVictims_89, bX9_bestVictims_101, bX9_bestVictims_102, ↓reduceIte, e1, e2, nI_1, rbI]
        · obtain ⟨r2, h2, w1, w2, w3, w4⟩ := ih (s + 1) r (by omega) (skip (fun h9 => eg h9.2.2)) h1 fuel (by omega) v2
          refine ⟨r2, h2, ?_, w2, w3, (v3.mono PL2_R).tr w4⟩
          rw [← w1]
          show lX9_bestVictims_14B _ _ _ _ _ _ _ = _
          simp (disch := omega) only [lX9_bestVictims_14B, bX9_bestVictims_102, ↓gd, ↓reduceIte, e0, es, hk0, ↓bb3 v1, eg, nI_1]
      · obtain ⟨r2, h2, w1, w2, w3, w4⟩ := ih (s + 1) r (by omega) (skip (fun h9 => es h9.2.1)) h fuel (by omega) hR
        refine ⟨r2, h2, ?_, w2, w3, w4⟩
        rw [← w1]
        show lX9_bestVictims_14B _ _ _ _ _ _ _ = _
        simp (disch := omega) only [lX9_bestVictims_14B, bX9_bestVictims_102, ↓reduceIte, e0, es, nI_1]
theorem r_bestVictims {h : AH} {m z : Nat} {A : TS} {B : Nat} (hR : RI h m A) (hT : TI A B) {o : Nat} (ho : o < 1024) (eo : og (rc (ng A.1.1.1)) = nI o) : RP (fX9_bestVictims m z h) h m z (nI (vBv A.1.1.1 o), A) := by
  obtain ⟨c1, c2, c3⟩ := RI_code hR 0
  have x1 := e9_all c1.1 c1.2.1.1 z
  obtain ⟨r, h', v1, v2, v3, v4⟩ := bv_loop (m := m) hT z 1024 0 none (by omega) (fun s hs => by omega) (wI h m 6 0) fu (by unfold fu; omega) c1
  have hA := vBv_A hT.1.1 ho eo
  have hr : rbI r = nI (vBv A.1.1.1 o) := by
    cases r with
    | none => exact absurd hA.1 (v2 _ hA.1.1)
    | some b =>
      have : Bst A.1.1.1 (CA A.1.1.1) b := ⟨v2.1.2, fun s hs => v2.2 s ⟨hs.1, hs⟩⟩
      show nI b = _
      rw [Bst_un this hA]
  rw [hr, nI_0] at v1
  refine ⟨h', ?_, v3, c2.tr v4⟩
  have hk0 := hR.1.1
  simp (disch := omega) only [fX9_bestVictims, ↓gd, ↓bl, ↓reduceIte, hk0, ↓bb3 x1]
  exact v1
