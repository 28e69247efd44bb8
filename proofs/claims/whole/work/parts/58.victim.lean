/-! the victim -/
def ky (q : Nat → Int32) (t : Nat) : Nat := if q 18 = 0 then (q (32 + 6 * t + 1)).toNatClampNeg else if q 18 = 1 then 0 else cnt 16 (bt (q (32 + 6 * t + 3)))
def ag (q : Nat → Int32) (t : Nat) : Nat := (q (32 + 6 * t + 2)).toNatClampNeg
def bfN (q : Nat → Int32) (a b : Nat) : Bool := decide (ky q a < ky q b ∨ (ky q a = ky q b ∧ ag q b < ag q a))
theorem ag_e {q : Nat → Int32} {L : List Nat} {B t : Nat} (hB : B < 2 ^ 31) (h : WQ q L B) (ht : t < 10) (hth : th q t = true) : q (32 + 6 * t + 2) = nI (ag q t) ∧ ag q t < 2 ^ 31 := by
  obtain ⟨-, ⟨S, h2, h3, h4⟩, -⟩ := h
  obtain ⟨-, ⟨a, ha, e⟩, -⟩ := (h4 t ht).2.2.1 hth
  have : ag q t = a := by unfold ag; rw [e, nI_clamp (by omega)]
  rw [this]
  exact ⟨e, by omega⟩
theorem ag_ne {q : Nat → Int32} {L : List Nat} {B k l : Nat} (hB : B < 2 ^ 31) (h : WQ q L B) (hk : k < 10) (hl : l < 10) (hkl : k ≠ l) (h1 : th q k = true) (h2 : th q l = true) : ag q k ≠ ag q l := fun e => by
  have := h.2.2.1 k l hk hl hkl h1 h2
  rw [(ag_e hB h hk h1).1, (ag_e hB h hl h2).1, e] at this
  exact this rfl
theorem co_e {q : Nat → Int32} {L : List Nat} {B t : Nat} (h : WQ q L B) (ht : t < 10) (hth : th q t = true) : ∃ c, 1 ≤ c ∧ c ≤ 99 ∧ q (32 + 6 * t + 1) = nI c := by
  obtain ⟨-, ⟨S, h2, h3, h4⟩, -⟩ := h
  exact ((h4 t ht).2.2.1 hth).1
theorem sub_c : ∀ a, a < 100 → ∀ b, b < 100 → decide (nI a - nI b < 0) = decide (a < b) ∧ decide (nI a - nI b = 0) = decide (a = b) := by decide +kernel
theorem sub_lt {a b : Nat} (ha : a < 100) (hb : b < 100) : (nI a - nI b < 0) = (a < b) := by
  have := (sub_c a ha b hb).1
  exact propext ⟨fun h => by simpa [h] using this.symm, fun h => by simpa [h] using this⟩
theorem sub_eq {a b : Nat} (ha : a < 100) (hb : b < 100) : (nI a - nI b = 0) = (a = b) := by
  have := (sub_c a ha b hb).2
  exact propext ⟨fun h => by simpa [h] using this.symm, fun h => by simpa [h] using this⟩
theorem e1_96 {h : AH} {x : Nat} {s : Ab} {B : Nat} (hB31 : B < 2 ^ 31) (hQ : WA s B) (hS : CS h x s) {a b : Nat} (ha : a < 10) (hb : b < 10) (hta : th s.1 a = true) (htb : th s.1 b = true) {u v : Nat} (hu : u < 100) (hv : v < 100) (z : Nat) :
    bX1_isRatherVictim_96 (x + 38) (nI a) (nI b) (nI u - nI v) z h = some (if u < v ∨ (u = v ∧ ag s.1 b < ag s.1 a) then 1 else 0, z, h) := by
  obtain ⟨d1, d2, d3, d4, d5, -⟩ := hS.1
  have hC := hS.2.1
  obtain ⟨a1, a2⟩ := ag_e hB31 hQ ha hta
  obtain ⟨b1', b2'⟩ := ag_e hB31 hQ hb htb
  have va := (hC.2.2.1.2.1 a ha).2.1
  have vb := (hC.2.2.1.2.1 b hb).2.1
  rw [a1] at va
  rw [b1'] at vb
  have hB := hC.1
  obtain ⟨bk, b0, b1, b2, b3, b4, b5, b6, b7, fk, f0, f1, f2, mk0, m0, m1, m2, m3, kf0, kf1, kf2, lf0, lf1, lf2, km0, km1, km2, km3, lm0, lm1, lm2, lm3, kb2, kb3, kb4, kb5, kb6, kb7, lb2, lb3, lb4, lb5, lb6, lb7⟩ := id hB
  simp (disch := omega) only [bX1_isRatherVictim_96, ↓brv_wI, ↓brv_wJ, ↓gd, ↓bl, ↓on, ↓xr, ↓reduceIte, if_true, if_false, kd_wI, ln_wI, rv_wI, iv_wI, jv_wI, kd_wJ, ln_wJ, rv_wJ, iv_wJ, nI_clamp, nI_leE, nI_ltE, nI_eqE, m1_ne, bit_0, bit_1, nI_negE, leN_F, leN_T, ltN_F, ltN_T, eqN_F, or_false, false_or, or_true, true_or, not_false_eq_true, not_true_eq_false, and_true, true_and, and_false, false_and, sub_lt hu hv, sub_eq hu hv, d1, ↓bb d2, bk, ↓bb b0, ↓bb b1, ↓bb b2, ↓bb b3, ↓bb b4, ↓bb b5, ↓bb b6, ↓bb b7, fk, ↓bb f0, ↓bb f1, ↓bb f2, mk0, ↓bb m0, ↓bb m1, ↓bb m2, ↓bb m3, kf0, kf1, kf2, lf0, lf1, lf2, km0, km1, km2, km3, lm0, lm1, lm2, lm3, kb2, kb3, kb4, kb5, kb6, kb7, lb2, lb3, lb4, lb5, lb6, lb7, va, vb]
  by_cases e1 : u < v
  · simp [e1]
  · by_cases e2 : u = v
    · by_cases e3 : ag s.1 b < ag s.1 a
      · have : ¬ ag s.1 a ≤ ag s.1 b := by omega
        simp [e2, e3, this]
      · have : ag s.1 a ≤ ag s.1 b := by omega
        simp [e2, e3, this]
    · simp [e1, e2]
theorem e1_rather {h : AH} {x : Nat} {s : Ab} {B : Nat} (hB31 : B < 2 ^ 31) (hQ : WA s B) (hS : CS h x s) {a b : Nat} (ha : a < 10) (hb : b < 10) (hta : th s.1 a = true) (htb : th s.1 b = true) (z : Nat) :
    fX1_isRatherVictim (x + 38) (nI a) (nI b) z h = some (if bfN s.1 a b then 1 else 0, z, h) := by
  obtain ⟨d1, d2, d3, d4, d5, -⟩ := hS.1
  have hC := hS.2.1
  have x1 := e0_hasT hC.1 hC.2.2.1 ha hta z
  have x2 := e0_hasT hC.1 hC.2.2.1 hb htb z
  have h11 := hC.2.2.2.2.1.2.1
  obtain ⟨ca, ca1, ca2, ca3⟩ := co_e hQ ha hta
  obtain ⟨cb, cb1, cb2, cb3⟩ := co_e hQ hb htb
  have va := (hC.2.2.1.2.1 a ha)
  have vb := (hC.2.2.1.2.1 b hb)
  have wa := va.1
  have wb := vb.1
  rw [ca3] at wa
  rw [cb3] at wb
  have hn := hQ.1.2.1
  have y1 : fJ6_bitCount_0f7a4 (iv h (x + 1 + 13) (Int32.toNatClampNeg (nI a))) z h = some (nI (cnt 16 (bt (s.1 (32 + 6 * a + 3)))), z, h) := by
    rw [nI_clamp (by omega), va.2.2.1]; exact e_bitc (fun i h1 h2 => (hQ.t a ha).2 i (by omega) h2) z h
  have y2 : fJ6_bitCount_0f7a4 (iv h (x + 1 + 13) (Int32.toNatClampNeg (nI b))) z h = some (nI (cnt 16 (bt (s.1 (32 + 6 * b + 3)))), z, h) := by
    rw [nI_clamp (by omega), vb.2.2.1]; exact e_bitc (fun i h1 h2 => (hQ.t b hb).2 i (by omega) h2) z h
  have l1 := cnt_le 16 (bt (s.1 (32 + 6 * a + 3)))
  have l2 := cnt_le 16 (bt (s.1 (32 + 6 * b + 3)))
  have hB := hC.1
  obtain ⟨bk, b0, b1, b2, b3, b4, b5, b6, b7, fk, f0, f1, f2, mk0, m0, m1, m2, m3, kf0, kf1, kf2, lf0, lf1, lf2, km0, km1, km2, km3, lm0, lm1, lm2, lm3, kb2, kb3, kb4, kb5, kb6, kb7, lb2, lb3, lb4, lb5, lb6, lb7⟩ := id hB
  have hru := hQ.2.2.2.2.1.2.1
  have key : ∀ u v, ky s.1 a = u → ky s.1 b = v → (if u < v ∨ (u = v ∧ ag s.1 b < ag s.1 a) then (1 : Int32) else 0) = if bfN s.1 a b then 1 else 0 := by
    intro u v e1 e2
    unfold bfN
    rw [e1, e2]
    simp only [decide_eq_true_eq]
  rcases hru with e | e | e
  · rw [e] at h11
    have z1 := e1_96 hB31 hQ hS ha hb hta htb (u := ca) (v := cb) (by omega) (by omega) z
    simp (disch := omega) only [fX1_isRatherVictim, ↓brv_wI, ↓brv_wJ, ↓gd, ↓bl, ↓on, ↓xr, ↓reduceIte, if_true, if_false, kd_wI, ln_wI, rv_wI, iv_wI, jv_wI, kd_wJ, ln_wJ, rv_wJ, iv_wJ, nI_clamp, nI_leE, nI_ltE, nI_eqE, m1_ne, bit_0, bit_1, nI_negE, leN_F, leN_T, ltN_F, ltN_T, eqN_F, or_false, false_or, or_true, true_or, not_false_eq_true, not_true_eq_false, and_true, true_and, and_false, false_and, d1, ↓bb d2, bk, ↓bb b0, ↓bb b1, ↓bb b2, ↓bb b3, ↓bb b4, ↓bb b5, ↓bb b6, ↓bb b7, fk, ↓bb f0, ↓bb f1, ↓bb f2, mk0, ↓bb m0, ↓bb m1, ↓bb m2, ↓bb m3, kf0, kf1, kf2, lf0, lf1, lf2, km0, km1, km2, km3, lm0, lm1, lm2, lm3, kb2, kb3, kb4, kb5, kb6, kb7, lb2, lb3, lb4, lb5, lb6, lb7, ↓bb3 x1, ↓bb3 x2, ne10, h11, wa, wb, z1]
    rw [key ca cb (by unfold ky; rw [if_pos e, ca3, nI_clamp (by omega)]) (by unfold ky; rw [if_pos e, cb3, nI_clamp (by omega)])]
  · rw [e] at h11
    have g1 : ((1 : Int32) = 2) = False := eq_false (by decide)
    have z1 := e1_96 hB31 hQ hS ha hb hta htb (u := 0) (v := 0) (by omega) (by omega) z
    have g2 : nI 0 - nI 0 = 0 := by decide
    rw [g2] at z1
    simp (disch := omega) only [fX1_isRatherVictim, ↓brv_wI, ↓brv_wJ, ↓gd, ↓bl, ↓on, ↓xr, ↓reduceIte, if_true, if_false, kd_wI, ln_wI, rv_wI, iv_wI, jv_wI, kd_wJ, ln_wJ, rv_wJ, iv_wJ, nI_clamp, nI_leE, nI_ltE, nI_eqE, m1_ne, bit_0, bit_1, nI_negE, leN_F, leN_T, ltN_F, ltN_T, eqN_F, or_false, false_or, or_true, true_or, not_false_eq_true, not_true_eq_false, and_true, true_and, and_false, false_and, d1, ↓bb d2, bk, ↓bb b0, ↓bb b1, ↓bb b2, ↓bb b3, ↓bb b4, ↓bb b5, ↓bb b6, ↓bb b7, fk, ↓bb f0, ↓bb f1, ↓bb f2, mk0, ↓bb m0, ↓bb m1, ↓bb m2, ↓bb m3, kf0, kf1, kf2, lf0, lf1, lf2, km0, km1, km2, km3, lm0, lm1, lm2, lm3, kb2, kb3, kb4, kb5, kb6, kb7, lb2, lb3, lb4, lb5, lb6, lb7, ↓bb3 x1, ↓bb3 x2, ne10, g1, h11, z1]
    have k0 := key 0 0 (by unfold ky; rw [if_neg (by rw [e]; decide), if_pos e]) (by unfold ky; rw [if_neg (by rw [e]; decide), if_pos e])
    simp only [Nat.lt_irrefl, false_or, true_and] at k0
    rw [k0]
  · rw [e] at h11
    have g1 : ((2 : Int32) = 0) = False := eq_false (by decide)
    have z1 := e1_96 hB31 hQ hS ha hb hta htb (u := cnt 16 (bt (s.1 (32 + 6 * a + 3)))) (v := cnt 16 (bt (s.1 (32 + 6 * b + 3)))) (by omega) (by omega) z
    simp (disch := omega) only [fX1_isRatherVictim, ↓brv_wI, ↓brv_wJ, ↓gd, ↓bl, ↓on, ↓xr, ↓reduceIte, if_true, if_false, kd_wI, ln_wI, rv_wI, iv_wI, jv_wI, kd_wJ, ln_wJ, rv_wJ, iv_wJ, nI_clamp, nI_leE, nI_ltE, nI_eqE, m1_ne, bit_0, bit_1, nI_negE, leN_F, leN_T, ltN_F, ltN_T, eqN_F, or_false, false_or, or_true, true_or, not_false_eq_true, not_true_eq_false, and_true, true_and, and_false, false_and, d1, ↓bb d2, bk, ↓bb b0, ↓bb b1, ↓bb b2, ↓bb b3, ↓bb b4, ↓bb b5, ↓bb b6, ↓bb b7, fk, ↓bb f0, ↓bb f1, ↓bb f2, mk0, ↓bb m0, ↓bb m1, ↓bb m2, ↓bb m3, kf0, kf1, kf2, lf0, lf1, lf2, km0, km1, km2, km3, lm0, lm1, lm2, lm3, kb2, kb3, kb4, kb5, kb6, kb7, lb2, lb3, lb4, lb5, lb6, lb7, ↓bb3 x1, ↓bb3 x2, ne10, g1, h11, ↓bb3 y1, ↓bb3 y2, z1]
    rw [key _ _ (by unfold ky; rw [if_neg (by rw [e]; decide), if_neg (by rw [e]; decide)]) (by unfold ky; rw [if_neg (by rw [e]; decide), if_neg (by rw [e]; decide)])]
/-- the first of a set -/
def IM (q : Nat → Int32) (S : Nat → Bool) (v : Nat) : Prop := S v = true ∧ ∀ u, S u = true → u ≠ v → bfN q v u = true
theorem bf_as {q : Nat → Int32} {a b : Nat} (h : bfN q a b = true) : bfN q b a = false := by
  unfold bfN at h ⊢
  rw [decide_eq_true_eq] at h
  rw [decide_eq_false_iff_not]
  omega
theorem bf_tr {q : Nat → Int32} {a b c : Nat} (h : bfN q a b = true) (h2 : bfN q b c = true) : bfN q a c = true := by
  unfold bfN at h h2 ⊢
  rw [decide_eq_true_eq] at h h2 ⊢
  omega
theorem bf_to {q : Nat → Int32} {a b : Nat} (h : ag q a ≠ ag q b) (h2 : bfN q a b = false) : bfN q b a = true := by
  unfold bfN at h2 ⊢
  rw [decide_eq_true_eq]
  rw [decide_eq_false_iff_not] at h2
  omega
theorem IM_un {q : Nat → Int32} {S : Nat → Bool} {v w : Nat} (h1 : IM q S v) (h2 : IM q S w) : v = w := by
  by_cases e : v = w
  · exact e
  · have a := h1.2 w h2.1 (Ne.symm e)
    have b := h2.2 v h1.1 e
    rw [bf_as a] at b
    cases b
def vc (q : Nat → Int32) (g : Int32) : Nat → Option Nat
  | 0 => none
  | k + 1 => if bt g k then (match vc q g k with | none => some k | some v => if bfN q k v then some k else some v) else vc q g k
theorem vc_s (q : Nat → Int32) (g : Int32) (k : Nat) : vc q g (k + 1) = if bt g k then (match vc q g k with | none => some k | some v => if bfN q k v then some k else some v) else vc q g k := rfl
theorem vc_m {q : Nat → Int32} {g : Int32} (hd : ∀ a b, a < 10 → b < 10 → bt g a = true → bt g b = true → a ≠ b → ag q a ≠ ag q b) : ∀ k, k ≤ 10 → (vc q g k = none ∧ ∀ u, u < k → bt g u = false) ∨ ∃ v, vc q g k = some v ∧ v < k ∧ IM q (fun u => bt g u && decide (u < k)) v := by
  intro k
  induction k with
  | zero => intro _; exact Or.inl ⟨rfl, fun u hu => by omega⟩
  | succ k ih =>
    intro hk
    unfold vc
    cases hb : bt g k
    · rcases ih (by omega) with ⟨e1, e2⟩ | ⟨v, e1, e2, e3⟩
      · refine Or.inl ⟨by simpa using e1, fun u hu => ?_⟩
        by_cases e : u = k
        · subst e; exact hb
        · exact e2 u (by omega)
      · refine Or.inr ⟨v, by simpa using e1, by omega, ?_, fun u hu hne => e3.2 u ?_ hne⟩
        · have := e3.1
          simp only [Bool.and_eq_true, decide_eq_true_eq] at this ⊢
          exact ⟨this.1, by omega⟩
        · simp only [Bool.and_eq_true, decide_eq_true_eq] at hu ⊢
          refine ⟨hu.1, ?_⟩
          by_cases e : u = k
          · subst e; rw [hb] at hu; cases hu.1
          · omega
    · rcases ih (by omega) with ⟨e1, e2⟩ | ⟨v, e1, e2, e3⟩
      · refine Or.inr ⟨k, by simp [e1], by omega, by simp [hb], fun u hu hne => ?_⟩
        simp only [Bool.and_eq_true, decide_eq_true_eq] at hu
        rw [e2 u (by omega)] at hu
        cases hu.1
      · have hv := e3.1
        simp only [Bool.and_eq_true, decide_eq_true_eq] at hv
        cases hbf : bfN q k v
        · refine Or.inr ⟨v, by simp [e1, hbf], by omega, by simp [hv.1]; omega, fun u hu hne => ?_⟩
          simp only [Bool.and_eq_true, decide_eq_true_eq] at hu
          by_cases e : u = k
          · subst e; exact bf_to (hd u v (by omega) (by omega) hb hv.1 hne) hbf
          · exact e3.2 u (by simp [hu.1]; omega) hne
        · refine Or.inr ⟨k, by simp [e1, hbf], by omega, by simp [hb], fun u hu hne => ?_⟩
          simp only [Bool.and_eq_true, decide_eq_true_eq] at hu
          by_cases e : u = v
          · subst e; exact hbf
          · exact bf_tr hbf (e3.2 u (by simp [hu.1]; omega) e)
def oI (o : Option Nat) : Int32 := match o with | none => -1 | some v => nI v
theorem e1_vic_loop {h : AH} {x : Nat} {s : Ab} {B : Nat} (hB31 : B < 2 ^ 31) (hQ : WA s B) (hS : CS h x s) {g : Int32} (hg : ∀ k, k < 10 → bt g k = true → th s.1 k = true) (z : Nat) : ∀ (d k : Nat), k + d = 10 → ∀ fuel, d < fuel →
    lX1_victimOf_4 fuel (x + 38) g (oI (vc s.1 g k)) (nI k) z h = some (oI (vc s.1 g 10), z, h) := by
  intro d
  obtain ⟨d1, d2, d3, d4, d5, -⟩ := id hS.1
  induction d with
  | zero =>
    intro k hk fuel hf
    obtain rfl : k = 10 := by omega
    cases fuel with
    | zero => omega
    | succ fuel =>
      show lX1_victimOf_4B _ _ _ _ _ _ _ = _
      simp (disch := omega) only [lX1_victimOf_4B, nI_leE, leN_T, ↓reduceIte, li10]
  | succ d ih =>
    intro k hk fuel hf
    cases fuel with
    | zero => omega
    | succ fuel =>
      have h3 := ih (k + 1) (by omega) fuel (by omega)
      have x1 := e8_inSet g (show k < 32 by omega) z h
      show lX1_victimOf_4B _ _ _ _ _ _ _ = _
      rw [vc_s s.1 g k] at h3
      cases hb : bt g k
      · rw [hb] at x1 h3
        simp only [Bool.false_eq_true, if_false] at h3
        rw [← h3]
        simp (disch := omega) only [lX1_victimOf_4B, bX1_victimOf_34, bX1_victimOf_32, ↓brv_wI, ↓brv_wJ, ↓gd, ↓bl, ↓on, ↓xr, ↓reduceIte, if_true, if_false, kd_wI, ln_wI, rv_wI, iv_wI, jv_wI, kd_wJ, ln_wJ, rv_wJ, iv_wJ, nI_clamp, nI_leE, nI_ltE, nI_eqE, m1_ne, bit_0, bit_1, nI_negE, leN_F, leN_T, ltN_F, ltN_T, eqN_F, or_false, false_or, or_true, true_or, not_false_eq_true, not_true_eq_false, and_true, true_and, and_false, false_and, li10, ↓bb3 x1, Bool.false_eq_true, nI_1]
      · rw [hb] at x1 h3
        simp only [if_true] at h3
        have hm := vc_m (q := s.1) (g := g) (fun a b ha hb' h1 h2 hne => ag_ne hB31 hQ ha hb' hne (hg a ha h1) (hg b hb' h2)) k (by omega)
        rcases hm with ⟨e1, -⟩ | ⟨v, e1, e2, e3⟩
        · rw [e1] at h3 ⊢
          have g1 : oI none = -1 := rfl
          rw [g1]
          rw [← h3]
          simp (disch := omega) only [lX1_victimOf_4B, bX1_victimOf_34, bX1_victimOf_32, ↓brv_wI, ↓brv_wJ, ↓gd, ↓bl, ↓on, ↓xr, ↓reduceIte, if_true, if_false, kd_wI, ln_wI, rv_wI, iv_wI, jv_wI, kd_wJ, ln_wJ, rv_wJ, iv_wJ, nI_clamp, nI_leE, nI_ltE, nI_eqE, m1_ne, bit_0, bit_1, nI_negE, leN_F, leN_T, ltN_F, ltN_T, eqN_F, or_false, false_or, or_true, true_or, not_false_eq_true, not_true_eq_false, and_true, true_and, and_false, false_and, li10, ↓bb3 x1, ne10, nI_1]
          rfl
        · have hv := e3.1
          simp only [Bool.and_eq_true, decide_eq_true_eq] at hv
          rw [e1] at h3 ⊢
          have g1 : oI (some v) = nI v := rfl
          rw [g1]
          have x2 := e1_rather hB31 hQ hS (a := k) (b := v) (by omega) (by omega) (hg k (by omega) hb) (hg v (by omega) hv.1) z
          cases hbf : bfN s.1 k v
          · rw [hbf] at x2
            simp only [hbf] at h3
            simp (disch := omega) only [lX1_victimOf_4B, bX1_victimOf_34, bX1_victimOf_32, ↓brv_wI, ↓brv_wJ, ↓gd, ↓bl, ↓on, ↓xr, ↓reduceIte, if_true, if_false, kd_wI, ln_wI, rv_wI, iv_wI, jv_wI, kd_wJ, ln_wJ, rv_wJ, iv_wJ, nI_clamp, nI_leE, nI_ltE, nI_eqE, m1_ne, bit_0, bit_1, nI_negE, leN_F, leN_T, ltN_F, ltN_T, eqN_F, or_false, false_or, or_true, true_or, not_false_eq_true, not_true_eq_false, and_true, true_and, and_false, false_and, li10, ↓bb3 x1, ne10, d1, ↓bb3 x2, Bool.false_eq_true, nI_1]
            exact h3
          · rw [hbf] at x2
            simp only [hbf] at h3
            simp (disch := omega) only [lX1_victimOf_4B, bX1_victimOf_34, bX1_victimOf_32, ↓brv_wI, ↓brv_wJ, ↓gd, ↓bl, ↓on, ↓xr, ↓reduceIte, if_true, if_false, kd_wI, ln_wI, rv_wI, iv_wI, jv_wI, kd_wJ, ln_wJ, rv_wJ, iv_wJ, nI_clamp, nI_leE, nI_ltE, nI_eqE, m1_ne, bit_0, bit_1, nI_negE, leN_F, leN_T, ltN_F, ltN_T, eqN_F, or_false, false_or, or_true, true_or, not_false_eq_true, not_true_eq_false, and_true, true_and, and_false, false_and, li10, ↓bb3 x1, ne10, d1, ↓bb3 x2, nI_1]
            exact h3
theorem e1_victimOf {h : AH} {x : Nat} {s : Ab} {B : Nat} (hB31 : B < 2 ^ 31) (hQ : WA s B) (hS : CS h x s) {g : Int32} (hg : ∀ k, k < 10 → bt g k = true → th s.1 k = true) {w : Nat} (hw : IM s.1 (fun u => bt g u && decide (u < 10)) w) (z : Nat) :
    fX1_victimOf (x + 38) g z h = some (nI w, z, h) := by
  have h1 := e1_vic_loop hB31 hQ hS hg z 10 0 (by omega) fu (by unfold fu; omega)
  have h1 : fX1_victimOf (x + 38) g z h = some (oI (vc s.1 g 10), z, h) := h1
  rw [h1]
  rcases vc_m (q := s.1) (g := g) (fun a b ha hb' h1 h2 hne => ag_ne hB31 hQ ha hb' hne (hg a ha h1) (hg b hb' h2)) 10 (by omega) with ⟨e1, e2⟩ | ⟨v, e1, e2, e3⟩
  · have := hw.1
    simp only [Bool.and_eq_true, decide_eq_true_eq] at this
    rw [e2 w this.2] at this
    cases this.1
  · rw [e1, IM_un e3 hw]; rfl
/-! the reference's victim: along the path -/
def vp (q : Nat → Int32) (u : Nat → Nat) : Nat → Nat
  | 0 => u 0
  | k + 1 => if bfN q (u k) (vp q u k) then u k else vp q u k
theorem vp_m {q : Nat → Int32} {u : Nat → Nat} {n : Nat} (hd : ∀ a b, a < n → b < n → u a ≠ u b → ag q (u a) ≠ ag q (u b)) : ∀ k, 1 ≤ k → k ≤ n → (∃ e, e < k ∧ vp q u k = u e) ∧ IM q (fun t => anyB k (fun e => decide (u e = t))) (vp q u k) := by
  intro k
  induction k with
  | zero => intro h; omega
  | succ k ih =>
    intro _ hk
    rcases Nat.eq_zero_or_pos k with e0 | e0
    · subst e0
      have ev : vp q u 1 = u 0 := by
        show (if bfN q (u 0) (u 0) then u 0 else u 0) = u 0
        split <;> rfl
      rw [ev]
      refine ⟨⟨0, by omega, rfl⟩, by simp [anyB], fun t ht hne => ?_⟩
      simp [anyB] at ht
      exact absurd ht.symm hne
    · obtain ⟨⟨e, he, ev⟩, i1, i2⟩ := ih e0 (by omega)
      have hmem : ∀ t, anyB (k + 1) (fun e => decide (u e = t)) = (anyB k (fun e => decide (u e = t)) || decide (u k = t)) := fun t => rfl
      unfold vp
      cases hbf : bfN q (u k) (vp q u k)
      · simp only [Bool.false_eq_true, if_false]
        refine ⟨⟨e, by omega, ev⟩, by simp only [hmem, i1, Bool.true_or], fun t ht hne => ?_⟩
        simp only [hmem, Bool.or_eq_true, decide_eq_true_eq] at ht
        rcases ht with ht | ht
        · exact i2 t ht hne
        · subst ht
          rw [ev] at hbf hne ⊢
          exact bf_to (hd k e (by omega) (by omega) hne) hbf
      · simp only [if_true]
        refine ⟨⟨k, by omega, rfl⟩, by simp [hmem], fun t ht hne => ?_⟩
        simp only [hmem, Bool.or_eq_true, decide_eq_true_eq] at ht
        rcases ht with ht | ht
        · by_cases e2 : t = vp q u k
          · rw [e2]; exact hbf
          · exact bf_tr hbf (i2 t ht e2)
        · exact absurd ht.symm hne
