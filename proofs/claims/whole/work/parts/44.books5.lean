theorem brv_wI {β : Type} (h : AH) (a k : Nat) (x : Int32) (b j : Nat) (f : Nat → Option β) : Option.bind (rv (wI h a k x) b j) f = Option.bind (rv h b j) f := rfl
theorem brv_wJ {β : Type} (h : AH) (a k : Nat) (x : Int64) (b j : Nat) (f : Nat → Option β) : Option.bind (rv (wJ h a k x) b j) f = Option.bind (rv h b j) f := rfl
theorem iv_wI_k (h : AH) (a : Nat) {t k : Nat} (x : Int32) {b : Nat} (hk : k ≠ t) : iv (wI h a t x) b k = iv h b k := by
  rw [iv_wI, if_neg hk]; split <;> rfl
/-! the path of a message as a long: its tasks by the class's own reading -/
def tA (y : Int64) (e : Nat) : Int32 := (Int64.toInt32 ((Int64.toUInt64 y >>> ((Int32.toInt64 (4 * nI e)).toUInt64 &&& Int64.toUInt64 63)).toInt64)) &&& 15
def lb (y : Int64) (i : Nat) : Bool := y.toBitVec.getLsbD i
/-- y is the path f of length n -/
def PL (y : Int64) (n : Nat) (f : Nat → Int32) : Prop := (∀ i, 4 * n ≤ i → i < 64 → lb y i = false) ∧ ∀ e, e < n → tA y e = f e
/-- the settings of Books a -/
def RBs (h : AH) (a : Nat) (p : Nat → Int32) : Prop := iv h a 10 = p 17 ∧ iv h a 11 = p 18 ∧ iv h a 12 = p 19 ∧ iv h a 13 = p 20
def nm (p : Nat → Int32) : Nat := (p 92).toNatClampNeg
def mln (p : Nat → Int32) (k : Nat) : Nat := (p (93 + 13 * k + 2)).toNatClampNeg
/-- the messages of Books a -/
def RBm (h : AH) (a : Nat) (p : Nat → Int32) : Prop :=
  iv h (a + 5) 5 = p 92 ∧ ∃ f, f < 40 ∧ iv h (a + 5) 4 = nI f ∧ ∀ k, k < nm p → iv h (a + 8) ((f + k) % 40) = p (93 + 13 * k) ∧ iv h (a + 9) ((f + k) % 40) = p (93 + 13 * k + 1) ∧ iv h (a + 7) ((f + k) % 40) = p (93 + 13 * k + 2) ∧ PL (jv h (a + 6) ((f + k) % 40)) (mln p k) (fun e => p (93 + 13 * k + 3 + e))
/-- Books a has the state q and the order L -/
def CB (h : AH) (a : Nat) (q : Nat → Int32) (L : List Nat) : Prop := BO h a ∧ RBr h a q ∧ RBt h a q ∧ RBo h a L ∧ RBs h a q ∧ RBm h a q
theorem RBs_c {h h' : AH} {a : Nat} {p q : Nat → Int32} (e : ∀ j, 10 ≤ j → j < 14 → iv h' a j = iv h a j) (en : ∀ j, 17 ≤ j → j < 21 → p j = q j) (hS : RBs h a p) : RBs h' a q := by
  obtain ⟨s1, s2, s3, s4⟩ := hS
  refine ⟨?_, ?_, ?_, ?_⟩
  · rw [e 10 (by omega) (by omega), s1, en 17 (by omega) (by omega)]
  · rw [e 11 (by omega) (by omega), s2, en 18 (by omega) (by omega)]
  · rw [e 12 (by omega) (by omega), s3, en 19 (by omega) (by omega)]
  · rw [e 13 (by omega) (by omega), s4, en 20 (by omega) (by omega)]
theorem RBm_c {h h' : AH} {a : Nat} {p q : Nat → Int32} (e : ∀ b, a + 5 ≤ b → b < a + 10 → iv h' b = iv h b) (ej : jv h' (a + 6) = jv h (a + 6)) (en : ∀ j, 92 ≤ j → p j = q j) (hM : RBm h a p) : RBm h' a q := by
  obtain ⟨s1, f, s2, s3, s4⟩ := hM
  have e0 : nm q = nm p := by unfold nm; rw [en 92 (by omega)]
  refine ⟨?_, f, s2, ?_, fun k hk => ?_⟩
  · rw [e (a + 5) (by omega) (by omega), s1, en 92 (by omega)]
  · rw [e (a + 5) (by omega) (by omega), s3]
  · rw [e0] at hk
    have e1 : mln q k = mln p k := by unfold mln; rw [en _ (by omega)]
    obtain ⟨u1, u2, u3, u4⟩ := s4 k hk
    rw [e (a + 8) (by omega) (by omega), e (a + 9) (by omega) (by omega), e (a + 7) (by omega) (by omega), ej, e1, ← en (93 + 13 * k) (by omega), ← en (93 + 13 * k + 1) (by omega), ← en (93 + 13 * k + 2) (by omega)]
    refine ⟨u1, u2, u3, u4.1, fun e he => ?_⟩
    show _ = q (93 + 13 * k + 3 + e)
    rw [← en (93 + 13 * k + 3 + e) (by omega)]
    exact u4.2 e he
theorem RBo_c {h h' : AH} {a : Nat} {L : List Nat} (e8 : iv h' a 8 = iv h a 8) (e : iv h' (a + 15) = iv h (a + 15)) (hO : RBo h a L) : RBo h' a L := by
  refine ⟨by rw [e8]; exact hO.1, fun j x hj => by rw [e]; exact hO.2 j x hj⟩
/-- Books a under a change of the heap elsewhere, and under a state alike but for the order -/
theorem CB_c {h h' : AH} {a : Nat} {p q : Nat → Int32} {L : List Nat} (hB : BO h' a) (hW : WFr p) (e : ∀ b, a ≤ b → b < a + 16 → iv h' b = iv h b) (ej : jv h' (a + 6) = jv h (a + 6)) (en : nord p q) (hC : CB h a p L) : CB h' a q L := by
  obtain ⟨_, c1, c2, c3, c4, c5⟩ := hC
  refine ⟨hB, RBr_c hW (fun b h1 h2 => e b (by omega) (by omega)) en c1, RBt_c (by rw [e a (by omega) (by omega)]) (fun b h1 h2 => e b (by omega) (by omega)) (fun j h1 _ => en j (by omega)) c2, RBo_c (by rw [e a (by omega) (by omega)]) (e (a + 15) (by omega) (by omega)) c3, RBs_c (fun j _ _ => by rw [e a (by omega) (by omega)]) (fun j _ _ => en j (by omega)) c4, RBm_c (fun b h1 h2 => e b (by omega) (by omega)) ej (fun j hj => en j (by omega)) c5⟩
/-- two states alike but for the cells of task t -/
def dt (q q' : Nat → Int32) (t : Nat) : Prop := ∀ j, ¬ (32 + 6 * t ≤ j ∧ j < 38 + 6 * t) → q j = q' j
theorem dt.rf (q : Nat → Int32) (t : Nat) : dt q q t := fun _ _ => rfl
theorem dt_th {q q' : Nat → Int32} {t : Nat} (h : dt q q' t) {k : Nat} (hk : k ≠ t) : th q k = th q' k := by unfold th; rw [h (32 + 6 * k) (by omega)]
theorem dt_wt {q q' : Nat → Int32} {t : Nat} (h : dt q q' t) {k : Nat} (hk : k ≠ t) : wt q k = wt q' k := by unfold wt; rw [dt_th h hk, h (32 + 6 * k + 4) (by omega)]
theorem dt_sres {q q' : Nat → Int32} {t : Nat} (h : dt q q' t) : sres q q' := fun j hj => h j (by omega)
theorem RBt_one {h h' : AH} {a t : Nat} {q q' : Nat → Int32} (hT : RBt h a q) (hd : dt q q' t) (e : ∀ b, a + 10 ≤ b → b < a + 15 → ∀ k, k < 10 → k ≠ t → iv h' b k = iv h b k) (e9 : iv h' a 9 = mk 10 (th q'))
    (v1 : iv h' (a + 10) t = q' (32 + 6 * t + 1)) (v2 : iv h' (a + 11) t = q' (32 + 6 * t + 2)) (v3 : iv h' (a + 13) t = q' (32 + 6 * t + 3)) (v4 : iv h' (a + 12) t = q' (32 + 6 * t + 4)) (v5 : th q' t = true → iv h' (a + 14) t = if wt q' t then q' (32 + 6 * t + 5) else -1) : RBt h' a q' := by
  obtain ⟨t1, t2, t3⟩ := hT
  refine ⟨e9, fun k hk => ?_, fun k hk hkt => ?_⟩
  · by_cases ek : k = t
    · subst ek; exact ⟨v1, v2, v3, v4⟩
    · rw [e (a + 10) (by omega) (by omega) k hk ek, e (a + 11) (by omega) (by omega) k hk ek, e (a + 13) (by omega) (by omega) k hk ek, e (a + 12) (by omega) (by omega) k hk ek, ← hd (32 + 6 * k + 1) (by omega), ← hd (32 + 6 * k + 2) (by omega), ← hd (32 + 6 * k + 3) (by omega), ← hd (32 + 6 * k + 4) (by omega)]
      exact t2 k hk
  · by_cases ek : k = t
    · subst ek; exact v5 hkt
    · rw [e (a + 14) (by omega) (by omega) k hk ek, ← dt_wt hd ek, ← hd (32 + 6 * k + 5) (by omega)]
      exact t3 k hk (by rw [dt_th hd ek]; exact hkt)
theorem mk_set {c : Nat → Bool} {t : Nat} (ht : t < 10) : mk 10 c ||| ((1 : Int32) <<< (nI t &&& 31)) = mk 10 (fun k => c k || decide (k = t)) := by
  refine b_ext (fun i hi => ?_)
  rw [b_or, bt_mk 10 _ (by omega), bt_mk 10 _ (by omega), bt_pow t (by omega)]
  by_cases e : i = t
  · subst e; simp [ht]
  · simp [e]
theorem b_not (x : Int32) {i : Nat} (hi : i < 32) : bt (x ^^^ (-1)) i = !bt x i := by
  rw [b_xor, b_m1 i hi]; simp
theorem mk_clr {c : Nat → Bool} {t : Nat} (ht : t < 10) : mk 10 c &&& (((1 : Int32) <<< (nI t &&& 31)) ^^^ (-1)) = mk 10 (fun k => c k && decide (k ≠ t)) := by
  refine b_ext (fun i hi => ?_)
  rw [b_and, bt_mk 10 _ (by omega), bt_mk 10 _ (by omega), b_not _ hi, bt_pow t (by omega)]
  by_cases e : i = t
  · subst e; simp
  · simp [e]
theorem e0_hasT {h : AH} {a : Nat} {q : Nat → Int32} (hB : BO h a) (hT : RBt h a q) {t : Nat} (ht : t < 10) (hth : th q t = true) (z : Nat) : fX0_has a (nI t) z h = some (1, z, h) := by
  rw [e0_has hB hT (nI t) z, tkI_nI ht, hth]; rfl
/-- the change of one task in Books a -/
theorem CB_one {h h' : AH} {a t : Nat} {q q' : Nat → Int32} {L : List Nat} (ht : t < 10) (hW : WFr q) (hC : CB h a q L) (hF : Fr h h' a) (hd : dt q q' t) (e : ∀ b, a < b → b < a + 15 → (¬ (a + 10 ≤ b) → iv h' b = iv h b) ∧ ∀ k, k < 10 → k ≠ t → iv h' b k = iv h b k) (e0 : ∀ j, j ≠ 9 → iv h' a j = iv h a j) (e15 : iv h' (a + 15) = iv h (a + 15)) (ej : jv h' = jv h) (e9 : iv h' a 9 = mk 10 (th q'))
    (v1 : iv h' (a + 10) t = q' (32 + 6 * t + 1)) (v2 : iv h' (a + 11) t = q' (32 + 6 * t + 2)) (v3 : iv h' (a + 13) t = q' (32 + 6 * t + 3)) (v4 : iv h' (a + 12) t = q' (32 + 6 * t + 4)) (v5 : th q' t = true → iv h' (a + 14) t = if wt q' t then q' (32 + 6 * t + 5) else -1) : CB h' a q' L := by
  obtain ⟨c0, c1, c2, c3, c4, c5⟩ := hC
  refine ⟨BO_f hF c0, RBr_s hW (fun b h1 h2 => (e b h1 (by omega)).1 (by omega)) (dt_sres hd) c1, RBt_one c2 hd (fun b h1 h2 => (e b (by omega) h2).2) e9 v1 v2 v3 v4 v5, RBo_c (e0 8 (by omega)) e15 c3, RBs_c (fun j h1 h2 => e0 j (by omega)) (fun j h1 h2 => hd j (by omega)) c4, RBm_c (fun b h1 h2 => (e b (by omega) (by omega)).1 (by omega)) (by rw [ej]) (fun j hj => hd j (by omega)) c5⟩
/-- the first place from k on, below k + d, of which c holds -/
def ff (c : Nat → Bool) : Nat → Nat → Nat
  | k, 0 => k
  | k, d + 1 => if c k then k else ff c (k + 1) d
theorem ff_le (c : Nat → Bool) : ∀ d k, ff c k d ≤ k + d ∧ k ≤ ff c k d := by
  intro d
  induction d with
  | zero => intro k; exact ⟨Nat.le_refl _, Nat.le_refl _⟩
  | succ d ih =>
    intro k
    unfold ff
    split
    · omega
    · have := ih (k + 1); omega
theorem ff_c (c : Nat → Bool) : ∀ d k, ff c k d < k + d → c (ff c k d) = true := by
  intro d
  induction d with
  | zero => intro k h; exact absurd h (by unfold ff; omega)
  | succ d ih =>
    intro k h
    unfold ff at h ⊢
    split
    · rename_i e; exact e
    · rename_i e; rw [if_neg e] at h; exact ih (k + 1) (by omega)
theorem ff_n (c : Nat → Bool) : ∀ d k j, k ≤ j → j < ff c k d → c j = false := by
  intro d
  induction d with
  | zero => intro k j h1 h2; unfold ff at h2; omega
  | succ d ih =>
    intro k j h1 h2
    unfold ff at h2
    split at h2
    · omega
    · rename_i e
      by_cases ej : j = k
      · subst ej; exact Bool.eq_false_iff.mpr e
      · exact ih (k + 1) j (by omega) h2
theorem ff_congr {c d : Nat → Bool} : ∀ n k, (∀ j, k ≤ j → j < k + n → c j = d j) → ff c k n = ff d k n := by
  intro n
  induction n with
  | zero => intro k _; rfl
  | succ n ih =>
    intro k h
    unfold ff
    rw [h k (by omega) (by omega), ih (k + 1) (fun j h1 h2 => h j (by omega) (by omega))]
/-- the answer of a search: the place, or none -/
def fn (n : Nat) : Int32 := if n = 10 then -1 else nI n
theorem e0_free_loop {h : AH} {a : Nat} {q : Nat → Int32} (hB : BO h a) (hT : RBt h a q) (z : Nat) : ∀ (d k : Nat), k + d = 10 → ∀ fuel, d < fuel → lX0_freeNumber_2 fuel a (nI k) z h = some (fn (ff (fun t => !th q t) k d), z, h) := by
  intro d
  have h9 := hT.1
  have hk := hB.1
  induction d with
  | zero =>
    intro k hk fuel hf
    obtain rfl : k = 10 := by omega
    cases fuel with
    | zero => omega
    | succ fuel =>
      show lX0_freeNumber_2B _ _ _ _ _ = _
      simp (disch := omega) only [lX0_freeNumber_2B, ↓gd, ↓bl, ↓on, ↓xr, ↓reduceIte, if_true, if_false, kd_wI, ln_wI, rv_wI, iv_wI, jv_wI, kd_wJ, ln_wJ, rv_wJ, iv_wJ, nI_clamp, nI_leE, nI_ltE, nI_eqE, m1_ne, bit_0, bit_1, nI_negE, leN_F, leN_T, ltN_F, ltN_T, eqN_F, or_false, false_or, or_true, true_or, not_false_eq_true, not_true_eq_false, and_true, true_and, and_false, false_and, li10]
      rfl
  | succ d ih =>
    intro k hkd fuel hf
    cases fuel with
    | zero => omega
    | succ fuel =>
      have h3 := ih (k + 1) (by omega) fuel (by omega)
      show lX0_freeNumber_2B _ _ _ _ _ = _
      simp (disch := omega) only [lX0_freeNumber_2B, ↓gd, ↓bl, ↓on, ↓xr, ↓reduceIte, if_true, if_false, kd_wI, ln_wI, rv_wI, iv_wI, jv_wI, kd_wJ, ln_wJ, rv_wJ, iv_wJ, nI_clamp, nI_leE, nI_ltE, nI_eqE, m1_ne, bit_0, bit_1, nI_negE, leN_F, leN_T, ltN_F, ltN_T, eqN_F, or_false, false_or, or_true, true_or, not_false_eq_true, not_true_eq_false, and_true, true_and, and_false, false_and, li10, hk, ↓bb3 (e8_inSet _ (show k < 32 by omega) _ _), h9, bt_mk10, nI_1]
      unfold ff
      cases e : th q k
      · have : ¬ k = 10 := by omega
        simp [fn, this]
      · simpa using h3
theorem e0_freeNumber {h : AH} {a : Nat} {q : Nat → Int32} (hB : BO h a) (hT : RBt h a q) (z : Nat) : fX0_freeNumber a z h = some (fn (ff (fun t => !th q t) 0 10), z, h) := by
  have := e0_free_loop hB hT z 10 0 (by omega) fu (by unfold fu; omega)
  rw [nI_0] at this
  exact this
/-- running -/
def ru (q : Nat → Int32) (t : Nat) : Bool := th q t && decide (q (32 + 6 * t + 4) = 0)
theorem e0_low_loop {h : AH} {a : Nat} {q : Nat → Int32} (hB : BO h a) (hT : RBt h a q) (z : Nat) : ∀ (d k : Nat), k + d = 10 → ∀ fuel, d < fuel → lX0_lowestRunning_2 fuel a (nI k) z h = some (fn (ff (ru q) k d), z, h) := by
  intro d
  have hk := hB.1
  induction d with
  | zero =>
    intro k hk fuel hf
    obtain rfl : k = 10 := by omega
    cases fuel with
    | zero => omega
    | succ fuel =>
      show lX0_lowestRunning_2B _ _ _ _ _ = _
      simp (disch := omega) only [lX0_lowestRunning_2B, ↓gd, ↓bl, ↓on, ↓xr, ↓reduceIte, if_true, if_false, kd_wI, ln_wI, rv_wI, iv_wI, jv_wI, kd_wJ, ln_wJ, rv_wJ, iv_wJ, nI_clamp, nI_leE, nI_ltE, nI_eqE, m1_ne, bit_0, bit_1, nI_negE, leN_F, leN_T, ltN_F, ltN_T, eqN_F, or_false, false_or, or_true, true_or, not_false_eq_true, not_true_eq_false, and_true, true_and, and_false, false_and, li10]
      rfl
  | succ d ih =>
    intro k hkd fuel hf
    cases fuel with
    | zero => omega
    | succ fuel =>
      have h3 := ih (k + 1) (by omega) fuel (by omega)
      have h1 := e0_isIn hB hT (nI k) 0 z
      rw [tkI_nI (by omega), nI_clamp (by omega)] at h1
      show lX0_lowestRunning_2B _ _ _ _ _ = _
      simp (disch := omega) only [lX0_lowestRunning_2B, ↓gd, ↓bl, ↓on, ↓xr, ↓reduceIte, if_true, if_false, kd_wI, ln_wI, rv_wI, iv_wI, jv_wI, kd_wJ, ln_wJ, rv_wJ, iv_wJ, nI_clamp, nI_leE, nI_ltE, nI_eqE, m1_ne, bit_0, bit_1, nI_negE, leN_F, leN_T, ltN_F, ltN_T, eqN_F, or_false, false_or, or_true, true_or, not_false_eq_true, not_true_eq_false, and_true, true_and, and_false, false_and, li10, hk, ↓bb3 h1, nI_1]
      unfold ff
      rw [show (th q k && decide (q (32 + 6 * k + 4) = 0)) = ru q k from rfl]
      cases e : ru q k
      · simpa using h3
      · have : ¬ k = 10 := by omega
        simp [fn, this]
theorem e0_lowestRunning {h : AH} {a : Nat} {q : Nat → Int32} (hB : BO h a) (hT : RBt h a q) (z : Nat) : fX0_lowestRunning a z h = some (fn (ff (ru q) 0 10), z, h) := by
  have := e0_low_loop hB hT z 10 0 (by omega) fu (by unfold fu; omega)
  rw [nI_0] at this
  exact this
/-- a task lets a resource go -/
def lgP (q : Nat → Int32) (t r : Nat) : Nat → Int32 := upd q (32 + 6 * t + 3) (q (32 + 6 * t + 3) &&& (((1 : Int32) <<< (nI r &&& 31)) ^^^ (-1)))
theorem lgP_at (q : Nat → Int32) (t r j : Nat) : lgP q t r j = if j = 32 + 6 * t + 3 then q (32 + 6 * t + 3) &&& (((1 : Int32) <<< (nI r &&& 31)) ^^^ (-1)) else q j := rfl
theorem lgP_dt (q : Nat → Int32) (t r : Nat) : dt q (lgP q t r) t := fun j hj => by rw [lgP_at, if_neg (by omega)]
theorem lgP_th (q : Nat → Int32) (t r k : Nat) : th (lgP q t r) k = th q k := by unfold th; rw [lgP_at, if_neg (by omega)]
theorem lgP_wt (q : Nat → Int32) (t r k : Nat) : wt (lgP q t r) k = wt q k := by unfold wt; rw [lgP_th, lgP_at, if_neg (by omega)]
theorem e0_holds {h : AH} {a : Nat} {q : Nat → Int32} {L : List Nat} (hW : WFr q) (hC : CB h a q L) {t r : Nat} (ht : t < 10) (hth : th q t = true) (hr : r < nr q) (z : Nat) : fX0_holds a (nI t) (nI r) z h = some (if bt (q (32 + 6 * t + 3)) r then 1 else 0, z, h) := by
  obtain ⟨hB, hR, hT, -⟩ := hC
  have hn := hW.2.1
  have x1 := e0_hasT hB hT ht hth z
  have x2 := e2_has hB hW hR (nI r) z
  rw [rsI_nI hn (by omega)] at x2
  simp only [hr, decide_true, if_true] at x2
  have h5 := (hT.2.1 t ht).2.2.1
  have x3 := e8_inSet (iv h (a + 13) (Int32.toNatClampNeg (nI t))) (show r < 32 by omega) z h
  obtain ⟨bk, b0, b1, b2, b3, b4, b5, b6, b7, fk, f0, f1, f2, mk0, m0, m1, m2, m3, kf0, kf1, kf2, lf0, lf1, lf2, km0, km1, km2, km3, lm0, lm1, lm2, lm3, kb2, kb3, kb4, kb5, kb6, kb7, lb2, lb3, lb4, lb5, lb6, lb7⟩ := id hB
  simp (disch := omega) only [fX0_holds, ↓gd, ↓bl, ↓on, ↓xr, ↓reduceIte, if_true, if_false, kd_wI, ln_wI, rv_wI, iv_wI, jv_wI, kd_wJ, ln_wJ, rv_wJ, iv_wJ, nI_clamp, nI_leE, nI_ltE, nI_eqE, m1_ne, bit_0, bit_1, nI_negE, leN_F, leN_T, ltN_F, ltN_T, eqN_F, or_false, false_or, or_true, true_or, not_false_eq_true, not_true_eq_false, and_true, true_and, and_false, false_and, ↓bb3 x1, ↓bb3 x2, ne10, bk, ↓bb b0, ↓bb b1, ↓bb b2, ↓bb b3, ↓bb b4, ↓bb b5, ↓bb b6, ↓bb b7, fk, ↓bb f0, ↓bb f1, ↓bb f2, mk0, ↓bb m0, ↓bb m1, ↓bb m2, ↓bb m3, kf0, kf1, kf2, lf0, lf1, lf2, km0, km1, km2, km3, lm0, lm1, lm2, lm3, kb2, kb3, kb4, kb5, kb6, kb7, lb2, lb3, lb4, lb5, lb6, lb7, ↓bb3 x3, h5]
  cases bt (q (32 + 6 * t + 3)) r <;> simp
theorem e0_letGo {h : AH} {a : Nat} {q : Nat → Int32} {L : List Nat} (hW : WFr q) (hC : CB h a q L) {t r : Nat} (ht : t < 10) (hth : th q t = true) (hr : r < nr q) (hb : bt (q (32 + 6 * t + 3)) r = true) (z : Nat) : ∃ h', fX0_letGo a (nI t) (nI r) z h = some (z, h') ∧ Fr h h' a ∧ CB h' a (lgP q t r) L := by
  have x1 := e0_holds hW hC ht hth hr z
  rw [hb] at x1
  simp only [if_true] at x1
  obtain ⟨hB, hR, hT, hO⟩ := id hC
  have h5 := (hT.2.1 t ht)
  refine ⟨wI h (a + 13) t (q (32 + 6 * t + 3) &&& (((1 : Int32) <<< (nI r &&& 31)) ^^^ (-1))), ?_, Fr.w h _ _ (by omega) (by omega), ?_⟩
  · obtain ⟨bk, b0, b1, b2, b3, b4, b5, b6, b7, fk, f0, f1, f2, mk0, m0, m1, m2, m3, kf0, kf1, kf2, lf0, lf1, lf2, km0, km1, km2, km3, lm0, lm1, lm2, lm3, kb2, kb3, kb4, kb5, kb6, kb7, lb2, lb3, lb4, lb5, lb6, lb7⟩ := id hB
    simp (disch := omega) only [fX0_letGo, ↓gd, ↓bl, ↓on, ↓xr, ↓reduceIte, if_true, if_false, kd_wI, ln_wI, rv_wI, iv_wI, jv_wI, kd_wJ, ln_wJ, rv_wJ, iv_wJ, nI_clamp, nI_leE, nI_ltE, nI_eqE, m1_ne, bit_0, bit_1, nI_negE, leN_F, leN_T, ltN_F, ltN_T, eqN_F, or_false, false_or, or_true, true_or, not_false_eq_true, not_true_eq_false, and_true, true_and, and_false, false_and, ↓bb3 x1, ne10, bk, ↓bb b0, ↓bb b1, ↓bb b2, ↓bb b3, ↓bb b4, ↓bb b5, ↓bb b6, ↓bb b7, fk, ↓bb f0, ↓bb f1, ↓bb f2, mk0, ↓bb m0, ↓bb m1, ↓bb m2, ↓bb m3, kf0, kf1, kf2, lf0, lf1, lf2, km0, km1, km2, km3, lm0, lm1, lm2, lm3, kb2, kb3, kb4, kb5, kb6, kb7, lb2, lb3, lb4, lb5, lb6, lb7, h5]
  · refine CB_one ht hW hC (Fr.w h _ _ (by omega) (by omega)) (lgP_dt q t r) (fun b h1 h2 => ⟨fun h3 => iv_wI_ne _ _ _ (by omega), fun k hk hkt => ?_⟩) (fun j hj => by rw [iv_wI_ne _ _ _ (by omega)]) (iv_wI_ne _ _ _ (by omega)) rfl ?_ ?_ ?_ ?_ ?_ ?_
    · exact iv_wI_k _ _ _ hkt
    · rw [iv_wI_ne _ _ _ (by omega), hT.1]; exact mk_congr (fun k _ => (lgP_th q t r k).symm)
    · rw [iv_wI_ne _ _ _ (by omega), lgP_at, if_neg (by omega)]; exact h5.1
    · rw [iv_wI_ne _ _ _ (by omega), lgP_at, if_neg (by omega)]; exact h5.2.1
    · rw [iv_wI, if_pos rfl, if_pos rfl, lgP_at, if_pos rfl]
    · rw [iv_wI_ne _ _ _ (by omega), lgP_at, if_neg (by omega)]; exact h5.2.2.2
    · intro _
      have e5 : lgP q t r (32 + 6 * t + 5) = q (32 + 6 * t + 5) := by rw [lgP_at, if_neg (by omega)]
      rw [iv_wI_ne _ _ _ (by omega), lgP_wt, e5]; exact hT.2.2 t ht hth
/-- a task is dismissed -/
def dsP (q : Nat → Int32) (t : Nat) : Nat → Int32 := upd (upd q (32 + 6 * t + 0) 0) (32 + 6 * t + 3) 0
theorem dsP_at (q : Nat → Int32) (t j : Nat) : dsP q t j = if j = 32 + 6 * t + 3 then 0 else if j = 32 + 6 * t + 0 then 0 else q j := rfl
theorem dsP_dt (q : Nat → Int32) (t : Nat) : dt q (dsP q t) t := fun j hj => by rw [dsP_at, if_neg (by omega), if_neg (by omega)]
theorem dsP_th (q : Nat → Int32) (t k : Nat) : th (dsP q t) k = (th q k && decide (k ≠ t)) := by
  unfold th
  rw [dsP_at, if_neg (by omega)]
  by_cases e : k = t
  · subst e; simp
  · rw [if_neg (by omega)]; simp [e]
theorem e0_dismiss {h : AH} {a : Nat} {q : Nat → Int32} {L : List Nat} (hW : WFr q) (hC : CB h a q L) {t : Nat} (ht : t < 10) (hth : th q t = true) (z : Nat) : ∃ h', fX0_dismiss a (nI t) z h = some (z, h') ∧ Fr h h' a ∧ CB h' a (dsP q t) L := by
  obtain ⟨hB, hR, hT, hO⟩ := id hC
  have x1 := e0_hasT hB hT ht hth z
  have h5 := (hT.2.1 t ht)
  have h9 := hT.1
  have hF : Fr h (wI (wI h (a + 13) t 0) a 9 (mk 10 (fun k => th q k && decide (k ≠ t)))) a := (Fr.w h _ _ (by omega) (by omega)).tr (Fr.w _ _ _ (by omega) (by omega))
  refine ⟨wI (wI h (a + 13) t 0) a 9 (mk 10 (fun k => th q k && decide (k ≠ t))), ?_, hF, ?_⟩
  · obtain ⟨bk, b0, b1, b2, b3, b4, b5, b6, b7, fk, f0, f1, f2, mk0, m0, m1, m2, m3, kf0, kf1, kf2, lf0, lf1, lf2, km0, km1, km2, km3, lm0, lm1, lm2, lm3, kb2, kb3, kb4, kb5, kb6, kb7, lb2, lb3, lb4, lb5, lb6, lb7⟩ := id hB
    simp (disch := omega) only [fX0_dismiss, ↓gd, ↓bl, ↓on, ↓xr, ↓reduceIte, if_true, if_false, kd_wI, ln_wI, rv_wI, iv_wI, jv_wI, kd_wJ, ln_wJ, rv_wJ, iv_wJ, nI_clamp, nI_leE, nI_ltE, nI_eqE, m1_ne, bit_0, bit_1, nI_negE, leN_F, leN_T, ltN_F, ltN_T, eqN_F, or_false, false_or, or_true, true_or, not_false_eq_true, not_true_eq_false, and_true, true_and, and_false, false_and, ↓bb3 x1, ne10, bk, ↓bb b0, ↓bb b1, ↓bb b2, ↓bb b3, ↓bb b4, ↓bb b5, ↓bb b6, ↓bb b7, fk, ↓bb f0, ↓bb f1, ↓bb f2, mk0, ↓bb m0, ↓bb m1, ↓bb m2, ↓bb m3, kf0, kf1, kf2, lf0, lf1, lf2, km0, km1, km2, km3, lm0, lm1, lm2, lm3, kb2, kb3, kb4, kb5, kb6, kb7, lb2, lb3, lb4, lb5, lb6, lb7, h9, mk_clr ht]
  · refine CB_one ht hW hC hF (dsP_dt q t) (fun b h1 h2 => ⟨fun h3 => by rw [iv_wI_ne _ _ _ (by omega), iv_wI_ne _ _ _ (by omega)], fun k hk hkt => ?_⟩) (fun j hj => ?_) (by rw [iv_wI_ne _ _ _ (by omega), iv_wI_ne _ _ _ (by omega)]) rfl ?_ ?_ ?_ ?_ ?_ ?_
    · rw [iv_wI_ne _ _ _ (by omega)]; exact iv_wI_k _ _ _ hkt
    · rw [iv_wI, if_pos rfl, if_neg hj, iv_wI_ne _ _ _ (by omega)]
    · rw [iv_wI, if_pos rfl, if_pos rfl]; exact mk_congr (fun k _ => (dsP_th q t k).symm)
    · rw [iv_wI_ne _ _ _ (by omega), iv_wI_ne _ _ _ (by omega), dsP_at, if_neg (by omega), if_neg (by omega)]; exact h5.1
    · rw [iv_wI_ne _ _ _ (by omega), iv_wI_ne _ _ _ (by omega), dsP_at, if_neg (by omega), if_neg (by omega)]; exact h5.2.1
    · rw [iv_wI_ne _ _ _ (by omega), iv_wI, if_pos rfl, if_pos rfl, dsP_at, if_pos rfl]
    · rw [iv_wI_ne _ _ _ (by omega), iv_wI_ne _ _ _ (by omega), dsP_at, if_neg (by omega), if_neg (by omega)]; exact h5.2.2.2
    · intro h8; rw [dsP_th] at h8; simp at h8
/-- a task runs again -/
def rvP (q : Nat → Int32) (t : Nat) : Nat → Int32 := upd q (32 + 6 * t + 4) 0
theorem rvP_at (q : Nat → Int32) (t j : Nat) : rvP q t j = if j = 32 + 6 * t + 4 then 0 else q j := rfl
theorem rvP_dt (q : Nat → Int32) (t : Nat) : dt q (rvP q t) t := fun j hj => by rw [rvP_at, if_neg (by omega)]
theorem rvP_th (q : Nat → Int32) (t k : Nat) : th (rvP q t) k = th q k := by unfold th; rw [rvP_at, if_neg (by omega)]
theorem rvP_wt (q : Nat → Int32) (t k : Nat) : wt (rvP q t) k = (wt q k && decide (k ≠ t)) := by
  unfold wt
  rw [rvP_th, rvP_at]
  by_cases e : k = t
  · subst e; simp
  · rw [if_neg (by omega)]; simp [e]
theorem e0_revive {h : AH} {a : Nat} {q : Nat → Int32} {L : List Nat} (hW : WFr q) (hC : CB h a q L) {t : Nat} (ht : t < 10) (hth : th q t = true) (hwt : wt q t = false) (z : Nat) : ∃ h', fX0_revive a (nI t) z h = some (q (32 + 6 * t + 2), z, h') ∧ Fr h h' a ∧ CB h' a (rvP q t) L := by
  obtain ⟨hB, hR, hT, hO⟩ := id hC
  have x1 := e0_hasT hB hT ht hth z
  have h5 := (hT.2.1 t ht)
  have h6 := hT.2.2 t ht hth
  rw [hwt] at h6
  refine ⟨wI h (a + 12) t 0, ?_, Fr.w h _ _ (by omega) (by omega), ?_⟩
  · obtain ⟨bk, b0, b1, b2, b3, b4, b5, b6, b7, fk, f0, f1, f2, mk0, m0, m1, m2, m3, kf0, kf1, kf2, lf0, lf1, lf2, km0, km1, km2, km3, lm0, lm1, lm2, lm3, kb2, kb3, kb4, kb5, kb6, kb7, lb2, lb3, lb4, lb5, lb6, lb7⟩ := id hB
    simp (disch := omega) only [fX0_revive, ↓gd, ↓bl, ↓on, ↓xr, ↓reduceIte, if_true, if_false, kd_wI, ln_wI, rv_wI, iv_wI, jv_wI, kd_wJ, ln_wJ, rv_wJ, iv_wJ, nI_clamp, nI_leE, nI_ltE, nI_eqE, m1_ne, bit_0, bit_1, nI_negE, leN_F, leN_T, ltN_F, ltN_T, eqN_F, or_false, false_or, or_true, true_or, not_false_eq_true, not_true_eq_false, and_true, true_and, and_false, false_and, ↓bb3 x1, ne10, bk, ↓bb b0, ↓bb b1, ↓bb b2, ↓bb b3, ↓bb b4, ↓bb b5, ↓bb b6, ↓bb b7, fk, ↓bb f0, ↓bb f1, ↓bb f2, mk0, ↓bb m0, ↓bb m1, ↓bb m2, ↓bb m3, kf0, kf1, kf2, lf0, lf1, lf2, km0, km1, km2, km3, lm0, lm1, lm2, lm3, kb2, kb3, kb4, kb5, kb6, kb7, lb2, lb3, lb4, lb5, lb6, lb7, h5]
  · refine CB_one ht hW hC (Fr.w h _ _ (by omega) (by omega)) (rvP_dt q t) (fun b h1 h2 => ⟨fun h3 => iv_wI_ne _ _ _ (by omega), fun k hk hkt => ?_⟩) (fun j hj => by rw [iv_wI_ne _ _ _ (by omega)]) (iv_wI_ne _ _ _ (by omega)) rfl ?_ ?_ ?_ ?_ ?_ ?_
    · exact iv_wI_k _ _ _ hkt
    · rw [iv_wI_ne _ _ _ (by omega), hT.1]; exact mk_congr (fun k _ => (rvP_th q t k).symm)
    · rw [iv_wI_ne _ _ _ (by omega), rvP_at, if_neg (by omega)]; exact h5.1
    · rw [iv_wI_ne _ _ _ (by omega), rvP_at, if_neg (by omega)]; exact h5.2.1
    · rw [iv_wI_ne _ _ _ (by omega), rvP_at, if_neg (by omega)]; exact h5.2.2.1
    · rw [iv_wI, if_pos rfl, if_pos rfl, rvP_at, if_pos rfl]
    · intro _; rw [iv_wI_ne _ _ _ (by omega), rvP_wt, hwt]; exact h6
