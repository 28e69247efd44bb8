/-! bits of a long -/
theorem tA_sh : ∀ e, e < 16 → (((Int32.toInt64 (4 * nI e)).toUInt64 &&& Int64.toUInt64 63).toBitVec % 64).toNat = 4 * e := by decide +kernel
theorem tA_bt (y : Int64) {e : Nat} (he : e < 16) {i : Nat} (hi : i < 32) : bt (tA y e) i = (decide (i < 4) && lb y (4 * e + i)) := by
  unfold tA
  rw [b_and, (by decide +kernel : ∀ i, i < 32 → bt 15 i = decide (i < 4)) i hi, Bool.and_comm]
  congr 1
  show (BitVec.signExtend 32 _).getLsbD i = _
  rw [BitVec.getLsbD_signExtend]
  simp only [hi, decide_true, Bool.true_and, show i < 64 by omega, if_true]
  show (y.toUInt64 >>> ((Int32.toInt64 (4 * nI e)).toUInt64 &&& Int64.toUInt64 63)).toBitVec.getLsbD i = y.toUInt64.toBitVec.getLsbD (4 * e + i)
  rw [UInt64.toBitVec_shiftRight]
  show (y.toUInt64.toBitVec >>> (((Int32.toInt64 (4 * nI e)).toUInt64 &&& Int64.toUInt64 63).toBitVec % 64).toNat).getLsbD i = _
  rw [tA_sh e he, BitVec.getLsbD_ushiftRight]
theorem lb_or (x y : Int64) (i : Nat) : lb (x ||| y) i = (lb x i || lb y i) := by unfold lb; rw [Int64.toBitVec_or, BitVec.getLsbD_or]
theorem ex_bt : ∀ n, n < 9 → ∀ t, t < 10 → ∀ i, i < 64 → lb ((Int32.toInt64 (nI t)) <<< ((Int32.toInt64 (4 * nI n)) &&& 63)) i = (decide (4 * n ≤ i) && t.testBit (i - 4 * n)) := by decide +kernel
theorem st_bt : ∀ t, t < 10 → ∀ i, i < 64 → lb (Int32.toInt64 (nI t)) i = t.testBit i := by decide +kernel
theorem tb16 : ∀ t, t < 10 → ∀ i, i < 64 → 4 ≤ i → t.testBit i = false := by decide +kernel
theorem PL_ext {y : Int64} {n : Nat} {f : Nat → Int32} (h : PL y n f) (hn : n < 9) {t : Nat} (ht : t < 10) : PL (y ||| ((Int32.toInt64 (nI t)) <<< ((Int32.toInt64 (4 * nI n)) &&& 63))) (n + 1) (fun e => if e = n then nI t else f e) := by
  obtain ⟨h1, h2⟩ := h
  refine ⟨fun i hi hi2 => ?_, fun e he => ?_⟩
  · rw [lb_or, h1 i (by omega) hi2, ex_bt n hn t ht i hi2, tb16 t ht (i - 4 * n) (by omega) (by omega)]; simp
  · refine b_ext (fun i hi => ?_)
    rw [tA_bt _ (by omega) hi, lb_or]
    by_cases hi4 : i < 4
    · rw [ex_bt n hn t ht (4 * e + i) (by omega)]
      by_cases e1 : e = n
      · subst e1
        rw [h1 (4 * e + i) (by omega) (by omega)]
        simp only [hi4, decide_true, Bool.true_and, Bool.false_or, if_true]
        rw [bt_nI t hi]
        simp
      · have e2 := tA_bt y (e := e) (by omega) hi
        have e3 : ¬ (4 * n ≤ 4 * e + i) := by omega
        simp only [hi4, decide_true, Bool.true_and, e3, decide_false, Bool.false_and, Bool.or_false, e1, if_false] at e2 ⊢
        rw [← e2, h2 e (by omega)]
    · simp only [hi4, decide_false, Bool.false_and]
      by_cases e1 : e = n
      · simp only [e1, if_true]
        rw [bt_nI t hi, tb16 t ht i (by omega) (by omega)]
      · have e2 := tA_bt y (e := e) (by omega) hi
        simp only [hi4, decide_false, Bool.false_and] at e2
        simp only [e1, if_false]
        rw [← h2 e (by omega), e2]
theorem PL_one {t : Nat} (ht : t < 10) (f : Nat → Int32) (hf : f 0 = nI t) : PL (Int32.toInt64 (nI t)) 1 f := by
  refine ⟨fun i hi hi2 => ?_, fun e he => ?_⟩
  · rw [st_bt t ht i hi2, tb16 t ht i hi2 (by omega)]
  · obtain rfl : e = 0 := by omega
    rw [hf]
    refine b_ext (fun i hi => ?_)
    rw [tA_bt _ (by omega) hi, bt_nI t hi, st_bt t ht _ (by omega)]
    by_cases hi4 : i < 4
    · simp [hi4]
    · simp [hi4, tb16 t ht i (by omega) (by omega)]
/-! the class's mail -/
theorem mod40 : ∀ n, n < 81 → nI n - nI n / 40 * 40 = nI (n % 40) := by decide +kernel
theorem e4_rowOf {h : AH} {a f k : Nat} (hB : BO h a) (hf : f < 40) (h4 : iv h (a + 5) 4 = nI f) (hk : k ≤ 40) (z : Nat) : fX4_rowOf (a + 5) (nI k) z h = some (nI ((f + k) % 40), z, h) := by
  obtain ⟨bk, b0, b1, b2, b3, b4, b5, b6, b7, fk, f0, f1, f2, mk0, m0, m1, m2, m3, kf0, kf1, kf2, lf0, lf1, lf2, km0, km1, km2, km3, lm0, lm1, lm2, lm3, kb2, kb3, kb4, kb5, kb6, kb7, lb2, lb3, lb4, lb5, lb6, lb7⟩ := id hB
  simp only [fX4_rowOf, ↓gd, ↓reduceIte, mk0, h4, nI_add]
  rw [mod40 (f + k) (by omega)]
/-- the set of a path -/
def pm (f : Nat → Int32) : Nat → Int32
  | 0 => 0
  | k + 1 => pm f k ||| ((1 : Int32) <<< (f k &&& 31))
theorem pm_c {f g : Nat → Int32} : ∀ n, (∀ e, e < n → f e = g e) → pm f n = pm g n := by
  intro n
  induction n with
  | zero => intro _; rfl
  | succ n ih => intro h; unfold pm; rw [ih (fun e he => h e (by omega)), h n (by omega)]
theorem e4_mem_loop (y : Int64) (n : Nat) (hn : n < 100) (z : Nat) (h : AH) : ∀ (d k : Nat), k + d = n → ∀ fuel, d < fuel → lX4_members_5 fuel y (nI n) (pm (tA y) k) (nI k) z h = some (pm (tA y) n, z, h) := by
  intro d
  induction d with
  | zero =>
    intro k hk fuel hf
    obtain rfl : k = n := by omega
    cases fuel with
    | zero => omega
    | succ fuel =>
      show lX4_members_5B _ _ _ _ _ _ _ = _
      simp (disch := omega) only [lX4_members_5B, Int32.le_refl, ↓reduceIte]
  | succ d ih =>
    intro k hk fuel hf
    cases fuel with
    | zero => omega
    | succ fuel =>
      have h3 := ih (k + 1) (by omega) fuel (by omega)
      have x1 : fX4_taskAt y (nI k) z h = some (tA y k, z, h) := rfl
      show lX4_members_5B _ _ _ _ _ _ _ = _
      simp (disch := omega) only [lX4_members_5B, ↓brv_wI, ↓brv_wJ, ↓gd, ↓bl, ↓on, ↓xr, ↓reduceIte, if_true, if_false, kd_wI, ln_wI, rv_wI, iv_wI, jv_wI, kd_wJ, ln_wJ, rv_wJ, iv_wJ, nI_clamp, nI_leE, nI_ltE, nI_eqE, m1_ne, bit_0, bit_1, nI_negE, leN_F, leN_T, ltN_F, ltN_T, eqN_F, or_false, false_or, or_true, true_or, not_false_eq_true, not_true_eq_false, and_true, true_and, and_false, false_and, ↓bb3 x1, nI_1]
      exact h3
theorem e4_members (y : Int64) {n : Nat} (hn : n < 100) (z : Nat) (h : AH) : fX4_members y (nI n) z h = some (pm (tA y) n, z, h) := by
  have := e4_mem_loop y n hn z h n 0 (by omega) fu (by unfold fu; omega)
  rw [nI_0] at this
  exact this
/-- a message behind the others -/
def sdP (q : Nat → Int32) (n : Nat) (f : Nat → Int32) (t hp : Int32) : Nat → Int32 := fun j =>
  if j = 92 then q 92 + 1 else if j = 93 + 13 * nm q then t else if j = 93 + 13 * nm q + 1 then hp else if j = 93 + 13 * nm q + 2 then nI n else if 93 + 13 * nm q + 3 ≤ j ∧ j < 93 + 13 * nm q + 13 then (if j - (93 + 13 * nm q + 3) < n then f (j - (93 + 13 * nm q + 3)) else 0) else q j
theorem sdP_lo (q : Nat → Int32) (n : Nat) (f : Nat → Int32) (t hp : Int32) {j : Nat} (hj : j < 92) : sdP q n f t hp j = q j := by
  unfold sdP
  rw [if_neg (by omega), if_neg (by omega), if_neg (by omega), if_neg (by omega), if_neg (by omega)]
theorem sdP_old (q : Nat → Int32) (n : Nat) (f : Nat → Int32) (t hp : Int32) {j : Nat} (hj : 92 < j) (hj2 : j < 93 + 13 * nm q) : sdP q n f t hp j = q j := by
  unfold sdP
  rw [if_neg (by omega), if_neg (by omega), if_neg (by omega), if_neg (by omega), if_neg (by omega)]
theorem sdP_0 (q : Nat → Int32) (n : Nat) (f : Nat → Int32) (t hp : Int32) : sdP q n f t hp (93 + 13 * nm q) = t := by unfold sdP; rw [if_neg (by omega), if_pos rfl]
theorem sdP_1 (q : Nat → Int32) (n : Nat) (f : Nat → Int32) (t hp : Int32) : sdP q n f t hp (93 + 13 * nm q + 1) = hp := by unfold sdP; rw [if_neg (by omega), if_neg (by omega), if_pos rfl]
theorem sdP_2 (q : Nat → Int32) (n : Nat) (f : Nat → Int32) (t hp : Int32) : sdP q n f t hp (93 + 13 * nm q + 2) = nI n := by unfold sdP; rw [if_neg (by omega), if_neg (by omega), if_neg (by omega), if_pos rfl]
theorem sdP_3 (q : Nat → Int32) {n : Nat} (f : Nat → Int32) (t hp : Int32) (hn : n ≤ 10) {e : Nat} (he : e < n) : sdP q n f t hp (93 + 13 * nm q + 3 + e) = f e := by
  unfold sdP
  rw [if_neg (by omega), if_neg (by omega), if_neg (by omega), if_neg (by omega), if_pos (by omega), if_pos (by omega)]
  congr 1
  omega
theorem sdP_nm {q : Nat → Int32} (n : Nat) (f : Nat → Int32) (t hp : Int32) (h : q 92 = nI (nm q)) (hn : nm q < 40) : nm (sdP q n f t hp) = nm q + 1 := by
  have : sdP q n f t hp 92 = nI (nm q + 1) := by
    unfold sdP
    rw [if_pos rfl, h, nI_1]
  unfold nm at this ⊢
  rw [this, nI_clamp (by unfold nm at hn; omega)]
/-- a change of the mail alone -/
theorem CB_mail {h h' : AH} {a : Nat} {q q' : Nat → Int32} {L : List Nat} (hW : WFr q) (hC : CB h a q L) (hB : BO h' a) (e : ∀ b, a ≤ b → b < a + 16 → ¬ (a + 5 ≤ b ∧ b < a + 10) → iv h' b = iv h b) (en : ∀ j, j < 92 → q j = q' j) (hM : RBm h' a q') : CB h' a q' L := by
  obtain ⟨c0, c1, c2, c3, c4, c5⟩ := hC
  exact ⟨hB, RBr_s hW (fun b _ _ => e b (by omega) (by omega) (by omega)) (fun j hj => en j (by omega)) c1, RBt_c (by rw [e a (by omega) (by omega) (by omega)]) (fun b _ _ => e b (by omega) (by omega) (by omega)) (fun j _ hj => en j hj) c2, RBo_c (by rw [e a (by omega) (by omega) (by omega)]) (e _ (by omega) (by omega) (by omega)) c3, RBs_c (fun j _ _ => by rw [e a (by omega) (by omega) (by omega)]) (fun j _ _ => en j (by omega)) c4, hM⟩
theorem WQ_mail {q q' : Nat → Int32} {L : List Nat} {B : Nat} (h : WQ q L B) (en : ∀ j, j < 92 → q j = q' j) (hm : WFm q') : WQ q' L B := by
  obtain ⟨h1, ⟨S, h2, h3, h4⟩, h5, h6, h7, h8⟩ := h
  have hs : sres q q' := fun j hj => en j (by omega)
  have hth : ∀ k, k < 10 → th q k = th q' k := fun k hk => by unfold th; rw [en _ (by omega)]
  have hwt : ∀ k, k < 10 → wt q k = wt q' k := fun k hk => by unfold wt; rw [hth k hk, en _ (by omega)]
  refine ⟨sres_WFr hs h1, ⟨S, h2, by rw [← en 20 (by omega)]; exact h3, fun k hk => TK_c (fun w hw => en _ (by omega)) (sres_nr hs) (Nat.le_refl _) (h4 k hk)⟩, Ages_c (fun k hk hkt => ?_) h5, ⟨h6.1, fun t => ?_⟩, WFs_c (fun j _ _ => en j (by omega)) h7, hm⟩
  · rw [hth k hk, ← en (32 + 6 * k + 2) (by omega)]; exact ⟨hkt, rfl⟩
  · rw [h6.2 t]
    by_cases ht : t < 10
    · rw [hwt t ht]
    · simp [ht]
theorem jv_wJ_ne (h : AH) {a b : Nat} (k : Nat) (x : Int64) (hb : b ≠ a) : jv (wJ h a k x) b = jv h b := u2_ne _ _ _ hb
theorem Fr.wJ (h : AH) {a b : Nat} (k : Nat) (x : Int64) (h1 : a ≤ b) (h2 : b < a + 16) : Fr h (wJ h b k x) a := ⟨rfl, rfl, fun c hc => ⟨rfl, u2_ne _ _ _ (by omega)⟩⟩
theorem md_ne {f k n : Nat} (hk : k < n) (hn : n < 40) : (f + k) % 40 ≠ (f + n) % 40 := by omega
theorem e4_send {h : AH} {a : Nat} {q : Nat → Int32} {L : List Nat} (hW : WFr q) (hC : CB h a q L) (hWm : WFm q) {y : Int64} {n : Nat} {f : Nat → Int32} (hn : n ≤ 9) (hy : PL y n f) (t hp : Int32) (z : Nat) :
    ∃ h', fX4_send (a + 5) y (nI n) t hp z h = some (if nm q = 40 then 0 else 1, z, h') ∧ Fr h h' a ∧ CB h' a (if nm q = 40 then q else sdP q n f t hp) L := by
  obtain ⟨hB, c1, c2, c3, c4, s1, g, s2, s3, s4⟩ := id hC
  obtain ⟨hm, hn40, hms⟩ := id hWm
  rw [hm] at s1
  have e40 : (40 : Int32) = nI 40 := rfl
  by_cases e : nm q = 40
  · refine ⟨h, ?_, Fr.rf h a, by rw [if_pos e]; exact hC⟩
    rw [if_pos e]
    obtain ⟨bk, b0, b1, b2, b3, b4, b5, b6, b7, fk, f0, f1, f2, mk0, m0, m1, m2, m3, kf0, kf1, kf2, lf0, lf1, lf2, km0, km1, km2, km3, lm0, lm1, lm2, lm3, kb2, kb3, kb4, kb5, kb6, kb7, lb2, lb3, lb4, lb5, lb6, lb7⟩ := id hB
    simp (disch := omega) only [fX4_send, ↓brv_wI, ↓brv_wJ, ↓gd, ↓bl, ↓on, ↓xr, ↓reduceIte, if_true, if_false, kd_wI, ln_wI, rv_wI, iv_wI, jv_wI, kd_wJ, ln_wJ, rv_wJ, iv_wJ, nI_clamp, nI_leE, nI_ltE, nI_eqE, m1_ne, bit_0, bit_1, nI_negE, leN_F, leN_T, ltN_F, ltN_T, eqN_F, or_false, false_or, or_true, true_or, not_false_eq_true, not_true_eq_false, and_true, true_and, and_false, false_and, bk, ↓bb b0, ↓bb b1, ↓bb b2, ↓bb b3, ↓bb b4, ↓bb b5, ↓bb b6, ↓bb b7, fk, ↓bb f0, ↓bb f1, ↓bb f2, mk0, ↓bb m0, ↓bb m1, ↓bb m2, ↓bb m3, kf0, kf1, kf2, lf0, lf1, lf2, km0, km1, km2, km3, lm0, lm1, lm2, lm3, kb2, kb3, kb4, kb5, kb6, kb7, lb2, lb3, lb4, lb5, lb6, lb7, s1, e40]
  · rw [if_neg e, if_neg e]
    have hlt : nm q < 40 := by omega
    have x1 : fX4_rowOf (a + 5) (iv h (a + 5) 5) z h = some (nI ((g + nm q) % 40), z, h) := by rw [s1]; exact e4_rowOf hB s2 s3 (by omega) z
    generalize hr : (g + nm q) % 40 = r at x1
    have hr40 : r < 40 := by omega
    have hF : Fr h (wI (wI (wI (wI (wJ h (a + 6) r y) (a + 7) r (nI n)) (a + 8) r t) (a + 9) r hp) (a + 5) 5 (nI (nm q + 1))) a := ((((Fr.wJ h _ _ (by omega) (by omega)).tr (Fr.w _ _ _ (by omega) (by omega))).tr (Fr.w _ _ _ (by omega) (by omega))).tr (Fr.w _ _ _ (by omega) (by omega))).tr (Fr.w _ _ _ (by omega) (by omega))
    refine ⟨_, ?_, hF, CB_mail hW hC (BO_f hF hB) (fun b h1 h2 h3 => ?_) (fun j hj => (sdP_lo q n f t hp hj).symm) ⟨?_, g, s2, ?_, fun k hk => ?_⟩⟩
    · obtain ⟨bk, b0, b1, b2, b3, b4, b5, b6, b7, fk, f0, f1, f2, mk0, m0, m1, m2, m3, kf0, kf1, kf2, lf0, lf1, lf2, km0, km1, km2, km3, lm0, lm1, lm2, lm3, kb2, kb3, kb4, kb5, kb6, kb7, lb2, lb3, lb4, lb5, lb6, lb7⟩ := id hB
      simp (disch := omega) only [fX4_send, ↓brv_wI, ↓brv_wJ, ↓gd, ↓bl, ↓on, ↓xr, ↓reduceIte, if_true, if_false, kd_wI, ln_wI, rv_wI, iv_wI, jv_wI, kd_wJ, ln_wJ, rv_wJ, iv_wJ, nI_clamp, nI_leE, nI_ltE, nI_eqE, m1_ne, bit_0, bit_1, nI_negE, leN_F, leN_T, ltN_F, ltN_T, eqN_F, or_false, false_or, or_true, true_or, not_false_eq_true, not_true_eq_false, and_true, true_and, and_false, false_and, bk, ↓bb b0, ↓bb b1, ↓bb b2, ↓bb b3, ↓bb b4, ↓bb b5, ↓bb b6, ↓bb b7, fk, ↓bb f0, ↓bb f1, ↓bb f2, mk0, ↓bb m0, ↓bb m1, ↓bb m2, ↓bb m3, kf0, kf1, kf2, lf0, lf1, lf2, km0, km1, km2, km3, lm0, lm1, lm2, lm3, kb2, kb3, kb4, kb5, kb6, kb7, lb2, lb3, lb4, lb5, lb6, lb7, s1, e40, ↓bb3 x1, nI_1]
    · simp (disch := omega) only [iv_wI_ne, iv_wJ]
    · rw [iv_wI, if_pos rfl, if_pos rfl]; unfold sdP; rw [if_pos rfl, hm, nI_1]
    · rw [iv_wI_k _ _ _ (by omega), iv_wI_ne _ _ _ (by omega), iv_wI_ne _ _ _ (by omega), iv_wI_ne _ _ _ (by omega), iv_wJ]; exact s3
    · rw [sdP_nm n f t hp hm hlt] at hk
      by_cases ek : k = nm q
      · subst ek
        rw [hr, sdP_0, sdP_1, sdP_2]
        have el : mln (sdP q n f t hp) (nm q) = n := by unfold mln; rw [sdP_2, nI_clamp (by omega)]
        rw [el]
        refine ⟨?_, ?_, ?_, ?_⟩
        · simp (disch := omega) only [iv_wI, eqN_F, if_false, if_true]
        · simp (disch := omega) only [iv_wI, eqN_F, if_false, if_true]
        · simp (disch := omega) only [iv_wI, eqN_F, if_false, if_true]
        · have ej : jv (wI (wI (wI (wI (wJ h (a + 6) r y) (a + 7) r (nI n)) (a + 8) r t) (a + 9) r hp) (a + 5) 5 (nI (nm q + 1))) (a + 6) r = y := by
            show jv (wJ h (a + 6) r y) (a + 6) r = y
            rw [jv_wJ, if_pos rfl, if_pos rfl]
          rw [ej]
          exact ⟨hy.1, fun i hi => by show _ = sdP q n f t hp (93 + 13 * nm q + 3 + i); rw [sdP_3 q f t hp (by omega) hi]; exact hy.2 i hi⟩
      · have hk' : k < nm q := by omega
        obtain ⟨u1, u2, u3, u4⟩ := s4 k hk'
        have hne : (g + k) % 40 ≠ r := by rw [← hr]; exact md_ne hk' (by omega)
        have el : mln (sdP q n f t hp) k = mln q k := by unfold mln; rw [sdP_old q n f t hp (by omega) (by omega)]
        rw [el, sdP_old q n f t hp (by omega) (by omega), sdP_old q n f t hp (by omega) (by omega), sdP_old q n f t hp (by omega) (by omega)]
        refine ⟨?_, ?_, ?_, ?_⟩
        · simp (disch := omega) only [iv_wI, eqN_F, if_false, if_true, iv_wJ]; exact u1
        · simp (disch := omega) only [iv_wI, eqN_F, if_false, if_true, iv_wJ]; exact u2
        · simp (disch := omega) only [iv_wI, eqN_F, if_false, if_true, iv_wJ]; exact u3
        · have ej : jv (wI (wI (wI (wI (wJ h (a + 6) r y) (a + 7) r (nI n)) (a + 8) r t) (a + 9) r hp) (a + 5) 5 (nI (nm q + 1))) (a + 6) ((g + k) % 40) = jv h (a + 6) ((g + k) % 40) := by
            show jv (wJ h (a + 6) r y) (a + 6) ((g + k) % 40) = _
            rw [jv_wJ, if_pos rfl, if_neg hne]
          rw [ej]
          obtain ⟨hp', -, -, -, hl⟩ := (hms k hk').2.1
          exact ⟨u4.1, fun i hi => by
            show _ = sdP q n f t hp (93 + 13 * k + 3 + i)
            rw [u4.2 i hi, sdP_old q n f t hp (by omega) (by omega)]⟩
