/-! how many bits -/
def cnt : Nat → (Nat → Bool) → Nat
  | 0, _ => 0
  | n + 1, c => cnt n c + (if c n then 1 else 0)
theorem cnt_le (n : Nat) (c : Nat → Bool) : cnt n c ≤ n := by
  induction n with
  | zero => exact Nat.le_refl _
  | succ n ih => unfold cnt; split <;> omega
theorem cnt_congr {n : Nat} {c d : Nat → Bool} (h : ∀ i, i < n → c i = d i) : cnt n c = cnt n d := by
  induction n with
  | zero => rfl
  | succ n ih => unfold cnt; rw [ih (fun i hi => h i (by omega)), h n (by omega)]
theorem bt_nI (n : Nat) {i : Nat} (hi : i < 32) : bt (nI n) i = n.testBit i := by
  show (BitVec.ofNat 32 n).getLsbD i = _
  rw [BitVec.getLsbD_ofNat]
  simp [hi]
theorem nI_and (a b : Nat) : nI a &&& nI b = nI (a &&& b) := by
  refine b_ext (fun i hi => ?_)
  rw [b_and, bt_nI a hi, bt_nI b hi, bt_nI _ hi, Nat.testBit_and]
theorem nI_or (a b : Nat) : nI a ||| nI b = nI (a ||| b) := by
  refine b_ext (fun i hi => ?_)
  rw [b_or, bt_nI a hi, bt_nI b hi, bt_nI _ hi, Nat.testBit_or]
theorem nI_ushr {n k : Nat} (hn : n < 2 ^ 32) (hk : k < 32) : ((nI n).toUInt32 >>> ((nI k).toUInt32 &&& Int32.toUInt32 31)).toInt32 = nI (n >>> k) := by
  refine b_ext (fun i hi => ?_)
  rw [b_ushr k hk, bt_nI _ hi, Nat.testBit_shiftRight]
  by_cases e : k + i < 32
  · rw [bt_nI _ e]
  · rw [b_big (by omega), Nat.testBit_lt_two_pow (Nat.lt_of_lt_of_le hn (Nat.pow_le_pow_right (by omega) (by omega)))]
def bcN (n : Nat) : Nat :=
  let a := n - (n >>> 1 &&& 1431655765)
  let b := (a &&& 858993459) + (a >>> 2 &&& 858993459)
  let c := (b + b >>> 4) &&& 252645135
  let d := c + c >>> 8
  let e := d + d >>> 16
  e &&& 63
def allB : Nat → (Nat → Bool) → Bool
  | 0, _ => true
  | n + 1, c => c n && allB n c
theorem allB_at {n : Nat} {c : Nat → Bool} (h : allB n c = true) : ∀ i, i < n → c i = true := by
  induction n with
  | zero => intro i hi; omega
  | succ n ih =>
    unfold allB at h
    rw [Bool.and_eq_true] at h
    intro i hi
    by_cases e : i = n
    · subst e; exact h.1
    · exact ih h.2 i (by omega)
def bN : Nat → Nat → Nat
  | 0, _ => 0
  | k + 1, n => n % 2 + bN k (n / 2)
def bcC (c : Nat) : Bool := allB 16 (fun i => allB 256 (fun j => Nat.beq (bcN (256 * (16 * c + i) + j)) (bN 16 (256 * (16 * c + i) + j))))
theorem bc_0 : bcC 0 = true := by decide +kernel
theorem bc_1 : bcC 1 = true := by decide +kernel
theorem bc_2 : bcC 2 = true := by decide +kernel
theorem bc_3 : bcC 3 = true := by decide +kernel
theorem bc_4 : bcC 4 = true := by decide +kernel
theorem bc_5 : bcC 5 = true := by decide +kernel
theorem bc_6 : bcC 6 = true := by decide +kernel
theorem bc_7 : bcC 7 = true := by decide +kernel
theorem bc_8 : bcC 8 = true := by decide +kernel
theorem bc_9 : bcC 9 = true := by decide +kernel
theorem bc_10 : bcC 10 = true := by decide +kernel
theorem bc_11 : bcC 11 = true := by decide +kernel
theorem bc_12 : bcC 12 = true := by decide +kernel
theorem bc_13 : bcC 13 = true := by decide +kernel
theorem bc_14 : bcC 14 = true := by decide +kernel
theorem bc_15 : bcC 15 = true := by decide +kernel
theorem bc_all : ∀ c, c < 16 → bcC c = true
  | 0, _ => bc_0
  | 1, _ => bc_1
  | 2, _ => bc_2
  | 3, _ => bc_3
  | 4, _ => bc_4
  | 5, _ => bc_5
  | 6, _ => bc_6
  | 7, _ => bc_7
  | 8, _ => bc_8
  | 9, _ => bc_9
  | 10, _ => bc_10
  | 11, _ => bc_11
  | 12, _ => bc_12
  | 13, _ => bc_13
  | 14, _ => bc_14
  | 15, _ => bc_15
  | n + 16, h => by omega
theorem bc_N {n : Nat} (h : n < 65536) : bcN n = bN 16 n := by
  have h1 := allB_at (allB_at (bc_all (n / 4096) (by omega)) (n / 256 % 16) (by omega)) (n % 256) (by omega)
  rw [show 256 * (16 * (n / 4096) + n / 256 % 16) + n % 256 = n by omega] at h1
  exact Nat.eq_of_beq_eq_true h1
theorem cnt_s (k : Nat) (c : Nat → Bool) : cnt (k + 1) c = (if c 0 then 1 else 0) + cnt k (fun i => c (i + 1)) := by
  induction k with
  | zero => simp [cnt]
  | succ k ih => rw [cnt, ih, cnt]; omega
theorem bN_cnt : ∀ (k n : Nat), bN k n = cnt k n.testBit := by
  intro k
  induction k with
  | zero => intro n; rfl
  | succ k ih =>
    intro n
    rw [cnt_s, bN, ih (n / 2), Nat.testBit_zero]
    have : (fun i => n.testBit (i + 1)) = (n / 2).testBit := by funext i; rw [Nat.testBit_succ]
    rw [this]
    congr 1
    have : n % 2 < 2 := Nat.mod_lt _ (by omega)
    by_cases e : n % 2 = 1
    · simp [e]
    · rw [if_neg (by simpa using e)]; omega
theorem lo16 {x : Int32} (h : ∀ i, 16 ≤ i → i < 32 → bt x i = false) : ∃ n, n < 65536 ∧ x = nI n := by
  refine ⟨x.toBitVec.toNat, ?_, ?_⟩
  · refine Nat.lt_pow_two_of_testBit (n := 16) _ (fun i hi => ?_)
    by_cases e : i < 32
    · exact h i hi e
    · exact Nat.testBit_lt_two_pow (Nat.lt_of_lt_of_le x.toBitVec.isLt (Nat.pow_le_pow_right (by omega) (by omega)))
  · refine b_ext (fun i hi => ?_)
    rw [bt_nI _ hi]; rfl
theorem e_bitc {x : Int32} (h : ∀ i, 16 ≤ i → i < 32 → bt x i = false) (z : Nat) (hh : AH) : fJ6_bitCount_0f7a4 x z hh = some (nI (cnt 16 (bt x)), z, hh) := by
  obtain ⟨n, hn, rfl⟩ := lo16 h
  have e0 : n >>> 1 &&& 1431655765 ≤ n := Nat.le_trans Nat.and_le_left (Nat.shiftRight_le n 1)
  have e1 : ∀ a b, a &&& b ≤ b := fun a b => Nat.and_le_right
  have b1 : ∀ a, a &&& 858993459 ≤ 858993459 := fun a => Nat.and_le_right
  have b2 : ∀ a, a &&& 252645135 ≤ 252645135 := fun a => Nat.and_le_right
  have b3 : ∀ a k, a >>> k ≤ a := fun a k => Nat.shiftRight_le a k
  have m1 : fJ6_bitCount_0f7a4 (nI n) z hh = some (nI (bcN n), z, hh) := by
    unfold fJ6_bitCount_0f7a4
    have w1 : ((nI n).toUInt32 >>> (Int32.toUInt32 1 &&& Int32.toUInt32 31)).toInt32 = nI (n >>> 1) := nI_ushr (k := 1) (by omega) (by omega)
    simp only [bl]
    rw [w1, show (1431655765 : Int32) = nI 1431655765 from rfl, nI_and, pk_sub e0]
    generalize ha : n - (n >>> 1 &&& 1431655765) = a
    have ha' : a < 65536 := by omega
    have w2 : ((nI a).toUInt32 >>> (Int32.toUInt32 2 &&& Int32.toUInt32 31)).toInt32 = nI (a >>> 2) := nI_ushr (k := 2) (by omega) (by omega)
    rw [w2, show (858993459 : Int32) = nI 858993459 from rfl, nI_and, nI_and, nI_add]
    generalize hb : (a &&& 858993459) + (a >>> 2 &&& 858993459) = b
    have hb' : b ≤ 858993459 + 858993459 := by have := b1 a; have := b1 (a >>> 2); omega
    have w3 : ((nI b).toUInt32 >>> (Int32.toUInt32 4 &&& Int32.toUInt32 31)).toInt32 = nI (b >>> 4) := nI_ushr (k := 4) (by omega) (by omega)
    rw [w3, show (252645135 : Int32) = nI 252645135 from rfl, nI_add, nI_and]
    generalize hc : b + b >>> 4 &&& 252645135 = c
    have hc' : c ≤ 252645135 := by have := b2 (b + b >>> 4); omega
    have w4 : ((nI c).toUInt32 >>> (Int32.toUInt32 8 &&& Int32.toUInt32 31)).toInt32 = nI (c >>> 8) := nI_ushr (k := 8) (by omega) (by omega)
    rw [w4, nI_add]
    generalize hd : c + c >>> 8 = d
    have hd' : d ≤ 252645135 + 252645135 := by have := b3 c 8; omega
    have w5 : ((nI d).toUInt32 >>> (Int32.toUInt32 16 &&& Int32.toUInt32 31)).toInt32 = nI (d >>> 16) := nI_ushr (k := 16) (by omega) (by omega)
    rw [w5, nI_add, show (63 : Int32) = nI 63 from rfl, nI_and]
    simp only [bcN, ha, hb, hc, hd]
  rw [m1, bc_N hn, bN_cnt]
  congr 3
  exact cnt_congr (fun i hi => (bt_nI n (by omega)).symm)
theorem e9_bits_loop (x : Int32) (z : Nat) (h : AH) : ∀ (d k : Nat), k + d = 16 → ∀ fuel, d < fuel → lX9_bits_4 fuel x (nI (cnt k (bt x))) (nI k) z h = some (nI (cnt 16 (bt x)), z, h) := by
  intro d
  induction d with
  | zero =>
    intro k hk fuel hf
    obtain rfl : k = 16 := by omega
    cases fuel with
    | zero => omega
    | succ fuel =>
      show lX9_bits_4B _ _ _ _ _ _ = _
      simp (disch := omega) only [lX9_bits_4B, ↓gd, ↓bl, ↓on, ↓xr, ↓reduceIte, if_true, if_false, kd_wI, ln_wI, rv_wI, iv_wI, jv_wI, kd_wJ, ln_wJ, rv_wJ, iv_wJ, nI_clamp, nI_leE, nI_ltE, nI_eqE, m1_ne, bit_0, bit_1, nI_negE, leN_F, leN_T, ltN_F, ltN_T, eqN_F, or_false, false_or, or_true, true_or, not_false_eq_true, not_true_eq_false, and_true, true_and, and_false, false_and, li16]
  | succ d ih =>
    intro k hk fuel hf
    cases fuel with
    | zero => omega
    | succ fuel =>
      have h3 := ih (k + 1) (by omega) fuel (by omega)
      rw [cnt] at h3
      show lX9_bits_4B _ _ _ _ _ _ = _
      simp (disch := omega) only [lX9_bits_4B, ↓bl, nI_leE, leN_F, ↓reduceIte, li16, bit_eq, nI_1]
      rw [← h3]
      congr 1
      cases bt x k
      · simp
      · simp [nI_1]
theorem e9_bits (x : Int32) (z : Nat) (h : AH) : fX9_bits x z h = some (nI (cnt 16 (bt x)), z, h) := by
  have := e9_bits_loop x z h 16 0 (by omega) fu (by unfold fu; omega)
  rw [nI_0] at this
  exact this
