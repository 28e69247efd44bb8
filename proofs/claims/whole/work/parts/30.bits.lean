/-! bits of an Int32 (the first rows begun from the BITS family bt) -/
def bt (x : Int32) (i : Nat) : Bool := x.toBitVec.getLsbD i
theorem b_ext {x y : Int32} (h : ∀ i, i < 32 → bt x i = bt y i) : x = y := Int32.toBitVec_inj.mp (BitVec.eq_of_getLsbD_eq (fun i hi => h i hi))
theorem b_or (x y : Int32) (i : Nat) : bt (x ||| y) i = (bt x i || bt y i) := by unfold bt; rw [Int32.toBitVec_or, BitVec.getLsbD_or]
theorem b_and (x y : Int32) (i : Nat) : bt (x &&& y) i = (bt x i && bt y i) := by unfold bt; rw [Int32.toBitVec_and, BitVec.getLsbD_and]
theorem b_xor (x y : Int32) (i : Nat) : bt (x ^^^ y) i = (bt x i ^^ bt y i) := by unfold bt; rw [Int32.toBitVec_xor, BitVec.getLsbD_xor]
theorem b_big {x : Int32} {i : Nat} (h : 32 ≤ i) : bt x i = false := BitVec.getLsbD_of_ge _ _ h
theorem b_255 (i : Nat) : bt 255 i = decide (i < 8) := by
  rcases Nat.lt_or_ge i 32 with h | h
  · exact (by decide +kernel : ∀ i, i < 32 → bt 255 i = decide (i < 8)) i h
  · rw [b_big h, decide_eq_false (by omega)]
theorem b_65535 (i : Nat) : bt 65535 i = decide (i < 16) := by
  rcases Nat.lt_or_ge i 32 with h | h
  · exact (by decide +kernel : ∀ i, i < 32 → bt 65535 i = decide (i < 16)) i h
  · rw [b_big h, decide_eq_false (by omega)]
theorem b_m1 : ∀ i, i < 32 → bt (-1) i = true := by decide +kernel
theorem b_0 (i : Nat) : bt 0 i = false := BitVec.getLsbD_zero
theorem s_l : ∀ n, n < 32 → ((nI n &&& 31).toBitVec.smod 32).toNat = n := by decide +kernel
theorem s_u : ∀ n, n < 32 → (((nI n).toUInt32 &&& Int32.toUInt32 31).toBitVec % 32).toNat = n := by decide +kernel
theorem b_shl (n : Nat) (hn : n < 32) (x : Int32) {i : Nat} (hi : i < 32) : bt (x <<< (nI n &&& 31)) i = (decide (n ≤ i) && bt x (i - n)) := by
  unfold bt
  rw [Int32.toBitVec_shiftLeft]
  show (x.toBitVec <<< ((nI n &&& 31).toBitVec.smod 32).toNat).getLsbD i = _
  rw [s_l n hn, BitVec.getLsbD_shiftLeft]
  rcases Nat.lt_or_ge i n with h | h
  · simp [h, Nat.not_le.mpr h]
  · simp [hi, h, Nat.not_lt.mpr h]
theorem b_ushr (n : Nat) (hn : n < 32) (x : Int32) (i : Nat) : bt ((x.toUInt32 >>> ((nI n).toUInt32 &&& Int32.toUInt32 31)).toInt32) i = bt x (n + i) := by
  show (x.toUInt32 >>> ((nI n).toUInt32 &&& Int32.toUInt32 31)).toBitVec.getLsbD i = x.toUInt32.toBitVec.getLsbD (n + i)
  rw [UInt32.toBitVec_shiftRight]
  show (x.toUInt32.toBitVec >>> (((nI n).toUInt32 &&& Int32.toUInt32 31).toBitVec % 32).toNat).getLsbD i = _
  rw [s_u n hn, BitVec.getLsbD_ushiftRight]
theorem b_sshr (n : Nat) (hn : n < 32) (x : Int32) {i : Nat} (hi : i < 32) : bt (x >>> (nI n &&& 31)) i = if n + i < 32 then bt x (n + i) else bt x 31 := by
  unfold bt
  rw [Int32.toBitVec_shiftRight]
  show (x.toBitVec.sshiftRight ((nI n &&& 31).toBitVec.smod 32).toNat).getLsbD i = _
  rw [s_l n hn, BitVec.getLsbD_sshiftRight, BitVec.msb_eq_getLsbD_last]
  simp [hi]
theorem bt_pow (n : Nat) (hn : n < 32) (i : Nat) : bt ((1 : Int32) <<< (nI n &&& 31)) i = decide (i = n) := by
  rcases Nat.lt_or_ge i 32 with h | h
  · rw [b_shl n hn 1 h]
    by_cases e : i = n
    · subst e
      rw [Nat.sub_self]
      simp
      decide
    · by_cases g : n ≤ i
      · have : bt 1 (i - n) = false := (by decide +kernel : ∀ j, j < 32 → 0 < j → bt 1 j = false) (i - n) (by omega) (by omega)
        simp [e, this]
      · simp [e, g]
  · rw [b_big h]
    symm
    exact decide_eq_false (by omega)
theorem bt1 (i : Nat) : bt 1 i = decide (i = 0) := by
  rcases Nat.lt_or_ge i 32 with h | h
  · exact (by decide +kernel : ∀ j, j < 32 → bt 1 j = decide (j = 0)) i h
  · rw [b_big h]
    exact (decide_eq_false (by omega)).symm
theorem bit_eq (x : Int32) {k : Nat} (hk : k < 32) : (x >>> (nI k &&& 31)) &&& 1 = if bt x k then 1 else 0 := by
  refine b_ext (fun i hi => ?_)
  rw [b_and, bt1]
  by_cases e : i = 0
  · subst e
    rw [b_sshr k hk x (by omega)]
    simp [hk]
    cases bt x k <;> simp <;> decide
  · simp [e]
    cases bt x k
    · simp [b_0]
    · simp [bt1, e]
theorem bit_0 (x : Int32) {k : Nat} (hk : k < 32) : ((x >>> (nI k &&& 31)) &&& 1 = 0) = (bt x k = false) := by
  rw [bit_eq x hk]
  cases bt x k <;> simp
theorem bit_1 (x : Int32) {k : Nat} (hk : k < 32) : ((x >>> (nI k &&& 31)) &&& 1 = 1) = (bt x k = true) := by
  rw [bit_eq x hk]
  cases bt x k <;> simp
theorem eq0_bt {x : Int32} : x = 0 ↔ ∀ i, i < 32 → bt x i = false := by
  refine ⟨fun h i _ => by rw [h, b_0], fun h => b_ext (fun i hi => by rw [h i hi, b_0])⟩
/-- the set of those below n that c says -/
def mk : Nat → (Nat → Bool) → Int32
  | 0, _ => 0
  | n + 1, c => if c n then mk n c ||| ((1 : Int32) <<< (nI n &&& 31)) else mk n c
theorem bt_mk (n : Nat) (c : Nat → Bool) (hn : n ≤ 32) (i : Nat) : bt (mk n c) i = (decide (i < n) && c i) := by
  induction n with
  | zero => simp [mk, b_0]
  | succ n ih =>
    unfold mk
    by_cases hc : c n
    · rw [if_pos hc, b_or, ih (by omega), bt_pow n (by omega)]
      by_cases e : i = n
      · subst e
        simp [hc]
      · have : (i < n) = (i < n + 1) := by simp; omega
        simp [e, this]
    · rw [if_neg hc, ih (by omega)]
      by_cases e : i = n
      · subst e
        simp [hc]
      · have : (i < n) = (i < n + 1) := by simp; omega
        simp [this]
theorem mk_congr {n : Nat} {c d : Nat → Bool} (h : ∀ i, i < n → c i = d i) : mk n c = mk n d := by
  induction n with
  | zero => rfl
  | succ n ih =>
    unfold mk
    rw [ih (fun i hi => h i (by omega)), h n (by omega)]
theorem mk_inj {n : Nat} {c d : Nat → Bool} (hn : n ≤ 32) (h : mk n c = mk n d) : ∀ i, i < n → c i = d i := by
  intro i hi
  have h1 := bt_mk n c hn i
  have h2 := bt_mk n d hn i
  rw [h, h2] at h1
  simpa [hi] using h1.symm
theorem mk_or (n : Nat) (c d : Nat → Bool) (hn : n ≤ 32) : mk n c ||| mk n d = mk n (fun i => c i || d i) := by
  refine b_ext (fun i hi => ?_)
  rw [b_or, bt_mk n c hn, bt_mk n d hn, bt_mk n _ hn]
  cases decide (i < n) <;> simp
theorem mk_and (n : Nat) (c d : Nat → Bool) (hn : n ≤ 32) : mk n c &&& mk n d = mk n (fun i => c i && d i) := by
  refine b_ext (fun i hi => ?_)
  rw [b_and, bt_mk n c hn, bt_mk n d hn, bt_mk n _ hn]
  cases decide (i < n) <;> simp
theorem mk_0 {n : Nat} {c : Nat → Bool} (hn : n ≤ 32) : mk n c = 0 ↔ ∀ i, i < n → c i = false := by
  rw [eq0_bt]
  refine ⟨fun h i hi => ?_, fun h i hi => ?_⟩
  · have := h i (by omega)
    rw [bt_mk n c hn] at this
    simpa [hi] using this
  · rw [bt_mk n c hn]
    by_cases e : i < n
    · simp [e, h i e]
    · simp [e]
/-- every Int32 whose bits lie below n is a set -/
theorem mk_of {x : Int32} {n : Nat} (hn : n ≤ 32) (h : ∀ i, n ≤ i → i < 32 → bt x i = false) : x = mk n (bt x) := by
  refine b_ext (fun i hi => ?_)
  rw [bt_mk n _ hn]
  by_cases e : i < n
  · simp [e]
  · simp [e, h i (by omega) hi]
/-- some below n -/
def anyB : Nat → (Nat → Bool) → Bool
  | 0, _ => false
  | n + 1, c => anyB n c || c n
theorem anyB_iff {n : Nat} {c : Nat → Bool} : anyB n c = true ↔ ∃ i, i < n ∧ c i = true := by
  induction n with
  | zero => simp [anyB]
  | succ n ih =>
    simp only [anyB, Bool.or_eq_true, ih]
    constructor
    · rintro (⟨i, h1, h2⟩ | h)
      · exact ⟨i, by omega, h2⟩
      · exact ⟨n, by omega, h⟩
    · rintro ⟨i, h1, h2⟩
      by_cases e : i = n
      · subst e; exact Or.inr h2
      · exact Or.inl ⟨i, by omega, h2⟩
theorem anyB_false {n : Nat} {c : Nat → Bool} : anyB n c = false ↔ ∀ i, i < n → c i = false := by
  rw [← Bool.not_eq_true, anyB_iff]
  constructor
  · intro h i hi
    cases hc : c i
    · rfl
    · exact absurd ⟨i, hi, hc⟩ h
  · rintro h ⟨i, h1, h2⟩
    rw [h i h1] at h2
    cases h2
theorem anyB_congr {n : Nat} {c d : Nat → Bool} (h : ∀ i, i < n → c i = d i) : anyB n c = anyB n d := by
  induction n with
  | zero => rfl
  | succ n ih => simp only [anyB, ih (fun i hi => h i (by omega)), h n (by omega)]
/-! the abstract heap under writes -/
theorem kd_wI (h : AH) (a k : Nat) (x : Int32) (b : Nat) : kd (wI h a k x) b = kd h b := rfl
theorem ln_wI (h : AH) (a k : Nat) (x : Int32) (b : Nat) : ln (wI h a k x) b = ln h b := rfl
theorem rv_wI (h : AH) (a k : Nat) (x : Int32) : rv (wI h a k x) = rv h := rfl
theorem jv_wI (h : AH) (a k : Nat) (x : Int32) : jv (wI h a k x) = jv h := rfl
theorem iv_wI (h : AH) (a k : Nat) (x : Int32) (b j : Nat) : iv (wI h a k x) b j = if b = a then (if j = k then x else iv h b j) else iv h b j := by
  show u2 h.2.1 a k x b j = _
  unfold u2
  split <;> rfl
theorem iv_wI_ne (h : AH) {a b : Nat} (k : Nat) (x : Int32) (hb : b ≠ a) : iv (wI h a k x) b = iv h b := u2_ne _ _ _ hb
theorem iv_wI_self (h : AH) (a k : Nat) (x : Int32) : iv (wI h a k x) a = fun j => if j = k then x else iv h a j := u2_self _ _ _ _
theorem kd_wJ (h : AH) (a k : Nat) (x : Int64) (b : Nat) : kd (wJ h a k x) b = kd h b := rfl
theorem ln_wJ (h : AH) (a k : Nat) (x : Int64) (b : Nat) : ln (wJ h a k x) b = ln h b := rfl
theorem rv_wJ (h : AH) (a k : Nat) (x : Int64) : rv (wJ h a k x) = rv h := rfl
theorem iv_wJ (h : AH) (a k : Nat) (x : Int64) : iv (wJ h a k x) = iv h := rfl
theorem jv_wJ (h : AH) (a k : Nat) (x : Int64) (b j : Nat) : jv (wJ h a k x) b j = if b = a then (if j = k then x else jv h b j) else jv h b j := by
  show u2 h.2.2.1 a k x b j = _
  unfold u2
  split <;> rfl
/-! guards and numbers -/
theorem g_in {n N : Nat} (h : n < N) (hN : N < 2 ^ 31) : (¬ (nI n < 0 ∨ N ≤ (nI n).toNatClampNeg)) = True := eq_true (nI_in h hN)
theorem nI_leE {a b : Nat} (ha : a < 2 ^ 31) (hb : b < 2 ^ 31) : (nI a ≤ nI b) = (a ≤ b) := propext (nI_leI ha hb)
theorem nI_ltE {a b : Nat} (ha : a < 2 ^ 31) (hb : b < 2 ^ 31) : (nI a < nI b) = (a < b) := propext (nI_ltI ha hb)
theorem nI_eqE {a b : Nat} (ha : a < 2 ^ 31) (hb : b < 2 ^ 31) : (nI a = nI b) = (a = b) := propext (nI_eq ha hb)
theorem m1_ne {a : Nat} (ha : a < 2 ^ 31) : (nI a = -1) = False := by
  refine eq_false (fun h => ?_)
  have h2 := congrArg Int32.toInt h
  rw [nI_toInt ha] at h2
  have h3 : (-1 : Int32).toInt = -1 := by decide
  omega
theorem gd_T {α : Type} (x : Option α) [Decidable True] : gd True x = x := if_pos trivial
theorem nI_negE {n : Nat} (h : n < 2 ^ 31) : (nI n < 0) = False := eq_false (nI_pos h)
theorem leN_F {a b : Nat} (h : b < a) : (a ≤ b) = False := eq_false (Nat.not_le.mpr h)
theorem leN_T {a b : Nat} (h : a ≤ b) : (a ≤ b) = True := eq_true h
theorem ltN_F {a b : Nat} (h : b ≤ a) : (a < b) = False := eq_false (Nat.not_lt.mpr h)
theorem ltN_T {a b : Nat} (h : a < b) : (a < b) = True := eq_true h
theorem eqN_F {a b : Nat} (h : a ≠ b) : (a = b) = False := eq_false h
theorem eqN_T {a b : Nat} (h : a = b) : (a = b) = True := eq_true h
theorem bb {α β : Type} {r : Option α} {a : α} (h : r = some a) (f : α → Option β) : Option.bind r f = f a := by rw [h]; rfl
