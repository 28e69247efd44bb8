/-! sums -/
def sm : Nat → (Nat → Int32) → Int32
  | 0, _ => 0
  | n + 1, f => sm n f + f n
theorem sm_s (n : Nat) (f : Nat → Int32) : sm (n + 1) f = sm n f + f n := rfl
theorem sm_c {f g : Nat → Int32} : ∀ n, (∀ i, i < n → f i = g i) → sm n f = sm n g := by
  intro n
  induction n with
  | zero => intro _; rfl
  | succ n ih => intro h; rw [sm_s, sm_s, ih (fun i hi => h i (by omega)), h n (by omega)]
theorem sm_z {f : Nat → Int32} : ∀ n, (∀ i, i < n → f i = 0) → sm n f = 0 := by
  intro n
  induction n with
  | zero => intro _; rfl
  | succ n ih => intro h; rw [sm_s, ih (fun i hi => h i (by omega)), h n (by omega), Int32.add_zero]
theorem add4 (a b c d : Int32) : a + b + (c + d) = a + c + (b + d) := by
  rw [Int32.add_assoc, ← Int32.add_assoc b c d, Int32.add_comm b c, Int32.add_assoc c b d, ← Int32.add_assoc]
theorem sm_add (f g : Nat → Int32) : ∀ n, sm n (fun i => f i + g i) = sm n f + sm n g := by
  intro n
  induction n with
  | zero => rfl
  | succ n ih => rw [sm_s, sm_s, sm_s, ih, add4]
theorem sm_swap (m : Nat) (f : Nat → Nat → Int32) : ∀ n, sm n (fun i => sm m (fun j => f i j)) = sm m (fun j => sm n (fun i => f i j)) := by
  intro n
  induction n with
  | zero => exact (sm_z m (fun _ _ => rfl)).symm
  | succ n ih =>
    rw [sm_s, ih, ← sm_add]
    rfl
theorem sm_sp (a : Nat) (f : Nat → Int32) : ∀ b, sm (a + b) f = sm a f + sm b (fun i => f (a + i)) := by
  intro b
  induction b with
  | zero => exact (Int32.add_zero _).symm
  | succ b ih =>
    show sm (a + b) f + f (a + b) = _
    rw [ih, sm_s, Int32.add_assoc]
theorem sm_1 (k : Nat) (v : Int32) : ∀ n, sm n (fun i => if i = k then v else 0) = if k < n then v else 0 := by
  intro n
  induction n with
  | zero => rw [if_neg (by omega)]; rfl
  | succ n ih =>
    rw [sm_s, ih]
    by_cases e : n = k
    · subst e
      rw [if_neg (by omega), if_pos rfl, if_pos (by omega)]
      exact Int32.zero_add _
    · rw [if_neg e, Int32.add_zero]
      by_cases e2 : k < n
      · rw [if_pos e2, if_pos (by omega)]
      · rw [if_neg e2, if_neg (by omega)]
theorem sm_ne {f : Nat → Int32} {n : Nat} (h : sm n f ≠ 0) : ∃ i, i < n ∧ f i ≠ 0 :=
  Classical.byContradiction (fun hno => h (sm_z n (fun i hi => Classical.byContradiction (fun e => hno ⟨i, hi, e⟩))))
/-! sets as numbers -/
def rm (S t : Nat) : Nat := tn' (nI S &&& (((1 : Int32) <<< (nI t &&& 31)) ^^^ (-1)))
def un (S t : Nat) : Nat := tn' (nI S ||| ((1 : Int32) <<< (nI t &&& 31)))
theorem rm_e {S : Nat} (hS : S < 1024) (t : Nat) : rm S t < 1024 ∧ nI (rm S t) = nI S &&& (((1 : Int32) <<< (nI t &&& 31)) ^^^ (-1)) := by
  obtain ⟨n, hn, e⟩ := mask_n (x := nI S &&& (((1 : Int32) <<< (nI t &&& 31)) ^^^ (-1))) (fun i h1 h2 => by rw [b_and, hi_0 hS h1 h2]; rfl)
  unfold rm
  rw [e, show tn' (nI n) = n from nI_clamp (by omega)]
  exact ⟨hn, rfl⟩
theorem rm_bt {S t : Nat} (hS : S < 1024) (ht : t < 32) {i : Nat} (hi : i < 32) : bt (nI (rm S t)) i = (bt (nI S) i && decide (i ≠ t)) := by
  rw [(rm_e hS t).2, clr_bt _ ht hi]
theorem un_e {S t : Nat} (hS : S < 1024) (ht : t < 10) : un S t < 1024 ∧ nI (un S t) = nI S ||| ((1 : Int32) <<< (nI t &&& 31)) := by
  obtain ⟨n, hn, e⟩ := mask_n (x := nI S ||| ((1 : Int32) <<< (nI t &&& 31))) (fun i h1 h2 => by rw [b_or, hi_0 hS h1 h2, bt_pow t (by omega), decide_eq_false (by omega)]; rfl)
  unfold un
  rw [e, show tn' (nI n) = n from nI_clamp (by omega)]
  exact ⟨hn, rfl⟩
theorem un_bt {S t : Nat} (hS : S < 1024) (ht : t < 10) (i : Nat) : bt (nI (un S t)) i = (bt (nI S) i || decide (i = t)) := by
  rw [(un_e hS ht).2, b_or, bt_pow t (by omega)]
theorem n_ext {a b : Nat} (ha : a < 1024) (hb : b < 1024) (h : ∀ i, i < 10 → bt (nI a) i = bt (nI b) i) : a = b :=
  nI_inj ha hb (b_ext (fun i hi => by
    by_cases e : i < 10
    · exact h i e
    · rw [hi_0 ha (by omega) hi, hi_0 hb (by omega) hi]))
theorem n_le {a b : Nat} (ha : a < 1024) (hb : b < 1024) (h : ∀ i, i < 10 → bt (nI a) i = true → bt (nI b) i = true) : a ≤ b := by
  have : a = a &&& b := by
    refine nI_inj ha (Nat.lt_of_le_of_lt Nat.and_le_left ha) ?_
    rw [← nI_and]
    refine b_ext (fun i hi => ?_)
    rw [b_and]
    by_cases e : i < 10
    · cases e2 : bt (nI a) i
      · rfl
      · rw [h i e e2]; rfl
    · rw [hi_0 ha (by omega) hi]; rfl
  rw [this]; exact Nat.and_le_right
theorem rm_lt {S t : Nat} (hS : S < 1024) (ht : t < 10) (h : bt (nI S) t = true) : rm S t < S := by
  have h1 := (rm_e hS t).1
  have hle := n_le h1 hS (fun i hi hb => by
    rw [rm_bt hS (by omega) (by omega), Bool.and_eq_true] at hb; exact hb.1)
  have hne : rm S t ≠ S := fun e => by
    have := rm_bt hS (t := t) (by omega) (i := t) (by omega)
    rw [e, h] at this
    simp at this
  omega
theorem rm_le {S t : Nat} (hS : S < 1024) (ht : t < 10) : rm S t ≤ S :=
  n_le (rm_e hS t).1 hS (fun i hi hb => by
    rw [rm_bt hS (by omega) (by omega), Bool.and_eq_true] at hb; exact hb.1)
theorem n_up {a n : Nat} (ha : a < 1024) (h : ∀ i, n ≤ i → i < 10 → bt (nI a) i = false) : a < 2 ^ n := by
  refine Nat.lt_pow_two_of_testBit (n := n) a (fun i hi => ?_)
  by_cases e : i < 10
  · rw [← bt_nI a (by omega)]; exact h i hi e
  · exact Nat.testBit_lt_two_pow (Nat.lt_of_lt_of_le ha (by rw [show 1024 = 2 ^ 10 from rfl]; exact Nat.pow_le_pow_right (by omega) (by omega)))
theorem n_dn {a n i : Nat} (ha : a < 2 ^ n) (h1 : n ≤ i) (h2 : i < 32) : bt (nI a) i = false := by
  rw [bt_nI a h2]
  exact Nat.testBit_lt_two_pow (Nat.lt_of_lt_of_le ha (Nat.pow_le_pow_right (by omega) h1))
/-- the lowest task of a set -/
def lo (S : Nat) : Nat := ff (bt (nI S)) 0 10
theorem lo_at {S f : Nat} (hf : f < 10) (h : bt (nI S) f = true) (h2 : ∀ i, i < f → bt (nI S) i = false) : lo S = f := ff_at h2 h hf
theorem lo_sp {S : Nat} (hS : S < 1024) (h0 : S ≠ 0) : lo S < 10 ∧ bt (nI S) (lo S) = true ∧ ∀ i, i < lo S → bt (nI S) i = false := by
  have h1 := (ff_le (bt (nI S)) 10 0).1
  have h2 : lo S < 10 := by
    refine Decidable.byContradiction (fun e => h0 ?_)
    have e10 : ff (bt (nI S)) 0 10 = 10 := by unfold lo at e; omega
    exact n_ext hS (by omega) (fun i hi => by rw [ff_10 e10 hi, nI_0, b_0])
  exact ⟨h2, ff_c (bt (nI S)) 10 0 (by unfold lo at h2; omega), fun i hi => ff_n (bt (nI S)) 10 0 i (by omega) hi⟩
section CY
variable (E : Nat → Int32)
/-- the ways from the lowest task of S to t through all of S -/
def Vf : Nat → Nat → Nat → Int32
  | 0, _, _ => 0
  | n + 1, S, t => if t ≤ lo S ∨ bt (nI S) t = false then (if nI S = ((1 : Int32) <<< (nI (lo S) &&& 31)) ∧ t = lo S then 1 else 0) else sm 10 (fun b => if (bt (nI (rm S t)) b && bt (E b) t) = true then Vf n (rm S t) b else 0)
theorem Vf_s (n S t : Nat) : Vf E (n + 1) S t = if t ≤ lo S ∨ bt (nI S) t = false then (if nI S = ((1 : Int32) <<< (nI (lo S) &&& 31)) ∧ t = lo S then 1 else 0) else sm 10 (fun b => if (bt (nI (rm S t)) b && bt (E b) t) = true then Vf E n (rm S t) b else 0) := rfl
theorem Vf_eq : ∀ B S, S < B → S < 1024 → ∀ n n' t, t < 10 → S < n → S < n' → Vf E n S t = Vf E n' S t := by
  intro B
  induction B with
  | zero => intro S h; omega
  | succ B ih =>
    intro S hB hS n n' t ht h1 h2
    obtain ⟨k, rfl⟩ : ∃ k, n = k + 1 := ⟨n - 1, by omega⟩
    obtain ⟨k', rfl⟩ : ∃ k, n' = k + 1 := ⟨n' - 1, by omega⟩
    rw [Vf_s, Vf_s]
    by_cases e : t ≤ lo S ∨ bt (nI S) t = false
    · rw [if_pos e, if_pos e]
    · rw [if_neg e, if_neg e]
      have hb : bt (nI S) t = true := by
        cases e2 : bt (nI S) t
        · exact absurd (Or.inr e2) e
        · rfl
      have hl := rm_lt hS ht hb
      refine sm_c 10 (fun b hb10 => ?_)
      split
      · exact ih (rm S t) (by omega) (by omega) k k' b hb10 (by omega) (by omega)
      · rfl
def V (S t : Nat) : Int32 := Vf E (S + 1) S t
theorem V_eq {S t : Nat} (hS : S < 1024) (ht : t < 10) : V E S t = if t ≤ lo S ∨ bt (nI S) t = false then (if nI S = ((1 : Int32) <<< (nI (lo S) &&& 31)) ∧ t = lo S then 1 else 0) else sm 10 (fun b => if (bt (nI (rm S t)) b && bt (E b) t) = true then V E (rm S t) b else 0) := by
  unfold V
  rw [Vf_s]
  by_cases e : t ≤ lo S ∨ bt (nI S) t = false
  · rw [if_pos e, if_pos e]
  · rw [if_neg e, if_neg e]
    have hb : bt (nI S) t = true := by
      cases e2 : bt (nI S) t
      · exact absurd (Or.inr e2) e
      · rfl
    have hl := rm_lt hS ht hb
    refine sm_c 10 (fun b hb10 => ?_)
    split
    · exact Vf_eq E S (rm S t) hl (by omega) S (rm S t + 1) b hb10 hl (by omega)
    · rfl
/-- S's part of the number of cycles -/
def gS (S : Nat) : Int32 := sm 10 (fun t => if bt (E t) (lo S) = true then V E S t else 0)
end CY
/-! sets with lowest task f -/
def sh (f s : Nat) : Nat := 2 ^ f + 2 ^ (f + 1) * s
theorem sh_tb : ∀ f, f < 10 → ∀ s, s < 2 ^ (9 - f) → ∀ i, i < 10 → (2 ^ f + 2 ^ (f + 1) * s).testBit i = (if i < f then false else if i = f then true else s.testBit (i - f - 1)) := by decide +kernel
theorem sh_lt0 : ∀ f, f < 10 → ∀ s, s < 2 ^ (9 - f) → 2 ^ f + 2 ^ (f + 1) * s < 1024 := by decide +kernel
theorem sh_lt (f : Nat) (hf : f < 10) (s : Nat) (hs : s < 2 ^ (9 - f)) : sh f s < 1024 := sh_lt0 f hf s hs
theorem p512 : ∀ f, f < 10 → 2 ^ (9 - f) ≤ 512 := by decide +kernel
theorem sh_bt {f s : Nat} (hf : f < 10) (hs : s < 2 ^ (9 - f)) {i : Nat} (hi : i < 10) : bt (nI (sh f s)) i = (if i < f then false else if i = f then true else bt (nI s) (i - f - 1)) := by
  rw [bt_nI _ (by omega), bt_nI _ (by omega)]
  exact sh_tb f hf s hs i hi
theorem lo_sh {f s : Nat} (hf : f < 10) (hs : s < 2 ^ (9 - f)) : lo (sh f s) = f :=
  lo_at hf (by rw [sh_bt hf hs hf, if_neg (by omega), if_pos rfl]) (fun i hi => by rw [sh_bt hf hs (by omega), if_pos hi])
theorem sh_up {f s l : Nat} (hf : f < 10) (hs : s < 2 ^ (9 - f)) (hl : l < 9 - f) : bt (nI (sh f s)) (f + 1 + l) = bt (nI s) l := by
  rw [sh_bt hf hs (by omega), if_neg (by omega), if_neg (by omega), show f + 1 + l - f - 1 = l by omega]
theorem sh_rm {f s l : Nat} (hf : f < 10) (hs : s < 2 ^ (9 - f)) (hl : l < 9 - f) : rm (sh f s) (f + 1 + l) = sh f (rm s l) := by
  have hs5 := p512 f hf
  have hS := sh_lt f hf s hs
  have hr : rm s l < 2 ^ (9 - f) := Nat.lt_of_le_of_lt (rm_le (by omega) (by omega)) hs
  refine n_ext (rm_e hS _).1 (sh_lt f hf _ hr) (fun i hi => ?_)
  rw [rm_bt hS (by omega) (by omega)]
  have e := sh_bt hf hr hi
  show (bt (nI (sh f s)) i && decide (i ≠ f + 1 + l)) = bt (nI (sh f (rm s l))) i
  rw [e, sh_bt hf hs hi]
  by_cases e1 : i < f
  · simp [e1]
  · by_cases e2 : i = f
    · subst e2
      simp
      omega
    · rw [if_neg e1, if_neg e2, if_neg e1, if_neg e2, rm_bt (by omega) (by omega) (by omega)]
      congr 1
      by_cases e3 : i = f + 1 + l
      · subst e3; simp; omega
      · have : i - f - 1 ≠ l := by omega
        simp [e3, this]
theorem sh_pow {f : Nat} (hf : f < 10) : nI (sh f 0) = ((1 : Int32) <<< (nI f &&& 31)) := by
  refine b_ext (fun i hi => ?_)
  rw [bt_pow f (by omega)]
  by_cases e : i < 10
  · rw [sh_bt hf (by have : 0 < 2 ^ (9 - f) := Nat.pow_pos (by omega); omega) e]
    by_cases e1 : i < f
    · simp [e1]; omega
    · by_cases e2 : i = f
      · simp [e2]
      · simp [e1, e2, nI_0, b_0]
  · rw [hi_0 (sh_lt f hf 0 (Nat.pow_pos (by omega))) (by omega) hi]
    exact (decide_eq_false (by omega)).symm
theorem sh_np {f s : Nat} (hf : f < 10) (hs : s < 2 ^ (9 - f)) (h0 : s ≠ 0) : nI (sh f s) ≠ ((1 : Int32) <<< (nI f &&& 31)) := fun e => by
  rw [← sh_pow hf] at e
  have := nI_inj (sh_lt f hf s hs) (sh_lt f hf 0 (Nat.pow_pos (by omega))) e
  unfold sh at this
  have h2 : 2 ^ (f + 1) * s = 2 ^ (f + 1) * 0 := by omega
  have := Nat.eq_of_mul_eq_mul_left (Nat.pow_pos (by omega)) h2
  omega
section CU
variable {E : Nat → Int32}
def U (E : Nat → Int32) (f s l : Nat) : Int32 := V E (sh f s) (f + 1 + l)
theorem U1 {f s l : Nat} (hf : f < 10) (hs : s < 2 ^ (9 - f)) (hl : l < 9 - f) (h : bt (nI s) l = false) : U E f s l = 0 := by
  unfold U
  have e : V E (sh f s) (f + 1 + l) = if f + 1 + l ≤ lo (sh f s) ∨ bt (nI (sh f s)) (f + 1 + l) = false then (if nI (sh f s) = ((1 : Int32) <<< (nI (lo (sh f s)) &&& 31)) ∧ f + 1 + l = lo (sh f s) then 1 else 0) else _ := V_eq E (sh_lt f hf s hs) (by omega)
  rw [e, if_pos (Or.inr (by rw [sh_up hf hs hl]; exact h)), lo_sh hf hs, if_neg (by omega)]
theorem V_f {f s : Nat} (hf : f < 10) (hs : s < 2 ^ (9 - f)) : V E (sh f s) f = if s = 0 then 1 else 0 := by
  have e : V E (sh f s) f = if f ≤ lo (sh f s) ∨ bt (nI (sh f s)) f = false then (if nI (sh f s) = ((1 : Int32) <<< (nI (lo (sh f s)) &&& 31)) ∧ f = lo (sh f s) then 1 else 0) else _ := V_eq E (sh_lt f hf s hs) hf
  rw [e, lo_sh hf hs, if_pos (Or.inl (Nat.le_refl _))]
  by_cases e0 : s = 0
  · subst e0
    rw [if_pos ⟨sh_pow hf, rfl⟩, if_pos rfl]
  · rw [if_neg (fun h => sh_np hf hs e0 h.1), if_neg e0]
theorem V_lo {f s t : Nat} (hf : f < 10) (hs : s < 2 ^ (9 - f)) (ht : t < f) : V E (sh f s) t = 0 := by
  have e : V E (sh f s) t = if t ≤ lo (sh f s) ∨ bt (nI (sh f s)) t = false then (if nI (sh f s) = ((1 : Int32) <<< (nI (lo (sh f s)) &&& 31)) ∧ t = lo (sh f s) then 1 else 0) else _ := V_eq E (sh_lt f hf s hs) (by omega)
  rw [e, lo_sh hf hs, if_pos (Or.inl (by omega)), if_neg (by omega)]
theorem U2 {f s l : Nat} (hf : f < 10) (hs : s < 2 ^ (9 - f)) (hl : l < 9 - f) (h : bt (nI s) l = true) : U E f s l = sm 10 (fun b => if (bt (nI (sh f (rm s l))) b && bt (E b) (f + 1 + l)) = true then V E (sh f (rm s l)) b else 0) := by
  unfold U
  have e := V_eq E (sh_lt f hf s hs) (t := f + 1 + l) (by omega)
  have e' : V E (sh f s) (f + 1 + l) = if f + 1 + l ≤ lo (sh f s) ∨ bt (nI (sh f s)) (f + 1 + l) = false then _ else sm 10 (fun b => if (bt (nI (rm (sh f s) (f + 1 + l))) b && bt (E b) (f + 1 + l)) = true then V E (rm (sh f s) (f + 1 + l)) b else 0) := e
  rw [e', lo_sh hf hs, if_neg (fun h9 => by
    rcases h9 with h9 | h9
    · omega
    · rw [sh_up hf hs hl, h] at h9; cases h9), sh_rm hf hs hl]
theorem sm_hi {f : Nat} (hf : f < 10) (g : Nat → Int32) (h : ∀ i, i < f → g i = 0) : sm 10 g = g f + sm (9 - f) (fun j => g (f + 1 + j)) := by
  have e : sm 10 g = sm (f + 1 + (9 - f)) g := by rw [show f + 1 + (9 - f) = 10 by omega]
  rw [e, sm_sp, sm_s, sm_z f h, Int32.zero_add]
theorem U3 {f s l : Nat} (hf : f < 10) (hs : s < 2 ^ (9 - f)) (hl : l < 9 - f) (h : bt (nI s) l = true) : U E f s l = (if rm s l = 0 ∧ bt (E f) (f + 1 + l) = true then 1 else 0) + sm (9 - f) (fun j => if bt (E (f + 1 + j)) (f + 1 + l) = true then U E f (rm s l) j else 0) := by
  have hs5 := p512 f hf
  have hr : rm s l < 2 ^ (9 - f) := Nat.lt_of_le_of_lt (rm_le (by omega) (by omega)) hs
  rw [U2 hf hs hl h, sm_hi hf _ (fun i hi => by
    rw [sh_bt hf hr (by omega), if_pos hi]; simp)]
  congr 1
  · have hbf : bt (nI (sh f (rm s l))) f = true := by rw [sh_bt hf hr hf, if_neg (by omega), if_pos rfl]
    rw [hbf, Bool.true_and, V_f hf hr]
    by_cases e1 : rm s l = 0
    · cases bt (E f) (f + 1 + l) <;> simp [e1]
    · cases bt (E f) (f + 1 + l) <;> simp [e1]
  · refine sm_c _ (fun j hj => ?_)
    rw [sh_up hf hr hj]
    cases eb : bt (nI (rm s l)) j
    · rw [U1 hf hr hj eb]; simp
    · rw [Bool.true_and]; rfl
theorem U30 {f l : Nat} (hf : f < 10) (hl : l < 9 - f) : U E f 0 l = 0 := U1 hf (Nat.pow_pos (by omega)) hl (by rw [nI_0, b_0])
theorem U3a {f s l : Nat} (hf : f < 10) (hs : s < 2 ^ (9 - f)) (hl : l < 9 - f) (h : bt (nI s) l = true) (h0 : rm s l = 0) : U E f s l = if bt (E f) (f + 1 + l) = true then 1 else 0 := by
  rw [U3 hf hs hl h, h0, sm_z _ (fun j hj => by rw [U30 hf hj]; simp), Int32.add_zero]
  simp
theorem U3b {f s l : Nat} (hf : f < 10) (hs : s < 2 ^ (9 - f)) (hl : l < 9 - f) (h : bt (nI s) l = true) (h0 : rm s l ≠ 0) : U E f s l = sm (9 - f) (fun j => if bt (E (f + 1 + j)) (f + 1 + l) = true then U E f (rm s l) j else 0) := by
  rw [U3 hf hs hl h, if_neg (fun h9 => h0 h9.1), Int32.zero_add]
/-- the rings with lowest task f and set s -/
def qn (E : Nat → Int32) (f s n : Nat) : Int32 := sm n (fun l => if bt (E (f + 1 + l)) f = true then U E f s l else 0)
def rF (E : Nat → Int32) (f : Nat) : Int32 := sm (2 ^ (9 - f)) (fun s => qn E f s (9 - f))
theorem gS_sh (hself : ∀ t, t < 10 → bt (E t) t = false) {f s : Nat} (hf : f < 10) (hs : s < 2 ^ (9 - f)) : gS E (sh f s) = qn E f s (9 - f) := by
  unfold gS
  rw [lo_sh hf hs, sm_hi hf _ (fun i hi => by rw [V_lo hf hs hi]; simp), hself f hf, if_neg (by decide), Int32.zero_add]
  rfl
theorem m_f : ∀ S, S < 1024 → 1 ≤ S → ∀ f, f < 10 → decide (S % 2 ^ (f + 1) = 2 ^ f) = decide (f = ff (S.testBit) 0 10) := by decide +kernel
theorem m_0 : ∀ f, f < 10 → 0 % 2 ^ (f + 1) ≠ 2 ^ f := by decide +kernel
theorem m_10 : ∀ f, f < 10 → 2 ^ (f + 1) * 2 ^ (9 - f) = 1024 := by decide +kernel
theorem blk {f : Nat} (G : Nat → Int32) : ∀ k, sm (2 ^ (f + 1) * k) (fun S => if S % 2 ^ (f + 1) = 2 ^ f then G S else 0) = sm k (fun s => G (sh f s)) := by
  intro k
  induction k with
  | zero => rfl
  | succ k ih =>
    rw [Nat.mul_succ, sm_sp, ih, sm_s]
    congr 1
    have hlt : 2 ^ f < 2 ^ (f + 1) := Nat.pow_lt_pow_right (by omega) (by omega)
    rw [sm_c (g := fun r => if r = 2 ^ f then G (sh f k) else 0) (2 ^ (f + 1)) (fun r hr => by
      rw [Nat.mul_add_mod, Nat.mod_eq_of_lt hr]
      by_cases e : r = 2 ^ f
      · rw [if_pos e, if_pos e, e]
        unfold sh
        rw [Nat.add_comm]
      · rw [if_neg e, if_neg e]), sm_1, if_pos hlt]
/-- the sum over all sets, by their lowest task -/
theorem sm_low (G : Nat → Int32) (h0 : G 0 = 0) : sm 1024 G = sm 10 (fun f => sm (2 ^ (9 - f)) (fun s => G (sh f s))) := by
  have e1 : sm 1024 G = sm 1024 (fun S => sm 10 (fun f => if S % 2 ^ (f + 1) = 2 ^ f then G S else 0)) := sm_c 1024 (fun S hS => by
    by_cases e : S = 0
    · subst e
      rw [h0]
      exact (sm_z 10 (fun f hf => by rw [if_neg (m_0 f hf)])).symm
    · have hl := lo_sp hS e
      have hlo : ff (S.testBit) 0 10 = lo S := (ff_congr 10 0 (fun j _ hj => bt_nI S (by omega))).symm
      rw [sm_c (g := fun f => if f = lo S then G S else 0) 10 (fun f hf => by
        have := m_f S hS (by omega) f hf
        rw [hlo, decide_eq_decide] at this
        by_cases e2 : f = lo S
        · rw [if_pos (this.mpr e2), if_pos e2]
        · rw [if_neg (fun h9 => e2 (this.mp h9)), if_neg e2]), sm_1, if_pos hl.1])
  rw [e1, sm_swap]
  refine sm_c 10 (fun f hf => ?_)
  rw [← m_10 f hf, blk]
/-- who is reached -/
theorem V_re (hE : E10 E) : ∀ B S, S < B → S < 1024 → S ≠ 0 → ∀ t, t < 10 → V E S t ≠ 0 → t = lo S ∨ bt (rc E (lo S)) t = true := by
  intro B
  induction B with
  | zero => intro S h; omega
  | succ B ih =>
    intro S hB hS h0 t ht hv
    obtain ⟨l1, l2, l3⟩ := lo_sp hS h0
    rw [V_eq E hS ht] at hv
    by_cases e : t ≤ lo S ∨ bt (nI S) t = false
    · rw [if_pos e] at hv
      by_cases e2 : nI S = ((1 : Int32) <<< (nI (lo S) &&& 31)) ∧ t = lo S
      · exact Or.inl e2.2
      · rw [if_neg e2] at hv; exact absurd rfl hv
    · rw [if_neg e] at hv
      have hlt : lo S < t := Decidable.byContradiction (fun h9 => e (Or.inl (by omega)))
      have hb : bt (nI S) t = true := by
        cases e2 : bt (nI S) t
        · exact absurd (Or.inr e2) e
        · rfl
      obtain ⟨b, b1, b2⟩ := sm_ne hv
      have hc : (bt (nI (rm S t)) b && bt (E b) t) = true := by
        cases e3 : (bt (nI (rm S t)) b && bt (E b) t)
        · rw [e3, if_neg (by decide)] at b2; exact absurd rfl b2
        · rfl
      rw [hc, if_pos rfl] at b2
      rw [Bool.and_eq_true] at hc
      have hr := rm_lt hS ht hb
      have hlo : lo (rm S t) = lo S := lo_at l1 (by rw [rm_bt hS (by omega) (by omega), l2]; simp; omega) (fun i hi => by rw [rm_bt hS (by omega) (by omega), l3 i hi]; rfl)
      have hr0 : rm S t ≠ 0 := fun e0 => by
        have h9 := hc.1
        rw [e0, nI_0, b_0] at h9; cases h9
      have := ih (rm S t) (by omega) (by omega) hr0 b b1 b2
      rw [hlo] at this
      right
      rcases this with h9 | h9
      · rw [h9] at hc; exact wal_up l1 hc.2 10
      · exact wal_tr 10 (by omega) b (lo S) t b1 l1 h9 (wal_up b1 hc.2 10)
theorem rF_0 (hE : E10 E) {f : Nat} (hf : f < 10) (h : bt (og (rc E)) f = false) : rF E f = 0 := by
  unfold rF
  refine sm_z _ (fun s hs => ?_)
  unfold qn
  refine sm_z _ (fun l hl => ?_)
  cases e : bt (E (f + 1 + l)) f
  · rfl
  · rw [if_pos rfl]
    refine Classical.byContradiction (fun hv => ?_)
    have hS := sh_lt f hf s hs
    have h0 : sh f s ≠ 0 := by
      have : 0 < 2 ^ f := Nat.pow_pos (by omega)
      unfold sh; omega
    have := V_re hE (sh f s + 1) (sh f s) (by omega) hS h0 (f + 1 + l) (by omega) hv
    rw [lo_sh hf hs] at this
    rcases this with h9 | h9
    · omega
    · have : bt (rc E f) f = true := wal_tr 10 (by omega) (f + 1 + l) f f (by omega) hf h9 (wal_up (by omega) e 10)
      rw [og_bt _ hf, this] at h
      cases h
def vCy (E : Nat → Int32) : Int32 := sm 10 (rF E)
theorem vCy_S (hself : ∀ t, t < 10 → bt (E t) t = false) : sm 1024 (fun S => if S = 0 then 0 else gS E S) = vCy E := by
  rw [sm_low _ (if_pos rfl)]
  refine sm_c 10 (fun f hf => ?_)
  refine sm_c _ (fun s hs => ?_)
  have h0 : sh f s ≠ 0 := by
    have : 0 < 2 ^ f := Nat.pow_pos (by omega)
    unfold sh; omega
  show (if sh f s = 0 then 0 else gS E (sh f s)) = _
  rw [if_neg h0, gS_sh hself hf hs]
theorem vCy_C (hE : E10 E) : sm 10 (fun f => if bt (og (rc E)) f = true then rF E f else 0) = vCy E := by
  refine sm_c 10 (fun f hf => ?_)
  cases e : bt (og (rc E)) f
  · rw [if_neg (by decide), rF_0 hE hf e]
  · rw [if_pos rfl]
end CU
theorem ng_self (q : Nat → Int32) {t : Nat} (ht : t < 10) : bt (ng q t) t = false := by
  cases e : bt (ng q t) t
  · rfl
  · rw [ng_bt, Bool.and_eq_true] at e
    exact absurd rfl (wf_th e.2).2.2
