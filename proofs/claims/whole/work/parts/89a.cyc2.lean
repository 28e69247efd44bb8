/-! the class's table of ways -/
theorem pw : ∀ n, n < 10 → ((1 : Int32) <<< (nI n &&& 31)) = nI (2 ^ n) := by decide +kernel
def exF (s : Nat) (ow p : Int32) : Nat → (Nat → Int32) → (Nat → Int32)
  | 0, r => r
  | k + 1, r => if bt (ow &&& (nI s ^^^ (-1))) k = true then upd (exF s ow p k r) (9 * un s k + k) (exF s ow p k r (9 * un s k + k) + p) else exF s ow p k r
theorem exF_s (s : Nat) (ow p : Int32) (k : Nat) (r : Nat → Int32) : exF s ow p (k + 1) r = if bt (ow &&& (nI s ^^^ (-1))) k = true then upd (exF s ow p k r) (9 * un s k + k) (exF s ow p k r (9 * un s k + k) + p) else exF s ow p k r := rfl
theorem exF_at (s : Nat) (ow p : Int32) (r : Nat → Int32) {s' l' : Nat} (hl : l' < 9) : ∀ n, n ≤ 9 → exF s ow p n r (9 * s' + l') = r (9 * s' + l') + (if l' < n ∧ bt (ow &&& (nI s ^^^ (-1))) l' = true ∧ s' = un s l' then p else 0) := by
  intro n
  induction n with
  | zero => intro _; rw [if_neg (by omega), Int32.add_zero]; rfl
  | succ n ih =>
    intro hn
    have h0 := ih (by omega)
    rw [exF_s]
    by_cases eb : bt (ow &&& (nI s ^^^ (-1))) n = true
    · rw [if_pos eb, upd_s]
      by_cases e : 9 * s' + l' = 9 * un s n + n
      · have e1 : l' = n := by omega
        have e2 : s' = un s n := by omega
        rw [if_pos e, ← e, h0, if_neg (by omega), Int32.add_zero, if_pos ⟨by omega, by rw [e1]; exact eb, by rw [e1]; exact e2⟩]
      · rw [if_neg e, h0]
        congr 1
        by_cases c : l' < n ∧ bt (ow &&& (nI s ^^^ (-1))) l' = true ∧ s' = un s l'
        · rw [if_pos c, if_pos ⟨by omega, c.2⟩]
        · rw [if_neg c, if_neg (fun h9 => c ⟨by
            by_cases e1 : l' = n
            · rw [e1] at h9; exfalso; apply e; rw [e1, h9.2.2]
            · omega, h9.2⟩)]
    · rw [if_neg eb, h0]
      congr 1
      by_cases c : l' < n ∧ bt (ow &&& (nI s ^^^ (-1))) l' = true ∧ s' = un s l'
      · rw [if_pos c, if_pos ⟨by omega, c.2⟩]
      · rw [if_neg c, if_neg (fun h9 => c ⟨by
          by_cases e1 : l' = n
          · rw [e1] at h9; exact absurd h9.2.1 eb
          · omega, h9.2⟩)]
theorem un_512 {s k : Nat} (hs : s < 512) (hk : k < 9) : un s k < 512 := by
  have := n_up (un_e (S := s) (t := k) (by omega) (by omega)).1 (n := 9) (fun i h1 h2 => by
    rw [un_bt (by omega) (by omega), n_dn (n := 9) (by omega) h1 (by omega), decide_eq_false (by omega)]; rfl)
  exact this
theorem ex_loop {w s : Nat} (hs : s < 512) (ow p : Int32) (r0 : Nat → Int32) (z : Nat) : ∀ (d k : Nat), k + d = 9 → ∀ (h : AH) (fuel : Nat), d < fuel → kd h w = 13 → ln h w = 4608 → iv h w = exF s ow p k r0 →
    ∃ h', lX7_extend_3 fuel w (nI s) ow p (nI k) z h = some (z, h') ∧ Fq (fun b => b = w) h h' ∧ iv h' w = exF s ow p 9 r0 := by
  intro d
  induction d with
  | zero =>
    intro k hk h fuel hf hkw hlw hv
    obtain rfl : k = 9 := by omega
    cases fuel with
    | zero => omega
    | succ fuel =>
      refine ⟨h, ?_, Fq.rf _ h, hv⟩
      show lX7_extend_3B _ _ _ _ _ _ _ _ = _
      simp (disch := omega) only [lX7_extend_3B, li9, Int32.le_refl, ↓reduceIte]
  | succ d ih =>
    intro k hk h fuel hf hkw hlw hv
    cases fuel with
    | zero => omega
    | succ fuel =>
      have x2 := e8_inSet (ow &&& (nI s ^^^ (-1))) (k := k) (by omega) z h
      have h9 : ((9 : Int32) ≤ nI k) = False := by rw [li9, nI_leE (by omega) (by omega)]; exact eq_false (by omega)
      cases eb : bt (ow &&& (nI s ^^^ (-1))) k
      · rw [eb] at x2
        obtain ⟨h', v1, v2, v3⟩ := ih (k + 1) (by omega) h fuel (by omega) hkw hlw (by rw [exF_s, eb, if_neg (by decide)]; exact hv)
        refine ⟨h', ?_, v2, v3⟩
        rw [← v1]
        show lX7_extend_3B _ _ _ _ _ _ _ _ = _
        simp (disch := omega) only [lX7_extend_3B, bX7_extend_42, ↓reduceIte, h9, ↓bb3 x2, Bool.false_eq_true, nI_1]
      · rw [eb] at x2
        have hu := un_512 hs (k := k) (by omega)
        have ei : (nI s ||| ((1 : Int32) <<< (nI k &&& 31))) * 9 + nI k = nI (9 * un s k + k) := by
          rw [← (un_e (S := s) (t := k) (by omega) (by omega)).2, li9, pk_mul, nI_add, Nat.mul_comm]
        obtain ⟨h', v1, v2, v3⟩ := ih (k + 1) (by omega) (wI h w (9 * un s k + k) (iv h w (9 * un s k + k) + p)) fuel (by omega) hkw hlw (by rw [exF_s, eb, if_pos rfl, iv_wI_self, hv]; rfl)
        refine ⟨h', ?_, (Fq.w (P := fun b => b = w) h _ _ rfl).tr v2, v3⟩
        rw [← v1]
        show lX7_extend_3B _ _ _ _ _ _ _ _ = _
        simp (disch := omega) only [lX7_extend_3B, bX7_extend_42, ↓gd, ↓bl, ↓reduceIte, h9, ↓bb3 x2, ne10, hkw, hlw, ei, nI_negE, nI_clamp, leN_F, or_false, not_false_eq_true, nI_1]
theorem e7_extend {w s : Nat} (hs : s < 512) (ow p : Int32) (y z : Nat) {h : AH} (hkw : kd h w = 13) (hlw : ln h w = 4608) :
    ∃ h', fX7_extend y w (nI s) ow p z h = some (z, h') ∧ Fq (fun b => b = w) h h' ∧ iv h' w = exF s ow p 9 (iv h w) := by
  obtain ⟨h', v1, v2, v3⟩ := ex_loop hs ow p (iv h w) z 9 0 (by omega) h fu (by unfold fu; omega) hkw hlw rfl
  rw [nI_0] at v1
  exact ⟨h', v1, v2, v3⟩
theorem tf : ¬ (true = false) := by decide
section TB
variable {E : Nat → Int32} {f : Nat}
/-- what the table holds while set s is gone through, its last ones below l done -/
def tv (E : Nat → Int32) (f s l s' l' : Nat) : Int32 := if bt (nI s') l' = false then 0 else if rm s' l' = 0 then U E f s' l' else if rm s' l' < s then U E f s' l' else if rm s' l' = s then sm l (fun j => if bt (E (f + 1 + j)) (f + 1 + l') = true then U E f s j else 0) else 0
def TVi (E : Nat → Int32) (f s l : Nat) (r : Nat → Int32) : Prop := ∀ s' l', 1 ≤ s' → s' < 2 ^ (9 - f) → l' < 9 - f → r (9 * s' + l') = tv E f s l s' l'
theorem rm_un {s l : Nat} (hs : s < 1024) (hl : l < 10) (h : bt (nI s) l = false) : rm (un s l) l = s :=
  n_ext (rm_e (un_e hs hl).1 l).1 hs (fun i hi => by
    rw [rm_bt (un_e hs hl).1 (by omega) (by omega), un_bt hs hl]
    by_cases e : i = l
    · rw [e, h]; simp
    · simp [e])
theorem un_rm {s l : Nat} (hs : s < 1024) (hl : l < 10) (h : bt (nI s) l = true) : un (rm s l) l = s :=
  n_ext (un_e (rm_e hs l).1 hl).1 hs (fun i hi => by
    rw [un_bt (rm_e hs l).1 hl, rm_bt hs (by omega) (by omega)]
    by_cases e : i = l
    · rw [e, h]; simp
    · simp [e])
theorem tv_self (hf : f < 10) {s l : Nat} (h1 : 1 ≤ s) (hs : s < 2 ^ (9 - f)) (hl : l < 9 - f) : tv E f s l s l = U E f s l := by
  have := p512 f hf
  unfold tv
  cases e : bt (nI s) l
  · rw [if_pos rfl, U1 hf hs hl e]
  · rw [if_neg (by decide)]
    have := rm_lt (S := s) (t := l) (by omega) (by omega) e
    by_cases e2 : rm s l = 0
    · rw [if_pos e2]
    · rw [if_neg e2, if_pos this]
theorem ow_bt (x : Int32) {f i : Nat} (hf : f < 10) (hi : i < 10) : bt (x >>> (nI (f + 1) &&& 31)) i = bt x (f + 1 + i) := by
  rw [b_sshr (f + 1) (by omega) x (by omega), if_pos (by omega)]
theorem tv_step (hf : f < 10) {s l : Nat} (h1 : 1 ≤ s) (hs : s < 2 ^ (9 - f)) (hl : l < 9 - f) {r : Nat → Int32} (h : TVi E f s l r) : TVi E f s (l + 1) (exF s (E (f + 1 + l) >>> (nI (f + 1) &&& 31)) (U E f s l) 9 r) := by
  have h5 := p512 f hf
  intro s' l' hs1 hs2 hl'
  rw [exF_at _ _ _ _ (by omega) 9 (by omega), h s' l' hs1 hs2 hl']
  have hun : s' = un s l' → bt (nI s) l' = false → rm s' l' = s := fun e1 e2 => by rw [e1]; exact rm_un (by omega) (by omega) e2
  have hcond : (l' < 9 ∧ bt ((E (f + 1 + l) >>> (nI (f + 1) &&& 31)) &&& (nI s ^^^ (-1))) l' = true ∧ s' = un s l') ↔ (bt (E (f + 1 + l)) (f + 1 + l') = true ∧ bt (nI s) l' = false ∧ s' = un s l') := by
    rw [b_and, b_not _ (by omega), ow_bt _ hf (by omega)]
    constructor
    · rintro ⟨_, b, c⟩
      rw [Bool.and_eq_true, Bool.not_eq_true'] at b
      exact ⟨b.1, b.2, c⟩
    · rintro ⟨a, b, c⟩
      exact ⟨by omega, by rw [a, b]; rfl, c⟩
  simp only [hcond]
  unfold tv
  cases e : bt (nI s') l'
  · rw [if_pos rfl, if_pos rfl, if_neg (fun h9 => by
      rw [h9.2.2, un_bt (by omega) (by omega)] at e
      simp at e), Int32.add_zero]
  · rw [if_neg tf, if_neg tf]
    by_cases e0 : rm s' l' = 0
    · rw [if_pos e0, if_pos e0, if_neg (fun h9 => by have := hun h9.2.2 h9.2.1; omega), Int32.add_zero]
    · rw [if_neg e0, if_neg e0]
      by_cases e1 : rm s' l' < s
      · rw [if_pos e1, if_pos e1, if_neg (fun h9 => by have := hun h9.2.2 h9.2.1; omega), Int32.add_zero]
      · rw [if_neg e1, if_neg e1]
        by_cases e2 : rm s' l' = s
        · rw [if_pos e2, if_pos e2, sm_s]
          congr 1
          have es : s' = un s l' := by rw [← e2]; exact (un_rm (by omega) (by omega) e).symm
          have eb : bt (nI s) l' = false := by rw [← e2, rm_bt (by omega) (by omega) (by omega)]; simp
          by_cases e3 : bt (E (f + 1 + l)) (f + 1 + l') = true
          · rw [if_pos ⟨e3, eb, es⟩, if_pos e3]
          · rw [if_neg (fun h9 => e3 h9.1), if_neg e3]
        · rw [if_neg e2, if_neg e2, if_neg (fun h9 => e2 (hun h9.2.2 h9.2.1)), Int32.add_zero]
theorem exF_0 {s : Nat} {ow : Int32} {r : Nat → Int32} {s' l' : Nat} (hl : l' < 9) : exF s ow 0 9 r (9 * s' + l') = r (9 * s' + l') := by
  rw [exF_at _ _ _ _ hl 9 (by omega)]
  split <;> exact Int32.add_zero _
theorem tv_row (hf : f < 10) {s : Nat} (h1 : 1 ≤ s) {r : Nat → Int32} (h : TVi E f s (9 - f) r) : TVi E f (s + 1) 0 r := by
  have h5 := p512 f hf
  intro s' l' hs1 hs2 hl'
  rw [h s' l' hs1 hs2 hl']
  unfold tv
  cases e : bt (nI s') l'
  · rw [if_pos rfl, if_pos rfl]
  · rw [if_neg tf, if_neg tf]
    by_cases e0 : rm s' l' = 0
    · rw [if_pos e0, if_pos e0]
    · rw [if_neg e0, if_neg e0]
      by_cases e1 : rm s' l' < s
      · rw [if_pos e1, if_pos (by omega)]
      · rw [if_neg e1]
        by_cases e2 : rm s' l' = s
        · rw [if_pos e2, if_pos (by omega), U3b hf hs2 hl' e e0, e2]
        · rw [if_neg e2, if_neg (by omega)]
          by_cases e3 : rm s' l' = s + 1
          · rw [if_pos e3]; rfl
          · rw [if_neg e3]
theorem tv_0 (hf : f < 10) {r : Nat → Int32} (h : ∀ j, j < 9 * 2 ^ (9 - f) → r j = 0) : TVi E f 1 0 (exF 0 (E f >>> (nI (f + 1) &&& 31)) 1 9 r) := by
  have h5 := p512 f hf
  intro s' l' hs1 hs2 hl'
  have hr : r (9 * s' + l') = 0 := h _ (by
    have : 9 * (s' + 1) ≤ 9 * 2 ^ (9 - f) := Nat.mul_le_mul_left 9 hs2
    omega)
  rw [exF_at _ _ _ _ (by omega) 9 (by omega), hr, Int32.zero_add, b_and, b_not _ (by omega), ow_bt _ hf (by omega), nI_0, b_0]
  simp only [Bool.not_false, Bool.and_true]
  unfold tv
  cases e : bt (nI s') l'
  · rw [if_pos rfl, if_neg (fun h9 => by
      rw [h9.2.2, un_bt (by omega) (by omega)] at e
      simp at e)]
  · rw [if_neg tf]
    by_cases e0 : rm s' l' = 0
    · have es : s' = un 0 l' := by rw [← e0]; exact (un_rm (by omega) (by omega) e).symm
      rw [if_pos e0, U3a hf hs2 hl' e e0]
      by_cases e3 : bt (E f) (f + 1 + l') = true
      · rw [if_pos ⟨by omega, e3, es⟩, if_pos e3]
      · rw [if_neg (fun h9 => e3 h9.2.1), if_neg e3]
    · have hne : s' ≠ un 0 l' := fun h9 => e0 (by rw [h9]; exact rm_un (by omega) (by omega) (by rw [nI_0, b_0]))
      rw [if_neg (fun h9 => hne h9.2.2), if_neg e0, if_neg (show ¬ rm s' l' < 1 by omega)]
      by_cases e3 : rm s' l' = 1
      · rw [if_pos e3]; rfl
      · rw [if_neg e3]
end TB
/-- the class's object at hand while the rings are counted -/
def RGs (h : AH) (x w : Nat) (E : Nat → Int32) : Prop := DS h x ∧ agr (iv h (x + 36)) E ∧ iv h (x + 35) 2 = og (rc E) ∧ kd h w = 13 ∧ ln h w = 4608 ∧ x + 54 ≤ w
theorem RGs.F {h h' : AH} {x w : Nat} {E : Nat → Int32} (hF : Fq (fun b => b = w) h h') (hG : RGs h x w E) : RGs h' x w E := by
  obtain ⟨g1, g2, g3, g4, g5, g6⟩ := hG
  refine ⟨DS_c hF.1 hF.2.1 g1, by rw [iv_F hF (by omega)]; exact g2, by rw [iv_F hF (by omega)]; exact g3, ?_, ?_, g6⟩
  · rw [show kd h' w = kd h w by unfold kd; rw [hF.1]]; exact g4
  · rw [show ln h' w = ln h w by unfold ln; rw [hF.1]]; exact g5
section RG
variable {x w : Nat} {E : Nat → Int32} {f : Nat}
theorem rg_in (hf : f < 10) {s : Nat} (h1 : 1 ≤ s) (hs : s < 2 ^ (9 - f)) (R : Int32) (qq : Nat → Int32 → Nat → Int32 → Int32 → Int32 → Int32 → Nat → AH → Option (Int32 × Nat × AH)) (z : Nat) : ∀ (d l : Nat), l + d = 9 - f → ∀ (h : AH) (fuel : Nat), d < fuel → RGs h x w E → TVi E f s l (iv h w) →
    ∃ h', lX7_ringsFrom_68 qq fuel (x + 35) (nI f) w (nI (9 - f)) (nI (f + 1)) (R + qn E f s l) (nI s) (nI l) z h = qq (x + 35) (nI f) w (nI (9 - f)) (nI (f + 1)) (R + qn E f s (9 - f)) (nI (s + 1)) z h' ∧ Fq (fun b => b = w) h h' ∧ TVi E f s (9 - f) (iv h' w) := by
  have h5 := p512 f hf
  intro d
  induction d with
  | zero =>
    intro l hl h fuel hfu hG hV
    obtain rfl : l = 9 - f := by omega
    cases fuel with
    | zero => omega
    | succ fuel =>
      refine ⟨h, ?_, Fq.rf _ h, hV⟩
      show lX7_ringsFrom_68B _ _ _ _ _ _ _ _ _ _ _ _ = _
      simp (disch := omega) only [lX7_ringsFrom_68B, Int32.le_refl, ↓reduceIte, nI_1]
  | succ d ih =>
    intro l hl h fuel hfu hG hV
    cases fuel with
    | zero => omega
    | succ fuel =>
      obtain ⟨hD, g2, g3, g4, g5, g6⟩ := id hG
      obtain ⟨d1, d2, d3, d4, d5, d6, d7, d8, d9, d10, d11, d12, d13, d14, d15⟩ := id hD
      have hl9 : l < 9 - f := by omega
      have e1 : (nI (9 - f) ≤ nI l) = False := by rw [nI_leE (by omega) (by omega)]; exact eq_false (by omega)
      have ei : nI s * 9 + nI l = nI (9 * s + l) := by rw [li9, pk_mul, nI_add, Nat.mul_comm]
      have hv : iv h w (9 * s + l) = U E f s l := by rw [hV s l h1 hs hl9]; exact tv_self hf h1 hs hl9
      have hst := tv_step hf h1 hs hl9 hV
      have hqn : qn E f s (l + 1) = qn E f s l + (if bt (E (f + 1 + l)) f = true then U E f s l else 0) := rfl
      by_cases e0 : U E f s l = 0
      · have hV2 : TVi E f s (l + 1) (iv h w) := fun s' l' a b c => by
          have := hst s' l' a b c
          rw [e0, exF_0 (by omega)] at this
          exact this
        obtain ⟨h', v1, v2, v3⟩ := ih (l + 1) (by omega) h fuel (by omega) hG hV2
        refine ⟨h', ?_, v2, v3⟩
        rw [← v1, hqn, e0]
        have ez : (if bt (E (f + 1 + l)) f = true then (0 : Int32) else 0) = 0 := by split <;> rfl
        rw [ez, Int32.add_zero]
        show lX7_ringsFrom_68B _ _ _ _ _ _ _ _ _ _ _ _ = _
        simp (disch := omega) only [lX7_ringsFrom_68B, bX7_ringsFrom_137, ↓gd, ↓bl, ↓reduceIte, e1, g4, g5, ei, nI_negE, nI_clamp, leN_F, or_false, not_false_eq_true, hv, e0, nI_1]
      · have en : nI (f + 1) + nI l = nI (f + 1 + l) := nI_add _ _
        have ev : iv h (x + 36) (f + 1 + l) = E (f + 1 + l) := g2 _ (by omega)
        have x2 := e8_inSet (E (f + 1 + l)) (k := f) (by omega) z h
        obtain ⟨h1', w1, w2, w3⟩ := e7_extend (w := w) (s := s) (by omega) (E (f + 1 + l) >>> (nI (f + 1) &&& 31)) (U E f s l) (x + 35) z g4 g5
        obtain ⟨h', v1, v2, v3⟩ := ih (l + 1) (by omega) h1' fuel (by omega) (hG.F w2) (by rw [w3]; exact hst)
        refine ⟨h', ?_, w2.tr v2, v3⟩
        rw [← v1, hqn, ← Int32.add_assoc]
        show lX7_ringsFrom_68B _ _ _ _ _ _ _ _ _ _ _ _ = _
        cases eb : bt (E (f + 1 + l)) f
        · rw [eb] at x2
          simp (disch := omega) only [lX7_ringsFrom_68B, bX7_ringsFrom_120, bX7_ringsFrom_137, ↓gd, ↓bl, ↓reduceIte, e1, g4, g5, ei, nI_negE, nI_clamp, leN_F, or_false, not_false_eq_true, hv, e0, d9, ↓bb d10, d12, d13, en, ev, ↓bb3 x2, Bool.false_eq_true, ↓bb2 w1, nI_1]
        · rw [eb] at x2
          simp (disch := omega) only [lX7_ringsFrom_68B, bX7_ringsFrom_120, bX7_ringsFrom_137, ↓gd, ↓bl, ↓reduceIte, e1, g4, g5, ei, nI_negE, nI_clamp, leN_F, or_false, not_false_eq_true, hv, e0, d9, ↓bb d10, d12, d13, en, ev, ↓bb3 x2, ne10, ↓bb2 w1, nI_1]
theorem rg_out (hf : f < 10) (z : Nat) : ∀ (d s : Nat), 1 ≤ s → s + d = 2 ^ (9 - f) → ∀ (h : AH) (fuel : Nat), d < fuel → RGs h x w E → TVi E f s 0 (iv h w) →
    ∃ h', lX7_ringsFrom_57 fuel (x + 35) (nI f) w (nI (9 - f)) (nI (f + 1)) (sm s (fun s => qn E f s (9 - f))) (nI s) z h = some (rF E f, z, h') ∧ Fq (fun b => b = w) h h' := by
  have h5 := p512 f hf
  intro d
  induction d with
  | zero =>
    intro s h1 hs h fuel hfu hG hV
    obtain rfl : s = 2 ^ (9 - f) := by omega
    cases fuel with
    | zero => omega
    | succ fuel =>
      refine ⟨h, ?_, Fq.rf _ h⟩
      show lX7_ringsFrom_57B _ _ _ _ _ _ _ _ _ _ = _
      simp (disch := omega) only [lX7_ringsFrom_57B, pw, Int32.le_refl, ↓reduceIte]
      rfl
  | succ d ih =>
    intro s h1 hs h fuel hfu hG hV
    cases fuel with
    | zero => omega
    | succ fuel =>
      obtain ⟨h1', w1, w2, w3⟩ := rg_in (x := x) (w := w) (E := E) hf h1 (by omega) (sm s (fun s => qn E f s (9 - f))) (lX7_ringsFrom_57 fuel) z (9 - f) 0 (by omega) h fu (by unfold fu; omega) hG hV
      rw [show qn E f s 0 = 0 from rfl, Int32.add_zero, nI_0] at w1
      obtain ⟨h', v1, v2⟩ := ih (s + 1) (by omega) (by omega) h1' fuel (by omega) (hG.F w2) (tv_row hf h1 w3)
      refine ⟨h', ?_, w2.tr v2⟩
      rw [sm_s] at v1
      have e1 : (nI (2 ^ (9 - f)) ≤ nI s) = False := by rw [nI_leE (by omega) (by omega)]; exact eq_false (by omega)
      show lX7_ringsFrom_57B _ _ _ _ _ _ _ _ _ _ = _
      simp (disch := omega) only [lX7_ringsFrom_57B, pw, e1, ↓reduceIte]
      rw [w1, v1]
theorem rg_zero (hf : f < 10) (z : Nat) : ∀ (d k : Nat), k + d = 9 * 2 ^ (9 - f) → ∀ (h : AH) (fuel : Nat), d < fuel → RGs h x w E → (∀ j, j < k → iv h w j = 0) →
    ∃ h', lX7_ringsFrom_13 fuel (x + 35) (nI f) w (nI (9 - f)) (nI (f + 1)) (nI k) z h = some (rF E f, z, h') ∧ Fq (fun b => b = w) h h' := by
  have h5 := p512 f hf
  have hp : 0 < 2 ^ (9 - f) := Nat.pow_pos (by omega)
  intro d
  induction d with
  | zero =>
    intro k hk h fuel hfu hG h0
    obtain rfl : k = 9 * 2 ^ (9 - f) := by omega
    cases fuel with
    | zero => omega
    | succ fuel =>
      obtain ⟨hD, g2, g3, g4, g5, g6⟩ := id hG
      obtain ⟨d1, d2, d3, d4, d5, d6, d7, d8, d9, d10, d11, d12, d13, d14, d15⟩ := id hD
      obtain ⟨h1', w1, w2, w3⟩ := e7_extend (w := w) (s := 0) (by omega) (E f >>> (nI (f + 1) &&& 31)) 1 (x + 35) z g4 g5
      have hV : TVi E f 1 0 (iv h1' w) := by rw [w3]; exact tv_0 hf h0
      obtain ⟨h', v1, v2⟩ := rg_out (x := x) (w := w) (E := E) hf z (2 ^ (9 - f) - 1) 1 (by omega) (by omega) h1' fu (by unfold fu; omega) (hG.F w2) hV
      have es : sm 1 (fun s => qn E f s (9 - f)) = 0 := by
        rw [sm_s]
        show 0 + qn E f 0 (9 - f) = 0
        unfold qn
        rw [sm_z _ (fun j hj => by rw [U30 hf hj]; simp)]; rfl
      rw [es] at v1
      refine ⟨h', ?_, w2.tr v2⟩
      have ev : iv h (x + 36) f = E f := g2 _ hf
      have e9 : nI (2 ^ (9 - f)) * 9 = nI (9 * 2 ^ (9 - f)) := by rw [li9, pk_mul, Nat.mul_comm]
      rw [nI_0] at w1
      show lX7_ringsFrom_13B _ _ _ _ _ _ _ _ _ = _
      simp (disch := omega) only [lX7_ringsFrom_13B, ↓gd, ↓reduceIte, pw, e9, Int32.le_refl, d9, ↓bb d10, d12, d13, nI_negE, nI_clamp, leN_F, or_false, not_false_eq_true, ev, ↓bb2 w1]
      exact v1
  | succ d ih =>
    intro k hk h fuel hfu hG h0
    cases fuel with
    | zero => omega
    | succ fuel =>
      obtain ⟨hD, g2, g3, g4, g5, g6⟩ := id hG
      have hF : Fq (fun b => b = w) h (wI h w k 0) := Fq.w h _ _ rfl
      obtain ⟨h', v1, v2⟩ := ih (k + 1) (by omega) (wI h w k 0) fuel (by omega) (hG.F hF) (fun j hj => by
        rw [iv_wI, if_pos rfl]
        by_cases e : j = k
        · rw [if_pos e]
        · rw [if_neg e]; exact h0 j (by omega))
      refine ⟨h', ?_, hF.tr v2⟩
      rw [← v1]
      have e9 : nI (2 ^ (9 - f)) * 9 = nI (9 * 2 ^ (9 - f)) := by rw [li9, pk_mul, Nat.mul_comm]
      have e1 : (nI (9 * 2 ^ (9 - f)) ≤ nI k) = False := by rw [nI_leE (by omega) (by omega)]; exact eq_false (by omega)
      show lX7_ringsFrom_13B _ _ _ _ _ _ _ _ _ = _
      simp (disch := omega) only [lX7_ringsFrom_13B, ↓gd, ↓bl, ↓reduceIte, pw, e9, e1, g4, g5, nI_negE, nI_clamp, leN_F, or_false, not_false_eq_true, nI_1]
theorem e7_ringsFrom (hf : f < 10) (z : Nat) {h : AH} (hG : RGs h x w E) : ∃ h', fX7_ringsFrom (x + 35) (nI f) w z h = some (rF E f, z, h') ∧ Fq (fun b => b = w) h h' := by
  have h5 := p512 f hf
  obtain ⟨h', v1, v2⟩ := rg_zero (x := x) (w := w) (E := E) hf z (9 * 2 ^ (9 - f)) 0 (by omega) h fu (by unfold fu; omega) hG (fun j hj => by omega)
  refine ⟨h', ?_, v2⟩
  have e1 : (9 : Int32) - nI f = nI (9 - f) := by rw [li9, pk_sub (by omega)]
  rw [nI_0] at v1
  simp (disch := omega) only [fX7_ringsFrom, ↓bl, e1, nI_1]
  exact v1
theorem cr_33 (z : Nat) : ∀ (d k : Nat), k + d = 10 → ∀ (h : AH) (fuel : Nat), d < fuel → RGs h x w E →
    ∃ h', lX7_countRings_33 fuel (x + 35) w (sm k (fun f => if bt (og (rc E)) f = true then rF E f else 0)) (nI k) z h = some (sm 10 (fun f => if bt (og (rc E)) f = true then rF E f else 0), z, h') ∧ Fq (fun b => b = w) h h' := by
  intro d
  induction d with
  | zero =>
    intro k hk h fuel hfu hG
    obtain rfl : k = 10 := by omega
    cases fuel with
    | zero => omega
    | succ fuel =>
      refine ⟨h, ?_, Fq.rf _ h⟩
      show lX7_countRings_33B _ _ _ _ _ _ _ = _
      simp (disch := omega) only [lX7_countRings_33B, li10, Int32.le_refl, ↓reduceIte]
  | succ d ih =>
    intro k hk h fuel hfu hG
    cases fuel with
    | zero => omega
    | succ fuel =>
      have d9 : kd h (x + 35) = 8 := hG.1.2.2.2.2.2.2.2.2.1
      have g3 := hG.2.2.1
      have x2 := e8_inSet (og (rc E)) (k := k) (by omega) z h
      show ∃ h', lX7_countRings_33B _ _ _ _ _ _ _ = _ ∧ _
      cases eb : bt (og (rc E)) k
      · rw [eb] at x2
        obtain ⟨h', v1, v2⟩ := ih (k + 1) (by omega) h fuel (by omega) hG
        rw [sm_s, eb, if_neg (by decide), Int32.add_zero] at v1
        refine ⟨h', ?_, v2⟩
        simp (disch := omega) only [lX7_countRings_33B, bX7_countRings_59, ↓gd, ↓bl, ↓on, ↓xr, ↓reduceIte, if_true, if_false, kd_wI, ln_wI, rv_wI, iv_wI, jv_wI, kd_wJ, ln_wJ, rv_wJ, iv_wJ, nI_clamp, nI_leE, nI_ltE, nI_eqE, m1_ne, bit_0, bit_1, nI_negE, leN_F, leN_T, ltN_F, ltN_T, eqN_F, or_false, false_or, or_true, true_or, not_false_eq_true, not_true_eq_false, and_true, true_and, and_false, false_and, li10, d9, g3, ↓bb3 x2, Bool.false_eq_true, nI_1]
        exact v1
      · rw [eb] at x2
        obtain ⟨h1', w1, w2⟩ := e7_ringsFrom (f := k) (by omega) z hG
        obtain ⟨h', v1, v2⟩ := ih (k + 1) (by omega) h1' fuel (by omega) (hG.F w2)
        rw [sm_s, eb, if_pos rfl] at v1
        refine ⟨h', ?_, w2.tr v2⟩
        simp (disch := omega) only [lX7_countRings_33B, bX7_countRings_59, ↓gd, ↓bl, ↓on, ↓xr, ↓reduceIte, if_true, if_false, kd_wI, ln_wI, rv_wI, iv_wI, jv_wI, kd_wJ, ln_wJ, rv_wJ, iv_wJ, nI_clamp, nI_leE, nI_ltE, nI_eqE, m1_ne, bit_0, bit_1, nI_negE, leN_F, leN_T, ltN_F, ltN_T, eqN_F, or_false, false_or, or_true, true_or, not_false_eq_true, not_true_eq_false, and_true, true_and, and_false, false_and, li10, d9, g3, ↓bb3 x2, ne10, ↓bb3 w1, nI_1]
        exact v1
theorem cr_29 (hE : E10 E) (z : Nat) {h : AH} (hG : RGs h x w E) : ∃ h', bX7_countRings_29 (x + 35) w z h = some (vCy E, z, h') ∧ Fq (fun b => b = w) h h' := by
  obtain ⟨h', v1, v2⟩ := cr_33 z 10 0 (by omega) h fu (by unfold fu; omega) hG
  rw [nI_0, vCy_C hE] at v1
  exact ⟨h', v1, v2⟩
end RG
theorem CI_w {h h' : AH} {x z w : Nat} {A : TS} {B : Nat} (hT : TI A B) (hC : CI h x z A) (hw : rv h (x + 35) 3 = some w) (hF : Fq (fun b => b = w) h h') : CI h' x z A ∧ FK x h h' := by
  obtain ⟨u, H, T⟩ := A
  obtain ⟨w1, w2, w3, w4, w5⟩ := hC.2.2.2.1.2.2 w hw
  have hL : CL h' x u := CL_x hT.W (fun b hb => sc.fq hF (by omega)) hC.2.2.1
  have hH : HI h' x H := by
    obtain ⟨c7, c8, c9⟩ := hC.2.2.2.2.1
    refine ⟨by rw [iv_F hF (by omega)]; exact c7, c8, fun i r hr => ?_⟩
    obtain ⟨a, ha, hCB⟩ := c9 i r hr
    have hi : i < 5 := by
      have h9 : i < H.length := (List.getElem?_eq_some_iff.mp hr).1
      have h8 : H.length ≤ 5 := c8
      omega
    obtain ⟨a1, a2, -⟩ := hC.2.2.2.1.1 i a hi ha
    have ap := w5 i a hi ha
    refine ⟨a, ?_, CB_x (hT.H r (List.mem_of_getElem? hr)) (fun b hb => sc.fq hF (by omega)) hCB⟩
    have : rv h' (x + 40) = rv h (x + 40) := by unfold rv; rw [hF.2.1]
    rw [this]; exact ha
  have hX : TX h' x T := TX_x (iv_F hF (by omega)) (iv_F hF (by omega)) hC.2.2.2.2.2.1
  exact ⟨CI_s hF.1 hF.2.1 hC hL hH hX, fun b h1 h2 => sc.fq hF (by omega)⟩
/-- the table is made -/
theorem CI_nw {h : AH} {x z : Nat} {A : TS} {B : Nat} (hT : TI A B) (hC : CI h x z A) : CI (wR (wNew h z 13 4608) (x + 35) 3 (some z)) x (z + 1) A ∧ FK x h (wR (wNew h z 13 4608) (x + 35) 3 (some z)) := by
  obtain ⟨u, H, T⟩ := A
  have hz : x + 54 ≤ z := hC.2.2.2.2.2.2
  generalize hg : wNew h z 13 4608 = g
  have hsc : ∀ b, b ≠ z → sc h g b := fun b hb => by rw [← hg]; exact sc.wN h _ _ hb
  have hCg : CI g x (z + 1) (u, H, T) := CI_x hT.W hT.H (by omega) (fun b hb => hsc b (by omega)) hC
  have kz : kd g z = 13 := by rw [← hg, kd_wN, if_pos rfl]
  have lz : ln g z = 4608 := by rw [← hg, ln_wN, if_pos rfl]
  obtain ⟨c1, c2, c3, ⟨c4, c5, c6⟩, ⟨c7, c8, c9⟩, c10, c13⟩ := id hCg
  have hsw : ∀ b, b ≠ x + 35 → sc g (wR g (x + 35) 3 (some z)) b := fun b hb => sc.wR g _ _ hb
  have e40 : rv (wR g (x + 35) 3 (some z)) (x + 40) = rv g (x + 40) := sc_rv (hsw (x + 40) (by omega))
  refine ⟨⟨?_, BO_x (fun b hb => hsw b (by omega)) c2, ⟨⟨?_, CB_x hT.W (fun b hb => hsw b (by omega)) c3.1.2.1, c3.1.2.2⟩, c3.2⟩, ⟨fun i a hi ha => ?_, fun i j a b hi hj hij ha hb => ?_, fun w hw => ?_⟩, ⟨c7, c8, fun i r hr => ?_⟩, TX_x rfl rfl c10, c13⟩, fun b h1 h2 => (hsc b (by omega)).tr (hsw b (by omega))⟩
  · unfold CO at c1 ⊢
    simp (disch := omega) only [kd_wR, ln_wR, rv_wR, eqN_F, if_false]
    exact c1
  · have hD := c3.1.1
    unfold DS at hD ⊢
    simp (disch := omega) only [kd_wR, ln_wR, rv_wR, eqN_F, if_false, if_true]
    exact hD
  · rw [e40] at ha
    obtain ⟨a1, a2, a3⟩ := c4 i a hi ha
    exact ⟨a1, a2, BO_x (fun b hb => hsw b (by omega)) a3⟩
  · rw [e40] at ha hb
    exact c5 i j a b hi hj hij ha hb
  · rw [rv_wR, if_pos rfl, if_pos rfl] at hw
    obtain rfl := Option.some.inj hw
    refine ⟨hz, Nat.le_refl _, kz, lz, fun i a hi ha => ?_⟩
    rw [e40, sc_rv (hsc (x + 40) (by omega))] at ha
    have := hC.2.2.2.1.1 i a hi ha
    omega
  · obtain ⟨a, ha, hCB⟩ := c9 i r hr
    have hi : i < 5 := by
      have h9 : i < H.length := (List.getElem?_eq_some_iff.mp hr).1
      have h8 : H.length ≤ 5 := c8
      omega
    obtain ⟨a1, a2, -⟩ := c4 i a hi ha
    exact ⟨a, by rw [e40]; exact ha, CB_x (hT.H r (List.mem_of_getElem? hr)) (fun b hb => hsw b (by omega)) hCB⟩
theorem vCy_0 {E : Nat → Int32} (hE : E10 E) (h : og (rc E) = 0) : vCy E = 0 := by
  rw [← vCy_C hE]
  exact sm_z 10 (fun f hf => by rw [h, b_0]; rfl)
theorem c_cycles {h : AH} {x z : Nat} {A : TS} {B : Nat} (hC : CI h x z A) (hT : TI A B) : CP (fX8_cycles x z h) h x z (vCy (ng A.1.1.1), A) := by
  obtain ⟨h', v1, v2, v3, v4⟩ := c_read hC hT
  have hD := v2.2.2.1.1.1
  have d5 : kd h (x + 35) = 8 := hC.2.2.1.1.1.2.2.2.2.2.2.2.2.1
  have g5 : kd h' (x + 35) = 8 := hD.2.2.2.2.2.2.2.2.1
  have g2 : iv h' (x + 35) 2 = og (rc (ng A.1.1.1)) := v4.2.2
  have key : ∃ z2 h2, fX7_countRings (x + 35) z h' = some (vCy (ng A.1.1.1), z2, h2) ∧ z ≤ z2 ∧ CI h2 x z2 A ∧ FK x h' h2 := by
    by_cases e0 : og (rc (ng A.1.1.1)) = 0
    · refine ⟨z, h', ?_, Nat.le_refl _, v2, FK.rf x h'⟩
      rw [vCy_0 (ng_10 _) e0]
      simp (disch := omega) only [fX7_countRings, ↓gd, ↓reduceIte, g5, g2, e0]
    · cases hw : rv h' (x + 35) 3 with
      | some w =>
        obtain ⟨w1, w2, w3, w4, w5⟩ := v2.2.2.2.1.2.2 w hw
        obtain ⟨h2, y1, y2⟩ := cr_29 (x := x) (ng_10 A.1.1.1) z (h := h') (w := w) ⟨hD, v4.1, v4.2.2, w3, w4, w1⟩
        obtain ⟨k1, k2⟩ := CI_w hT v2 hw y2
        refine ⟨z, h2, ?_, Nat.le_refl _, k1, k2⟩
        simp (disch := omega) only [fX7_countRings, ↓gd, ↓reduceIte, g5, g2, e0, hw, ↓on]
        exact y1
      | none =>
        obtain ⟨k1, k2⟩ := CI_nw hT v2
        have hz : x + 54 ≤ z := hC.2.2.2.2.2.2
        generalize hg : wR (wNew h' z 13 4608) (x + 35) 3 (some z) = g at k1 k2
        have hgi : ∀ b, b ≠ z → iv g b = iv h' b := fun b hb => by rw [← hg, iv_wR]; exact sc_iv (sc.wN h' _ _ hb)
        have hwz : rv g (x + 35) 3 = some z := by rw [← hg, rv_wR, if_pos rfl, if_pos rfl]
        have kz : kd g z = 13 := by rw [← hg, kd_wR, kd_wN, if_pos rfl]
        have lz : ln g z = 4608 := by rw [← hg, ln_wR, ln_wN, if_pos rfl]
        obtain ⟨h2, y1, y2⟩ := cr_29 (x := x) (ng_10 A.1.1.1) (z + 1) (h := g) (w := z) ⟨k1.2.2.1.1.1, by rw [hgi _ (by omega)]; exact v4.1, by rw [hgi _ (by omega)]; exact v4.2.2, kz, lz, hz⟩
        obtain ⟨l1, l2⟩ := CI_w hT k1 hwz y2
        refine ⟨z + 1, h2, ?_, by omega, l1, k2.tr l2⟩
        have g6 : kd (wNew h' z 13 4608) (x + 35) = 8 := by rw [kd_wN, if_neg (by omega)]; exact g5
        simp (disch := omega) only [fX7_countRings, ↓gd, ↓bl, ↓reduceIte, g5, g2, e0, hw, ↓on, g6, hg]
        exact y1
  obtain ⟨z2, h2, n1, n2, n3, n4⟩ := key
  refine ⟨z2, h2, ?_, n2, n3, v3.tr n4⟩
  have hC1 := v2
  obtain ⟨o1, o2, o3, o4, o5, o6, o7, o8, o9, o10, o11, o12, o13, o14, o15, o16⟩ := id hC.1
  have hB := hC.2.2.1.1.2.1.1
  have u1 := hB.1
  have u2 := hB.2.1
  have u3 := hB.2.2.2.2.2.2.2.2.2.1
  have u4 := hC.2.2.1.1.1.1
  obtain ⟨p1, p2, p3, p4, p5, p6, p7, p8, p9, p10, p11, p12, p13, p14, p15, p16⟩ := id hC1.1
  have hB1 := hC1.2.2.1.1.2.1.1
  have y1 := hB1.1
  have y2 := hB1.2.1
  have y3 := hB1.2.2.2.2.2.2.2.2.2.1
  have y4 := hC1.2.2.1.1.1.1
  simp (disch := omega) only [fX8_cycles, ↓gd, ↓bl, ↓xr, ↓reduceIte, o1, ↓bb o2, ↓bb o3, ↓bb o4, ↓bb o5, ↓bb o6, ↓bb o7, ↓bb o8, o9, ↓bb o10, o11, o12, o13, ↓bb o14, o15, o16, u1, ↓bb u2, u3, u4, d5, ↓bb2 v1, p1, ↓bb p2, ↓bb p3, ↓bb p4, ↓bb p5, ↓bb p6, ↓bb p7, ↓bb p8, p9, ↓bb p10, p11, p12, p13, ↓bb p14, p15, p16, y1, ↓bb y2, y3, y4, g5, ↓bb3 n1]
