/-! the law -/
def INV (h : AH) (x z : Nat) (A : TS) (B : Nat) : Prop := CI h x z A ∧ RI h (x + 43) A ∧ (kd h (x + 53) = 14 ∧ ln h (x + 53) = 1) ∧ TI A B
theorem FK_RI {h h' : AH} {x : Nat} {A : TS} (hF : FK x h h') (hR : RI h (x + 43) A) : RI h' (x + 43) A := RI_x (fun b hb => hF b (by omega) (by omega)) hR
theorem CI_PR {h h' : AH} {x z : Nat} {A : TS} {B : Nat} (hT : TI A B) (hF : Fq (PR (x + 43)) h h') (hC : CI h x z A) : CI h' x z A := CI_x hT.W hT.H (Nat.le_refl _) (fun b hb => sc.fq hF (by unfold PR; omega)) hC
/-- behind the class's call, its answer laid out -/
def LPs (h : AH) (x z : Nat) (A : TS) (o : Nat × Int32 × TS) : Prop := CI h x z o.2.2 ∧ RI h (x + 43) A ∧ (kd h (x + 53) = 14 ∧ ln h (x + 53) = 1) ∧ (o.1 = 0 → jv h (x + 53) 0 = Int32.toInt64 o.2.1)
theorem lg_self (y : Int64) : lg_cmp y y = 0 := by
  unfold lg_cmp
  rw [if_neg (Int64.lt_irrefl), if_pos rfl]
theorem n00 {n : Nat} (h : n = 1) : ¬ ((0 : Int32) < 0 ∨ n ≤ Int32.toNatClampNeg 0) := by subst h; decide
theorem c00 : Int32.toNatClampNeg 0 = 0 := by decide
theorem LPs_w {h h1 : AH} {x z z1 : Nat} {A : TS} {B C : Nat} {o : Nat × Int32 × TS} (I : INV h x z A B) (hT : TI o.2.2 C) (hC : CI h1 x z1 o.2.2) (hF : FK x h h1) : LPs (wJ h1 (x + 53) 0 (Int32.toInt64 o.2.1)) x z1 A o := by
  have e53 := hF (x + 53) (by omega) (by omega)
  refine ⟨CI_x hT.W hT.H (Nat.le_refl _) (fun b hb => sc.wJ h1 _ _ (by omega)) hC, RI_x (fun b hb => sc.wJ h1 _ _ (by omega)) (FK_RI hF I.2.1), ⟨?_, ?_⟩, fun _ => by rw [jv_wJ, if_pos rfl, if_pos rfl]⟩
  · exact (sc_kd e53).trans I.2.2.1.1
  · exact (sc_ln e53).trans I.2.2.1.2
theorem LPs_n {h h1 : AH} {x z z1 : Nat} {A : TS} {B : Nat} {o : Nat × Int32 × TS} (I : INV h x z A B) (hC : CI h1 x z1 o.2.2) (hF : FK x h h1) (h0 : o.1 ≠ 0) : LPs h1 x z1 A o := by
  have e53 := hF (x + 53) (by omega) (by omega)
  exact ⟨hC, FK_RI hF I.2.1, ⟨(sc_kd e53).trans I.2.2.1.1, (sc_ln e53).trans I.2.2.1.2⟩, fun h9 => absurd h9 h0⟩
theorem L2 {f : Option ((Int32 ⊕ String) × Nat × AH)} {h : AH} {x z : Nat} {A : TS} {B C : Nat} {o : Nat × Int32 × TS} {E1 E2 : String} (hne : E2 ≠ E1) (I : INV h x z A B) (hc : CC f h x z o E1 E2) (h2 : o.1 ≤ 2) (hT : TI o.2.2 C) :
    ∃ z1 h1, bd3 f (fun vo2 zo2 ho2h => xr vo2 (fun v3 => gd (kd ho2h (x + 53) = 14) (gd (¬ ((0 : Int32) < 0 ∨ ln ho2h (x + 53) ≤ Int32.toNatClampNeg 0)) (bl (wJ ho2h (x + 53) (Int32.toNatClampNeg 0) (Int32.toInt64 v3)) (fun h7 => some ((0 : Int32), zo2, h7))))) (fun x4 => (if x4 = E1 then (some (1, zo2, ho2h)) else (if x4 = E2 then (some (2, zo2, ho2h)) else (none))))) = some (nI o.1, z1, h1) ∧ LPs h1 x z1 A o := by
  obtain ⟨z1, h1, hf, hz, hC, hF⟩ := hc
  have e53 := hF (x + 53) (by omega) (by omega)
  have k53 : kd h1 (x + 53) = 14 := (sc_kd e53).trans I.2.2.1.1
  have l53 : ln h1 (x + 53) = 1 := (sc_ln e53).trans I.2.2.1.2
  by_cases e0 : o.1 = 0
  · refine ⟨z1, wJ h1 (x + 53) 0 (Int32.toInt64 o.2.1), ?_, LPs_w I hT hC hF⟩
    have hf : f = some (.inl o.2.1, z1, h1) := by rw [hf, e0]; rfl
    rw [bb3 hf, e0]
    show gd _ (gd _ _) = _
    rw [gd_t k53, gd_t (n00 l53)]
    rfl
  · by_cases e1 : o.1 = 1
    · refine ⟨z1, h1, ?_, LPs_n I hC hF e0⟩
      have hf : f = some (.inr E1, z1, h1) := by rw [hf, e1]; rfl
      rw [bb3 hf, e1]
      show (if E1 = E1 then _ else _) = _
      rw [if_pos rfl]; rfl
    · refine ⟨z1, h1, ?_, LPs_n I hC hF e0⟩
      have e2 : o.1 = 2 := by omega
      have hf : f = some (.inr E2, z1, h1) := by rw [hf, e2]; rfl
      rw [bb3 hf, e2]
      show (if E2 = E1 then _ else _) = _
      rw [if_neg hne, if_pos rfl]; rfl
theorem L1 {f : Option ((Int32 ⊕ String) × Nat × AH)} {h : AH} {x z : Nat} {A : TS} {B C : Nat} {o : Nat × Int32 × TS} {E1 E2 : String} (I : INV h x z A B) (hc : CC f h x z o E1 E2) (h2 : o.1 ≤ 1) (hT : TI o.2.2 C) :
    ∃ z1 h1, bd3 f (fun vo2 zo2 ho2h => xr vo2 (fun v3 => gd (kd ho2h (x + 53) = 14) (gd (¬ ((0 : Int32) < 0 ∨ ln ho2h (x + 53) ≤ Int32.toNatClampNeg 0)) (bl (wJ ho2h (x + 53) (Int32.toNatClampNeg 0) (Int32.toInt64 v3)) (fun h7 => some ((0 : Int32), zo2, h7))))) (fun x4 => (if x4 = E1 then (some (1, zo2, ho2h)) else (none)))) = some (nI o.1, z1, h1) ∧ LPs h1 x z1 A o := by
  obtain ⟨z1, h1, hf, hz, hC, hF⟩ := hc
  have e53 := hF (x + 53) (by omega) (by omega)
  have k53 : kd h1 (x + 53) = 14 := (sc_kd e53).trans I.2.2.1.1
  have l53 : ln h1 (x + 53) = 1 := (sc_ln e53).trans I.2.2.1.2
  by_cases e0 : o.1 = 0
  · refine ⟨z1, wJ h1 (x + 53) 0 (Int32.toInt64 o.2.1), ?_, LPs_w I hT hC hF⟩
    have hf : f = some (.inl o.2.1, z1, h1) := by rw [hf, e0]; rfl
    rw [bb3 hf, e0]
    show gd _ (gd _ _) = _
    rw [gd_t k53, gd_t (n00 l53)]
    rfl
  · have e1 : o.1 = 1 := by omega
    refine ⟨z1, h1, ?_, LPs_n I hC hF e0⟩
    have hf : f = some (.inr E1, z1, h1) := by rw [hf, e1]; rfl
    rw [bb3 hf, e1]
    show (if E1 = E1 then _ else _) = _
    rw [if_pos rfl]; rfl
theorem Lov {f : Option ((Int32 ⊕ String) × Nat × AH)} {h : AH} {x z : Nat} {A : TS} {B C : Nat} {o : Nat × Int32 × TS} {E1 E2 : String} (I : INV h x z A B) (hc : CC f h x z o E1 E2) (h2 : o.1 ≤ 1) (h01 : o.2.1 = 0 ∨ o.2.1 = 1) (hT : TI o.2.2 C) :
    ∃ z1 h1, bd3 f (fun vo2 zo2 ho2h => xr vo2 (fun v3 => (if v3 = 0 then (gd (kd ho2h (x + 53) = 14) (gd (¬ ((0 : Int32) < 0 ∨ ln ho2h (x + 53) ≤ Int32.toNatClampNeg 0)) (bl (wJ ho2h (x + 53) (Int32.toNatClampNeg 0) 0) (fun h8 => some ((0 : Int32), zo2, h8))))) else (gd (kd ho2h (x + 53) = 14) (gd (¬ ((0 : Int32) < 0 ∨ ln ho2h (x + 53) ≤ Int32.toNatClampNeg 0)) (bl (wJ ho2h (x + 53) (Int32.toNatClampNeg 0) 1) (fun h11 => some ((0 : Int32), zo2, h11))))))) (fun x4 => (if x4 = E1 then (some (1, zo2, ho2h)) else (none)))) = some (nI o.1, z1, h1) ∧ LPs h1 x z1 A o := by
  obtain ⟨z1, h1, hf, hz, hC, hF⟩ := hc
  have e53 := hF (x + 53) (by omega) (by omega)
  have k53 : kd h1 (x + 53) = 14 := (sc_kd e53).trans I.2.2.1.1
  have l53 : ln h1 (x + 53) = 1 := (sc_ln e53).trans I.2.2.1.2
  by_cases e0 : o.1 = 0
  · refine ⟨z1, wJ h1 (x + 53) 0 (Int32.toInt64 o.2.1), ?_, LPs_w I hT hC hF⟩
    have hf : f = some (.inl o.2.1, z1, h1) := by rw [hf, e0]; rfl
    rw [bb3 hf, e0]
    show (if o.2.1 = 0 then _ else _) = _
    rcases h01 with e | e
    · rw [if_pos e, gd_t k53, gd_t (n00 l53), e]
      rfl
    · rw [if_neg (by rw [e]; decide), gd_t k53, gd_t (n00 l53), e]
      rfl
  · have e1 : o.1 = 1 := by omega
    refine ⟨z1, h1, ?_, LPs_n I hC hF e0⟩
    have hf : f = some (.inr E1, z1, h1) := by rw [hf, e1]; rfl
    rw [bb3 hf, e1]
    show (if E1 = E1 then _ else _) = _
    rw [if_pos rfl]; rfl
/-- both calls, and the law's comparison -/
theorem opC0 {fl : Option (Int32 × Nat × AH)} {g : Nat → AH → Option (Int32 × Nat × AH)} {h1 : AH} {x z1 : Nat} {A : TS} {C : Nat} {o : Nat × Int32 × TS} (hl : fl = some (nI o.1, z1, h1)) (hP : LPs h1 x z1 A o) (hr : ∀ z h, RI h (x + 43) A → RR (g z h) h (x + 43) z o) (hT : TI o.2.2 C) :
    ∃ v h2, g z1 h1 = some (v, z1, h2) ∧ (o.1 = 0 → v = o.2.1) ∧ kd h2 (x + 43) = 10 ∧ fX9_thrown (x + 43) z1 h2 = some (nI o.1, z1, h2) ∧ (o.1 = 0 → jv h2 (x + 53) 0 = Int32.toInt64 v) ∧ INV h2 x z1 o.2.2 C := by
  obtain ⟨p1, p2, p3, p4⟩ := hP
  obtain ⟨v, h2, r1, r2, r3, r4, r5⟩ := hr z1 h1 p2
  have e53 : sc h1 h2 (x + 53) := sc.fq r4 (by unfold PR; omega)
  refine ⟨v, h2, r1, r2, r3.1.1, ?_, fun e => ?_, CI_PR hT r4 p1, r3, ⟨(sc_kd e53).trans p3.1, (sc_ln e53).trans p3.2⟩, hT⟩
  · unfold fX9_thrown
    rw [gd_t r3.1.1, r5]
  · rw [sc_jv e53, p4 e, r2 e]
theorem opC {fl : Option (Int32 × Nat × AH)} {g : Nat → AH → Option (Int32 × Nat × AH)} {h1 : AH} {x z1 : Nat} {A : TS} {C : Nat} {o : Nat × Int32 × TS} (h2 : o.1 ≤ 2) (hl : fl = some (nI o.1, z1, h1)) (hP : LPs h1 x z1 A o) (hr : ∀ z h, RI h (x + 43) A → RR (g z h) h (x + 43) z o) (hT : TI o.2.2 C) (K : Nat → AH → Option Unit) :
    ∃ z2 h2, bd3 fl (fun vo5 zo5 ho5h => gd (kd ho5h (x + 43) = 10) (bd3 (g zo5 ho5h) (fun vo8 zo8 ho8h => gd (kd ho8h (x + 43) = 10) (bd3 (fX9_thrown (x + 43) zo8 ho8h) (fun vo10 zo10 ho10h => (if vo10 = vo5 then ((if vo5 = 0 then (gd (kd ho10h (x + 53) = 14) (gd (¬ ((0 : Int32) < 0 ∨ ln ho10h (x + 53) ≤ Int32.toNatClampNeg 0)) ((if (lg_cmp (jv ho10h (x + 53) (Int32.toNatClampNeg 0)) (Int32.toInt64 vo8)) = 0 then (K zo10 ho10h) else (none))))) else (K zo10 ho10h))) else (none))))))) = K z2 h2 ∧ INV h2 x z2 o.2.2 C := by
  obtain ⟨v, h2', r1, r2, r3, r4, r5, r6⟩ := opC0 (g := g) hl hP hr hT
  refine ⟨z1, h2', ?_, r6⟩
  rw [bb3 hl, gd_t hP.2.1.1.1, bb3 r1, gd_t r3, bb3 r4, if_pos rfl]
  by_cases e : o.1 = 0
  · rw [if_pos (by rw [e]; rfl), gd_t r6.2.2.1.1, gd_t (n00 r6.2.2.1.2), c00, r5 e, lg_self, if_pos rfl]
  · rw [if_neg (by rw [nI_0E (by omega)]; exact e)]
theorem opV {fl : Option (Int32 × Nat × AH)} {g : Nat → AH → Option (Int32 × Nat × AH)} {h1 : AH} {x z1 : Nat} {A : TS} {C : Nat} {o : Nat × Int32 × TS} (h2 : o.1 ≤ 2) (h01 : o.2.1 = 0 ∨ o.2.1 = 1) (hl : fl = some (nI o.1, z1, h1)) (hP : LPs h1 x z1 A o) (hr : ∀ z h, RI h (x + 43) A → RR (g z h) h (x + 43) z o) (hT : TI o.2.2 C) (K : Nat → AH → Option Unit) (K5 : Int64 → Int64 → Nat → AH → Option Unit) (hK5 : ∀ y z h, K5 y y z h = K z h) :
    ∃ z2 h2, bd3 fl (fun vo5 zo5 ho5h => gd (kd ho5h (x + 43) = 10) (bd3 (g zo5 ho5h) (fun vo8 zo8 ho8h => gd (kd ho8h (x + 43) = 10) (bd3 (fX9_thrown (x + 43) zo8 ho8h) (fun vo10 zo10 ho10h => (if vo10 = vo5 then ((if vo5 = 0 then (gd (kd ho10h (x + 53) = 14) (gd (¬ ((0 : Int32) < 0 ∨ ln ho10h (x + 53) ≤ Int32.toNatClampNeg 0)) ((if vo8 = 0 then (K5 (jv ho10h (x + 53) (Int32.toNatClampNeg 0)) 0 zo10 ho10h) else (K5 (jv ho10h (x + 53) (Int32.toNatClampNeg 0)) 1 zo10 ho10h))))) else (K zo10 ho10h))) else (none))))))) = K z2 h2 ∧ INV h2 x z2 o.2.2 C := by
  obtain ⟨v, h2', r1, r2, r3, r4, r5, r6⟩ := opC0 (g := g) hl hP hr hT
  refine ⟨z1, h2', ?_, r6⟩
  rw [bb3 hl, gd_t hP.2.1.1.1, bb3 r1, gd_t r3, bb3 r4, if_pos rfl]
  by_cases e : o.1 = 0
  · rw [if_pos (by rw [e]; rfl), gd_t r6.2.2.1.1, gd_t (n00 r6.2.2.1.2), c00, r5 e]
    have ev := r2 e
    rcases h01 with e1 | e1
    · rw [if_pos (by rw [ev, e1]), ev, e1]
      exact hK5 _ _ _
    · rw [if_neg (by rw [ev, e1]; decide), ev, e1]
      exact hK5 _ _ _
  · rw [if_neg (by rw [nI_0E (by omega)]; exact e)]
theorem opP {f : Option (Int32 × Nat × AH)} {g : Nat → AH → Option (Int32 × Nat × AH)} {h : AH} {x z : Nat} {A A' : TS} {B C : Nat} {v : Int32} (I : INV h x z A B) (hc : CP f h x z (v, A')) (hr : ∀ z h, RI h (x + 43) A → RP (g z h) h (x + 43) z (v, A')) (hT : TI A' C) (K : Nat → AH → Option Unit) :
    ∃ z2 h2, bd3 f (fun vo18 zo18 ho18h => gd (kd ho18h (x + 43) = 10) (bd3 (g zo18 ho18h) (fun vo20 zo20 ho20h => (if vo18 = vo20 then (K zo20 ho20h) else (none))))) = K z2 h2 ∧ INV h2 x z2 A' C := by
  obtain ⟨z1, h1, c1, c2, c3, c4⟩ := hc
  have hR1 := FK_RI c4 I.2.1
  obtain ⟨h2, r1, r2, r3⟩ := hr z1 h1 hR1
  have e53 : sc h h2 (x + 53) := (c4 (x + 53) (by omega) (by omega)).tr (sc.fq r3 (by unfold PR; omega))
  refine ⟨z1, h2, ?_, CI_PR hT r3 c3, r2, ⟨(sc_kd e53).trans I.2.2.1.1, (sc_ln e53).trans I.2.2.1.2⟩, hT⟩
  rw [bb3 c1, gd_t hR1.1.1, bb3 r1, if_pos rfl]
theorem opJ {f : Option ((Int64 ⊕ String) × Nat × AH)} {g : Nat → AH → Option (Int64 × Nat × AH)} {h : AH} {x z : Nat} {A A' : TS} {B C : Nat} {v : Int64} (I : INV h x z A B) (hc : CPJ f h x z (v, A')) (hr : ∀ z h, RI h (x + 43) A → RPJ (g z h) h (x + 43) z (v, A')) (hT : TI A' C) (K : Nat → AH → Option Unit) :
    ∃ z2 h2, bd3 f (fun vo382 zo382 ho382h => xr vo382 (fun v383 => gd (kd ho382h (x + 43) = 10) (bd3 (g zo382 ho382h) (fun vo386 zo386 ho386h => (if (lg_cmp v383 vo386) = 0 then (K zo386 ho386h) else (none))))) (fun x384 => none)) = K z2 h2 ∧ INV h2 x z2 A' C := by
  obtain ⟨z1, h1, c1, c2, c3, c4⟩ := hc
  have hR1 := FK_RI c4 I.2.1
  obtain ⟨h2, r1, r2, r3⟩ := hr z1 h1 hR1
  have e53 : sc h h2 (x + 53) := (c4 (x + 53) (by omega) (by omega)).tr (sc.fq r3 (by unfold PR; omega))
  refine ⟨z1, h2, ?_, CI_PR hT r3 c3, r2, ⟨(sc_kd e53).trans I.2.2.1.1, (sc_ln e53).trans I.2.2.1.2⟩, hT⟩
  rw [bb3 c1]
  show gd _ _ = _
  rw [gd_t hR1.1.1, bb3 r1, lg_self, if_pos rfl]
def ST (xs : Nat → Int32) (sl : Nat) (q : Nat → Nat → Nat → Nat → Int32 → Nat → AH → Option Unit) (b x i z : Nat) (h : AH) (B : Nat) : Prop := ∃ z' h' A', lL_law_23B xs sl q b x (x + 43) (x + 53) (nI i) z h = q b x (x + 43) (x + 53) (nI (i + 3)) z' h' ∧ INV h' x z' A' (B + 121)
theorem lw_lt {sl i : Nat} (hi : i + 3 ≤ sl) (hs : sl ≤ 1536) : (Int32.ofNat sl - 3 < nI i) = False := by
  rw [show Int32.ofNat sl = nI sl from rfl, li3, pk_sub (by omega), nI_ltE (by omega) (by omega)]
  exact eq_false (by omega)
theorem lw_g {sl j : Nat} (hj : j < sl) (hs : sl ≤ 1536) : ¬ (nI j < 0 ∨ sl ≤ j) := fun h => by
  rcases h with h | h
  · exact nI_pos (by omega) h
  · omega
theorem lw_3 (i : Nat) : nI i + 3 = nI (i + 3) := by rw [li3, nI_add]
theorem lw_2 (i : Nat) : nI i + 2 = nI (i + 2) := by rw [li2, nI_add]
theorem k2C (q : Nat → Int32) (a : Int32) : kC q a ≤ 2 := by
  unfold kC
  repeat' split
  all_goals omega
theorem k2N (q : Nat → Int32) (a : Int32) : kN q a ≤ 2 := by
  unfold kN
  repeat' split
  all_goals omega
theorem k2T (q : Nat → Int32) (a b : Int32) : kT q a b ≤ 2 := by
  unfold kT
  repeat' split
  all_goals omega
theorem k2R (q : Nat → Int32) (a b : Int32) : kR q a b ≤ 2 := by
  unfold kR
  repeat' split
  all_goals omega
theorem k2Y (T : List Nat) (a : Int32) : kY T a ≤ 2 := by
  unfold kY
  repeat' split
  all_goals omega
theorem k1V (l u a : Int32) : kV l u a ≤ 1 := by
  unfold kV
  split <;> omega
theorem k1D (a : Int32) : kD a ≤ 1 := by
  unfold kD
  split <;> omega
theorem k1S (q : Nat → Int32) (a : Int32) : kS q a ≤ 1 := by
  unfold kS
  split <;> omega
theorem k1O (q : Nat → Int32) (a b : Int32) : kO q a b ≤ 1 := by
  unfold kO
  split <;> omega
theorem k1U (T : List Nat) : kU T ≤ 1 := by
  unfold kU
  split <;> omega
theorem k1N (A : TS) : (aN A).1 ≤ 1 := by
  obtain ⟨w, H, T⟩ := A
  rcases snoc_c H with rfl | ⟨G, r, rfl⟩
  · rw [aN_0]; exact Nat.le_refl _
  · rw [aN_1]; exact Nat.zero_le _
theorem ly_1_0 : ((1 : Int32) = 0) = False := eq_false (by decide)
theorem ly_2_0 : ((2 : Int32) = 0) = False := eq_false (by decide)
theorem ly_2_1 : ((2 : Int32) = 1) = False := eq_false (by decide)
theorem ly_3_0 : ((3 : Int32) = 0) = False := eq_false (by decide)
theorem ly_3_1 : ((3 : Int32) = 1) = False := eq_false (by decide)
theorem ly_3_2 : ((3 : Int32) = 2) = False := eq_false (by decide)
theorem ly_4_0 : ((4 : Int32) = 0) = False := eq_false (by decide)
theorem ly_4_1 : ((4 : Int32) = 1) = False := eq_false (by decide)
theorem ly_4_2 : ((4 : Int32) = 2) = False := eq_false (by decide)
theorem ly_4_3 : ((4 : Int32) = 3) = False := eq_false (by decide)
theorem ly_5_0 : ((5 : Int32) = 0) = False := eq_false (by decide)
theorem ly_5_1 : ((5 : Int32) = 1) = False := eq_false (by decide)
theorem ly_5_2 : ((5 : Int32) = 2) = False := eq_false (by decide)
theorem ly_5_3 : ((5 : Int32) = 3) = False := eq_false (by decide)
theorem ly_5_4 : ((5 : Int32) = 4) = False := eq_false (by decide)
theorem ly_6_0 : ((6 : Int32) = 0) = False := eq_false (by decide)
theorem ly_6_1 : ((6 : Int32) = 1) = False := eq_false (by decide)
theorem ly_6_2 : ((6 : Int32) = 2) = False := eq_false (by decide)
theorem ly_6_3 : ((6 : Int32) = 3) = False := eq_false (by decide)
theorem ly_6_4 : ((6 : Int32) = 4) = False := eq_false (by decide)
theorem ly_6_5 : ((6 : Int32) = 5) = False := eq_false (by decide)
theorem ly_7_0 : ((7 : Int32) = 0) = False := eq_false (by decide)
theorem ly_7_1 : ((7 : Int32) = 1) = False := eq_false (by decide)
theorem ly_7_2 : ((7 : Int32) = 2) = False := eq_false (by decide)
theorem ly_7_3 : ((7 : Int32) = 3) = False := eq_false (by decide)
theorem ly_7_4 : ((7 : Int32) = 4) = False := eq_false (by decide)
theorem ly_7_5 : ((7 : Int32) = 5) = False := eq_false (by decide)
theorem ly_7_6 : ((7 : Int32) = 6) = False := eq_false (by decide)
theorem ly_8_0 : ((8 : Int32) = 0) = False := eq_false (by decide)
theorem ly_8_1 : ((8 : Int32) = 1) = False := eq_false (by decide)
theorem ly_8_2 : ((8 : Int32) = 2) = False := eq_false (by decide)
theorem ly_8_3 : ((8 : Int32) = 3) = False := eq_false (by decide)
theorem ly_8_4 : ((8 : Int32) = 4) = False := eq_false (by decide)
theorem ly_8_5 : ((8 : Int32) = 5) = False := eq_false (by decide)
theorem ly_8_6 : ((8 : Int32) = 6) = False := eq_false (by decide)
theorem ly_8_7 : ((8 : Int32) = 7) = False := eq_false (by decide)
theorem ly_9_0 : ((9 : Int32) = 0) = False := eq_false (by decide)
theorem ly_9_1 : ((9 : Int32) = 1) = False := eq_false (by decide)
theorem ly_9_2 : ((9 : Int32) = 2) = False := eq_false (by decide)
theorem ly_9_3 : ((9 : Int32) = 3) = False := eq_false (by decide)
theorem ly_9_4 : ((9 : Int32) = 4) = False := eq_false (by decide)
theorem ly_9_5 : ((9 : Int32) = 5) = False := eq_false (by decide)
theorem ly_9_6 : ((9 : Int32) = 6) = False := eq_false (by decide)
theorem ly_9_7 : ((9 : Int32) = 7) = False := eq_false (by decide)
theorem ly_9_8 : ((9 : Int32) = 8) = False := eq_false (by decide)
theorem ly_10_0 : ((10 : Int32) = 0) = False := eq_false (by decide)
theorem ly_10_1 : ((10 : Int32) = 1) = False := eq_false (by decide)
theorem ly_10_2 : ((10 : Int32) = 2) = False := eq_false (by decide)
theorem ly_10_3 : ((10 : Int32) = 3) = False := eq_false (by decide)
theorem ly_10_4 : ((10 : Int32) = 4) = False := eq_false (by decide)
theorem ly_10_5 : ((10 : Int32) = 5) = False := eq_false (by decide)
theorem ly_10_6 : ((10 : Int32) = 6) = False := eq_false (by decide)
theorem ly_10_7 : ((10 : Int32) = 7) = False := eq_false (by decide)
theorem ly_10_8 : ((10 : Int32) = 8) = False := eq_false (by decide)
theorem ly_10_9 : ((10 : Int32) = 9) = False := eq_false (by decide)
theorem ly_11_0 : ((11 : Int32) = 0) = False := eq_false (by decide)
theorem ly_11_1 : ((11 : Int32) = 1) = False := eq_false (by decide)
theorem ly_11_2 : ((11 : Int32) = 2) = False := eq_false (by decide)
theorem ly_11_3 : ((11 : Int32) = 3) = False := eq_false (by decide)
theorem ly_11_4 : ((11 : Int32) = 4) = False := eq_false (by decide)
theorem ly_11_5 : ((11 : Int32) = 5) = False := eq_false (by decide)
theorem ly_11_6 : ((11 : Int32) = 6) = False := eq_false (by decide)
theorem ly_11_7 : ((11 : Int32) = 7) = False := eq_false (by decide)
theorem ly_11_8 : ((11 : Int32) = 8) = False := eq_false (by decide)
theorem ly_11_9 : ((11 : Int32) = 9) = False := eq_false (by decide)
theorem ly_11_10 : ((11 : Int32) = 10) = False := eq_false (by decide)
theorem ly_12_0 : ((12 : Int32) = 0) = False := eq_false (by decide)
theorem ly_12_1 : ((12 : Int32) = 1) = False := eq_false (by decide)
theorem ly_12_2 : ((12 : Int32) = 2) = False := eq_false (by decide)
theorem ly_12_3 : ((12 : Int32) = 3) = False := eq_false (by decide)
theorem ly_12_4 : ((12 : Int32) = 4) = False := eq_false (by decide)
theorem ly_12_5 : ((12 : Int32) = 5) = False := eq_false (by decide)
theorem ly_12_6 : ((12 : Int32) = 6) = False := eq_false (by decide)
theorem ly_12_7 : ((12 : Int32) = 7) = False := eq_false (by decide)
theorem ly_12_8 : ((12 : Int32) = 8) = False := eq_false (by decide)
theorem ly_12_9 : ((12 : Int32) = 9) = False := eq_false (by decide)
theorem ly_12_10 : ((12 : Int32) = 10) = False := eq_false (by decide)
theorem ly_12_11 : ((12 : Int32) = 11) = False := eq_false (by decide)
theorem ly_13_0 : ((13 : Int32) = 0) = False := eq_false (by decide)
theorem ly_13_1 : ((13 : Int32) = 1) = False := eq_false (by decide)
theorem ly_13_2 : ((13 : Int32) = 2) = False := eq_false (by decide)
theorem ly_13_3 : ((13 : Int32) = 3) = False := eq_false (by decide)
theorem ly_13_4 : ((13 : Int32) = 4) = False := eq_false (by decide)
theorem ly_13_5 : ((13 : Int32) = 5) = False := eq_false (by decide)
theorem ly_13_6 : ((13 : Int32) = 6) = False := eq_false (by decide)
theorem ly_13_7 : ((13 : Int32) = 7) = False := eq_false (by decide)
theorem ly_13_8 : ((13 : Int32) = 8) = False := eq_false (by decide)
theorem ly_13_9 : ((13 : Int32) = 9) = False := eq_false (by decide)
theorem ly_13_10 : ((13 : Int32) = 10) = False := eq_false (by decide)
theorem ly_13_11 : ((13 : Int32) = 11) = False := eq_false (by decide)
theorem ly_13_12 : ((13 : Int32) = 12) = False := eq_false (by decide)
theorem ly_14_0 : ((14 : Int32) = 0) = False := eq_false (by decide)
theorem ly_14_1 : ((14 : Int32) = 1) = False := eq_false (by decide)
theorem ly_14_2 : ((14 : Int32) = 2) = False := eq_false (by decide)
theorem ly_14_3 : ((14 : Int32) = 3) = False := eq_false (by decide)
theorem ly_14_4 : ((14 : Int32) = 4) = False := eq_false (by decide)
theorem ly_14_5 : ((14 : Int32) = 5) = False := eq_false (by decide)
theorem ly_14_6 : ((14 : Int32) = 6) = False := eq_false (by decide)
theorem ly_14_7 : ((14 : Int32) = 7) = False := eq_false (by decide)
theorem ly_14_8 : ((14 : Int32) = 8) = False := eq_false (by decide)
theorem ly_14_9 : ((14 : Int32) = 9) = False := eq_false (by decide)
theorem ly_14_10 : ((14 : Int32) = 10) = False := eq_false (by decide)
theorem ly_14_11 : ((14 : Int32) = 11) = False := eq_false (by decide)
theorem ly_14_12 : ((14 : Int32) = 12) = False := eq_false (by decide)
theorem ly_14_13 : ((14 : Int32) = 13) = False := eq_false (by decide)
theorem ly_15_0 : ((15 : Int32) = 0) = False := eq_false (by decide)
theorem ly_15_1 : ((15 : Int32) = 1) = False := eq_false (by decide)
theorem ly_15_2 : ((15 : Int32) = 2) = False := eq_false (by decide)
theorem ly_15_3 : ((15 : Int32) = 3) = False := eq_false (by decide)
theorem ly_15_4 : ((15 : Int32) = 4) = False := eq_false (by decide)
theorem ly_15_5 : ((15 : Int32) = 5) = False := eq_false (by decide)
theorem ly_15_6 : ((15 : Int32) = 6) = False := eq_false (by decide)
theorem ly_15_7 : ((15 : Int32) = 7) = False := eq_false (by decide)
theorem ly_15_8 : ((15 : Int32) = 8) = False := eq_false (by decide)
theorem ly_15_9 : ((15 : Int32) = 9) = False := eq_false (by decide)
theorem ly_15_10 : ((15 : Int32) = 10) = False := eq_false (by decide)
theorem ly_15_11 : ((15 : Int32) = 11) = False := eq_false (by decide)
theorem ly_15_12 : ((15 : Int32) = 12) = False := eq_false (by decide)
theorem ly_15_13 : ((15 : Int32) = 13) = False := eq_false (by decide)
theorem ly_15_14 : ((15 : Int32) = 14) = False := eq_false (by decide)
theorem ly_16_0 : ((16 : Int32) = 0) = False := eq_false (by decide)
theorem ly_16_1 : ((16 : Int32) = 1) = False := eq_false (by decide)
theorem ly_16_2 : ((16 : Int32) = 2) = False := eq_false (by decide)
theorem ly_16_3 : ((16 : Int32) = 3) = False := eq_false (by decide)
theorem ly_16_4 : ((16 : Int32) = 4) = False := eq_false (by decide)
theorem ly_16_5 : ((16 : Int32) = 5) = False := eq_false (by decide)
theorem ly_16_6 : ((16 : Int32) = 6) = False := eq_false (by decide)
theorem ly_16_7 : ((16 : Int32) = 7) = False := eq_false (by decide)
theorem ly_16_8 : ((16 : Int32) = 8) = False := eq_false (by decide)
theorem ly_16_9 : ((16 : Int32) = 9) = False := eq_false (by decide)
theorem ly_16_10 : ((16 : Int32) = 10) = False := eq_false (by decide)
theorem ly_16_11 : ((16 : Int32) = 11) = False := eq_false (by decide)
theorem ly_16_12 : ((16 : Int32) = 12) = False := eq_false (by decide)
theorem ly_16_13 : ((16 : Int32) = 13) = False := eq_false (by decide)
theorem ly_16_14 : ((16 : Int32) = 14) = False := eq_false (by decide)
theorem ly_16_15 : ((16 : Int32) = 15) = False := eq_false (by decide)
theorem ly_17_0 : ((17 : Int32) = 0) = False := eq_false (by decide)
theorem ly_17_1 : ((17 : Int32) = 1) = False := eq_false (by decide)
theorem ly_17_2 : ((17 : Int32) = 2) = False := eq_false (by decide)
theorem ly_17_3 : ((17 : Int32) = 3) = False := eq_false (by decide)
theorem ly_17_4 : ((17 : Int32) = 4) = False := eq_false (by decide)
theorem ly_17_5 : ((17 : Int32) = 5) = False := eq_false (by decide)
theorem ly_17_6 : ((17 : Int32) = 6) = False := eq_false (by decide)
theorem ly_17_7 : ((17 : Int32) = 7) = False := eq_false (by decide)
theorem ly_17_8 : ((17 : Int32) = 8) = False := eq_false (by decide)
theorem ly_17_9 : ((17 : Int32) = 9) = False := eq_false (by decide)
theorem ly_17_10 : ((17 : Int32) = 10) = False := eq_false (by decide)
theorem ly_17_11 : ((17 : Int32) = 11) = False := eq_false (by decide)
theorem ly_17_12 : ((17 : Int32) = 12) = False := eq_false (by decide)
theorem ly_17_13 : ((17 : Int32) = 13) = False := eq_false (by decide)
theorem ly_17_14 : ((17 : Int32) = 14) = False := eq_false (by decide)
theorem ly_17_15 : ((17 : Int32) = 15) = False := eq_false (by decide)
theorem ly_17_16 : ((17 : Int32) = 16) = False := eq_false (by decide)
theorem ly_18_0 : ((18 : Int32) = 0) = False := eq_false (by decide)
theorem ly_18_1 : ((18 : Int32) = 1) = False := eq_false (by decide)
theorem ly_18_2 : ((18 : Int32) = 2) = False := eq_false (by decide)
theorem ly_18_3 : ((18 : Int32) = 3) = False := eq_false (by decide)
theorem ly_18_4 : ((18 : Int32) = 4) = False := eq_false (by decide)
theorem ly_18_5 : ((18 : Int32) = 5) = False := eq_false (by decide)
theorem ly_18_6 : ((18 : Int32) = 6) = False := eq_false (by decide)
theorem ly_18_7 : ((18 : Int32) = 7) = False := eq_false (by decide)
theorem ly_18_8 : ((18 : Int32) = 8) = False := eq_false (by decide)
theorem ly_18_9 : ((18 : Int32) = 9) = False := eq_false (by decide)
theorem ly_18_10 : ((18 : Int32) = 10) = False := eq_false (by decide)
theorem ly_18_11 : ((18 : Int32) = 11) = False := eq_false (by decide)
theorem ly_18_12 : ((18 : Int32) = 12) = False := eq_false (by decide)
theorem ly_18_13 : ((18 : Int32) = 13) = False := eq_false (by decide)
theorem ly_18_14 : ((18 : Int32) = 14) = False := eq_false (by decide)
theorem ly_18_15 : ((18 : Int32) = 15) = False := eq_false (by decide)
theorem ly_18_16 : ((18 : Int32) = 16) = False := eq_false (by decide)
theorem ly_18_17 : ((18 : Int32) = 17) = False := eq_false (by decide)
theorem ly_19_0 : ((19 : Int32) = 0) = False := eq_false (by decide)
theorem ly_19_1 : ((19 : Int32) = 1) = False := eq_false (by decide)
theorem ly_19_2 : ((19 : Int32) = 2) = False := eq_false (by decide)
theorem ly_19_3 : ((19 : Int32) = 3) = False := eq_false (by decide)
theorem ly_19_4 : ((19 : Int32) = 4) = False := eq_false (by decide)
theorem ly_19_5 : ((19 : Int32) = 5) = False := eq_false (by decide)
theorem ly_19_6 : ((19 : Int32) = 6) = False := eq_false (by decide)
theorem ly_19_7 : ((19 : Int32) = 7) = False := eq_false (by decide)
theorem ly_19_8 : ((19 : Int32) = 8) = False := eq_false (by decide)
theorem ly_19_9 : ((19 : Int32) = 9) = False := eq_false (by decide)
theorem ly_19_10 : ((19 : Int32) = 10) = False := eq_false (by decide)
theorem ly_19_11 : ((19 : Int32) = 11) = False := eq_false (by decide)
theorem ly_19_12 : ((19 : Int32) = 12) = False := eq_false (by decide)
theorem ly_19_13 : ((19 : Int32) = 13) = False := eq_false (by decide)
theorem ly_19_14 : ((19 : Int32) = 14) = False := eq_false (by decide)
theorem ly_19_15 : ((19 : Int32) = 15) = False := eq_false (by decide)
theorem ly_19_16 : ((19 : Int32) = 16) = False := eq_false (by decide)
theorem ly_19_17 : ((19 : Int32) = 17) = False := eq_false (by decide)
theorem ly_19_18 : ((19 : Int32) = 18) = False := eq_false (by decide)
theorem ly_20_0 : ((20 : Int32) = 0) = False := eq_false (by decide)
theorem ly_20_1 : ((20 : Int32) = 1) = False := eq_false (by decide)
theorem ly_20_2 : ((20 : Int32) = 2) = False := eq_false (by decide)
theorem ly_20_3 : ((20 : Int32) = 3) = False := eq_false (by decide)
theorem ly_20_4 : ((20 : Int32) = 4) = False := eq_false (by decide)
theorem ly_20_5 : ((20 : Int32) = 5) = False := eq_false (by decide)
theorem ly_20_6 : ((20 : Int32) = 6) = False := eq_false (by decide)
theorem ly_20_7 : ((20 : Int32) = 7) = False := eq_false (by decide)
theorem ly_20_8 : ((20 : Int32) = 8) = False := eq_false (by decide)
theorem ly_20_9 : ((20 : Int32) = 9) = False := eq_false (by decide)
theorem ly_20_10 : ((20 : Int32) = 10) = False := eq_false (by decide)
theorem ly_20_11 : ((20 : Int32) = 11) = False := eq_false (by decide)
theorem ly_20_12 : ((20 : Int32) = 12) = False := eq_false (by decide)
theorem ly_20_13 : ((20 : Int32) = 13) = False := eq_false (by decide)
theorem ly_20_14 : ((20 : Int32) = 14) = False := eq_false (by decide)
theorem ly_20_15 : ((20 : Int32) = 15) = False := eq_false (by decide)
theorem ly_20_16 : ((20 : Int32) = 16) = False := eq_false (by decide)
theorem ly_20_17 : ((20 : Int32) = 17) = False := eq_false (by decide)
theorem ly_20_18 : ((20 : Int32) = 18) = False := eq_false (by decide)
theorem ly_20_19 : ((20 : Int32) = 19) = False := eq_false (by decide)
theorem ly_21_0 : ((21 : Int32) = 0) = False := eq_false (by decide)
theorem ly_21_1 : ((21 : Int32) = 1) = False := eq_false (by decide)
theorem ly_21_2 : ((21 : Int32) = 2) = False := eq_false (by decide)
theorem ly_21_3 : ((21 : Int32) = 3) = False := eq_false (by decide)
theorem ly_21_4 : ((21 : Int32) = 4) = False := eq_false (by decide)
theorem ly_21_5 : ((21 : Int32) = 5) = False := eq_false (by decide)
theorem ly_21_6 : ((21 : Int32) = 6) = False := eq_false (by decide)
theorem ly_21_7 : ((21 : Int32) = 7) = False := eq_false (by decide)
theorem ly_21_8 : ((21 : Int32) = 8) = False := eq_false (by decide)
theorem ly_21_9 : ((21 : Int32) = 9) = False := eq_false (by decide)
theorem ly_21_10 : ((21 : Int32) = 10) = False := eq_false (by decide)
theorem ly_21_11 : ((21 : Int32) = 11) = False := eq_false (by decide)
theorem ly_21_12 : ((21 : Int32) = 12) = False := eq_false (by decide)
theorem ly_21_13 : ((21 : Int32) = 13) = False := eq_false (by decide)
theorem ly_21_14 : ((21 : Int32) = 14) = False := eq_false (by decide)
theorem ly_21_15 : ((21 : Int32) = 15) = False := eq_false (by decide)
theorem ly_21_16 : ((21 : Int32) = 16) = False := eq_false (by decide)
theorem ly_21_17 : ((21 : Int32) = 17) = False := eq_false (by decide)
theorem ly_21_18 : ((21 : Int32) = 18) = False := eq_false (by decide)
theorem ly_21_19 : ((21 : Int32) = 19) = False := eq_false (by decide)
theorem ly_21_20 : ((21 : Int32) = 20) = False := eq_false (by decide)
theorem ly_22_0 : ((22 : Int32) = 0) = False := eq_false (by decide)
theorem ly_22_1 : ((22 : Int32) = 1) = False := eq_false (by decide)
theorem ly_22_2 : ((22 : Int32) = 2) = False := eq_false (by decide)
theorem ly_22_3 : ((22 : Int32) = 3) = False := eq_false (by decide)
theorem ly_22_4 : ((22 : Int32) = 4) = False := eq_false (by decide)
theorem ly_22_5 : ((22 : Int32) = 5) = False := eq_false (by decide)
theorem ly_22_6 : ((22 : Int32) = 6) = False := eq_false (by decide)
theorem ly_22_7 : ((22 : Int32) = 7) = False := eq_false (by decide)
theorem ly_22_8 : ((22 : Int32) = 8) = False := eq_false (by decide)
theorem ly_22_9 : ((22 : Int32) = 9) = False := eq_false (by decide)
theorem ly_22_10 : ((22 : Int32) = 10) = False := eq_false (by decide)
theorem ly_22_11 : ((22 : Int32) = 11) = False := eq_false (by decide)
theorem ly_22_12 : ((22 : Int32) = 12) = False := eq_false (by decide)
theorem ly_22_13 : ((22 : Int32) = 13) = False := eq_false (by decide)
theorem ly_22_14 : ((22 : Int32) = 14) = False := eq_false (by decide)
theorem ly_22_15 : ((22 : Int32) = 15) = False := eq_false (by decide)
theorem ly_22_16 : ((22 : Int32) = 16) = False := eq_false (by decide)
theorem ly_22_17 : ((22 : Int32) = 17) = False := eq_false (by decide)
theorem ly_22_18 : ((22 : Int32) = 18) = False := eq_false (by decide)
theorem ly_22_19 : ((22 : Int32) = 19) = False := eq_false (by decide)
theorem ly_22_20 : ((22 : Int32) = 20) = False := eq_false (by decide)
theorem ly_22_21 : ((22 : Int32) = 21) = False := eq_false (by decide)
theorem ly_23_0 : ((23 : Int32) = 0) = False := eq_false (by decide)
theorem ly_23_1 : ((23 : Int32) = 1) = False := eq_false (by decide)
theorem ly_23_2 : ((23 : Int32) = 2) = False := eq_false (by decide)
theorem ly_23_3 : ((23 : Int32) = 3) = False := eq_false (by decide)
theorem ly_23_4 : ((23 : Int32) = 4) = False := eq_false (by decide)
theorem ly_23_5 : ((23 : Int32) = 5) = False := eq_false (by decide)
theorem ly_23_6 : ((23 : Int32) = 6) = False := eq_false (by decide)
theorem ly_23_7 : ((23 : Int32) = 7) = False := eq_false (by decide)
theorem ly_23_8 : ((23 : Int32) = 8) = False := eq_false (by decide)
theorem ly_23_9 : ((23 : Int32) = 9) = False := eq_false (by decide)
theorem ly_23_10 : ((23 : Int32) = 10) = False := eq_false (by decide)
theorem ly_23_11 : ((23 : Int32) = 11) = False := eq_false (by decide)
theorem ly_23_12 : ((23 : Int32) = 12) = False := eq_false (by decide)
theorem ly_23_13 : ((23 : Int32) = 13) = False := eq_false (by decide)
theorem ly_23_14 : ((23 : Int32) = 14) = False := eq_false (by decide)
theorem ly_23_15 : ((23 : Int32) = 15) = False := eq_false (by decide)
theorem ly_23_16 : ((23 : Int32) = 16) = False := eq_false (by decide)
theorem ly_23_17 : ((23 : Int32) = 17) = False := eq_false (by decide)
theorem ly_23_18 : ((23 : Int32) = 18) = False := eq_false (by decide)
theorem ly_23_19 : ((23 : Int32) = 19) = False := eq_false (by decide)
theorem ly_23_20 : ((23 : Int32) = 20) = False := eq_false (by decide)
theorem ly_23_21 : ((23 : Int32) = 21) = False := eq_false (by decide)
theorem ly_23_22 : ((23 : Int32) = 22) = False := eq_false (by decide)
theorem ly_24_0 : ((24 : Int32) = 0) = False := eq_false (by decide)
theorem ly_24_1 : ((24 : Int32) = 1) = False := eq_false (by decide)
theorem ly_24_2 : ((24 : Int32) = 2) = False := eq_false (by decide)
theorem ly_24_3 : ((24 : Int32) = 3) = False := eq_false (by decide)
theorem ly_24_4 : ((24 : Int32) = 4) = False := eq_false (by decide)
theorem ly_24_5 : ((24 : Int32) = 5) = False := eq_false (by decide)
theorem ly_24_6 : ((24 : Int32) = 6) = False := eq_false (by decide)
theorem ly_24_7 : ((24 : Int32) = 7) = False := eq_false (by decide)
theorem ly_24_8 : ((24 : Int32) = 8) = False := eq_false (by decide)
theorem ly_24_9 : ((24 : Int32) = 9) = False := eq_false (by decide)
theorem ly_24_10 : ((24 : Int32) = 10) = False := eq_false (by decide)
theorem ly_24_11 : ((24 : Int32) = 11) = False := eq_false (by decide)
theorem ly_24_12 : ((24 : Int32) = 12) = False := eq_false (by decide)
theorem ly_24_13 : ((24 : Int32) = 13) = False := eq_false (by decide)
theorem ly_24_14 : ((24 : Int32) = 14) = False := eq_false (by decide)
theorem ly_24_15 : ((24 : Int32) = 15) = False := eq_false (by decide)
theorem ly_24_16 : ((24 : Int32) = 16) = False := eq_false (by decide)
theorem ly_24_17 : ((24 : Int32) = 17) = False := eq_false (by decide)
theorem ly_24_18 : ((24 : Int32) = 18) = False := eq_false (by decide)
theorem ly_24_19 : ((24 : Int32) = 19) = False := eq_false (by decide)
theorem ly_24_20 : ((24 : Int32) = 20) = False := eq_false (by decide)
theorem ly_24_21 : ((24 : Int32) = 21) = False := eq_false (by decide)
theorem ly_24_22 : ((24 : Int32) = 22) = False := eq_false (by decide)
theorem ly_24_23 : ((24 : Int32) = 23) = False := eq_false (by decide)
theorem ly_25_0 : ((25 : Int32) = 0) = False := eq_false (by decide)
theorem ly_25_1 : ((25 : Int32) = 1) = False := eq_false (by decide)
theorem ly_25_2 : ((25 : Int32) = 2) = False := eq_false (by decide)
theorem ly_25_3 : ((25 : Int32) = 3) = False := eq_false (by decide)
theorem ly_25_4 : ((25 : Int32) = 4) = False := eq_false (by decide)
theorem ly_25_5 : ((25 : Int32) = 5) = False := eq_false (by decide)
theorem ly_25_6 : ((25 : Int32) = 6) = False := eq_false (by decide)
theorem ly_25_7 : ((25 : Int32) = 7) = False := eq_false (by decide)
theorem ly_25_8 : ((25 : Int32) = 8) = False := eq_false (by decide)
theorem ly_25_9 : ((25 : Int32) = 9) = False := eq_false (by decide)
theorem ly_25_10 : ((25 : Int32) = 10) = False := eq_false (by decide)
theorem ly_25_11 : ((25 : Int32) = 11) = False := eq_false (by decide)
theorem ly_25_12 : ((25 : Int32) = 12) = False := eq_false (by decide)
theorem ly_25_13 : ((25 : Int32) = 13) = False := eq_false (by decide)
theorem ly_25_14 : ((25 : Int32) = 14) = False := eq_false (by decide)
theorem ly_25_15 : ((25 : Int32) = 15) = False := eq_false (by decide)
theorem ly_25_16 : ((25 : Int32) = 16) = False := eq_false (by decide)
theorem ly_25_17 : ((25 : Int32) = 17) = False := eq_false (by decide)
theorem ly_25_18 : ((25 : Int32) = 18) = False := eq_false (by decide)
theorem ly_25_19 : ((25 : Int32) = 19) = False := eq_false (by decide)
theorem ly_25_20 : ((25 : Int32) = 20) = False := eq_false (by decide)
theorem ly_25_21 : ((25 : Int32) = 21) = False := eq_false (by decide)
theorem ly_25_22 : ((25 : Int32) = 22) = False := eq_false (by decide)
theorem ly_25_23 : ((25 : Int32) = 23) = False := eq_false (by decide)
theorem ly_25_24 : ((25 : Int32) = 24) = False := eq_false (by decide)
theorem ly_26_0 : ((26 : Int32) = 0) = False := eq_false (by decide)
theorem ly_26_1 : ((26 : Int32) = 1) = False := eq_false (by decide)
theorem ly_26_2 : ((26 : Int32) = 2) = False := eq_false (by decide)
theorem ly_26_3 : ((26 : Int32) = 3) = False := eq_false (by decide)
theorem ly_26_4 : ((26 : Int32) = 4) = False := eq_false (by decide)
theorem ly_26_5 : ((26 : Int32) = 5) = False := eq_false (by decide)
theorem ly_26_6 : ((26 : Int32) = 6) = False := eq_false (by decide)
theorem ly_26_7 : ((26 : Int32) = 7) = False := eq_false (by decide)
theorem ly_26_8 : ((26 : Int32) = 8) = False := eq_false (by decide)
theorem ly_26_9 : ((26 : Int32) = 9) = False := eq_false (by decide)
theorem ly_26_10 : ((26 : Int32) = 10) = False := eq_false (by decide)
theorem ly_26_11 : ((26 : Int32) = 11) = False := eq_false (by decide)
theorem ly_26_12 : ((26 : Int32) = 12) = False := eq_false (by decide)
theorem ly_26_13 : ((26 : Int32) = 13) = False := eq_false (by decide)
theorem ly_26_14 : ((26 : Int32) = 14) = False := eq_false (by decide)
theorem ly_26_15 : ((26 : Int32) = 15) = False := eq_false (by decide)
theorem ly_26_16 : ((26 : Int32) = 16) = False := eq_false (by decide)
theorem ly_26_17 : ((26 : Int32) = 17) = False := eq_false (by decide)
theorem ly_26_18 : ((26 : Int32) = 18) = False := eq_false (by decide)
theorem ly_26_19 : ((26 : Int32) = 19) = False := eq_false (by decide)
theorem ly_26_20 : ((26 : Int32) = 20) = False := eq_false (by decide)
theorem ly_26_21 : ((26 : Int32) = 21) = False := eq_false (by decide)
theorem ly_26_22 : ((26 : Int32) = 22) = False := eq_false (by decide)
theorem ly_26_23 : ((26 : Int32) = 23) = False := eq_false (by decide)
theorem ly_26_24 : ((26 : Int32) = 24) = False := eq_false (by decide)
theorem ly_26_25 : ((26 : Int32) = 25) = False := eq_false (by decide)
theorem ly_27_0 : ((27 : Int32) = 0) = False := eq_false (by decide)
theorem ly_27_1 : ((27 : Int32) = 1) = False := eq_false (by decide)
theorem ly_27_2 : ((27 : Int32) = 2) = False := eq_false (by decide)
theorem ly_27_3 : ((27 : Int32) = 3) = False := eq_false (by decide)
theorem ly_27_4 : ((27 : Int32) = 4) = False := eq_false (by decide)
theorem ly_27_5 : ((27 : Int32) = 5) = False := eq_false (by decide)
theorem ly_27_6 : ((27 : Int32) = 6) = False := eq_false (by decide)
theorem ly_27_7 : ((27 : Int32) = 7) = False := eq_false (by decide)
theorem ly_27_8 : ((27 : Int32) = 8) = False := eq_false (by decide)
theorem ly_27_9 : ((27 : Int32) = 9) = False := eq_false (by decide)
theorem ly_27_10 : ((27 : Int32) = 10) = False := eq_false (by decide)
theorem ly_27_11 : ((27 : Int32) = 11) = False := eq_false (by decide)
theorem ly_27_12 : ((27 : Int32) = 12) = False := eq_false (by decide)
theorem ly_27_13 : ((27 : Int32) = 13) = False := eq_false (by decide)
theorem ly_27_14 : ((27 : Int32) = 14) = False := eq_false (by decide)
theorem ly_27_15 : ((27 : Int32) = 15) = False := eq_false (by decide)
theorem ly_27_16 : ((27 : Int32) = 16) = False := eq_false (by decide)
theorem ly_27_17 : ((27 : Int32) = 17) = False := eq_false (by decide)
theorem ly_27_18 : ((27 : Int32) = 18) = False := eq_false (by decide)
theorem ly_27_19 : ((27 : Int32) = 19) = False := eq_false (by decide)
theorem ly_27_20 : ((27 : Int32) = 20) = False := eq_false (by decide)
theorem ly_27_21 : ((27 : Int32) = 21) = False := eq_false (by decide)
theorem ly_27_22 : ((27 : Int32) = 22) = False := eq_false (by decide)
theorem ly_27_23 : ((27 : Int32) = 23) = False := eq_false (by decide)
theorem ly_27_24 : ((27 : Int32) = 24) = False := eq_false (by decide)
theorem ly_27_25 : ((27 : Int32) = 25) = False := eq_false (by decide)
theorem ly_27_26 : ((27 : Int32) = 26) = False := eq_false (by decide)
theorem ly_28_0 : ((28 : Int32) = 0) = False := eq_false (by decide)
theorem ly_28_1 : ((28 : Int32) = 1) = False := eq_false (by decide)
theorem ly_28_2 : ((28 : Int32) = 2) = False := eq_false (by decide)
theorem ly_28_3 : ((28 : Int32) = 3) = False := eq_false (by decide)
theorem ly_28_4 : ((28 : Int32) = 4) = False := eq_false (by decide)
theorem ly_28_5 : ((28 : Int32) = 5) = False := eq_false (by decide)
theorem ly_28_6 : ((28 : Int32) = 6) = False := eq_false (by decide)
theorem ly_28_7 : ((28 : Int32) = 7) = False := eq_false (by decide)
theorem ly_28_8 : ((28 : Int32) = 8) = False := eq_false (by decide)
theorem ly_28_9 : ((28 : Int32) = 9) = False := eq_false (by decide)
theorem ly_28_10 : ((28 : Int32) = 10) = False := eq_false (by decide)
theorem ly_28_11 : ((28 : Int32) = 11) = False := eq_false (by decide)
theorem ly_28_12 : ((28 : Int32) = 12) = False := eq_false (by decide)
theorem ly_28_13 : ((28 : Int32) = 13) = False := eq_false (by decide)
theorem ly_28_14 : ((28 : Int32) = 14) = False := eq_false (by decide)
theorem ly_28_15 : ((28 : Int32) = 15) = False := eq_false (by decide)
theorem ly_28_16 : ((28 : Int32) = 16) = False := eq_false (by decide)
theorem ly_28_17 : ((28 : Int32) = 17) = False := eq_false (by decide)
theorem ly_28_18 : ((28 : Int32) = 18) = False := eq_false (by decide)
theorem ly_28_19 : ((28 : Int32) = 19) = False := eq_false (by decide)
theorem ly_28_20 : ((28 : Int32) = 20) = False := eq_false (by decide)
theorem ly_28_21 : ((28 : Int32) = 21) = False := eq_false (by decide)
theorem ly_28_22 : ((28 : Int32) = 22) = False := eq_false (by decide)
theorem ly_28_23 : ((28 : Int32) = 23) = False := eq_false (by decide)
theorem ly_28_24 : ((28 : Int32) = 24) = False := eq_false (by decide)
theorem ly_28_25 : ((28 : Int32) = 25) = False := eq_false (by decide)
theorem ly_28_26 : ((28 : Int32) = 26) = False := eq_false (by decide)
theorem ly_28_27 : ((28 : Int32) = 27) = False := eq_false (by decide)
theorem ly_29_0 : ((29 : Int32) = 0) = False := eq_false (by decide)
theorem ly_29_1 : ((29 : Int32) = 1) = False := eq_false (by decide)
theorem ly_29_2 : ((29 : Int32) = 2) = False := eq_false (by decide)
theorem ly_29_3 : ((29 : Int32) = 3) = False := eq_false (by decide)
theorem ly_29_4 : ((29 : Int32) = 4) = False := eq_false (by decide)
theorem ly_29_5 : ((29 : Int32) = 5) = False := eq_false (by decide)
theorem ly_29_6 : ((29 : Int32) = 6) = False := eq_false (by decide)
theorem ly_29_7 : ((29 : Int32) = 7) = False := eq_false (by decide)
theorem ly_29_8 : ((29 : Int32) = 8) = False := eq_false (by decide)
theorem ly_29_9 : ((29 : Int32) = 9) = False := eq_false (by decide)
theorem ly_29_10 : ((29 : Int32) = 10) = False := eq_false (by decide)
theorem ly_29_11 : ((29 : Int32) = 11) = False := eq_false (by decide)
theorem ly_29_12 : ((29 : Int32) = 12) = False := eq_false (by decide)
theorem ly_29_13 : ((29 : Int32) = 13) = False := eq_false (by decide)
theorem ly_29_14 : ((29 : Int32) = 14) = False := eq_false (by decide)
theorem ly_29_15 : ((29 : Int32) = 15) = False := eq_false (by decide)
theorem ly_29_16 : ((29 : Int32) = 16) = False := eq_false (by decide)
theorem ly_29_17 : ((29 : Int32) = 17) = False := eq_false (by decide)
theorem ly_29_18 : ((29 : Int32) = 18) = False := eq_false (by decide)
theorem ly_29_19 : ((29 : Int32) = 19) = False := eq_false (by decide)
theorem ly_29_20 : ((29 : Int32) = 20) = False := eq_false (by decide)
theorem ly_29_21 : ((29 : Int32) = 21) = False := eq_false (by decide)
theorem ly_29_22 : ((29 : Int32) = 22) = False := eq_false (by decide)
theorem ly_29_23 : ((29 : Int32) = 23) = False := eq_false (by decide)
theorem ly_29_24 : ((29 : Int32) = 24) = False := eq_false (by decide)
theorem ly_29_25 : ((29 : Int32) = 25) = False := eq_false (by decide)
theorem ly_29_26 : ((29 : Int32) = 26) = False := eq_false (by decide)
theorem ly_29_27 : ((29 : Int32) = 27) = False := eq_false (by decide)
theorem ly_29_28 : ((29 : Int32) = 28) = False := eq_false (by decide)
theorem ly_30_0 : ((30 : Int32) = 0) = False := eq_false (by decide)
theorem ly_30_1 : ((30 : Int32) = 1) = False := eq_false (by decide)
theorem ly_30_2 : ((30 : Int32) = 2) = False := eq_false (by decide)
theorem ly_30_3 : ((30 : Int32) = 3) = False := eq_false (by decide)
theorem ly_30_4 : ((30 : Int32) = 4) = False := eq_false (by decide)
theorem ly_30_5 : ((30 : Int32) = 5) = False := eq_false (by decide)
theorem ly_30_6 : ((30 : Int32) = 6) = False := eq_false (by decide)
theorem ly_30_7 : ((30 : Int32) = 7) = False := eq_false (by decide)
theorem ly_30_8 : ((30 : Int32) = 8) = False := eq_false (by decide)
theorem ly_30_9 : ((30 : Int32) = 9) = False := eq_false (by decide)
theorem ly_30_10 : ((30 : Int32) = 10) = False := eq_false (by decide)
theorem ly_30_11 : ((30 : Int32) = 11) = False := eq_false (by decide)
theorem ly_30_12 : ((30 : Int32) = 12) = False := eq_false (by decide)
theorem ly_30_13 : ((30 : Int32) = 13) = False := eq_false (by decide)
theorem ly_30_14 : ((30 : Int32) = 14) = False := eq_false (by decide)
theorem ly_30_15 : ((30 : Int32) = 15) = False := eq_false (by decide)
theorem ly_30_16 : ((30 : Int32) = 16) = False := eq_false (by decide)
theorem ly_30_17 : ((30 : Int32) = 17) = False := eq_false (by decide)
theorem ly_30_18 : ((30 : Int32) = 18) = False := eq_false (by decide)
theorem ly_30_19 : ((30 : Int32) = 19) = False := eq_false (by decide)
theorem ly_30_20 : ((30 : Int32) = 20) = False := eq_false (by decide)
theorem ly_30_21 : ((30 : Int32) = 21) = False := eq_false (by decide)
theorem ly_30_22 : ((30 : Int32) = 22) = False := eq_false (by decide)
theorem ly_30_23 : ((30 : Int32) = 23) = False := eq_false (by decide)
theorem ly_30_24 : ((30 : Int32) = 24) = False := eq_false (by decide)
theorem ly_30_25 : ((30 : Int32) = 25) = False := eq_false (by decide)
theorem ly_30_26 : ((30 : Int32) = 26) = False := eq_false (by decide)
theorem ly_30_27 : ((30 : Int32) = 27) = False := eq_false (by decide)
theorem ly_30_28 : ((30 : Int32) = 28) = False := eq_false (by decide)
theorem ly_30_29 : ((30 : Int32) = 29) = False := eq_false (by decide)
theorem ly_31_0 : ((31 : Int32) = 0) = False := eq_false (by decide)
theorem ly_31_1 : ((31 : Int32) = 1) = False := eq_false (by decide)
theorem ly_31_2 : ((31 : Int32) = 2) = False := eq_false (by decide)
theorem ly_31_3 : ((31 : Int32) = 3) = False := eq_false (by decide)
theorem ly_31_4 : ((31 : Int32) = 4) = False := eq_false (by decide)
theorem ly_31_5 : ((31 : Int32) = 5) = False := eq_false (by decide)
theorem ly_31_6 : ((31 : Int32) = 6) = False := eq_false (by decide)
theorem ly_31_7 : ((31 : Int32) = 7) = False := eq_false (by decide)
theorem ly_31_8 : ((31 : Int32) = 8) = False := eq_false (by decide)
theorem ly_31_9 : ((31 : Int32) = 9) = False := eq_false (by decide)
theorem ly_31_10 : ((31 : Int32) = 10) = False := eq_false (by decide)
theorem ly_31_11 : ((31 : Int32) = 11) = False := eq_false (by decide)
theorem ly_31_12 : ((31 : Int32) = 12) = False := eq_false (by decide)
theorem ly_31_13 : ((31 : Int32) = 13) = False := eq_false (by decide)
theorem ly_31_14 : ((31 : Int32) = 14) = False := eq_false (by decide)
theorem ly_31_15 : ((31 : Int32) = 15) = False := eq_false (by decide)
theorem ly_31_16 : ((31 : Int32) = 16) = False := eq_false (by decide)
theorem ly_31_17 : ((31 : Int32) = 17) = False := eq_false (by decide)
theorem ly_31_18 : ((31 : Int32) = 18) = False := eq_false (by decide)
theorem ly_31_19 : ((31 : Int32) = 19) = False := eq_false (by decide)
theorem ly_31_20 : ((31 : Int32) = 20) = False := eq_false (by decide)
theorem ly_31_21 : ((31 : Int32) = 21) = False := eq_false (by decide)
theorem ly_31_22 : ((31 : Int32) = 22) = False := eq_false (by decide)
theorem ly_31_23 : ((31 : Int32) = 23) = False := eq_false (by decide)
theorem ly_31_24 : ((31 : Int32) = 24) = False := eq_false (by decide)
theorem ly_31_25 : ((31 : Int32) = 25) = False := eq_false (by decide)
theorem ly_31_26 : ((31 : Int32) = 26) = False := eq_false (by decide)
theorem ly_31_27 : ((31 : Int32) = 27) = False := eq_false (by decide)
theorem ly_31_28 : ((31 : Int32) = 28) = False := eq_false (by decide)
theorem ly_31_29 : ((31 : Int32) = 29) = False := eq_false (by decide)
theorem ly_31_30 : ((31 : Int32) = 30) = False := eq_false (by decide)
theorem ly_32_0 : ((32 : Int32) = 0) = False := eq_false (by decide)
theorem ly_32_1 : ((32 : Int32) = 1) = False := eq_false (by decide)
theorem ly_32_2 : ((32 : Int32) = 2) = False := eq_false (by decide)
theorem ly_32_3 : ((32 : Int32) = 3) = False := eq_false (by decide)
theorem ly_32_4 : ((32 : Int32) = 4) = False := eq_false (by decide)
theorem ly_32_5 : ((32 : Int32) = 5) = False := eq_false (by decide)
theorem ly_32_6 : ((32 : Int32) = 6) = False := eq_false (by decide)
theorem ly_32_7 : ((32 : Int32) = 7) = False := eq_false (by decide)
theorem ly_32_8 : ((32 : Int32) = 8) = False := eq_false (by decide)
theorem ly_32_9 : ((32 : Int32) = 9) = False := eq_false (by decide)
theorem ly_32_10 : ((32 : Int32) = 10) = False := eq_false (by decide)
theorem ly_32_11 : ((32 : Int32) = 11) = False := eq_false (by decide)
theorem ly_32_12 : ((32 : Int32) = 12) = False := eq_false (by decide)
theorem ly_32_13 : ((32 : Int32) = 13) = False := eq_false (by decide)
theorem ly_32_14 : ((32 : Int32) = 14) = False := eq_false (by decide)
theorem ly_32_15 : ((32 : Int32) = 15) = False := eq_false (by decide)
theorem ly_32_16 : ((32 : Int32) = 16) = False := eq_false (by decide)
theorem ly_32_17 : ((32 : Int32) = 17) = False := eq_false (by decide)
theorem ly_32_18 : ((32 : Int32) = 18) = False := eq_false (by decide)
theorem ly_32_19 : ((32 : Int32) = 19) = False := eq_false (by decide)
theorem ly_32_20 : ((32 : Int32) = 20) = False := eq_false (by decide)
theorem ly_32_21 : ((32 : Int32) = 21) = False := eq_false (by decide)
theorem ly_32_22 : ((32 : Int32) = 22) = False := eq_false (by decide)
theorem ly_32_23 : ((32 : Int32) = 23) = False := eq_false (by decide)
theorem ly_32_24 : ((32 : Int32) = 24) = False := eq_false (by decide)
theorem ly_32_25 : ((32 : Int32) = 25) = False := eq_false (by decide)
theorem ly_32_26 : ((32 : Int32) = 26) = False := eq_false (by decide)
theorem ly_32_27 : ((32 : Int32) = 27) = False := eq_false (by decide)
theorem ly_32_28 : ((32 : Int32) = 28) = False := eq_false (by decide)
theorem ly_32_29 : ((32 : Int32) = 29) = False := eq_false (by decide)
theorem ly_32_30 : ((32 : Int32) = 30) = False := eq_false (by decide)
theorem ly_32_31 : ((32 : Int32) = 31) = False := eq_false (by decide)
theorem ly_33_0 : ((33 : Int32) = 0) = False := eq_false (by decide)
theorem ly_33_1 : ((33 : Int32) = 1) = False := eq_false (by decide)
theorem ly_33_2 : ((33 : Int32) = 2) = False := eq_false (by decide)
theorem ly_33_3 : ((33 : Int32) = 3) = False := eq_false (by decide)
theorem ly_33_4 : ((33 : Int32) = 4) = False := eq_false (by decide)
theorem ly_33_5 : ((33 : Int32) = 5) = False := eq_false (by decide)
theorem ly_33_6 : ((33 : Int32) = 6) = False := eq_false (by decide)
theorem ly_33_7 : ((33 : Int32) = 7) = False := eq_false (by decide)
theorem ly_33_8 : ((33 : Int32) = 8) = False := eq_false (by decide)
theorem ly_33_9 : ((33 : Int32) = 9) = False := eq_false (by decide)
theorem ly_33_10 : ((33 : Int32) = 10) = False := eq_false (by decide)
theorem ly_33_11 : ((33 : Int32) = 11) = False := eq_false (by decide)
theorem ly_33_12 : ((33 : Int32) = 12) = False := eq_false (by decide)
theorem ly_33_13 : ((33 : Int32) = 13) = False := eq_false (by decide)
theorem ly_33_14 : ((33 : Int32) = 14) = False := eq_false (by decide)
theorem ly_33_15 : ((33 : Int32) = 15) = False := eq_false (by decide)
theorem ly_33_16 : ((33 : Int32) = 16) = False := eq_false (by decide)
theorem ly_33_17 : ((33 : Int32) = 17) = False := eq_false (by decide)
theorem ly_33_18 : ((33 : Int32) = 18) = False := eq_false (by decide)
theorem ly_33_19 : ((33 : Int32) = 19) = False := eq_false (by decide)
theorem ly_33_20 : ((33 : Int32) = 20) = False := eq_false (by decide)
theorem ly_33_21 : ((33 : Int32) = 21) = False := eq_false (by decide)
theorem ly_33_22 : ((33 : Int32) = 22) = False := eq_false (by decide)
theorem ly_33_23 : ((33 : Int32) = 23) = False := eq_false (by decide)
theorem ly_33_24 : ((33 : Int32) = 24) = False := eq_false (by decide)
theorem ly_33_25 : ((33 : Int32) = 25) = False := eq_false (by decide)
theorem ly_33_26 : ((33 : Int32) = 26) = False := eq_false (by decide)
theorem ly_33_27 : ((33 : Int32) = 27) = False := eq_false (by decide)
theorem ly_33_28 : ((33 : Int32) = 28) = False := eq_false (by decide)
theorem ly_33_29 : ((33 : Int32) = 29) = False := eq_false (by decide)
theorem ly_33_30 : ((33 : Int32) = 30) = False := eq_false (by decide)
theorem ly_33_31 : ((33 : Int32) = 31) = False := eq_false (by decide)
theorem ly_33_32 : ((33 : Int32) = 32) = False := eq_false (by decide)
theorem ly_34_0 : ((34 : Int32) = 0) = False := eq_false (by decide)
theorem ly_34_1 : ((34 : Int32) = 1) = False := eq_false (by decide)
theorem ly_34_2 : ((34 : Int32) = 2) = False := eq_false (by decide)
theorem ly_34_3 : ((34 : Int32) = 3) = False := eq_false (by decide)
theorem ly_34_4 : ((34 : Int32) = 4) = False := eq_false (by decide)
theorem ly_34_5 : ((34 : Int32) = 5) = False := eq_false (by decide)
theorem ly_34_6 : ((34 : Int32) = 6) = False := eq_false (by decide)
theorem ly_34_7 : ((34 : Int32) = 7) = False := eq_false (by decide)
theorem ly_34_8 : ((34 : Int32) = 8) = False := eq_false (by decide)
theorem ly_34_9 : ((34 : Int32) = 9) = False := eq_false (by decide)
theorem ly_34_10 : ((34 : Int32) = 10) = False := eq_false (by decide)
theorem ly_34_11 : ((34 : Int32) = 11) = False := eq_false (by decide)
theorem ly_34_12 : ((34 : Int32) = 12) = False := eq_false (by decide)
theorem ly_34_13 : ((34 : Int32) = 13) = False := eq_false (by decide)
theorem ly_34_14 : ((34 : Int32) = 14) = False := eq_false (by decide)
theorem ly_34_15 : ((34 : Int32) = 15) = False := eq_false (by decide)
theorem ly_34_16 : ((34 : Int32) = 16) = False := eq_false (by decide)
theorem ly_34_17 : ((34 : Int32) = 17) = False := eq_false (by decide)
theorem ly_34_18 : ((34 : Int32) = 18) = False := eq_false (by decide)
theorem ly_34_19 : ((34 : Int32) = 19) = False := eq_false (by decide)
theorem ly_34_20 : ((34 : Int32) = 20) = False := eq_false (by decide)
theorem ly_34_21 : ((34 : Int32) = 21) = False := eq_false (by decide)
theorem ly_34_22 : ((34 : Int32) = 22) = False := eq_false (by decide)
theorem ly_34_23 : ((34 : Int32) = 23) = False := eq_false (by decide)
theorem ly_34_24 : ((34 : Int32) = 24) = False := eq_false (by decide)
theorem ly_34_25 : ((34 : Int32) = 25) = False := eq_false (by decide)
theorem ly_34_26 : ((34 : Int32) = 26) = False := eq_false (by decide)
theorem ly_34_27 : ((34 : Int32) = 27) = False := eq_false (by decide)
theorem ly_34_28 : ((34 : Int32) = 28) = False := eq_false (by decide)
theorem ly_34_29 : ((34 : Int32) = 29) = False := eq_false (by decide)
theorem ly_34_30 : ((34 : Int32) = 30) = False := eq_false (by decide)
theorem ly_34_31 : ((34 : Int32) = 31) = False := eq_false (by decide)
theorem ly_34_32 : ((34 : Int32) = 32) = False := eq_false (by decide)
theorem ly_34_33 : ((34 : Int32) = 33) = False := eq_false (by decide)
section OPS
variable {xs : Nat → Int32} {sl : Nat} {q : Nat → Nat → Nat → Nat → Int32 → Nat → AH → Option Unit} {b x i z : Nat} {h : AH} {A : TS} {B : Nat}
theorem op_0 (I : INV h x z A B) (hi : i + 3 ≤ sl) (hs : sl ≤ 1536) (hB : B + 121 < 2 ^ 31 - 1) (hc : xs i &&& 63 = 0) : ST xs sl q b x i z h B := by
  obtain ⟨hC, hR, hO, hT⟩ := id I
  have hk : kd h x = 9 := hC.1.1
  have hlt := lw_lt hi hs
  have g0 := lw_g (j := i) (by omega) hs
  have g1 := lw_g (j := i + 1) (by omega) hs
  have g2 := lw_g (j := i + 2) (by omega) hs
  have c0 : Int32.toNatClampNeg (nI i) = i := nI_clamp (by omega)
  have c1 : Int32.toNatClampNeg (nI (i + 1)) = i + 1 := nI_clamp (by omega)
  have c2 : Int32.toNatClampNeg (nI (i + 2)) = i + 2 := nI_clamp (by omega)
  have hT' : TI (aI A (xs (i + 1))).2.2 (B + 121) := (TI_I hT _).mono (by omega)
  have hb : (aI A (xs (i + 1))).1 ≤ 2 := k2N _ _
  obtain ⟨z1, h1, l1, l2⟩ := L2 (E1 := eB) (E2 := eS) (by decide) I (c_addResource hC hT (xs (i + 1))) hb hT'
  have l0 : fL_addResource x (xs (i + 1)) (x + 53) z h = some (nI (aI A (xs (i + 1))).1, z1, h1) := by
    unfold fL_addResource
    rw [gd_t hk]
    exact l1
  obtain ⟨z2, h2, e, I2⟩ := opC (g := fun z h => fX9_addResource (x + 43) (xs (i + 1)) z h) (by omega) l0 l2 (fun z h hR => r_addResource hR hT (xs (i + 1))) hT' (fun z h => bL_law_245 xs sl q b x (x + 43) (x + 53) (nI i) z h)
  refine ⟨z2, h2, _, ?_, I2⟩
  simp only [lL_law_23B, hlt, ↓reduceIte, c0, gd_t g0, hc, nI_1, lw_2, c1, c2, gd_t g1, gd_t g2, gd_t hk]
  exact e.trans (by show q b x (x + 43) (x + 53) (nI i + 3) z2 h2 = _; rw [lw_3])
theorem op_1 (I : INV h x z A B) (hi : i + 3 ≤ sl) (hs : sl ≤ 1536) (hB : B + 121 < 2 ^ 31 - 1) (hc : xs i &&& 63 = 1) : ST xs sl q b x i z h B := by
  obtain ⟨hC, hR, hO, hT⟩ := id I
  have hk : kd h x = 9 := hC.1.1
  have hlt := lw_lt hi hs
  have g0 := lw_g (j := i) (by omega) hs
  have g1 := lw_g (j := i + 1) (by omega) hs
  have g2 := lw_g (j := i + 2) (by omega) hs
  have c0 : Int32.toNatClampNeg (nI i) = i := nI_clamp (by omega)
  have c1 : Int32.toNatClampNeg (nI (i + 1)) = i + 1 := nI_clamp (by omega)
  have c2 : Int32.toNatClampNeg (nI (i + 2)) = i + 2 := nI_clamp (by omega)
  obtain ⟨z2, h2, e, I2⟩ := opP (C := B + 121) (g := fun z h => fX9_resources (x + 43) z h) I (c_resources hC) (fun z h hR => r_resources hR) (hT.mono (by omega)) (fun z h => bL_law_1716 xs sl q b x (x + 43) (x + 53) (nI i) z h)
  refine ⟨z2, h2, _, ?_, I2⟩
  simp only [lL_law_23B, hlt, ↓reduceIte, c0, gd_t g0, hc, ly_1_0, nI_1, lw_2, c1, c2, gd_t g1, gd_t g2, gd_t hk]
  exact e.trans (by show q b x (x + 43) (x + 53) (nI i + 3) z2 h2 = _; rw [lw_3])
theorem op_2 (I : INV h x z A B) (hi : i + 3 ≤ sl) (hs : sl ≤ 1536) (hB : B + 121 < 2 ^ 31 - 1) (hc : xs i &&& 63 = 2) : ST xs sl q b x i z h B := by
  obtain ⟨hC, hR, hO, hT⟩ := id I
  have hk : kd h x = 9 := hC.1.1
  have hlt := lw_lt hi hs
  have g0 := lw_g (j := i) (by omega) hs
  have g1 := lw_g (j := i + 1) (by omega) hs
  have g2 := lw_g (j := i + 2) (by omega) hs
  have c0 : Int32.toNatClampNeg (nI i) = i := nI_clamp (by omega)
  have c1 : Int32.toNatClampNeg (nI (i + 1)) = i + 1 := nI_clamp (by omega)
  have c2 : Int32.toNatClampNeg (nI (i + 2)) = i + 2 := nI_clamp (by omega)
  have hT' : TI (aR A (xs (i + 1)) (xs (i + 2))).2.2 (B + 121) := hT.mono (by omega)
  have hb : (aR A (xs (i + 1)) (xs (i + 2))).1 ≤ 2 := k2R _ _ _
  obtain ⟨z1, h1, l1, l2⟩ := L2 (E1 := eB) (E2 := eA) (by decide) I (c_resource hC hT (xs (i + 1)) (xs (i + 2))) hb hT'
  have l0 : fL_resource x (xs (i + 1)) (xs (i + 2)) (x + 53) z h = some (nI (aR A (xs (i + 1)) (xs (i + 2))).1, z1, h1) := by
    unfold fL_resource
    rw [gd_t hk]
    exact l1
  obtain ⟨z2, h2, e, I2⟩ := opC (g := fun z h => fX9_resource (x + 43) (xs (i + 1)) (xs (i + 2)) z h) (by omega) l0 l2 (fun z h hR => r_resource hR hT (xs (i + 1)) (xs (i + 2))) hT' (fun z h => bL_law_326 xs sl q b x (x + 43) (x + 53) (nI i) z h)
  refine ⟨z2, h2, _, ?_, I2⟩
  simp only [lL_law_23B, hlt, ↓reduceIte, c0, gd_t g0, hc, ly_2_0, ly_2_1, nI_1, lw_2, c1, c2, gd_t g1, gd_t g2, gd_t hk]
  exact e.trans (by show q b x (x + 43) (x + 53) (nI i + 3) z2 h2 = _; rw [lw_3])
theorem op_3 (I : INV h x z A B) (hi : i + 3 ≤ sl) (hs : sl ≤ 1536) (hB : B + 121 < 2 ^ 31 - 1) (hc : xs i &&& 63 = 3) : ST xs sl q b x i z h B := by
  obtain ⟨hC, hR, hO, hT⟩ := id I
  have hk : kd h x = 9 := hC.1.1
  have hlt := lw_lt hi hs
  have g0 := lw_g (j := i) (by omega) hs
  have g1 := lw_g (j := i + 1) (by omega) hs
  have g2 := lw_g (j := i + 2) (by omega) hs
  have c0 : Int32.toNatClampNeg (nI i) = i := nI_clamp (by omega)
  have c1 : Int32.toNatClampNeg (nI (i + 1)) = i + 1 := nI_clamp (by omega)
  have c2 : Int32.toNatClampNeg (nI (i + 2)) = i + 2 := nI_clamp (by omega)
  have hT' : TI (aV A (xs (i + 1)) (xs (i + 2))).2.2 (B + 121) := hT.mono (by omega)
  have hb : (aV A (xs (i + 1)) (xs (i + 2))).1 ≤ 1 := k1O _ _ _
  have h01 : (aV A (xs (i + 1)) (xs (i + 2))).2.1 = 0 ∨ (aV A (xs (i + 1)) (xs (i + 2))).2.1 = 1 := by
    show (if ov A.1.1.1 _ _ then (1 : Int32) else 0) = 0 ∨ (if ov A.1.1.1 _ _ then (1 : Int32) else 0) = 1
    split
    · exact Or.inr rfl
    · exact Or.inl rfl
  obtain ⟨z1, h1, l1, l2⟩ := Lov (E1 := eB) (E2 := eS) I (c_overlap hC hT (xs (i + 1)) (xs (i + 2))) hb h01 hT'
  have l0 : fL_overlap x (xs (i + 1)) (xs (i + 2)) (x + 53) z h = some (nI (aV A (xs (i + 1)) (xs (i + 2))).1, z1, h1) := by
    unfold fL_overlap
    rw [gd_t hk]
    exact l1
  obtain ⟨z2, h2, e, I2⟩ := opV (g := fun z h => fX9_overlap (x + 43) (xs (i + 1)) (xs (i + 2)) z h) (by omega) h01 l0 l2 (fun z h hR => r_overlap hR hT (xs (i + 1)) (xs (i + 2))) hT' (fun z h => bL_law_401 xs sl q b x (x + 43) (x + 53) (nI i) z h) (fun t0 t1 z h => bL_law_395 xs sl q b x (x + 43) (x + 53) (nI i) t0 t1 z h) (fun y z h => by show bL_law_395 _ _ _ _ _ _ _ _ _ _ _ _ = _; unfold bL_law_395; rw [lg_self, if_pos rfl])
  refine ⟨z2, h2, _, ?_, I2⟩
  simp only [lL_law_23B, hlt, ↓reduceIte, c0, gd_t g0, hc, ly_3_0, ly_3_1, ly_3_2, nI_1, lw_2, c1, c2, gd_t g1, gd_t g2, gd_t hk]
  exact e.trans (by show q b x (x + 43) (x + 53) (nI i + 3) z2 h2 = _; rw [lw_3])
theorem op_4 (I : INV h x z A B) (hi : i + 3 ≤ sl) (hs : sl ≤ 1536) (hB : B + 121 < 2 ^ 31 - 1) (hc : xs i &&& 63 = 4) : ST xs sl q b x i z h B := by
  obtain ⟨hC, hR, hO, hT⟩ := id I
  have hk : kd h x = 9 := hC.1.1
  have hlt := lw_lt hi hs
  have g0 := lw_g (j := i) (by omega) hs
  have g1 := lw_g (j := i + 1) (by omega) hs
  have g2 := lw_g (j := i + 2) (by omega) hs
  have c0 : Int32.toNatClampNeg (nI i) = i := nI_clamp (by omega)
  have c1 : Int32.toNatClampNeg (nI (i + 1)) = i + 1 := nI_clamp (by omega)
  have c2 : Int32.toNatClampNeg (nI (i + 2)) = i + 2 := nI_clamp (by omega)
  have hT' : TI (aC A (xs (i + 1))).2.2 (B + 121) := TI_U hT (by omega) (fun hk => (WS_C (by omega) hT.1 hk).mono (by omega))
  have hb : (aC A (xs (i + 1))).1 ≤ 2 := k2C _ _
  obtain ⟨z1, h1, l1, l2⟩ := L2 (E1 := eA) (E2 := eS) (by decide) I (c_create hC hT (xs (i + 1))) hb hT'
  have l0 : fL_create x (xs (i + 1)) (x + 53) z h = some (nI (aC A (xs (i + 1))).1, z1, h1) := by
    unfold fL_create
    rw [gd_t hk]
    exact l1
  obtain ⟨z2, h2, e, I2⟩ := opC (g := fun z h => fX9_create (x + 43) (xs (i + 1)) z h) (by omega) l0 l2 (fun z h hR => r_create hR hT (xs (i + 1))) hT' (fun z h => bL_law_457 xs sl q b x (x + 43) (x + 53) (nI i) z h)
  refine ⟨z2, h2, _, ?_, I2⟩
  simp only [lL_law_23B, hlt, ↓reduceIte, c0, gd_t g0, hc, ly_4_0, ly_4_1, ly_4_2, ly_4_3, nI_1, lw_2, c1, c2, gd_t g1, gd_t g2, gd_t hk]
  exact e.trans (by show q b x (x + 43) (x + 53) (nI i + 3) z2 h2 = _; rw [lw_3])
theorem op_5 (I : INV h x z A B) (hi : i + 3 ≤ sl) (hs : sl ≤ 1536) (hB : B + 121 < 2 ^ 31 - 1) (hc : xs i &&& 63 = 5) : ST xs sl q b x i z h B := by
  obtain ⟨hC, hR, hO, hT⟩ := id I
  have hk : kd h x = 9 := hC.1.1
  have hlt := lw_lt hi hs
  have g0 := lw_g (j := i) (by omega) hs
  have g1 := lw_g (j := i + 1) (by omega) hs
  have g2 := lw_g (j := i + 2) (by omega) hs
  have c0 : Int32.toNatClampNeg (nI i) = i := nI_clamp (by omega)
  have c1 : Int32.toNatClampNeg (nI (i + 1)) = i + 1 := nI_clamp (by omega)
  have c2 : Int32.toNatClampNeg (nI (i + 2)) = i + 2 := nI_clamp (by omega)
  have hT' : TI (aQ A (xs (i + 1)) (xs (i + 2))).2.2 (B + 121) := TI_U hT (by omega) (fun hk => (WS_Q hT.1 hk).mono (by omega))
  have hb : (aQ A (xs (i + 1)) (xs (i + 2))).1 ≤ 2 := k2Q _ _ _
  obtain ⟨z1, h1, l1, l2⟩ := L2 (E1 := eB) (E2 := eS) (by decide) I (c_request hC hT (xs (i + 1)) (xs (i + 2))) hb hT'
  have l0 : fL_request x (xs (i + 1)) (xs (i + 2)) (x + 53) z h = some (nI (aQ A (xs (i + 1)) (xs (i + 2))).1, z1, h1) := by
    unfold fL_request
    rw [gd_t hk]
    exact l1
  obtain ⟨z2, h2, e, I2⟩ := opC (g := fun z h => fX9_request (x + 43) (xs (i + 1)) (xs (i + 2)) z h) (by omega) l0 l2 (fun z h hR => r_request hR hT (xs (i + 1)) (xs (i + 2))) hT' (fun z h => bL_law_525 xs sl q b x (x + 43) (x + 53) (nI i) z h)
  refine ⟨z2, h2, _, ?_, I2⟩
  simp only [lL_law_23B, hlt, ↓reduceIte, c0, gd_t g0, hc, ly_5_0, ly_5_1, ly_5_2, ly_5_3, ly_5_4, nI_1, lw_2, c1, c2, gd_t g1, gd_t g2, gd_t hk]
  exact e.trans (by show q b x (x + 43) (x + 53) (nI i + 3) z2 h2 = _; rw [lw_3])
theorem op_6 (I : INV h x z A B) (hi : i + 3 ≤ sl) (hs : sl ≤ 1536) (hB : B + 121 < 2 ^ 31 - 1) (hc : xs i &&& 63 = 6) : ST xs sl q b x i z h B := by
  obtain ⟨hC, hR, hO, hT⟩ := id I
  have hk : kd h x = 9 := hC.1.1
  have hlt := lw_lt hi hs
  have g0 := lw_g (j := i) (by omega) hs
  have g1 := lw_g (j := i + 1) (by omega) hs
  have g2 := lw_g (j := i + 2) (by omega) hs
  have c0 : Int32.toNatClampNeg (nI i) = i := nI_clamp (by omega)
  have c1 : Int32.toNatClampNeg (nI (i + 1)) = i + 1 := nI_clamp (by omega)
  have c2 : Int32.toNatClampNeg (nI (i + 2)) = i + 2 := nI_clamp (by omega)
  have hT' : TI (aL A (xs (i + 1)) (xs (i + 2))).2.2 (B + 121) := TI_U hT (by omega) (fun hk => (WS_L hT.1 hk).mono (by omega))
  have hb : (aL A (xs (i + 1)) (xs (i + 2))).1 ≤ 2 := k2L _ _ _
  obtain ⟨z1, h1, l1, l2⟩ := L2 (E1 := eB) (E2 := eS) (by decide) I (c_release hC hT (xs (i + 1)) (xs (i + 2))) hb hT'
  have l0 : fL_release x (xs (i + 1)) (xs (i + 2)) (x + 53) z h = some (nI (aL A (xs (i + 1)) (xs (i + 2))).1, z1, h1) := by
    unfold fL_release
    rw [gd_t hk]
    exact l1
  obtain ⟨z2, h2, e, I2⟩ := opC (g := fun z h => fX9_release (x + 43) (xs (i + 1)) (xs (i + 2)) z h) (by omega) l0 l2 (fun z h hR => r_release hR hT (xs (i + 1)) (xs (i + 2))) hT' (fun z h => bL_law_593 xs sl q b x (x + 43) (x + 53) (nI i) z h)
  refine ⟨z2, h2, _, ?_, I2⟩
  simp only [lL_law_23B, hlt, ↓reduceIte, c0, gd_t g0, hc, ly_6_0, ly_6_1, ly_6_2, ly_6_3, ly_6_4, ly_6_5, nI_1, lw_2, c1, c2, gd_t g1, gd_t g2, gd_t hk]
  exact e.trans (by show q b x (x + 43) (x + 53) (nI i + 3) z2 h2 = _; rw [lw_3])
theorem op_7 (I : INV h x z A B) (hi : i + 3 ≤ sl) (hs : sl ≤ 1536) (hB : B + 121 < 2 ^ 31 - 1) (hc : xs i &&& 63 = 7) : ST xs sl q b x i z h B := by
  obtain ⟨hC, hR, hO, hT⟩ := id I
  have hk : kd h x = 9 := hC.1.1
  have hlt := lw_lt hi hs
  have g0 := lw_g (j := i) (by omega) hs
  have g1 := lw_g (j := i + 1) (by omega) hs
  have g2 := lw_g (j := i + 2) (by omega) hs
  have c0 : Int32.toNatClampNeg (nI i) = i := nI_clamp (by omega)
  have c1 : Int32.toNatClampNeg (nI (i + 1)) = i + 1 := nI_clamp (by omega)
  have c2 : Int32.toNatClampNeg (nI (i + 2)) = i + 2 := nI_clamp (by omega)
  have hT' : TI (aF A (xs (i + 1))).2.2 (B + 121) := TI_U hT (by omega) (fun hk => (WS_F hT.1 hk).mono (by omega))
  have hb : (aF A (xs (i + 1))).1 ≤ 2 := k2F _ _
  obtain ⟨z1, h1, l1, l2⟩ := L2 (E1 := eB) (E2 := eS) (by decide) I (c_finish hC hT (xs (i + 1))) hb hT'
  have l0 : fL_finish x (xs (i + 1)) (x + 53) z h = some (nI (aF A (xs (i + 1))).1, z1, h1) := by
    unfold fL_finish
    rw [gd_t hk]
    exact l1
  obtain ⟨z2, h2, e, I2⟩ := opC (g := fun z h => fX9_finish (x + 43) (xs (i + 1)) z h) (by omega) l0 l2 (fun z h hR => r_finish hR hT (xs (i + 1))) hT' (fun z h => bL_law_649 xs sl q b x (x + 43) (x + 53) (nI i) z h)
  refine ⟨z2, h2, _, ?_, I2⟩
  simp only [lL_law_23B, hlt, ↓reduceIte, c0, gd_t g0, hc, ly_7_0, ly_7_1, ly_7_2, ly_7_3, ly_7_4, ly_7_5, ly_7_6, nI_1, lw_2, c1, c2, gd_t g1, gd_t g2, gd_t hk]
  exact e.trans (by show q b x (x + 43) (x + 53) (nI i + 3) z2 h2 = _; rw [lw_3])
theorem op_8 (I : INV h x z A B) (hi : i + 3 ≤ sl) (hs : sl ≤ 1536) (hB : B + 121 < 2 ^ 31 - 1) (hc : xs i &&& 63 = 8) : ST xs sl q b x i z h B := by
  obtain ⟨hC, hR, hO, hT⟩ := id I
  have hk : kd h x = 9 := hC.1.1
  have hlt := lw_lt hi hs
  have g0 := lw_g (j := i) (by omega) hs
  have g1 := lw_g (j := i + 1) (by omega) hs
  have g2 := lw_g (j := i + 2) (by omega) hs
  have c0 : Int32.toNatClampNeg (nI i) = i := nI_clamp (by omega)
  have c1 : Int32.toNatClampNeg (nI (i + 1)) = i + 1 := nI_clamp (by omega)
  have c2 : Int32.toNatClampNeg (nI (i + 2)) = i + 2 := nI_clamp (by omega)
  have hT' : TI (aA A (xs (i + 1))).2.2 (B + 121) := TI_U hT (by omega) (fun hk => (WS_A hT.1 hk).mono (by omega))
  have hb : (aA A (xs (i + 1))).1 ≤ 2 := k2A _ _
  obtain ⟨z1, h1, l1, l2⟩ := L2 (E1 := eB) (E2 := eS) (by decide) I (c_abort hC hT (xs (i + 1))) hb hT'
  have l0 : fL_abort x (xs (i + 1)) (x + 53) z h = some (nI (aA A (xs (i + 1))).1, z1, h1) := by
    unfold fL_abort
    rw [gd_t hk]
    exact l1
  obtain ⟨z2, h2, e, I2⟩ := opC (g := fun z h => fX9_abort (x + 43) (xs (i + 1)) z h) (by omega) l0 l2 (fun z h hR => r_abort hR hT (xs (i + 1))) hT' (fun z h => bL_law_705 xs sl q b x (x + 43) (x + 53) (nI i) z h)
  refine ⟨z2, h2, _, ?_, I2⟩
  simp only [lL_law_23B, hlt, ↓reduceIte, c0, gd_t g0, hc, ly_8_0, ly_8_1, ly_8_2, ly_8_3, ly_8_4, ly_8_5, ly_8_6, ly_8_7, nI_1, lw_2, c1, c2, gd_t g1, gd_t g2, gd_t hk]
  exact e.trans (by show q b x (x + 43) (x + 53) (nI i + 3) z2 h2 = _; rw [lw_3])
theorem op_9 (I : INV h x z A B) (hi : i + 3 ≤ sl) (hs : sl ≤ 1536) (hB : B + 121 < 2 ^ 31 - 1) (hc : xs i &&& 63 = 9) : ST xs sl q b x i z h B := by
  obtain ⟨hC, hR, hO, hT⟩ := id I
  have hk : kd h x = 9 := hC.1.1
  have hlt := lw_lt hi hs
  have g0 := lw_g (j := i) (by omega) hs
  have g1 := lw_g (j := i + 1) (by omega) hs
  have g2 := lw_g (j := i + 2) (by omega) hs
  have c0 : Int32.toNatClampNeg (nI i) = i := nI_clamp (by omega)
  have c1 : Int32.toNatClampNeg (nI (i + 1)) = i + 1 := nI_clamp (by omega)
  have c2 : Int32.toNatClampNeg (nI (i + 2)) = i + 2 := nI_clamp (by omega)
  have hT' : TI (aB A (xs (i + 1))).2.2 (B + 121) := TI_U hT (by omega) (fun hk => (WS_B hT.1 hk).mono (by omega))
  have hb : (aB A (xs (i + 1))).1 ≤ 2 := k2B _ _
  obtain ⟨z1, h1, l1, l2⟩ := L2 (E1 := eB) (E2 := eS) (by decide) I (c_restart hC hT (xs (i + 1))) hb hT'
  have l0 : fL_restart x (xs (i + 1)) (x + 53) z h = some (nI (aB A (xs (i + 1))).1, z1, h1) := by
    unfold fL_restart
    rw [gd_t hk]
    exact l1
  obtain ⟨z2, h2, e, I2⟩ := opC (g := fun z h => fX9_restart (x + 43) (xs (i + 1)) z h) (by omega) l0 l2 (fun z h hR => r_restart hR hT (xs (i + 1))) hT' (fun z h => bL_law_761 xs sl q b x (x + 43) (x + 53) (nI i) z h)
  refine ⟨z2, h2, _, ?_, I2⟩
  simp only [lL_law_23B, hlt, ↓reduceIte, c0, gd_t g0, hc, ly_9_0, ly_9_1, ly_9_2, ly_9_3, ly_9_4, ly_9_5, ly_9_6, ly_9_7, ly_9_8, nI_1, lw_2, c1, c2, gd_t g1, gd_t g2, gd_t hk]
  exact e.trans (by show q b x (x + 43) (x + 53) (nI i + 3) z2 h2 = _; rw [lw_3])
theorem op_10 (I : INV h x z A B) (hi : i + 3 ≤ sl) (hs : sl ≤ 1536) (hB : B + 121 < 2 ^ 31 - 1) (hc : xs i &&& 63 = 10) : ST xs sl q b x i z h B := by
  obtain ⟨hC, hR, hO, hT⟩ := id I
  have hk : kd h x = 9 := hC.1.1
  have hlt := lw_lt hi hs
  have g0 := lw_g (j := i) (by omega) hs
  have g1 := lw_g (j := i + 1) (by omega) hs
  have g2 := lw_g (j := i + 2) (by omega) hs
  have c0 : Int32.toNatClampNeg (nI i) = i := nI_clamp (by omega)
  have c1 : Int32.toNatClampNeg (nI (i + 1)) = i + 1 := nI_clamp (by omega)
  have c2 : Int32.toNatClampNeg (nI (i + 2)) = i + 2 := nI_clamp (by omega)
  obtain ⟨z2, h2, e, I2⟩ := opP (C := B + 121) (g := fun z h => fX9_tasks (x + 43) z h) I (c_tasks hC) (fun z h hR => r_tasks hR) (hT.mono (by omega)) (fun z h => bL_law_1716 xs sl q b x (x + 43) (x + 53) (nI i) z h)
  refine ⟨z2, h2, _, ?_, I2⟩
  simp only [lL_law_23B, hlt, ↓reduceIte, c0, gd_t g0, hc, ly_10_0, ly_10_1, ly_10_2, ly_10_3, ly_10_4, ly_10_5, ly_10_6, ly_10_7, ly_10_8, ly_10_9, nI_1, lw_2, c1, c2, gd_t g1, gd_t g2, gd_t hk]
  exact e.trans (by show q b x (x + 43) (x + 53) (nI i + 3) z2 h2 = _; rw [lw_3])
theorem op_11 (I : INV h x z A B) (hi : i + 3 ≤ sl) (hs : sl ≤ 1536) (hB : B + 121 < 2 ^ 31 - 1) (hc : xs i &&& 63 = 11) : ST xs sl q b x i z h B := by
  obtain ⟨hC, hR, hO, hT⟩ := id I
  have hk : kd h x = 9 := hC.1.1
  have hlt := lw_lt hi hs
  have g0 := lw_g (j := i) (by omega) hs
  have g1 := lw_g (j := i + 1) (by omega) hs
  have g2 := lw_g (j := i + 2) (by omega) hs
  have c0 : Int32.toNatClampNeg (nI i) = i := nI_clamp (by omega)
  have c1 : Int32.toNatClampNeg (nI (i + 1)) = i + 1 := nI_clamp (by omega)
  have c2 : Int32.toNatClampNeg (nI (i + 2)) = i + 2 := nI_clamp (by omega)
  have hT' : TI (aT A (xs (i + 1)) (xs (i + 2))).2.2 (B + 121) := hT.mono (by omega)
  have hb : (aT A (xs (i + 1)) (xs (i + 2))).1 ≤ 2 := k2T _ _ _
  obtain ⟨z1, h1, l1, l2⟩ := L2 (E1 := eB) (E2 := eA) (by decide) I (c_task hC hT (xs (i + 1)) (xs (i + 2))) hb hT'
  have l0 : fL_task x (xs (i + 1)) (xs (i + 2)) (x + 53) z h = some (nI (aT A (xs (i + 1)) (xs (i + 2))).1, z1, h1) := by
    unfold fL_task
    rw [gd_t hk]
    exact l1
  obtain ⟨z2, h2, e, I2⟩ := opC (g := fun z h => fX9_task (x + 43) (xs (i + 1)) (xs (i + 2)) z h) (by omega) l0 l2 (fun z h hR => r_task hR hT (xs (i + 1)) (xs (i + 2))) hT' (fun z h => bL_law_842 xs sl q b x (x + 43) (x + 53) (nI i) z h)
  refine ⟨z2, h2, _, ?_, I2⟩
  simp only [lL_law_23B, hlt, ↓reduceIte, c0, gd_t g0, hc, ly_11_0, ly_11_1, ly_11_2, ly_11_3, ly_11_4, ly_11_5, ly_11_6, ly_11_7, ly_11_8, ly_11_9, ly_11_10, nI_1, lw_2, c1, c2, gd_t g1, gd_t g2, gd_t hk]
  exact e.trans (by show q b x (x + 43) (x + 53) (nI i + 3) z2 h2 = _; rw [lw_3])
theorem op_12 (I : INV h x z A B) (hi : i + 3 ≤ sl) (hs : sl ≤ 1536) (hB : B + 121 < 2 ^ 31 - 1) (hc : xs i &&& 63 = 12) : ST xs sl q b x i z h B := by
  obtain ⟨hC, hR, hO, hT⟩ := id I
  have hk : kd h x = 9 := hC.1.1
  have hlt := lw_lt hi hs
  have g0 := lw_g (j := i) (by omega) hs
  have g1 := lw_g (j := i + 1) (by omega) hs
  have g2 := lw_g (j := i + 2) (by omega) hs
  have c0 : Int32.toNatClampNeg (nI i) = i := nI_clamp (by omega)
  have c1 : Int32.toNatClampNeg (nI (i + 1)) = i + 1 := nI_clamp (by omega)
  have c2 : Int32.toNatClampNeg (nI (i + 2)) = i + 2 := nI_clamp (by omega)
  obtain ⟨z2, h2, e, I2⟩ := opP (C := B + 121) (g := fun z h => fX9_waiting (x + 43) (xs (i + 1)) z h) I (c_waiting hC hT (xs (i + 1))) (fun z h hR => r_waiting hR hT (xs (i + 1))) (hT.mono (by omega)) (fun z h => bL_law_1716 xs sl q b x (x + 43) (x + 53) (nI i) z h)
  refine ⟨z2, h2, _, ?_, I2⟩
  simp only [lL_law_23B, hlt, ↓reduceIte, c0, gd_t g0, hc, ly_12_0, ly_12_1, ly_12_2, ly_12_3, ly_12_4, ly_12_5, ly_12_6, ly_12_7, ly_12_8, ly_12_9, ly_12_10, ly_12_11, nI_1, lw_2, c1, c2, gd_t g1, gd_t g2, gd_t hk]
  exact e.trans (by show q b x (x + 43) (x + 53) (nI i + 3) z2 h2 = _; rw [lw_3])
theorem op_13 (I : INV h x z A B) (hi : i + 3 ≤ sl) (hs : sl ≤ 1536) (hB : B + 121 < 2 ^ 31 - 1) (hc : xs i &&& 63 = 13) : ST xs sl q b x i z h B := by
  obtain ⟨hC, hR, hO, hT⟩ := id I
  have hk : kd h x = 9 := hC.1.1
  have hlt := lw_lt hi hs
  have g0 := lw_g (j := i) (by omega) hs
  have g1 := lw_g (j := i + 1) (by omega) hs
  have g2 := lw_g (j := i + 2) (by omega) hs
  have c0 : Int32.toNatClampNeg (nI i) = i := nI_clamp (by omega)
  have c1 : Int32.toNatClampNeg (nI (i + 1)) = i + 1 := nI_clamp (by omega)
  have c2 : Int32.toNatClampNeg (nI (i + 2)) = i + 2 := nI_clamp (by omega)
  have hT' : TI (aW A (xs (i + 1)) (xs (i + 2))).2.2 (B + 121) := hT.mono (by omega)
  have hb : (aW A (xs (i + 1)) (xs (i + 2))).1 ≤ 2 := k2Q _ _ _
  obtain ⟨z1, h1, l1, l2⟩ := L2 (E1 := eB) (E2 := eS) (by decide) I (c_wouldHappen hC hT (xs (i + 1)) (xs (i + 2))) hb hT'
  have l0 : fL_wouldHappen x (xs (i + 1)) (xs (i + 2)) (x + 53) z h = some (nI (aW A (xs (i + 1)) (xs (i + 2))).1, z1, h1) := by
    unfold fL_wouldHappen
    rw [gd_t hk]
    exact l1
  obtain ⟨z2, h2, e, I2⟩ := opC (g := fun z h => fX9_wouldHappen (x + 43) (xs (i + 1)) (xs (i + 2)) z h) (by omega) l0 l2 (fun z h hR => r_wouldHappen hR hT (xs (i + 1)) (xs (i + 2))) hT' (fun z h => bL_law_935 xs sl q b x (x + 43) (x + 53) (nI i) z h)
  refine ⟨z2, h2, _, ?_, I2⟩
  simp only [lL_law_23B, hlt, ↓reduceIte, c0, gd_t g0, hc, ly_13_0, ly_13_1, ly_13_2, ly_13_3, ly_13_4, ly_13_5, ly_13_6, ly_13_7, ly_13_8, ly_13_9, ly_13_10, ly_13_11, ly_13_12, nI_1, lw_2, c1, c2, gd_t g1, gd_t g2, gd_t hk]
  exact e.trans (by show q b x (x + 43) (x + 53) (nI i + 3) z2 h2 = _; rw [lw_3])
theorem op_14 (I : INV h x z A B) (hi : i + 3 ≤ sl) (hs : sl ≤ 1536) (hB : B + 121 < 2 ^ 31 - 1) (hc : xs i &&& 63 = 14) : ST xs sl q b x i z h B := by
  obtain ⟨hC, hR, hO, hT⟩ := id I
  have hk : kd h x = 9 := hC.1.1
  have hlt := lw_lt hi hs
  have g0 := lw_g (j := i) (by omega) hs
  have g1 := lw_g (j := i + 1) (by omega) hs
  have g2 := lw_g (j := i + 2) (by omega) hs
  have c0 : Int32.toNatClampNeg (nI i) = i := nI_clamp (by omega)
  have c1 : Int32.toNatClampNeg (nI (i + 1)) = i + 1 := nI_clamp (by omega)
  have c2 : Int32.toNatClampNeg (nI (i + 2)) = i + 2 := nI_clamp (by omega)
  have hT' : TI (aS1 A (xs (i + 1))).2.2 (B + 121) := TI_U hT (by omega) (fun hk => (WS_S1 hT.1 hk).mono (by omega))
  have hb : (aS1 A (xs (i + 1))).1 ≤ 1 := k1V _ _ _
  obtain ⟨z1, h1, l1, l2⟩ := L1 (E1 := eA) (E2 := eS) I (c_setPolicy hC hT (xs (i + 1))) hb hT'
  have l0 : fL_setPolicy x (xs (i + 1)) (x + 53) z h = some (nI (aS1 A (xs (i + 1))).1, z1, h1) := by
    unfold fL_setPolicy
    rw [gd_t hk]
    exact l1
  obtain ⟨z2, h2, e, I2⟩ := opC (g := fun z h => fX9_setPolicy (x + 43) (xs (i + 1)) z h) (by omega) l0 l2 (fun z h hR => r_setPolicy hR hT (xs (i + 1))) hT' (fun z h => bL_law_991 xs sl q b x (x + 43) (x + 53) (nI i) z h)
  refine ⟨z2, h2, _, ?_, I2⟩
  simp only [lL_law_23B, hlt, ↓reduceIte, c0, gd_t g0, hc, ly_14_0, ly_14_1, ly_14_2, ly_14_3, ly_14_4, ly_14_5, ly_14_6, ly_14_7, ly_14_8, ly_14_9, ly_14_10, ly_14_11, ly_14_12, ly_14_13, nI_1, lw_2, c1, c2, gd_t g1, gd_t g2, gd_t hk]
  exact e.trans (by show q b x (x + 43) (x + 53) (nI i + 3) z2 h2 = _; rw [lw_3])
theorem op_15 (I : INV h x z A B) (hi : i + 3 ≤ sl) (hs : sl ≤ 1536) (hB : B + 121 < 2 ^ 31 - 1) (hc : xs i &&& 63 = 15) : ST xs sl q b x i z h B := by
  obtain ⟨hC, hR, hO, hT⟩ := id I
  have hk : kd h x = 9 := hC.1.1
  have hlt := lw_lt hi hs
  have g0 := lw_g (j := i) (by omega) hs
  have g1 := lw_g (j := i + 1) (by omega) hs
  have g2 := lw_g (j := i + 2) (by omega) hs
  have c0 : Int32.toNatClampNeg (nI i) = i := nI_clamp (by omega)
  have c1 : Int32.toNatClampNeg (nI (i + 1)) = i + 1 := nI_clamp (by omega)
  have c2 : Int32.toNatClampNeg (nI (i + 2)) = i + 2 := nI_clamp (by omega)
  have hT' : TI (aS2 A (xs (i + 1))).2.2 (B + 121) := TI_U hT (by omega) (fun hk => (WS_S2 hT.1 hk).mono (by omega))
  have hb : (aS2 A (xs (i + 1))).1 ≤ 1 := k1V _ _ _
  obtain ⟨z1, h1, l1, l2⟩ := L1 (E1 := eA) (E2 := eS) I (c_setRule hC hT (xs (i + 1))) hb hT'
  have l0 : fL_setRule x (xs (i + 1)) (x + 53) z h = some (nI (aS2 A (xs (i + 1))).1, z1, h1) := by
    unfold fL_setRule
    rw [gd_t hk]
    exact l1
  obtain ⟨z2, h2, e, I2⟩ := opC (g := fun z h => fX9_setRule (x + 43) (xs (i + 1)) z h) (by omega) l0 l2 (fun z h hR => r_setRule hR hT (xs (i + 1))) hT' (fun z h => bL_law_1047 xs sl q b x (x + 43) (x + 53) (nI i) z h)
  refine ⟨z2, h2, _, ?_, I2⟩
  simp only [lL_law_23B, hlt, ↓reduceIte, c0, gd_t g0, hc, ly_15_0, ly_15_1, ly_15_2, ly_15_3, ly_15_4, ly_15_5, ly_15_6, ly_15_7, ly_15_8, ly_15_9, ly_15_10, ly_15_11, ly_15_12, ly_15_13, ly_15_14, nI_1, lw_2, c1, c2, gd_t g1, gd_t g2, gd_t hk]
  exact e.trans (by show q b x (x + 43) (x + 53) (nI i + 3) z2 h2 = _; rw [lw_3])
theorem op_16 (I : INV h x z A B) (hi : i + 3 ≤ sl) (hs : sl ≤ 1536) (hB : B + 121 < 2 ^ 31 - 1) (hc : xs i &&& 63 = 16) : ST xs sl q b x i z h B := by
  obtain ⟨hC, hR, hO, hT⟩ := id I
  have hk : kd h x = 9 := hC.1.1
  have hlt := lw_lt hi hs
  have g0 := lw_g (j := i) (by omega) hs
  have g1 := lw_g (j := i + 1) (by omega) hs
  have g2 := lw_g (j := i + 2) (by omega) hs
  have c0 : Int32.toNatClampNeg (nI i) = i := nI_clamp (by omega)
  have c1 : Int32.toNatClampNeg (nI (i + 1)) = i + 1 := nI_clamp (by omega)
  have c2 : Int32.toNatClampNeg (nI (i + 2)) = i + 2 := nI_clamp (by omega)
  have hT' : TI (aS3 A (xs (i + 1))).2.2 (B + 121) := TI_U hT (by omega) (fun hk => (WS_S3 hT.1 hk).mono (by omega))
  have hb : (aS3 A (xs (i + 1))).1 ≤ 1 := k1V _ _ _
  obtain ⟨z1, h1, l1, l2⟩ := L1 (E1 := eA) (E2 := eS) I (c_setBudget hC hT (xs (i + 1))) hb hT'
  have l0 : fL_setBudget x (xs (i + 1)) (x + 53) z h = some (nI (aS3 A (xs (i + 1))).1, z1, h1) := by
    unfold fL_setBudget
    rw [gd_t hk]
    exact l1
  obtain ⟨z2, h2, e, I2⟩ := opC (g := fun z h => fX9_setBudget (x + 43) (xs (i + 1)) z h) (by omega) l0 l2 (fun z h hR => r_setBudget hR hT (xs (i + 1))) hT' (fun z h => bL_law_1103 xs sl q b x (x + 43) (x + 53) (nI i) z h)
  refine ⟨z2, h2, _, ?_, I2⟩
  simp only [lL_law_23B, hlt, ↓reduceIte, c0, gd_t g0, hc, ly_16_0, ly_16_1, ly_16_2, ly_16_3, ly_16_4, ly_16_5, ly_16_6, ly_16_7, ly_16_8, ly_16_9, ly_16_10, ly_16_11, ly_16_12, ly_16_13, ly_16_14, ly_16_15, nI_1, lw_2, c1, c2, gd_t g1, gd_t g2, gd_t hk]
  exact e.trans (by show q b x (x + 43) (x + 53) (nI i + 3) z2 h2 = _; rw [lw_3])
theorem op_17 (I : INV h x z A B) (hi : i + 3 ≤ sl) (hs : sl ≤ 1536) (hB : B + 121 < 2 ^ 31 - 1) (hc : xs i &&& 63 = 17) : ST xs sl q b x i z h B := by
  obtain ⟨hC, hR, hO, hT⟩ := id I
  have hk : kd h x = 9 := hC.1.1
  have hlt := lw_lt hi hs
  have g0 := lw_g (j := i) (by omega) hs
  have g1 := lw_g (j := i + 1) (by omega) hs
  have g2 := lw_g (j := i + 2) (by omega) hs
  have c0 : Int32.toNatClampNeg (nI i) = i := nI_clamp (by omega)
  have c1 : Int32.toNatClampNeg (nI (i + 1)) = i + 1 := nI_clamp (by omega)
  have c2 : Int32.toNatClampNeg (nI (i + 2)) = i + 2 := nI_clamp (by omega)
  have hT' : TI (aP A (xs (i + 1))).2.2 (B + 121) := TI_U hT (by omega) (fun hk => (WS_P hT.1 hk).mono (by omega))
  have hb : (aP A (xs (i + 1))).1 ≤ 2 := k2P _ _
  obtain ⟨z1, h1, l1, l2⟩ := L2 (E1 := eB) (E2 := eS) (by decide) I (c_probe hC hT (xs (i + 1))) hb hT'
  have l0 : fL_probe x (xs (i + 1)) (x + 53) z h = some (nI (aP A (xs (i + 1))).1, z1, h1) := by
    unfold fL_probe
    rw [gd_t hk]
    exact l1
  obtain ⟨z2, h2, e, I2⟩ := opC (g := fun z h => fX9_probe (x + 43) (xs (i + 1)) z h) (by omega) l0 l2 (fun z h hR => r_probe hR hT (xs (i + 1))) hT' (fun z h => bL_law_1159 xs sl q b x (x + 43) (x + 53) (nI i) z h)
  refine ⟨z2, h2, _, ?_, I2⟩
  simp only [lL_law_23B, hlt, ↓reduceIte, c0, gd_t g0, hc, ly_17_0, ly_17_1, ly_17_2, ly_17_3, ly_17_4, ly_17_5, ly_17_6, ly_17_7, ly_17_8, ly_17_9, ly_17_10, ly_17_11, ly_17_12, ly_17_13, ly_17_14, ly_17_15, ly_17_16, nI_1, lw_2, c1, c2, gd_t g1, gd_t g2, gd_t hk]
  exact e.trans (by show q b x (x + 43) (x + 53) (nI i + 3) z2 h2 = _; rw [lw_3])
theorem op_18 (I : INV h x z A B) (hi : i + 3 ≤ sl) (hs : sl ≤ 1536) (hB : B + 121 < 2 ^ 31 - 1) (hc : xs i &&& 63 = 18) : ST xs sl q b x i z h B := by
  obtain ⟨hC, hR, hO, hT⟩ := id I
  have hk : kd h x = 9 := hC.1.1
  have hlt := lw_lt hi hs
  have g0 := lw_g (j := i) (by omega) hs
  have g1 := lw_g (j := i + 1) (by omega) hs
  have g2 := lw_g (j := i + 2) (by omega) hs
  have c0 : Int32.toNatClampNeg (nI i) = i := nI_clamp (by omega)
  have c1 : Int32.toNatClampNeg (nI (i + 1)) = i + 1 := nI_clamp (by omega)
  have c2 : Int32.toNatClampNeg (nI (i + 2)) = i + 2 := nI_clamp (by omega)
  have hT' : TI (aD A (xs (i + 1))).2.2 (B + 121) := TI_U hT (by omega) (fun _ => (WS_D (by omega) hT.1).mono (by omega))
  have hb : (aD A (xs (i + 1))).1 ≤ 1 := k1D _
  obtain ⟨z1, h1, l1, l2⟩ := L1 (E1 := eA) (E2 := eS) I (c_deliver (by omega) hC hT (xs (i + 1))) hb hT'
  have l0 : fL_deliver x (xs (i + 1)) (x + 53) z h = some (nI (aD A (xs (i + 1))).1, z1, h1) := by
    unfold fL_deliver
    rw [gd_t hk]
    exact l1
  obtain ⟨z2, h2, e, I2⟩ := opC (g := fun z h => fX9_deliver (x + 43) (xs (i + 1)) z h) (by omega) l0 l2 (fun z h hR => r_deliver (by omega) hR hT (xs (i + 1))) hT' (fun z h => bL_law_1215 xs sl q b x (x + 43) (x + 53) (nI i) z h)
  refine ⟨z2, h2, _, ?_, I2⟩
  simp only [lL_law_23B, hlt, ↓reduceIte, c0, gd_t g0, hc, ly_18_0, ly_18_1, ly_18_2, ly_18_3, ly_18_4, ly_18_5, ly_18_6, ly_18_7, ly_18_8, ly_18_9, ly_18_10, ly_18_11, ly_18_12, ly_18_13, ly_18_14, ly_18_15, ly_18_16, ly_18_17, nI_1, lw_2, c1, c2, gd_t g1, gd_t g2, gd_t hk]
  exact e.trans (by show q b x (x + 43) (x + 53) (nI i + 3) z2 h2 = _; rw [lw_3])
theorem op_19 (I : INV h x z A B) (hi : i + 3 ≤ sl) (hs : sl ≤ 1536) (hB : B + 121 < 2 ^ 31 - 1) (hc : xs i &&& 63 = 19) : ST xs sl q b x i z h B := by
  obtain ⟨hC, hR, hO, hT⟩ := id I
  have hk : kd h x = 9 := hC.1.1
  have hlt := lw_lt hi hs
  have g0 := lw_g (j := i) (by omega) hs
  have g1 := lw_g (j := i + 1) (by omega) hs
  have g2 := lw_g (j := i + 2) (by omega) hs
  have c0 : Int32.toNatClampNeg (nI i) = i := nI_clamp (by omega)
  have c1 : Int32.toNatClampNeg (nI (i + 1)) = i + 1 := nI_clamp (by omega)
  have c2 : Int32.toNatClampNeg (nI (i + 2)) = i + 2 := nI_clamp (by omega)
  obtain ⟨z2, h2, e, I2⟩ := opP (C := B + 121) (g := fun z h => fX9_messages (x + 43) z h) I (c_messages hC) (fun z h hR => r_messages hR) (hT.mono (by omega)) (fun z h => bL_law_1716 xs sl q b x (x + 43) (x + 53) (nI i) z h)
  refine ⟨z2, h2, _, ?_, I2⟩
  simp only [lL_law_23B, hlt, ↓reduceIte, c0, gd_t g0, hc, ly_19_0, ly_19_1, ly_19_2, ly_19_3, ly_19_4, ly_19_5, ly_19_6, ly_19_7, ly_19_8, ly_19_9, ly_19_10, ly_19_11, ly_19_12, ly_19_13, ly_19_14, ly_19_15, ly_19_16, ly_19_17, ly_19_18, nI_1, lw_2, c1, c2, gd_t g1, gd_t g2, gd_t hk]
  exact e.trans (by show q b x (x + 43) (x + 53) (nI i + 3) z2 h2 = _; rw [lw_3])
theorem op_20 (I : INV h x z A B) (hi : i + 3 ≤ sl) (hs : sl ≤ 1536) (hB : B + 121 < 2 ^ 31 - 1) (hc : xs i &&& 63 = 20) : ST xs sl q b x i z h B := by
  obtain ⟨hC, hR, hO, hT⟩ := id I
  have hk : kd h x = 9 := hC.1.1
  have hlt := lw_lt hi hs
  have g0 := lw_g (j := i) (by omega) hs
  have g1 := lw_g (j := i + 1) (by omega) hs
  have g2 := lw_g (j := i + 2) (by omega) hs
  have c0 : Int32.toNatClampNeg (nI i) = i := nI_clamp (by omega)
  have c1 : Int32.toNatClampNeg (nI (i + 1)) = i + 1 := nI_clamp (by omega)
  have c2 : Int32.toNatClampNeg (nI (i + 2)) = i + 2 := nI_clamp (by omega)
  have hT' : TI (aM A (xs (i + 1)) (xs (i + 2))).2.2 (B + 121) := hT.mono (by omega)
  have hb : (aM A (xs (i + 1)) (xs (i + 2))).1 ≤ 1 := k1V _ _ _
  obtain ⟨z1, h1, l1, l2⟩ := L1 (E1 := eA) (E2 := eS) I (c_message hC hT (xs (i + 1)) (xs (i + 2))) hb hT'
  have l0 : fL_message x (xs (i + 1)) (xs (i + 2)) (x + 53) z h = some (nI (aM A (xs (i + 1)) (xs (i + 2))).1, z1, h1) := by
    unfold fL_message
    rw [gd_t hk]
    exact l1
  obtain ⟨z2, h2, e, I2⟩ := opC (g := fun z h => fX9_message (x + 43) (xs (i + 1)) (xs (i + 2)) z h) (by omega) l0 l2 (fun z h hR => r_message hR hT (xs (i + 1)) (xs (i + 2))) hT' (fun z h => bL_law_1296 xs sl q b x (x + 43) (x + 53) (nI i) z h)
  refine ⟨z2, h2, _, ?_, I2⟩
  simp only [lL_law_23B, hlt, ↓reduceIte, c0, gd_t g0, hc, ly_20_0, ly_20_1, ly_20_2, ly_20_3, ly_20_4, ly_20_5, ly_20_6, ly_20_7, ly_20_8, ly_20_9, ly_20_10, ly_20_11, ly_20_12, ly_20_13, ly_20_14, ly_20_15, ly_20_16, ly_20_17, ly_20_18, ly_20_19, nI_1, lw_2, c1, c2, gd_t g1, gd_t g2, gd_t hk]
  exact e.trans (by show q b x (x + 43) (x + 53) (nI i + 3) z2 h2 = _; rw [lw_3])
theorem op_21 (I : INV h x z A B) (hi : i + 3 ≤ sl) (hs : sl ≤ 1536) (hB : B + 121 < 2 ^ 31 - 1) (hc : xs i &&& 63 = 21) : ST xs sl q b x i z h B := by
  obtain ⟨hC, hR, hO, hT⟩ := id I
  have hk : kd h x = 9 := hC.1.1
  have hlt := lw_lt hi hs
  have g0 := lw_g (j := i) (by omega) hs
  have g1 := lw_g (j := i + 1) (by omega) hs
  have g2 := lw_g (j := i + 2) (by omega) hs
  have c0 : Int32.toNatClampNeg (nI i) = i := nI_clamp (by omega)
  have c1 : Int32.toNatClampNeg (nI (i + 1)) = i + 1 := nI_clamp (by omega)
  have c2 : Int32.toNatClampNeg (nI (i + 2)) = i + 2 := nI_clamp (by omega)
  have hT' : TI (aO A (xs (i + 1))).2.2 (B + 121) := hT.mono (by omega)
  have hb : (aO A (xs (i + 1))).1 ≤ 1 := k1V _ _ _
  obtain ⟨z1, h1, l1, l2⟩ := L1 (E1 := eA) (E2 := eS) I (c_told hC hT (xs (i + 1))) hb hT'
  have l0 : fL_told x (xs (i + 1)) (x + 53) z h = some (nI (aO A (xs (i + 1))).1, z1, h1) := by
    unfold fL_told
    rw [gd_t hk]
    exact l1
  obtain ⟨z2, h2, e, I2⟩ := opC (g := fun z h => fX9_told (x + 43) (xs (i + 1)) z h) (by omega) l0 l2 (fun z h hR => r_told hR (xs (i + 1))) hT' (fun z h => bL_law_1352 xs sl q b x (x + 43) (x + 53) (nI i) z h)
  refine ⟨z2, h2, _, ?_, I2⟩
  simp only [lL_law_23B, hlt, ↓reduceIte, c0, gd_t g0, hc, ly_21_0, ly_21_1, ly_21_2, ly_21_3, ly_21_4, ly_21_5, ly_21_6, ly_21_7, ly_21_8, ly_21_9, ly_21_10, ly_21_11, ly_21_12, ly_21_13, ly_21_14, ly_21_15, ly_21_16, ly_21_17, ly_21_18, ly_21_19, ly_21_20, nI_1, lw_2, c1, c2, gd_t g1, gd_t g2, gd_t hk]
  exact e.trans (by show q b x (x + 43) (x + 53) (nI i + 3) z2 h2 = _; rw [lw_3])
theorem op_22 (I : INV h x z A B) (hi : i + 3 ≤ sl) (hs : sl ≤ 1536) (hB : B + 121 < 2 ^ 31 - 1) (hc : xs i &&& 63 = 22) : ST xs sl q b x i z h B := by
  obtain ⟨hC, hR, hO, hT⟩ := id I
  have hk : kd h x = 9 := hC.1.1
  have hlt := lw_lt hi hs
  have g0 := lw_g (j := i) (by omega) hs
  have g1 := lw_g (j := i + 1) (by omega) hs
  have g2 := lw_g (j := i + 2) (by omega) hs
  have c0 : Int32.toNatClampNeg (nI i) = i := nI_clamp (by omega)
  have c1 : Int32.toNatClampNeg (nI (i + 1)) = i + 1 := nI_clamp (by omega)
  have c2 : Int32.toNatClampNeg (nI (i + 2)) = i + 2 := nI_clamp (by omega)
  obtain ⟨z2, h2, e, I2⟩ := opP (C := B + 121) (g := fun z h => fX9_onCycles (x + 43) z h) I (c_onCycles hC hT) (fun z h hR => r_onCycles hR hT) (hT.mono (by omega)) (fun z h => bL_law_1716 xs sl q b x (x + 43) (x + 53) (nI i) z h)
  refine ⟨z2, h2, _, ?_, I2⟩
  simp only [lL_law_23B, hlt, ↓reduceIte, c0, gd_t g0, hc, ly_22_0, ly_22_1, ly_22_2, ly_22_3, ly_22_4, ly_22_5, ly_22_6, ly_22_7, ly_22_8, ly_22_9, ly_22_10, ly_22_11, ly_22_12, ly_22_13, ly_22_14, ly_22_15, ly_22_16, ly_22_17, ly_22_18, ly_22_19, ly_22_20, ly_22_21, nI_1, lw_2, c1, c2, gd_t g1, gd_t g2, gd_t hk]
  exact e.trans (by show q b x (x + 43) (x + 53) (nI i + 3) z2 h2 = _; rw [lw_3])
theorem op_23 (I : INV h x z A B) (hi : i + 3 ≤ sl) (hs : sl ≤ 1536) (hB : B + 121 < 2 ^ 31 - 1) (hc : xs i &&& 63 = 23) : ST xs sl q b x i z h B := by
  obtain ⟨hC, hR, hO, hT⟩ := id I
  have hk : kd h x = 9 := hC.1.1
  have hlt := lw_lt hi hs
  have g0 := lw_g (j := i) (by omega) hs
  have g1 := lw_g (j := i + 1) (by omega) hs
  have g2 := lw_g (j := i + 2) (by omega) hs
  have c0 : Int32.toNatClampNeg (nI i) = i := nI_clamp (by omega)
  have c1 : Int32.toNatClampNeg (nI (i + 1)) = i + 1 := nI_clamp (by omega)
  have c2 : Int32.toNatClampNeg (nI (i + 2)) = i + 2 := nI_clamp (by omega)
  obtain ⟨z2, h2, e, I2⟩ := opP (C := B + 121) (g := fun z h => fX9_stuck (x + 43) z h) I (c_stuck hC hT) (fun z h hR => r_stuck hR hT) (hT.mono (by omega)) (fun z h => bL_law_1716 xs sl q b x (x + 43) (x + 53) (nI i) z h)
  refine ⟨z2, h2, _, ?_, I2⟩
  simp only [lL_law_23B, hlt, ↓reduceIte, c0, gd_t g0, hc, ly_23_0, ly_23_1, ly_23_2, ly_23_3, ly_23_4, ly_23_5, ly_23_6, ly_23_7, ly_23_8, ly_23_9, ly_23_10, ly_23_11, ly_23_12, ly_23_13, ly_23_14, ly_23_15, ly_23_16, ly_23_17, ly_23_18, ly_23_19, ly_23_20, ly_23_21, ly_23_22, nI_1, lw_2, c1, c2, gd_t g1, gd_t g2, gd_t hk]
  exact e.trans (by show q b x (x + 43) (x + 53) (nI i + 3) z2 h2 = _; rw [lw_3])
theorem op_24 (I : INV h x z A B) (hi : i + 3 ≤ sl) (hs : sl ≤ 1536) (hB : B + 121 < 2 ^ 31 - 1) (hc : xs i &&& 63 = 24) : ST xs sl q b x i z h B := by
  obtain ⟨hC, hR, hO, hT⟩ := id I
  have hk : kd h x = 9 := hC.1.1
  have hlt := lw_lt hi hs
  have g0 := lw_g (j := i) (by omega) hs
  have g1 := lw_g (j := i + 1) (by omega) hs
  have g2 := lw_g (j := i + 2) (by omega) hs
  have c0 : Int32.toNatClampNeg (nI i) = i := nI_clamp (by omega)
  have c1 : Int32.toNatClampNeg (nI (i + 1)) = i + 1 := nI_clamp (by omega)
  have c2 : Int32.toNatClampNeg (nI (i + 2)) = i + 2 := nI_clamp (by omega)
  have hT' : TI (aSc A (xs (i + 1))).2.2 (B + 121) := hT.mono (by omega)
  have hb : (aSc A (xs (i + 1))).1 ≤ 1 := k1S _ _
  obtain ⟨z1, h1, l1, l2⟩ := L1 (E1 := eB) (E2 := eS) I (c_shortestCycle hC hT (xs (i + 1))) hb hT'
  have l0 : fL_shortestCycle x (xs (i + 1)) (x + 53) z h = some (nI (aSc A (xs (i + 1))).1, z1, h1) := by
    unfold fL_shortestCycle
    rw [gd_t hk]
    exact l1
  obtain ⟨z2, h2, e, I2⟩ := opC (g := fun z h => fX9_shortestCycle (x + 43) (xs (i + 1)) z h) (by omega) l0 l2 (fun z h hR => r_shortestCycle hR hT (xs (i + 1))) hT' (fun z h => bL_law_1434 xs sl q b x (x + 43) (x + 53) (nI i) z h)
  refine ⟨z2, h2, _, ?_, I2⟩
  simp only [lL_law_23B, hlt, ↓reduceIte, c0, gd_t g0, hc, ly_24_0, ly_24_1, ly_24_2, ly_24_3, ly_24_4, ly_24_5, ly_24_6, ly_24_7, ly_24_8, ly_24_9, ly_24_10, ly_24_11, ly_24_12, ly_24_13, ly_24_14, ly_24_15, ly_24_16, ly_24_17, ly_24_18, ly_24_19, ly_24_20, ly_24_21, ly_24_22, ly_24_23, nI_1, lw_2, c1, c2, gd_t g1, gd_t g2, gd_t hk]
  exact e.trans (by show q b x (x + 43) (x + 53) (nI i + 3) z2 h2 = _; rw [lw_3])
theorem op_25 (I : INV h x z A B) (hi : i + 3 ≤ sl) (hs : sl ≤ 1536) (hB : B + 121 < 2 ^ 31 - 1) (hc : xs i &&& 63 = 25) : ST xs sl q b x i z h B := by
  obtain ⟨hC, hR, hO, hT⟩ := id I
  have hk : kd h x = 9 := hC.1.1
  have hlt := lw_lt hi hs
  have g0 := lw_g (j := i) (by omega) hs
  have g1 := lw_g (j := i + 1) (by omega) hs
  have g2 := lw_g (j := i + 2) (by omega) hs
  have c0 : Int32.toNatClampNeg (nI i) = i := nI_clamp (by omega)
  have c1 : Int32.toNatClampNeg (nI (i + 1)) = i + 1 := nI_clamp (by omega)
  have c2 : Int32.toNatClampNeg (nI (i + 2)) = i + 2 := nI_clamp (by omega)
  obtain ⟨z2, h2, e, I2⟩ := opP (C := B + 121) (g := fun z h => fX9_cycles (x + 43) z h) I (c_cycles hC hT) (fun z h hR => r_cycles hR hT) (hT.mono (by omega)) (fun z h => bL_law_1716 xs sl q b x (x + 43) (x + 53) (nI i) z h)
  refine ⟨z2, h2, _, ?_, I2⟩
  simp only [lL_law_23B, hlt, ↓reduceIte, c0, gd_t g0, hc, ly_25_0, ly_25_1, ly_25_2, ly_25_3, ly_25_4, ly_25_5, ly_25_6, ly_25_7, ly_25_8, ly_25_9, ly_25_10, ly_25_11, ly_25_12, ly_25_13, ly_25_14, ly_25_15, ly_25_16, ly_25_17, ly_25_18, ly_25_19, ly_25_20, ly_25_21, ly_25_22, ly_25_23, ly_25_24, nI_1, lw_2, c1, c2, gd_t g1, gd_t g2, gd_t hk]
  exact e.trans (by show q b x (x + 43) (x + 53) (nI i + 3) z2 h2 = _; rw [lw_3])
theorem op_26 (I : INV h x z A B) (hi : i + 3 ≤ sl) (hs : sl ≤ 1536) (hB : B + 121 < 2 ^ 31 - 1) (hc : xs i &&& 63 = 26) : ST xs sl q b x i z h B := by
  obtain ⟨hC, hR, hO, hT⟩ := id I
  have hk : kd h x = 9 := hC.1.1
  have hlt := lw_lt hi hs
  have g0 := lw_g (j := i) (by omega) hs
  have g1 := lw_g (j := i + 1) (by omega) hs
  have g2 := lw_g (j := i + 2) (by omega) hs
  have c0 : Int32.toNatClampNeg (nI i) = i := nI_clamp (by omega)
  have c1 : Int32.toNatClampNeg (nI (i + 1)) = i + 1 := nI_clamp (by omega)
  have c2 : Int32.toNatClampNeg (nI (i + 2)) = i + 2 := nI_clamp (by omega)
  have hT' : TI (aE A (xs (i + 1))).2.2 (B + 121) := hT.mono (by omega)
  have hb : (aE A (xs (i + 1))).1 ≤ 1 := k1V _ _ _
  obtain ⟨z1, h1, l1, l2⟩ := L1 (E1 := eA) (E2 := eS) I (c_latest hC hT (xs (i + 1))) hb hT'
  have l0 : fL_latest x (xs (i + 1)) (x + 53) z h = some (nI (aE A (xs (i + 1))).1, z1, h1) := by
    unfold fL_latest
    rw [gd_t hk]
    exact l1
  obtain ⟨z2, h2, e, I2⟩ := opC (g := fun z h => fX9_latest (x + 43) (xs (i + 1)) z h) (by omega) l0 l2 (fun z h hR => r_latest hR (xs (i + 1))) hT' (fun z h => bL_law_1503 xs sl q b x (x + 43) (x + 53) (nI i) z h)
  refine ⟨z2, h2, _, ?_, I2⟩
  simp only [lL_law_23B, hlt, ↓reduceIte, c0, gd_t g0, hc, ly_26_0, ly_26_1, ly_26_2, ly_26_3, ly_26_4, ly_26_5, ly_26_6, ly_26_7, ly_26_8, ly_26_9, ly_26_10, ly_26_11, ly_26_12, ly_26_13, ly_26_14, ly_26_15, ly_26_16, ly_26_17, ly_26_18, ly_26_19, ly_26_20, ly_26_21, ly_26_22, ly_26_23, ly_26_24, ly_26_25, nI_1, lw_2, c1, c2, gd_t g1, gd_t g2, gd_t hk]
  exact e.trans (by show q b x (x + 43) (x + 53) (nI i + 3) z2 h2 = _; rw [lw_3])
theorem op_27 (I : INV h x z A B) (hi : i + 3 ≤ sl) (hs : sl ≤ 1536) (hB : B + 121 < 2 ^ 31 - 1) (hc : xs i &&& 63 = 27) : ST xs sl q b x i z h B := by
  obtain ⟨hC, hR, hO, hT⟩ := id I
  have hk : kd h x = 9 := hC.1.1
  have hlt := lw_lt hi hs
  have g0 := lw_g (j := i) (by omega) hs
  have g1 := lw_g (j := i + 1) (by omega) hs
  have g2 := lw_g (j := i + 2) (by omega) hs
  have c0 : Int32.toNatClampNeg (nI i) = i := nI_clamp (by omega)
  have c1 : Int32.toNatClampNeg (nI (i + 1)) = i + 1 := nI_clamp (by omega)
  have c2 : Int32.toNatClampNeg (nI (i + 2)) = i + 2 := nI_clamp (by omega)
  obtain ⟨o, ho, eo⟩ := ogN A.1.1.1
  obtain ⟨z2, h2, e, I2⟩ := opP (C := B + 121) (g := fun z h => fX9_bestVictims (x + 43) z h) I (c_bestVictims hC hT ho eo) (fun z h hR => r_bestVictims hR hT ho eo) (hT.mono (by omega)) (fun z h => bL_law_1716 xs sl q b x (x + 43) (x + 53) (nI i) z h)
  refine ⟨z2, h2, _, ?_, I2⟩
  simp only [lL_law_23B, hlt, ↓reduceIte, c0, gd_t g0, hc, ly_27_0, ly_27_1, ly_27_2, ly_27_3, ly_27_4, ly_27_5, ly_27_6, ly_27_7, ly_27_8, ly_27_9, ly_27_10, ly_27_11, ly_27_12, ly_27_13, ly_27_14, ly_27_15, ly_27_16, ly_27_17, ly_27_18, ly_27_19, ly_27_20, ly_27_21, ly_27_22, ly_27_23, ly_27_24, ly_27_25, ly_27_26, nI_1, lw_2, c1, c2, gd_t g1, gd_t g2, gd_t hk]
  exact e.trans (by show q b x (x + 43) (x + 53) (nI i + 3) z2 h2 = _; rw [lw_3])
theorem op_28 (I : INV h x z A B) (hi : i + 3 ≤ sl) (hs : sl ≤ 1536) (hB : B + 121 < 2 ^ 31 - 1) (hc : xs i &&& 63 = 28) : ST xs sl q b x i z h B := by
  obtain ⟨hC, hR, hO, hT⟩ := id I
  have hk : kd h x = 9 := hC.1.1
  have hlt := lw_lt hi hs
  have g0 := lw_g (j := i) (by omega) hs
  have g1 := lw_g (j := i + 1) (by omega) hs
  have g2 := lw_g (j := i + 2) (by omega) hs
  have c0 : Int32.toNatClampNeg (nI i) = i := nI_clamp (by omega)
  have c1 : Int32.toNatClampNeg (nI (i + 1)) = i + 1 := nI_clamp (by omega)
  have c2 : Int32.toNatClampNeg (nI (i + 2)) = i + 2 := nI_clamp (by omega)
  obtain ⟨z2, h2, e, I2⟩ := opP (C := B + 121) (g := fun z h => fX9_wouldEnd (x + 43) z h) I (c_wouldEnd hC hT) (fun z h hR => r_wouldEnd hR hT) (hT.mono (by omega)) (fun z h => bL_law_1716 xs sl q b x (x + 43) (x + 53) (nI i) z h)
  refine ⟨z2, h2, _, ?_, I2⟩
  simp only [lL_law_23B, hlt, ↓reduceIte, c0, gd_t g0, hc, ly_28_0, ly_28_1, ly_28_2, ly_28_3, ly_28_4, ly_28_5, ly_28_6, ly_28_7, ly_28_8, ly_28_9, ly_28_10, ly_28_11, ly_28_12, ly_28_13, ly_28_14, ly_28_15, ly_28_16, ly_28_17, ly_28_18, ly_28_19, ly_28_20, ly_28_21, ly_28_22, ly_28_23, ly_28_24, ly_28_25, ly_28_26, ly_28_27, nI_1, lw_2, c1, c2, gd_t g1, gd_t g2, gd_t hk]
  exact e.trans (by show q b x (x + 43) (x + 53) (nI i + 3) z2 h2 = _; rw [lw_3])
theorem op_29 (I : INV h x z A B) (hi : i + 3 ≤ sl) (hs : sl ≤ 1536) (hB : B + 121 < 2 ^ 31 - 1) (hc : xs i &&& 63 = 29) : ST xs sl q b x i z h B := by
  obtain ⟨hC, hR, hO, hT⟩ := id I
  have hk : kd h x = 9 := hC.1.1
  have hlt := lw_lt hi hs
  have g0 := lw_g (j := i) (by omega) hs
  have g1 := lw_g (j := i + 1) (by omega) hs
  have g2 := lw_g (j := i + 2) (by omega) hs
  have c0 : Int32.toNatClampNeg (nI i) = i := nI_clamp (by omega)
  have c1 : Int32.toNatClampNeg (nI (i + 1)) = i + 1 := nI_clamp (by omega)
  have c2 : Int32.toNatClampNeg (nI (i + 2)) = i + 2 := nI_clamp (by omega)
  have hT' : TI (aY A (xs (i + 1))).2.2 (B + 121) := (TI_Y hT _).mono (by omega)
  have hb : (aY A (xs (i + 1))).1 ≤ 2 := k2Y _ _
  obtain ⟨z1, h1, l1, l2⟩ := L2 (E1 := eA) (E2 := eS) (by decide) I (c_type hC hT (xs (i + 1))) hb hT'
  have l0 : fL_type x (xs (i + 1)) (x + 53) z h = some (nI (aY A (xs (i + 1))).1, z1, h1) := by
    unfold fL_type
    rw [gd_t hk]
    exact l1
  obtain ⟨z2, h2, e, I2⟩ := opC (g := fun z h => fX9_type (x + 43) (xs (i + 1)) z h) (by omega) l0 l2 (fun z h hR => r_type hR (xs (i + 1))) hT' (fun z h => bL_law_1585 xs sl q b x (x + 43) (x + 53) (nI i) z h)
  refine ⟨z2, h2, _, ?_, I2⟩
  simp only [lL_law_23B, hlt, ↓reduceIte, c0, gd_t g0, hc, ly_29_0, ly_29_1, ly_29_2, ly_29_3, ly_29_4, ly_29_5, ly_29_6, ly_29_7, ly_29_8, ly_29_9, ly_29_10, ly_29_11, ly_29_12, ly_29_13, ly_29_14, ly_29_15, ly_29_16, ly_29_17, ly_29_18, ly_29_19, ly_29_20, ly_29_21, ly_29_22, ly_29_23, ly_29_24, ly_29_25, ly_29_26, ly_29_27, ly_29_28, nI_1, lw_2, c1, c2, gd_t g1, gd_t g2, gd_t hk]
  exact e.trans (by show q b x (x + 43) (x + 53) (nI i + 3) z2 h2 = _; rw [lw_3])
theorem op_30 (I : INV h x z A B) (hi : i + 3 ≤ sl) (hs : sl ≤ 1536) (hB : B + 121 < 2 ^ 31 - 1) (hc : xs i &&& 63 = 30) : ST xs sl q b x i z h B := by
  obtain ⟨hC, hR, hO, hT⟩ := id I
  have hk : kd h x = 9 := hC.1.1
  have hlt := lw_lt hi hs
  have g0 := lw_g (j := i) (by omega) hs
  have g1 := lw_g (j := i + 1) (by omega) hs
  have g2 := lw_g (j := i + 2) (by omega) hs
  have c0 : Int32.toNatClampNeg (nI i) = i := nI_clamp (by omega)
  have c1 : Int32.toNatClampNeg (nI (i + 1)) = i + 1 := nI_clamp (by omega)
  have c2 : Int32.toNatClampNeg (nI (i + 2)) = i + 2 := nI_clamp (by omega)
  obtain ⟨z2, h2, e, I2⟩ := opP (C := B + 121) (g := fun z h => fX9_clearText (x + 43) z h) I (c_clearText hC hT) (fun z h hR => r_clearText hR) ((TI_Z hT).mono (by omega)) (fun z h => bL_law_1716 xs sl q b x (x + 43) (x + 53) (nI i) z h)
  refine ⟨z2, h2, _, ?_, I2⟩
  simp only [lL_law_23B, hlt, ↓reduceIte, c0, gd_t g0, hc, ly_30_0, ly_30_1, ly_30_2, ly_30_3, ly_30_4, ly_30_5, ly_30_6, ly_30_7, ly_30_8, ly_30_9, ly_30_10, ly_30_11, ly_30_12, ly_30_13, ly_30_14, ly_30_15, ly_30_16, ly_30_17, ly_30_18, ly_30_19, ly_30_20, ly_30_21, ly_30_22, ly_30_23, ly_30_24, ly_30_25, ly_30_26, ly_30_27, ly_30_28, ly_30_29, nI_1, lw_2, c1, c2, gd_t g1, gd_t g2, gd_t hk]
  exact e.trans (by show q b x (x + 43) (x + 53) (nI i + 3) z2 h2 = _; rw [lw_3])
theorem op_31 (I : INV h x z A B) (hi : i + 3 ≤ sl) (hs : sl ≤ 1536) (hB : B + 121 < 2 ^ 31 - 1) (hc : xs i &&& 63 = 31) : ST xs sl q b x i z h B := by
  obtain ⟨hC, hR, hO, hT⟩ := id I
  have hk : kd h x = 9 := hC.1.1
  have hlt := lw_lt hi hs
  have g0 := lw_g (j := i) (by omega) hs
  have g1 := lw_g (j := i + 1) (by omega) hs
  have g2 := lw_g (j := i + 2) (by omega) hs
  have c0 : Int32.toNatClampNeg (nI i) = i := nI_clamp (by omega)
  have c1 : Int32.toNatClampNeg (nI (i + 1)) = i + 1 := nI_clamp (by omega)
  have c2 : Int32.toNatClampNeg (nI (i + 2)) = i + 2 := nI_clamp (by omega)
  obtain ⟨z2, h2, e, I2⟩ := opP (C := B + 121) (g := fun z h => fX9_fault (x + 43) z h) I (c_fault hC hT) (fun z h hR => r_fault hR hT) (hT.mono (by omega)) (fun z h => bL_law_1716 xs sl q b x (x + 43) (x + 53) (nI i) z h)
  refine ⟨z2, h2, _, ?_, I2⟩
  simp only [lL_law_23B, hlt, ↓reduceIte, c0, gd_t g0, hc, ly_31_0, ly_31_1, ly_31_2, ly_31_3, ly_31_4, ly_31_5, ly_31_6, ly_31_7, ly_31_8, ly_31_9, ly_31_10, ly_31_11, ly_31_12, ly_31_13, ly_31_14, ly_31_15, ly_31_16, ly_31_17, ly_31_18, ly_31_19, ly_31_20, ly_31_21, ly_31_22, ly_31_23, ly_31_24, ly_31_25, ly_31_26, ly_31_27, ly_31_28, ly_31_29, ly_31_30, nI_1, lw_2, c1, c2, gd_t g1, gd_t g2, gd_t hk]
  exact e.trans (by show q b x (x + 43) (x + 53) (nI i + 3) z2 h2 = _; rw [lw_3])
theorem op_32 (I : INV h x z A B) (hi : i + 3 ≤ sl) (hs : sl ≤ 1536) (hB : B + 121 < 2 ^ 31 - 1) (hc : xs i &&& 63 = 32) : ST xs sl q b x i z h B := by
  obtain ⟨hC, hR, hO, hT⟩ := id I
  have hk : kd h x = 9 := hC.1.1
  have hlt := lw_lt hi hs
  have g0 := lw_g (j := i) (by omega) hs
  have g1 := lw_g (j := i + 1) (by omega) hs
  have g2 := lw_g (j := i + 2) (by omega) hs
  have c0 : Int32.toNatClampNeg (nI i) = i := nI_clamp (by omega)
  have c1 : Int32.toNatClampNeg (nI (i + 1)) = i + 1 := nI_clamp (by omega)
  have c2 : Int32.toNatClampNeg (nI (i + 2)) = i + 2 := nI_clamp (by omega)
  have hT' : TI (aU A).2.2 (B + 121) := (TI_Un (by omega) hC.2.2.2.2.2.1.2.1 hT).mono (by omega)
  have hb : (aU A).1 ≤ 1 := k1U _
  obtain ⟨z1, h1, l1, l2⟩ := L1 (E1 := eA) (E2 := eS) I (c_run (by omega) hC hT) hb hT'
  have l0 : fL_run x (x + 53) z h = some (nI (aU A).1, z1, h1) := by
    unfold fL_run
    rw [gd_t hk]
    exact l1
  obtain ⟨z2, h2, e, I2⟩ := opC (g := fun z h => fX9_run (x + 43) z h) (by omega) l0 l2 (fun z h hR => r_run (by omega) hR hT) hT' (fun z h => bL_law_1655 xs sl q b x (x + 43) (x + 53) (nI i) z h)
  refine ⟨z2, h2, _, ?_, I2⟩
  simp only [lL_law_23B, hlt, ↓reduceIte, c0, gd_t g0, hc, ly_32_0, ly_32_1, ly_32_2, ly_32_3, ly_32_4, ly_32_5, ly_32_6, ly_32_7, ly_32_8, ly_32_9, ly_32_10, ly_32_11, ly_32_12, ly_32_13, ly_32_14, ly_32_15, ly_32_16, ly_32_17, ly_32_18, ly_32_19, ly_32_20, ly_32_21, ly_32_22, ly_32_23, ly_32_24, ly_32_25, ly_32_26, ly_32_27, ly_32_28, ly_32_29, ly_32_30, ly_32_31, nI_1, lw_2, c1, c2, gd_t g1, gd_t g2, gd_t hk]
  exact e.trans (by show q b x (x + 43) (x + 53) (nI i + 3) z2 h2 = _; rw [lw_3])
theorem op_33 (I : INV h x z A B) (hi : i + 3 ≤ sl) (hs : sl ≤ 1536) (hB : B + 121 < 2 ^ 31 - 1) (hc : xs i &&& 63 = 33) : ST xs sl q b x i z h B := by
  obtain ⟨hC, hR, hO, hT⟩ := id I
  have hk : kd h x = 9 := hC.1.1
  have hlt := lw_lt hi hs
  have g0 := lw_g (j := i) (by omega) hs
  have g1 := lw_g (j := i + 1) (by omega) hs
  have g2 := lw_g (j := i + 2) (by omega) hs
  have c0 : Int32.toNatClampNeg (nI i) = i := nI_clamp (by omega)
  have c1 : Int32.toNatClampNeg (nI (i + 1)) = i + 1 := nI_clamp (by omega)
  have c2 : Int32.toNatClampNeg (nI (i + 2)) = i + 2 := nI_clamp (by omega)
  have hT' : TI (aN A).2.2 (B + 121) := (TI_N hT).mono (by omega)
  have hb : (aN A).1 ≤ 1 := k1N _
  obtain ⟨z1, h1, l1, l2⟩ := L1 (E1 := eS) (E2 := eS) I (c_undo hC hT) hb hT'
  have l0 : fL_undo x (x + 53) z h = some (nI (aN A).1, z1, h1) := by
    unfold fL_undo
    rw [gd_t hk]
    exact l1
  obtain ⟨z2, h2, e, I2⟩ := opC (g := fun z h => fX9_undo (x + 43) z h) (by omega) l0 l2 (fun z h hR => r_undo hR hT) hT' (fun z h => bL_law_1699 xs sl q b x (x + 43) (x + 53) (nI i) z h)
  refine ⟨z2, h2, _, ?_, I2⟩
  simp only [lL_law_23B, hlt, ↓reduceIte, c0, gd_t g0, hc, ly_33_0, ly_33_1, ly_33_2, ly_33_3, ly_33_4, ly_33_5, ly_33_6, ly_33_7, ly_33_8, ly_33_9, ly_33_10, ly_33_11, ly_33_12, ly_33_13, ly_33_14, ly_33_15, ly_33_16, ly_33_17, ly_33_18, ly_33_19, ly_33_20, ly_33_21, ly_33_22, ly_33_23, ly_33_24, ly_33_25, ly_33_26, ly_33_27, ly_33_28, ly_33_29, ly_33_30, ly_33_31, ly_33_32, nI_1, lw_2, c1, c2, gd_t g1, gd_t g2, gd_t hk]
  exact e.trans (by show q b x (x + 43) (x + 53) (nI i + 3) z2 h2 = _; rw [lw_3])
theorem op_34 (I : INV h x z A B) (hi : i + 3 ≤ sl) (hs : sl ≤ 1536) (hB : B + 121 < 2 ^ 31 - 1) (hc : xs i &&& 63 = 34) : ST xs sl q b x i z h B := by
  obtain ⟨hC, hR, hO, hT⟩ := id I
  have hk : kd h x = 9 := hC.1.1
  have hlt := lw_lt hi hs
  have g0 := lw_g (j := i) (by omega) hs
  have g1 := lw_g (j := i + 1) (by omega) hs
  have g2 := lw_g (j := i + 2) (by omega) hs
  have c0 : Int32.toNatClampNeg (nI i) = i := nI_clamp (by omega)
  have c1 : Int32.toNatClampNeg (nI (i + 1)) = i + 1 := nI_clamp (by omega)
  have c2 : Int32.toNatClampNeg (nI (i + 2)) = i + 2 := nI_clamp (by omega)
  obtain ⟨z2, h2, e, I2⟩ := opJ (C := B + 121) (g := fun z h => fX9_checksum (x + 43) z h) I (c_checksum hC hT) (fun z h hR => r_checksum hR hT) (hT.mono (by omega)) (fun z h => bL_law_1716 xs sl q b x (x + 43) (x + 53) (nI i) z h)
  refine ⟨z2, h2, _, ?_, I2⟩
  simp only [lL_law_23B, hlt, ↓reduceIte, c0, gd_t g0, hc, ly_34_0, ly_34_1, ly_34_2, ly_34_3, ly_34_4, ly_34_5, ly_34_6, ly_34_7, ly_34_8, ly_34_9, ly_34_10, ly_34_11, ly_34_12, ly_34_13, ly_34_14, ly_34_15, ly_34_16, ly_34_17, ly_34_18, ly_34_19, ly_34_20, ly_34_21, ly_34_22, ly_34_23, ly_34_24, ly_34_25, ly_34_26, ly_34_27, ly_34_28, ly_34_29, ly_34_30, ly_34_31, ly_34_32, ly_34_33, nI_1, lw_2, c1, c2, gd_t g1, gd_t g2, gd_t hk]
  exact e.trans (by show q b x (x + 43) (x + 53) (nI i + 3) z2 h2 = _; rw [lw_3])
theorem op_d (I : INV h x z A B) (hi : i + 3 ≤ sl) (hs : sl ≤ 1536) (n0 : ¬ xs i &&& 63 = 0) (n1 : ¬ xs i &&& 63 = 1) (n2 : ¬ xs i &&& 63 = 2) (n3 : ¬ xs i &&& 63 = 3) (n4 : ¬ xs i &&& 63 = 4) (n5 : ¬ xs i &&& 63 = 5) (n6 : ¬ xs i &&& 63 = 6) (n7 : ¬ xs i &&& 63 = 7) (n8 : ¬ xs i &&& 63 = 8) (n9 : ¬ xs i &&& 63 = 9) (n10 : ¬ xs i &&& 63 = 10) (n11 : ¬ xs i &&& 63 = 11) (n12 : ¬ xs i &&& 63 = 12) (n13 : ¬ xs i &&& 63 = 13) (n14 : ¬ xs i &&& 63 = 14) (n15 : ¬ xs i &&& 63 = 15) (n16 : ¬ xs i &&& 63 = 16) (n17 : ¬ xs i &&& 63 = 17) (n18 : ¬ xs i &&& 63 = 18) (n19 : ¬ xs i &&& 63 = 19) (n20 : ¬ xs i &&& 63 = 20) (n21 : ¬ xs i &&& 63 = 21) (n22 : ¬ xs i &&& 63 = 22) (n23 : ¬ xs i &&& 63 = 23) (n24 : ¬ xs i &&& 63 = 24) (n25 : ¬ xs i &&& 63 = 25) (n26 : ¬ xs i &&& 63 = 26) (n27 : ¬ xs i &&& 63 = 27) (n28 : ¬ xs i &&& 63 = 28) (n29 : ¬ xs i &&& 63 = 29) (n30 : ¬ xs i &&& 63 = 30) (n31 : ¬ xs i &&& 63 = 31) (n32 : ¬ xs i &&& 63 = 32) (n33 : ¬ xs i &&& 63 = 33) (n34 : ¬ xs i &&& 63 = 34) : ST xs sl q b x i z h B := by
  have hlt := lw_lt hi hs
  have g0 := lw_g (j := i) (by omega) hs
  have c0 : Int32.toNatClampNeg (nI i) = i := nI_clamp (by omega)
  refine ⟨z, h, A, ?_, I.1, I.2.1, I.2.2.1, I.2.2.2.mono (by omega)⟩
  simp only [lL_law_23B, hlt, ↓reduceIte, c0, gd_t g0, n0, n1, n2, n3, n4, n5, n6, n7, n8, n9, n10, n11, n12, n13, n14, n15, n16, n17, n18, n19, n20, n21, n22, n23, n24, n25, n26, n27, n28, n29, n30, n31, n32, n33, n34]
  show q b x (x + 43) (x + 53) (nI i + 3) z h = _
  rw [lw_3]
theorem op_all (I : INV h x z A B) (hi : i + 3 ≤ sl) (hs : sl ≤ 1536) (hB : B + 121 < 2 ^ 31 - 1) : ST xs sl q b x i z h B := by
  by_cases n0 : xs i &&& 63 = 0
  · exact op_0 I hi hs hB n0
  by_cases n1 : xs i &&& 63 = 1
  · exact op_1 I hi hs hB n1
  by_cases n2 : xs i &&& 63 = 2
  · exact op_2 I hi hs hB n2
  by_cases n3 : xs i &&& 63 = 3
  · exact op_3 I hi hs hB n3
  by_cases n4 : xs i &&& 63 = 4
  · exact op_4 I hi hs hB n4
  by_cases n5 : xs i &&& 63 = 5
  · exact op_5 I hi hs hB n5
  by_cases n6 : xs i &&& 63 = 6
  · exact op_6 I hi hs hB n6
  by_cases n7 : xs i &&& 63 = 7
  · exact op_7 I hi hs hB n7
  by_cases n8 : xs i &&& 63 = 8
  · exact op_8 I hi hs hB n8
  by_cases n9 : xs i &&& 63 = 9
  · exact op_9 I hi hs hB n9
  by_cases n10 : xs i &&& 63 = 10
  · exact op_10 I hi hs hB n10
  by_cases n11 : xs i &&& 63 = 11
  · exact op_11 I hi hs hB n11
  by_cases n12 : xs i &&& 63 = 12
  · exact op_12 I hi hs hB n12
  by_cases n13 : xs i &&& 63 = 13
  · exact op_13 I hi hs hB n13
  by_cases n14 : xs i &&& 63 = 14
  · exact op_14 I hi hs hB n14
  by_cases n15 : xs i &&& 63 = 15
  · exact op_15 I hi hs hB n15
  by_cases n16 : xs i &&& 63 = 16
  · exact op_16 I hi hs hB n16
  by_cases n17 : xs i &&& 63 = 17
  · exact op_17 I hi hs hB n17
  by_cases n18 : xs i &&& 63 = 18
  · exact op_18 I hi hs hB n18
  by_cases n19 : xs i &&& 63 = 19
  · exact op_19 I hi hs hB n19
  by_cases n20 : xs i &&& 63 = 20
  · exact op_20 I hi hs hB n20
  by_cases n21 : xs i &&& 63 = 21
  · exact op_21 I hi hs hB n21
  by_cases n22 : xs i &&& 63 = 22
  · exact op_22 I hi hs hB n22
  by_cases n23 : xs i &&& 63 = 23
  · exact op_23 I hi hs hB n23
  by_cases n24 : xs i &&& 63 = 24
  · exact op_24 I hi hs hB n24
  by_cases n25 : xs i &&& 63 = 25
  · exact op_25 I hi hs hB n25
  by_cases n26 : xs i &&& 63 = 26
  · exact op_26 I hi hs hB n26
  by_cases n27 : xs i &&& 63 = 27
  · exact op_27 I hi hs hB n27
  by_cases n28 : xs i &&& 63 = 28
  · exact op_28 I hi hs hB n28
  by_cases n29 : xs i &&& 63 = 29
  · exact op_29 I hi hs hB n29
  by_cases n30 : xs i &&& 63 = 30
  · exact op_30 I hi hs hB n30
  by_cases n31 : xs i &&& 63 = 31
  · exact op_31 I hi hs hB n31
  by_cases n32 : xs i &&& 63 = 32
  · exact op_32 I hi hs hB n32
  by_cases n33 : xs i &&& 63 = 33
  · exact op_33 I hi hs hB n33
  by_cases n34 : xs i &&& 63 = 34
  · exact op_34 I hi hs hB n34
  exact op_d I hi hs n0 n1 n2 n3 n4 n5 n6 n7 n8 n9 n10 n11 n12 n13 n14 n15 n16 n17 n18 n19 n20 n21 n22 n23 n24 n25 n26 n27 n28 n29 n30 n31 n32 n33 n34
end OPS
theorem lw_end {sl i : Nat} (hi : sl < i + 3) (hs : sl ≤ 1536) (hi2 : i < 2 ^ 31) : (Int32.ofNat sl - 3 < nI i) = True := by
  rw [show Int32.ofNat sl = nI sl from rfl, li3]
  by_cases e : 3 ≤ sl
  · rw [pk_sub e, nI_ltE (by omega) hi2]
    exact eq_true (by omega)
  · refine eq_true (Int32.lt_of_lt_of_le (b := 0) ?_ (nI_pos' hi2))
    match sl, e with
    | 0, _ => decide
    | 1, _ => decide
    | 2, _ => decide
    | n + 3, e => omega
theorem law_loop {xs : Nat → Int32} {sl b x : Nat} (hs : sl ≤ 1536) : ∀ (n i z : Nat) (h : AH) (A : TS) (B fuel : Nat), sl < i + 3 + 3 * n → i < sl + 3 → n < fuel → B + 121 * (n + 1) < 2 ^ 31 - 1 → INV h x z A B → lL_law_23 xs sl fuel b x (x + 43) (x + 53) (nI i) z h = some () := by
  intro n
  induction n with
  | zero =>
    intro i z h A B fuel h1 h2 hf hB I
    cases fuel with
    | zero => omega
    | succ fuel =>
      have e := lw_end (i := i) (by omega) hs (by omega)
      show lL_law_23B xs sl _ b x (x + 43) (x + 53) (nI i) z h = _
      unfold lL_law_23B
      rw [if_pos (of_eq_true e)]
  | succ n ih =>
    intro i z h A B fuel h1 h2 hf hB I
    cases fuel with
    | zero => omega
    | succ fuel =>
      show lL_law_23B xs sl _ b x (x + 43) (x + 53) (nI i) z h = _
      by_cases c : sl < i + 3
      · have e := lw_end (i := i) c hs (by omega)
        unfold lL_law_23B
        rw [if_pos (of_eq_true e)]
      · obtain ⟨z', h', A', e, I'⟩ := op_all (xs := xs) (sl := sl) (q := lL_law_23 xs sl fuel) (b := b) (i := i) I (by omega) hs (by omega)
        rw [e]
        exact ih (i + 3) z' h' A' (B + 121) fuel (by omega) (by omega) (by omega) (by omega) I'
theorem law_ok (xs : Nat → Int32) (L b z : Nat) (hL : L ≤ 1536) : fL_law xs L b z ah0 = some () := by
  obtain ⟨h3, v1, v2⟩ := new8 (h := wNew ah0 z 9 0) (x := z) (by rw [kd_wN, if_pos rfl])
  have k4 : kd (wNew h3 (z + 43) 10 0) (z + 43) = 10 := by rw [kd_wN, if_pos rfl]
  have v3 := e9_init k4
  have v4 := new9 k4 (fun j => by rw [iv_wN, if_pos rfl])
  have s6 : ∀ c, c < z + 43 → sc (wNew h3 (z + 43) 10 0) (nm9 (wNew h3 (z + 43) 10 0) (z + 43)) c := fun c hc => nm9_sc (Or.inl hc)
  generalize nm9 (wNew h3 (z + 43) 10 0) (z + 43) = h6 at v3 v4 s6
  have I : INV (wNew h6 (z + 53) 14 1) z (z + 54) A0 1 := by
    refine ⟨CI_x A0_TI.W A0_TI.H (Nat.le_refl _) (fun c hc => ((sc.wN h3 _ _ (by omega)).tr (s6 c (by omega))).tr (sc.wN h6 _ _ (by omega))) v2, RI_x (fun c hc => sc.wN h6 _ _ (by omega)) v4, ⟨?_, ?_⟩, A0_TI⟩
    · rw [kd_wN, if_pos rfl]
    · rw [ln_wN, if_pos rfl]
  have k := law_loop (xs := xs) (b := b) hL 512 0 (z + 54) (wNew h6 (z + 53) 14 1) A0 1 513 (by omega) (by omega) (by omega) (by omega) I
  rw [nI_0] at k
  unfold fL_law
  refine bl_i (fun h1 e1 => ?_)
  rw [e1, bb2 v1]
  refine bl_i (fun h4 e4 => ?_)
  rw [e4, bb2 v3]
  refine bl_i (fun h7 e7 => ?_)
  rw [e7]
  exact k
