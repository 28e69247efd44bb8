/-! THE DESK of the class: its object at x + 38, the tally x + 33 (counts x + 34), who waits x + 35 (rows x + 36, x + 37), books x + 1 -/
def DS (h : AH) (x : Nat) : Prop :=
  kd h (x + 38) = 2 ∧ rv h (x + 38) 0 = some (x + 1) ∧ rv h (x + 38) 1 = some (x + 33) ∧ rv h (x + 38) 2 = some (x + 35) ∧ kd h (x + 33) = 7 ∧ rv h (x + 33) 0 = some (x + 34) ∧ kd h (x + 34) = 13 ∧ ln h (x + 34) = 8 ∧
  kd h (x + 35) = 8 ∧ rv h (x + 35) 0 = some (x + 36) ∧ rv h (x + 35) 1 = some (x + 37) ∧ kd h (x + 36) = 13 ∧ ln h (x + 36) = 10 ∧ kd h (x + 37) = 13 ∧ ln h (x + 37) = 10
/-- nothing has changed but what P says -/
def Fq (P : Nat → Prop) (h h' : AH) : Prop := h'.1 = h.1 ∧ h'.2.2.2 = h.2.2.2 ∧ ∀ b, ¬ P b → h'.2.1 b = h.2.1 b ∧ h'.2.2.1 b = h.2.2.1 b
theorem Fq.rf (P : Nat → Prop) (h : AH) : Fq P h h := ⟨rfl, rfl, fun _ _ => ⟨rfl, rfl⟩⟩
theorem Fq.tr {P : Nat → Prop} {h1 h2 h3 : AH} (x : Fq P h1 h2) (y : Fq P h2 h3) : Fq P h1 h3 := ⟨y.1.trans x.1, y.2.1.trans x.2.1, fun b hb => ⟨(y.2.2 b hb).1.trans (x.2.2 b hb).1, (y.2.2 b hb).2.trans (x.2.2 b hb).2⟩⟩
theorem Fq.w {P : Nat → Prop} (h : AH) {b : Nat} (k : Nat) (x : Int32) (hb : P b) : Fq P h (wI h b k x) := ⟨rfl, rfl, fun c hc => ⟨u2_ne _ _ _ (fun e => hc (e ▸ hb)), rfl⟩⟩
theorem Fq.fr {P : Nat → Prop} {h h' : AH} {a : Nat} (hF : Fr h h' a) (hP : ∀ b, a ≤ b → b < a + 16 → P b) : Fq P h h' := ⟨hF.1, hF.2.1, fun b hb => hF.2.2 b (by
  rcases Nat.lt_or_ge b a with h1 | h1
  · exact Or.inl h1
  · rcases Nat.lt_or_ge b (a + 16) with h2 | h2
    · exact absurd (hP b h1 h2) hb
    · exact Or.inr h2)⟩
theorem Fq.mono {P Q : Nat → Prop} {h h' : AH} (hF : Fq P h h') (hPQ : ∀ b, P b → Q b) : Fq Q h h' := ⟨hF.1, hF.2.1, fun b hb => hF.2.2 b (fun h => hb (hPQ b h))⟩
/-- what the desk changes -/
def PD (x b : Nat) : Prop := (x + 1 ≤ b ∧ b < x + 17) ∨ (x + 34 ≤ b ∧ b < x + 38)
theorem PD_bk {x : Nat} : ∀ b, x + 1 ≤ b → b < x + 1 + 16 → PD x b := fun b h1 h2 => Or.inl ⟨h1, by omega⟩
theorem DS_c {h h' : AH} {x : Nat} (e1 : h'.1 = h.1) (e2 : h'.2.2.2 = h.2.2.2) (hB : DS h x) : DS h' x := by
  unfold DS kd ln rv at hB ⊢
  rw [e1, e2]
  exact hB
/-- the class has the state s -/
def CS (h : AH) (x : Nat) (s : Ab) : Prop := DS h x ∧ CB h (x + 1) s.1 s.2.1 ∧ ∀ k, k < 8 → iv h (x + 34) k = s.2.2 k
theorem CS_bk {h h' : AH} {x : Nat} {s : Ab} {q : Nat → Int32} {L : List Nat} (hS : CS h x s) (hF : Fr h h' (x + 1)) (hC : CB h' (x + 1) q L) : CS h' x (q, L, s.2.2) :=
  ⟨DS_c hF.1 hF.2.1 hS.1, hC, fun k hk => by
    have := (hF.2.2 (x + 34) (by omega)).1
    show h'.2.1 (x + 34) k = _
    rw [this]; exact hS.2.2 k hk⟩
theorem e6_add {h : AH} {x : Nat} (hD : DS h x) {k : Nat} (hk : k < 8) (v : Int32) (z : Nat) : fX6_add (x + 33) (nI k) v z h = some (z, wI h (x + 34) k (iv h (x + 34) k + v)) := by
  obtain ⟨d1, d2, d3, d4, d5, d6, d7, d8, -⟩ := hD
  have e8 : (8 : Int32) = nI 8 := rfl
  simp (disch := omega) only [fX6_add, ↓brv_wI, ↓brv_wJ, ↓gd, ↓bl, ↓on, ↓xr, ↓reduceIte, if_true, if_false, kd_wI, ln_wI, rv_wI, iv_wI, jv_wI, kd_wJ, ln_wJ, rv_wJ, iv_wJ, nI_clamp, nI_leE, nI_ltE, nI_eqE, m1_ne, bit_0, bit_1, nI_negE, leN_F, leN_T, ltN_F, ltN_T, eqN_F, or_false, false_or, or_true, true_or, not_false_eq_true, not_true_eq_false, and_true, true_and, and_false, false_and, d5, ↓bb d6, d7, d8, e8]
theorem CS_add {h : AH} {x : Nat} {s : Ab} (hW : WFr s.1) (hS : CS h x s) {k : Nat} (hk : k < 8) (v : Int32) (z : Nat) : ∃ h', fX6_add (x + 33) (nI k) v z h = some (z, h') ∧ Fq (PD x) h h' ∧ CS h' x (s.1, s.2.1, upd s.2.2 k (s.2.2 k + v)) := by
  refine ⟨_, e6_add hS.1 hk v z, Fq.w h _ _ (Or.inr ⟨by omega, by omega⟩), DS_c rfl rfl hS.1, CB_c (BO_c rfl rfl hS.2.1.1) hW (fun b h1 h2 => iv_wI_ne _ _ _ (by omega)) rfl (nord.rf _) hS.2.1, fun j hj => ?_⟩
  rw [iv_wI, if_pos rfl, hS.2.2 k hk, hS.2.2 j hj]
  rfl
theorem LO10 {q : Nat → Int32} {L : List Nat} {B : Nat} (h : WQ q L B) : ∀ t ∈ L, t < 10 ∧ wt q t = true := fun t ht => (h.2.2.2.1.2 t).mp ht
theorem e1_sk_loop {x : Nat} {s : Ab} {B : Nat} (hQ : WA s B) {g : Int32} (hg : ∀ k, k < 10 → bt g k = true → th s.1 k = true) (z : Nat) : ∀ (d k : Nat), k + d = 10 → ∀ (h : AH) (fuel : Nat), d < fuel → CS h x (skN k (bt g) s) →
    ∃ h', lX1_strikeAll_2 fuel (x + 38) g (nI k) z h = some (z, h') ∧ Fq (PD x) h h' ∧ CS h' x (skN 10 (bt g) s) := by
  intro d
  induction d with
  | zero =>
    intro k hk h fuel hf hS
    obtain rfl : k = 10 := by omega
    cases fuel with
    | zero => omega
    | succ fuel =>
      refine ⟨h, ?_, Fq.rf _ h, hS⟩
      show lX1_strikeAll_2B _ _ _ _ _ _ = _
      simp (disch := omega) only [lX1_strikeAll_2B, nI_leE, leN_T, ↓reduceIte, li10]
  | succ d ih =>
    intro k hk h fuel hf hS
    cases fuel with
    | zero => omega
    | succ fuel =>
      cases hb : bt g k
      · have hs : skN (k + 1) (bt g) s = skN k (bt g) s := by rw [skN, hb]; rfl
        obtain ⟨h', v1, v2, v3⟩ := ih (k + 1) (by omega) h fuel (by omega) (by rw [hs]; exact hS)
        refine ⟨h', ?_, v2, v3⟩
        have x1 := e8_inSet g (show k < 32 by omega) z h
        rw [hb] at x1
        rw [← v1]
        show lX1_strikeAll_2B _ _ _ _ _ _ = _
        simp (disch := omega) only [lX1_strikeAll_2B, bX1_strikeAll_34, ↓brv_wI, ↓brv_wJ, ↓gd, ↓bl, ↓on, ↓xr, ↓reduceIte, if_true, if_false, kd_wI, ln_wI, rv_wI, iv_wI, jv_wI, kd_wJ, ln_wJ, rv_wJ, iv_wJ, nI_clamp, nI_leE, nI_ltE, nI_eqE, m1_ne, bit_0, bit_1, nI_negE, leN_F, leN_T, ltN_F, ltN_T, eqN_F, or_false, false_or, or_true, true_or, not_false_eq_true, not_true_eq_false, and_true, true_and, and_false, false_and, li10, ↓bb3 x1, Bool.false_eq_true, nI_1]
      · have hs : skN (k + 1) (bt g) s = skA (skN k (bt g) s) k := by rw [skN, hb]; rfl
        have hQk := WA_skN hQ hg k (by omega)
        have hthk : th (skN k (bt g) s).1 k = true := by rw [skN_th]; exact hg k (by omega) hb
        have x1 := e8_inSet g (show k < 32 by omega) z h
        rw [hb] at x1
        obtain ⟨h1, y1, y2, y3⟩ := w0_strike hQk.1 hS.2.1 hQk.len (fun t ht => (LO10 hQk t ht).1) (t := k) (by omega) hthk z
        have hS1 := CS_bk hS y2 y3
        obtain ⟨h2, u1, u2, u3⟩ := CS_add (k := 6) (sres_WFr (skP_sres _ _) hQk.1) hS1 (by omega) 1 z
        obtain ⟨h', v1, v2, v3⟩ := ih (k + 1) (by omega) h2 fuel (by omega) (by rw [hs]; exact u3)
        refine ⟨h', ?_, ((Fq.fr y2 PD_bk).tr u2).tr v2, v3⟩
        rw [← v1]
        obtain ⟨d1, d2, d3, d4, d5, -⟩ := hS.1
        obtain ⟨f1, f2, f3, f4, f5, -⟩ := hS1.1
        have hk1 := hS.2.1.1.1
        show lX1_strikeAll_2B _ _ _ _ _ _ = _
        simp (disch := omega) only [lX1_strikeAll_2B, bX1_strikeAll_34, ↓brv_wI, ↓brv_wJ, ↓gd, ↓bl, ↓on, ↓xr, ↓reduceIte, if_true, if_false, kd_wI, ln_wI, rv_wI, iv_wI, jv_wI, kd_wJ, ln_wJ, rv_wJ, iv_wJ, nI_clamp, nI_leE, nI_ltE, nI_eqE, m1_ne, bit_0, bit_1, nI_negE, leN_F, leN_T, ltN_F, ltN_T, eqN_F, or_false, false_or, or_true, true_or, not_false_eq_true, not_true_eq_false, and_true, true_and, and_false, false_and, li10, ↓bb3 x1, ne10, d1, ↓bb d2, hk1, ↓bb2 y1, f1, ↓bb f3, f5, ↓li6, ↓bb2 u1, nI_1]
theorem w1_strikeAll {h : AH} {x : Nat} {s : Ab} {B : Nat} (hQ : WA s B) {g : Int32} (hg : ∀ k, k < 10 → bt g k = true → th s.1 k = true) (hS : CS h x s) (z : Nat) : ∃ h', fX1_strikeAll (x + 38) g z h = some (z, h') ∧ Fq (PD x) h h' ∧ CS h' x (skN 10 (bt g) s) :=
  e1_sk_loop hQ hg z 10 0 (by omega) h fu (by unfold fu; omega) hS
theorem skN_one (s : Ab) {t : Nat} (ht : t < 10) : skN 10 (bt ((1 : Int32) <<< (nI t &&& 31))) s = skA s t := by
  have h1 : ∀ k, k ≤ t → skN k (bt ((1 : Int32) <<< (nI t &&& 31))) s = s := by
    intro k
    induction k with
    | zero => intro _; rfl
    | succ k ih =>
      intro hk
      have e : bt ((1 : Int32) <<< (nI t &&& 31)) k = false := by rw [bt_pow t (by omega)]; simp; omega
      rw [skN, e, ih (by omega)]; rfl
  have h2 : ∀ d, t + 1 + d ≤ 10 → skN (t + 1 + d) (bt ((1 : Int32) <<< (nI t &&& 31))) s = skA s t := by
    intro d
    induction d with
    | zero =>
      intro _
      have e : bt ((1 : Int32) <<< (nI t &&& 31)) t = true := by rw [bt_pow t (by omega)]; simp
      show skN (t + 1) _ s = _
      rw [skN, e, h1 t (by omega)]; rfl
    | succ d ih =>
      intro hd
      have e : bt ((1 : Int32) <<< (nI t &&& 31)) (t + 1 + d) = false := by rw [bt_pow t (by omega)]; simp; omega
      show skN (t + 1 + d + 1) _ s = _
      rw [skN, e, ih (by omega)]; rfl
  have := h2 (9 - t) (by omega)
  rwa [show t + 1 + (9 - t) = 10 by omega] at this
theorem w1_strikeOne {h : AH} {x : Nat} {s : Ab} {B : Nat} (hQ : WA s B) {t : Nat} (ht : t < 10) (hth : th s.1 t = true) (hS : CS h x s) (z : Nat) : ∃ h', fX1_strikeAll (x + 38) ((1 : Int32) <<< (nI t &&& 31)) z h = some (z, h') ∧ Fq (PD x) h h' ∧ CS h' x (skA s t) := by
  have := w1_strikeAll (g := (1 : Int32) <<< (nI t &&& 31)) hQ (fun k hk e => by
    rw [bt_pow t (by omega)] at e
    simp at e
    subst e
    exact hth) hS z
  rwa [skN_one s ht] at this
/-- settling, with the count of its grants -/
theorem w1_settle {h : AH} {x : Nat} {s : Ab} {B : Nat} (hQ : WA s B) (hS : CS h x s) (z : Nat) : ∃ v h1 h2, fX0_settle (x + 1) z h = some (v, z, h1) ∧ fX6_add (x + 33) 7 v z h1 = some (z, h2) ∧ Fr h h1 (x + 1) ∧ DS h1 x ∧ Fq (PD x) h h2 ∧ CS h2 x (seA s) := by
  obtain ⟨h1, y1, y2, y3⟩ := w0_settle hQ.1 hQ.t hQ.w hS.2.1 hQ.len (LO10 hQ) hQ.2.2.2.1.1 z
  have hS1 := CS_bk hS y2 y3
  obtain ⟨h2, u1, u2, u3⟩ := CS_add (k := 7) (WQ_stl hQ).1 hS1 (by omega) (nI (stl s.2.1 s.1).2.2) z
  exact ⟨_, h1, h2, y1, u1, y2, hS1.1, (Fq.fr y2 PD_bk).tr u2, u3⟩
