/-! the class as a whole: its object at x, books x + 1, spare books x + 17, tally x + 33, waits x + 35, desk x + 38, history x + 39 (its slots x + 40), script x + 41 (its text x + 42) -/
abbrev Rec : Type := (Nat → Int32) × List Nat
abbrev TS : Type := Ac × List Rec × List Nat
/-- a cell is the same -/
def sc (h h' : AH) (b : Nat) : Prop := h'.1 b = h.1 b ∧ h'.2.1 b = h.2.1 b ∧ h'.2.2.1 b = h.2.2.1 b ∧ h'.2.2.2 b = h.2.2.2 b
theorem sc.rf (h : AH) (b : Nat) : sc h h b := ⟨rfl, rfl, rfl, rfl⟩
theorem sc.tr {h1 h2 h3 : AH} {b : Nat} (x : sc h1 h2 b) (y : sc h2 h3 b) : sc h1 h3 b := ⟨y.1.trans x.1, y.2.1.trans x.2.1, y.2.2.1.trans x.2.2.1, y.2.2.2.trans x.2.2.2⟩
theorem sc.fq {P : Nat → Prop} {h h' : AH} (hF : Fq P h h') {b : Nat} (hb : ¬ P b) : sc h h' b := ⟨by rw [hF.1], (hF.2.2 b hb).1, (hF.2.2 b hb).2, by rw [hF.2.1]⟩
theorem sc.fr {h h' : AH} {a : Nat} (hF : Fr h h' a) {b : Nat} (hb : b < a ∨ a + 16 ≤ b) : sc h h' b := ⟨by rw [hF.1], (hF.2.2 b hb).1, (hF.2.2 b hb).2, by rw [hF.2.1]⟩
theorem sc.wI (h : AH) {a b : Nat} (k : Nat) (x : Int32) (hb : b ≠ a) : sc h (wI h a k x) b := ⟨rfl, u2_ne _ _ _ hb, rfl, rfl⟩
theorem sc.wJ (h : AH) {a b : Nat} (k : Nat) (x : Int64) (hb : b ≠ a) : sc h (wJ h a k x) b := ⟨rfl, rfl, u2_ne _ _ _ hb, rfl⟩
theorem sc.wR (h : AH) {a b : Nat} (k : Nat) (x : Option Nat) (hb : b ≠ a) : sc h (wR h a k x) b := ⟨rfl, rfl, rfl, u2_ne _ _ _ hb⟩
theorem sc.wN (h : AH) {a b : Nat} (k n : Nat) (hb : b ≠ a) : sc h (wNew h a k n) b := ⟨u1_ne _ _ hb, u1_ne _ _ hb, u1_ne _ _ hb, u1_ne _ _ hb⟩
theorem sc_iv {h h' : AH} {b : Nat} (e : sc h h' b) : iv h' b = iv h b := e.2.1
theorem sc_jv {h h' : AH} {b : Nat} (e : sc h h' b) : jv h' b = jv h b := e.2.2.1
theorem sc_rv {h h' : AH} {b : Nat} (e : sc h h' b) : rv h' b = rv h b := e.2.2.2
theorem sc_kd {h h' : AH} {b : Nat} (e : sc h h' b) : kd h' b = kd h b := congrArg Prod.fst e.1
theorem sc_ln {h h' : AH} {b : Nat} (e : sc h h' b) : ln h' b = ln h b := congrArg Prod.snd e.1
theorem BO_x {h h' : AH} {a : Nat} (e : ∀ b, a ≤ b ∧ b < a + 16 → sc h h' b) (hB : BO h a) : BO h' a := by
  unfold BO at hB ⊢
  have s0 := e (a) (by omega)
  have s1 := e (a + 1) (by omega)
  have s2 := e (a + 2) (by omega)
  have s3 := e (a + 3) (by omega)
  have s4 := e (a + 4) (by omega)
  have s5 := e (a + 5) (by omega)
  have s6 := e (a + 6) (by omega)
  have s7 := e (a + 7) (by omega)
  have s8 := e (a + 8) (by omega)
  have s9 := e (a + 9) (by omega)
  have s10 := e (a + 10) (by omega)
  have s11 := e (a + 11) (by omega)
  have s12 := e (a + 12) (by omega)
  have s13 := e (a + 13) (by omega)
  have s14 := e (a + 14) (by omega)
  have s15 := e (a + 15) (by omega)
  simp only [sc_kd s0, sc_ln s0, sc_rv s0, sc_kd s1, sc_ln s1, sc_rv s1, sc_kd s2, sc_ln s2, sc_kd s3, sc_ln s3, sc_kd s4, sc_ln s4, sc_kd s5, sc_ln s5, sc_rv s5, sc_kd s6, sc_ln s6, sc_kd s7, sc_ln s7, sc_kd s8, sc_ln s8, sc_kd s9, sc_ln s9, sc_kd s10, sc_ln s10, sc_kd s11, sc_ln s11, sc_kd s12, sc_ln s12, sc_kd s13, sc_ln s13, sc_kd s14, sc_ln s14, sc_kd s15, sc_ln s15]
  exact hB
theorem DS_x {h h' : AH} {x : Nat} (e : ∀ b, x + 33 ≤ b ∧ b < x + 39 → sc h h' b) (hB : DS h x) : DS h' x := by
  unfold DS at hB ⊢
  have s33 := e (x + 33) (by omega)
  have s34 := e (x + 34) (by omega)
  have s35 := e (x + 35) (by omega)
  have s36 := e (x + 36) (by omega)
  have s37 := e (x + 37) (by omega)
  have s38 := e (x + 38) (by omega)
  simp only [sc_kd s33, sc_ln s33, sc_rv s33, sc_kd s34, sc_ln s34, sc_kd s35, sc_ln s35, sc_rv s35, sc_kd s36, sc_ln s36, sc_kd s37, sc_ln s37, sc_kd s38, sc_ln s38, sc_rv s38]
  exact hB
theorem MO_x {h h' : AH} {m : Nat} (e : ∀ b, m ≤ b ∧ b < m + 10 → sc h h' b) (hB : MO h m) : MO h' m := by
  unfold MO at hB ⊢
  have s0 := e (m) (by omega)
  have s1 := e (m + 1) (by omega)
  have s2 := e (m + 2) (by omega)
  have s3 := e (m + 3) (by omega)
  have s4 := e (m + 4) (by omega)
  have s5 := e (m + 5) (by omega)
  have s6 := e (m + 6) (by omega)
  have s7 := e (m + 7) (by omega)
  have s8 := e (m + 8) (by omega)
  have s9 := e (m + 9) (by omega)
  simp only [sc_kd s0, sc_ln s0, sc_rv s0, sc_kd s1, sc_ln s1, sc_kd s2, sc_ln s2, sc_kd s3, sc_ln s3, sc_kd s4, sc_ln s4, sc_kd s5, sc_ln s5, sc_kd s6, sc_ln s6, sc_kd s7, sc_ln s7, sc_kd s8, sc_ln s8, sc_kd s9, sc_ln s9]
  exact hB
theorem CB_x {h h' : AH} {a : Nat} {q : Nat → Int32} {L : List Nat} (hW : WFr q) (e : ∀ b, a ≤ b ∧ b < a + 16 → sc h h' b) (hC : CB h a q L) : CB h' a q L :=
  CB_c (BO_x e hC.1) hW (fun b h1 h2 => sc_iv (e b ⟨h1, h2⟩)) (sc_jv (e (a + 6) (by omega))) (nord.rf q) hC
theorem CL_x {h h' : AH} {x : Nat} {w : Ac} (hW : WFr w.1.1) (e : ∀ b, x ≤ b ∧ b < x + 39 → sc h h' b) (hC : CL h x w) : CL h' x w := by
  obtain ⟨⟨c1, c2, c3⟩, c4⟩ := hC
  refine ⟨⟨DS_x (fun b hb => e b (by omega)) c1, CB_x hW (fun b hb => e b (by omega)) c2, fun k hk => ?_⟩, ?_⟩
  · rw [sc_iv (e (x + 34) (by omega))]; exact c3 k hk
  · unfold LT
    rw [sc_iv (e (x + 33) (by omega))]
    exact c4
def CO (h : AH) (x : Nat) : Prop :=
  kd h x = 9 ∧ rv h x 0 = some (x + 1) ∧ rv h x 1 = some (x + 17) ∧ rv h x 2 = some (x + 33) ∧ rv h x 3 = some (x + 35) ∧ rv h x 4 = some (x + 38) ∧ rv h x 5 = some (x + 39) ∧ rv h x 6 = some (x + 41) ∧
  kd h (x + 39) = 4 ∧ rv h (x + 39) 0 = some (x + 40) ∧ kd h (x + 40) = 15 ∧ ln h (x + 40) = 5 ∧ kd h (x + 41) = 6 ∧ rv h (x + 41) 0 = some (x + 42) ∧ kd h (x + 42) = 12 ∧ ln h (x + 42) = 120
/-- the records' books and the table of ways lie apart -/
def SL (h : AH) (x z : Nat) : Prop :=
  (∀ i a, i < 5 → rv h (x + 40) i = some a → x + 54 ≤ a ∧ a + 16 ≤ z ∧ BO h a) ∧
  (∀ i j a b, i < 5 → j < 5 → i ≠ j → rv h (x + 40) i = some a → rv h (x + 40) j = some b → a + 16 ≤ b ∨ b + 16 ≤ a) ∧
  (∀ w, rv h (x + 35) 3 = some w → x + 54 ≤ w ∧ w + 1 ≤ z ∧ kd h w = 13 ∧ ln h w = 4608 ∧ ∀ i a, i < 5 → rv h (x + 40) i = some a → a + 16 ≤ w ∨ w + 1 ≤ a)
def HI (h : AH) (x : Nat) (H : List Rec) : Prop := iv h (x + 39) 1 = nI H.length ∧ H.length ≤ 5 ∧ ∀ i r, H[i]? = some r → ∃ a, rv h (x + 40) i = some a ∧ CB h a r.1 r.2
def TX (h : AH) (x : Nat) (T : List Nat) : Prop := iv h (x + 41) 1 = nI T.length ∧ T.length ≤ 120 ∧ ∀ i c, T[i]? = some c → iv h (x + 42) i = nI c
def CI (h : AH) (x z : Nat) (A : TS) : Prop := CO h x ∧ BO h (x + 17) ∧ CL h x A.1 ∧ SL h x z ∧ HI h x A.2.1 ∧ TX h x A.2.2 ∧ x + 54 ≤ z
theorem CO_x {h h' : AH} {x : Nat} (e : ∀ b, x ≤ b ∧ b < x + 43 → sc h h' b) (hB : CO h x) : CO h' x := by
  unfold CO at hB ⊢
  have s0 := e (x) (by omega)
  have s39 := e (x + 39) (by omega)
  have s40 := e (x + 40) (by omega)
  have s41 := e (x + 41) (by omega)
  have s42 := e (x + 42) (by omega)
  simp only [sc_kd s0, sc_ln s0, sc_rv s0, sc_kd s39, sc_ln s39, sc_rv s39, sc_kd s40, sc_ln s40, sc_kd s41, sc_ln s41, sc_rv s41, sc_kd s42, sc_ln s42]
  exact hB
theorem CI_x {h h' : AH} {x z z' : Nat} {A : TS} (hW : WFr A.1.1.1) (hH : ∀ r ∈ A.2.1, WFr r.1) (hz : z ≤ z') (e : ∀ b, (x ≤ b ∧ b < x + 43) ∨ (x + 54 ≤ b ∧ b < z) → sc h h' b) (hC : CI h x z A) : CI h' x z' A := by
  obtain ⟨c1, c2, c3, ⟨c4, c5, c6⟩, ⟨c7, c8, c9⟩, ⟨c10, c11, c12⟩, c13⟩ := hC
  have e40 := sc_rv (e (x + 40) (by omega))
  have e35 := sc_rv (e (x + 35) (by omega))
  refine ⟨CO_x (fun b hb => e b (by omega)) c1, BO_x (fun b hb => e b (by omega)) c2, CL_x hW (fun b hb => e b (by omega)) c3, ⟨fun i a hi ha => ?_, fun i j a b hi hj hij ha hb => ?_, fun w hw => ?_⟩, ⟨?_, c8, fun i r hr => ?_⟩, ⟨?_, c11, fun i c hc => ?_⟩, by omega⟩
  · rw [e40] at ha
    obtain ⟨a1, a2, a3⟩ := c4 i a hi ha
    exact ⟨a1, by omega, BO_x (fun b hb => e b (by omega)) a3⟩
  · rw [e40] at ha hb
    exact c5 i j a b hi hj hij ha hb
  · rw [e35] at hw
    obtain ⟨a1, a2, a3, a4, a5⟩ := c6 w hw
    have ew := e w (by omega)
    refine ⟨a1, by omega, (sc_kd ew).trans a3, (sc_ln ew).trans a4, fun i a hi ha => ?_⟩
    rw [e40] at ha
    exact a5 i a hi ha
  · rw [sc_iv (e (x + 39) (by omega))]; exact c7
  · obtain ⟨a, ha, hCB⟩ := c9 i r hr
    have hi : i < 5 := by
      have := (List.getElem?_eq_some_iff.mp hr).1
      omega
    obtain ⟨a1, a2, -⟩ := c4 i a hi ha
    refine ⟨a, by rw [e40]; exact ha, CB_x (hH r (List.mem_of_getElem? hr)) (fun b hb => e b (by omega)) hCB⟩
  · rw [sc_iv (e (x + 41) (by omega))]; exact c10
  · rw [sc_iv (e (x + 42) (by omega))]; exact c12 i c hc
/-- a step of the desk -/
theorem CI_E {h h' : AH} {x z : Nat} {w w' : Ac} {H : List Rec} {T : List Nat} (hH : ∀ r ∈ H, WFr r.1) (hF : Fq (PE x) h h') (hL : CL h' x w') (hC : CI h x z (w, H, T)) : CI h' x z (w', H, T) := by
  obtain ⟨c1, c2, c3, ⟨c4, c5, c6⟩, ⟨c7, c8, c9⟩, ⟨c10, c11, c12⟩, c13⟩ := hC
  have er : ∀ b, rv h' b = rv h b := fun b => by unfold rv; rw [hF.2.1]
  have ek : ∀ b, kd h' b = kd h b := fun b => by unfold kd; rw [hF.1]
  have el : ∀ b, ln h' b = ln h b := fun b => by unfold ln; rw [hF.1]
  refine ⟨?_, BO_c hF.1 hF.2.1 c2, hL, ⟨fun i a hi ha => ?_, fun i j a b hi hj hij ha hb => ?_, fun w hw => ?_⟩, ⟨?_, c8, fun i r hr => ?_⟩, ⟨?_, c11, fun i c hc => ?_⟩, c13⟩
  · unfold CO at c1 ⊢
    simp only [er, ek, el]
    exact c1
  · rw [er] at ha
    obtain ⟨a1, a2, a3⟩ := c4 i a hi ha
    exact ⟨a1, a2, BO_c hF.1 hF.2.1 a3⟩
  · rw [er] at ha hb
    exact c5 i j a b hi hj hij ha hb
  · rw [er] at hw
    rw [ek, el]
    simp only [er]
    exact c6 w hw
  · rw [iv_F hF (by unfold PE; omega)]; exact c7
  · obtain ⟨a, ha, hCB⟩ := c9 i r hr
    have hi : i < 5 := by
      have h9 : i < H.length := (List.getElem?_eq_some_iff.mp hr).1
      have h8 : H.length ≤ 5 := c8
      omega
    obtain ⟨a1, a2, -⟩ := c4 i a hi ha
    refine ⟨a, by rw [er]; exact ha, CB_x (hH r (List.mem_of_getElem? hr)) (fun b hb => sc.fq hF (by unfold PE; omega)) hCB⟩
  · rw [iv_F hF (by unfold PE; omega)]; exact c10
  · rw [iv_F hF (by unfold PE; omega)]; exact c12 i c hc
/-- the reference's cells and the answer's are left alone -/
def FK (x : Nat) (h h' : AH) : Prop := ∀ b, x + 43 ≤ b → b < x + 54 → sc h h' b
theorem FK.rf (x : Nat) (h : AH) : FK x h h := fun b _ _ => sc.rf h b
theorem FK.tr {x : Nat} {h1 h2 h3 : AH} (a : FK x h1 h2) (b : FK x h2 h3) : FK x h1 h3 := fun c p q => (a c p q).tr (b c p q)
theorem FK.E {x : Nat} {h h' : AH} (hF : Fq (PE x) h h') : FK x h h' := fun b h1 h2 => sc.fq hF (by unfold PE; omega)
