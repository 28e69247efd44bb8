/-! the eight commands: when they may be, what they do, on both sides -/
theorem Zq_c {q q' : Nat → Int32} (e : ∀ j, 613 ≤ j → q' j = q j) (h : Zq q) : Zq q' := fun j hj => (e j hj).trans (h j hj)
theorem Zq_stl {q : Nat → Int32} {L : List Nat} (hL : ∀ t ∈ L, t < 10) (h : Zq q) : Zq (stl L q).2.1 := Zq_c (fun j hj => stl_out L q hL j (by omega)) h
theorem Zq_sk {q : Nat → Int32} {t : Nat} (ht : t < 10) (h : Zq q) : Zq (skP q t) := Zq_c (fun j hj => by rw [skP_at, if_neg (by omega), if_neg (by omega)]) h
theorem Zq_gr {q : Nat → Int32} {t r : Nat} (ht : t < 10) (h : Zq q) : Zq (grP q t r) := Zq_c (fun j hj => by rw [grP_at, if_neg (by omega), if_neg (by omega)]) h
theorem Zq_wq {q : Nat → Int32} {t r : Nat} (ht : t < 10) (h : Zq q) : Zq (wqP q t r) := Zq_c (fun j hj => by rw [wqP_at, if_neg (by omega), if_neg (by omega)]) h
theorem Zq_dt {q q' : Nat → Int32} {t : Nat} (ht : t < 10) (hd : dt q q' t) (h : Zq q) : Zq q' := Zq_c (fun j hj => (hd j (by omega)).symm) h
theorem Zq_cr {q : Nat → Int32} {t : Nat} {c : Int32} (ht : t < 10) (h : Zq q) : Zq (crP q t c) := Zq_c (fun j hj => by rw [crP_at, if_neg (by omega), if_neg (by omega), if_neg (by omega), if_neg (by omega), if_neg (by omega), if_neg (by omega)]) h
theorem Zq_se {s : Ab} {B : Nat} (hQ : WA s B) (h : Zq s.1) : Zq (seA s).1 := Zq_stl (fun t ht => (LO10 hQ t ht).1) h
theorem Zq_skN {c : Nat → Bool} {s : Ab} (h : Zq s.1) : ∀ k, k ≤ 10 → Zq (skN k c s).1 := by
  intro k
  induction k with
  | zero => intro _; exact h
  | succ k ih =>
    intro hk
    unfold skN
    split
    · exact Zq_sk (by omega) (ih (by omega))
    · exact ih (by omega)
theorem Zq_sd {q : Nat → Int32} {n : Nat} {f : Nat → Int32} {t hp : Int32} (hn : nm q < 40) (h : Zq q) : Zq (sdP q n f t hp) := Zq_c (fun j hj => by
  unfold sdP
  rw [if_neg (by omega), if_neg (by omega), if_neg (by omega), if_neg (by omega), if_neg (by omega)]) h
theorem Zq_dr {q : Nat → Int32} (hn : nm q ≤ 40) (h0 : 0 < nm q) (h : Zq q) : Zq (drP q) := Zq_c (fun j hj => by
  unfold drP
  rw [if_neg (by omega), if_neg (by omega), if_neg (by omega)]) h
theorem Zq_sdN {s : Ab} {B n hp : Nat} {f : Nat → Int32} {c : Nat → Bool} (hQ : WA s B) (h1 : 1 ≤ n) (h9 : n + hp ≤ 9) (hf : ∀ e, e < n → ∃ u, u < 10 ∧ f e = nI u) (h : Zq s.1) : ∀ k, k ≤ 10 → Zq (sdN c n f (nI hp) s k).1 := by
  intro k
  induction k with
  | zero => intro _; exact h
  | succ k ih =>
    intro hk
    have hQk := WA_sdN (c := c) hQ h1 h9 hf k (by omega)
    have h40 : nm (sdN c n f (nI hp) s k).1 ≤ 40 := hQk.2.2.2.2.2.2.1
    unfold sdN
    split
    · unfold sdA
      split
      · exact ih (by omega)
      · exact Zq_sd (by omega) (ih (by omega))
    · exact ih (by omega)
theorem Zq_ask {s : Ab} {B t r : Nat} (hQ : WA s B) (ht : t < 10) (hth : th s.1 t = true) (hwt : wt s.1 t = false) (hr : r < nr s.1) (h : Zq s.1) : Zq (askA s t r).1 := by
  have hg : ∀ k, k < 10 → bt (gnA s.1 t r) k = true → th s.1 k = true := fun k hk hb => (gn_th hk hb).1
  have hQ3 := WA_skN (c := bt (gnA s.1 t r)) hQ hg 10 (by omega)
  have hc : bt (gnA s.1 t r) t = false := by
    cases hb : bt (gnA s.1 t r) t
    · rfl
    · exact absurd rfl (gn_th ht hb).2
  have hth3 : th (skN 10 (bt (gnA s.1 t r)) s).1 t = true := by rw [skN_th]; exact hth
  have hwt3 : wt (skN 10 (bt (gnA s.1 t r)) s).1 t = false := by rw [skN_wt _ _ hc]; exact hwt
  have hr3 : r < nr (skN 10 (bt (gnA s.1 t r)) s).1 := by rw [skN_nr]; exact hr
  unfold askA
  split
  · split
    · exact h
    · exact Zq_gr ht h
  · split
    · exact Zq_wq ht h
    · split
      · exact Zq_se (B := B) (WQ_sk ht hth hQ) (Zq_sk ht h)
      · split
        · exact Zq_se (B := B) (s := grA (skN 10 (bt (gnA s.1 t r)) s) t r) (WQ_gr0 ht hth3 hwt3 hr3 hQ3) (Zq_gr ht (Zq_skN h 10 (by omega)))
        · exact Zq_se (B := B) (s := wqA (skN 10 (bt (gnA s.1 t r)) s) t r) (WQ_wq ht hth3 hwt3 hr3 hQ3) (Zq_wq ht (Zq_skN h 10 (by omega)))
theorem pr_ok {s : Ab} {B t : Nat} (hQ : WA s B) (ht : t < 10) (h : Zq s.1) : WA (prA s t) B ∧ Zq (prA s t).1 := by
  obtain ⟨b, hb1, hb9, hb⟩ := hQ.2.2.2.2.1.2.2
  have hb' : s.1 19 - 1 = nI (b - 1) := by rw [hb, show (1 : Int32) = nI 1 from rfl, pk_sub hb1]
  unfold prA
  rw [hb']
  exact ⟨WA_sdN (n := 1) (hp := b - 1) hQ (by omega) (by omega) (fun e _ => ⟨t, ht, rfl⟩) 10 (by omega), Zq_sdN (n := 1) (hp := b - 1) hQ (by omega) (by omega) (fun e _ => ⟨t, ht, rfl⟩) h 10 (by omega)⟩
theorem Zq_dl {w : Ac} {B : Nat} (hB31 : B < 2 ^ 31) (hQ : WA w.1 B) (h0 : 0 < nm w.1.1) (h : Zq w.1.1) : Zq (dlA w).1.1 := by
  have hWm := hQ.2.2.2.2.2
  obtain ⟨m1, m2, m3, m4, m5, m6, m7⟩ := dM hWm h0
  have hQ1 : WA (drP w.1.1, w.1.2.1, w.1.2.2) B := WQ_dr hQ h0
  have hZ1 : Zq (drP w.1.1) := Zq_dr hWm.2.1 h0 h
  unfold dlA
  cases hst : dSt w.1.1
  · simp only [Bool.false_eq_true, if_false]
    by_cases eT : dT w.1.1 = dU w.1.1 0
    · rw [if_pos eT]
      obtain ⟨i1, i2, i3⟩ := vic_IM hB31 hQ h0 hst
      have hvt : th (drP w.1.1) (vp w.1.1 (dU w.1.1) (mln w.1.1 0)) = true := by unfold th at i3 ⊢; rw [drP_lo _ (by omega)]; exact i3
      exact Zq_se (B := B) (s := skA (drP w.1.1, w.1.2.1, upd w.1.2.2 4 (w.1.2.2 4 + 1)) (vp w.1.1 (dU w.1.1) (mln w.1.1 0))) (WQ_sk i2 hvt hQ1) (Zq_sk i2 hZ1)
    · rw [if_neg eT]
      by_cases e2 : wt w.1.1 (dT w.1.1) = true ∧ anyB (mln w.1.1 0) (fun e => decide (dU w.1.1 e = dT w.1.1)) = false
      · rw [if_pos e2]
        by_cases e3 : dH w.1.1 = 0
        · rw [if_pos e3]; exact hZ1
        · rw [if_neg e3]
          refine Zq_sdN (s := ((drP w.1.1, w.1.2.1, w.1.2.2) : Ab)) (n := mln w.1.1 0 + 1) (hp := dH w.1.1 - 1) hQ1 (by omega) (by omega) (fun e he => ?_) hZ1 10 (by omega)
          by_cases ee : e = mln w.1.1 0
          · exact ⟨dT w.1.1, m2, by simp [ee]⟩
          · refine ⟨dU w.1.1 e, (m7 e (by omega)).2, ?_⟩
            simp only [ee, if_false]
            exact (m7 e (by omega)).1
      · rw [if_neg e2]; exact hZ1
  · rw [if_pos rfl]; exact hZ1
theorem Zq_dlL {B : Nat} (hB31 : B < 2 ^ 31) : ∀ (d : Nat) (w : Ac), WA w.1 B → Zq w.1.1 → Zq (dlL d w).2.1.1 := by
  intro d
  induction d with
  | zero => intro w _ h; exact h
  | succ d ih =>
    intro w hQ h
    unfold dlL
    split
    · exact h
    · exact ih (dlA w) (WA_dl hB31 hQ (by omega)) (Zq_dl hB31 hQ (by omega) h)
/-! codes -/
def fq (q : Nat → Int32) : Nat := ff (fun t => !th q t) 0 10
abbrev tn' (x : Int32) : Nat := x.toNatClampNeg
def stt (q : Nat → Int32) (x : Int32) : Int32 := q (32 + 6 * tn' x + 4)
def kC (q : Nat → Int32) (c : Int32) : Nat := if inI c 1 99 = false then 1 else if fq q = 10 then 2 else 0
def kQ (q : Nat → Int32) (x y : Int32) : Nat := if (tkI q x && rsI q y) = false then 1 else if stt q x = 0 then 0 else 2
def kL (q : Nat → Int32) (x y : Int32) : Nat := if (tkI q x && rsI q y) = false then 1 else if bt (q (32 + 6 * tn' x + 3)) (tn' y) then 0 else 2
def kF (q : Nat → Int32) (x : Int32) : Nat := if tkI q x = false then 1 else if stt q x = 0 then 0 else 2
def kA (q : Nat → Int32) (x : Int32) : Nat := if tkI q x = false then 1 else if stt q x = 2 then 2 else 0
def kB (q : Nat → Int32) (x : Int32) : Nat := if tkI q x = false then 1 else if stt q x = 2 then 0 else 2
def kP (q : Nat → Int32) (x : Int32) : Nat := if tkI q x = false then 1 else if stt q x = 1 then 0 else 2
def kD (x : Int32) : Nat := if inI x 1 99 = false then 1 else 0
theorem tkI_of {q : Nat → Int32} {x : Int32} (h : tkI q x = true) : ∃ t, t < 10 ∧ x = nI t ∧ th q t = true ∧ tn' x = t := by
  unfold tkI at h
  rw [Bool.and_eq_true] at h
  obtain ⟨t, ht, rfl⟩ := inI_of (n := 9) (by omega) h.1
  refine ⟨t, by omega, rfl, ?_, nI_clamp (by omega)⟩
  have := h.2
  rwa [nI_clamp (by omega)] at this
theorem rsI_of {q : Nat → Int32} {x : Int32} (h : rsI q x = true) : ∃ r, r < 16 ∧ x = nI r ∧ r < nr q ∧ tn' x = r := by
  unfold rsI at h
  rw [Bool.and_eq_true, decide_eq_true_eq] at h
  obtain ⟨t, ht, rfl⟩ := inI_of (n := 15) (by omega) h.1
  rw [nI_clamp (by omega)] at h
  exact ⟨t, by omega, rfl, h.2, nI_clamp (by omega)⟩
theorem inI_of1 {x : Int32} (h : inI x 1 99 = true) : ∃ c, 1 ≤ c ∧ c ≤ 99 ∧ x = nI c := by
  unfold inI at h
  rw [decide_eq_true_eq] at h
  have h0 : ¬ x < 0 := fun h9 => h.1 (Int32.lt_trans h9 (by decide))
  obtain ⟨j, hj, rfl⟩ := nI_of h0
  rw [show (1 : Int32) = nI 1 from rfl, show (99 : Int32) = nI 99 from rfl, nI_ltE hj (by omega), nI_ltE (by omega) hj] at h
  exact ⟨j, by omega, by omega, rfl⟩
theorem kC_0 {q : Nat → Int32} {x : Int32} (h : kC q x = 0) : (∃ c, 1 ≤ c ∧ c ≤ 99 ∧ x = nI c) ∧ fq q < 10 := by
  unfold kC at h
  by_cases e : inI x 1 99 = false
  · rw [if_pos e] at h; omega
  · rw [if_neg e] at h
    by_cases e2 : fq q = 10
    · rw [if_pos e2] at h; omega
    · have := (ff_le (fun t => !th q t) 10 0).1
      exact ⟨inI_of1 (by simpa using e), by unfold fq at e2 ⊢; omega⟩
theorem kQ_0 {q : Nat → Int32} {x y : Int32} (h : kQ q x y = 0) : ∃ t r, t < 10 ∧ r < nr q ∧ x = nI t ∧ y = nI r ∧ th q t = true ∧ q (32 + 6 * t + 4) = 0 ∧ tn' x = t ∧ tn' y = r := by
  unfold kQ at h
  by_cases e : (tkI q x && rsI q y) = false
  · rw [if_pos e] at h; omega
  · rw [if_neg e] at h
    have e' : tkI q x = true ∧ rsI q y = true := by simpa using e
    obtain ⟨t, t1, t2, t3, t4⟩ := tkI_of e'.1
    obtain ⟨r, r1, r2, r3, r4⟩ := rsI_of e'.2
    by_cases e2 : stt q x = 0
    · refine ⟨t, r, t1, r3, t2, r2, t3, ?_, t4, r4⟩
      unfold stt at e2
      rwa [t4] at e2
    · rw [if_neg e2] at h; omega
theorem kL_0 {q : Nat → Int32} {x y : Int32} (h : kL q x y = 0) : ∃ t r, t < 10 ∧ r < nr q ∧ x = nI t ∧ y = nI r ∧ th q t = true ∧ bt (q (32 + 6 * t + 3)) r = true ∧ tn' x = t ∧ tn' y = r := by
  unfold kL at h
  by_cases e : (tkI q x && rsI q y) = false
  · rw [if_pos e] at h; omega
  · rw [if_neg e] at h
    have e' : tkI q x = true ∧ rsI q y = true := by simpa using e
    obtain ⟨t, t1, t2, t3, t4⟩ := tkI_of e'.1
    obtain ⟨r, r1, r2, r3, r4⟩ := rsI_of e'.2
    by_cases e2 : bt (q (32 + 6 * tn' x + 3)) (tn' y) = true
    · refine ⟨t, r, t1, r3, t2, r2, t3, ?_, t4, r4⟩
      rwa [t4, r4] at e2
    · rw [if_neg e2] at h; omega
theorem kF_0 {q : Nat → Int32} {x : Int32} (h : kF q x = 0) : ∃ t, t < 10 ∧ x = nI t ∧ th q t = true ∧ q (32 + 6 * t + 4) = 0 ∧ tn' x = t := by
  unfold kF at h
  by_cases e : tkI q x = false
  · rw [if_pos e] at h; omega
  · rw [if_neg e] at h
    obtain ⟨t, t1, t2, t3, t4⟩ := tkI_of (by simpa using e)
    by_cases e2 : stt q x = 0
    · refine ⟨t, t1, t2, t3, ?_, t4⟩
      unfold stt at e2
      rwa [t4] at e2
    · rw [if_neg e2] at h; omega
theorem kA_0 {q : Nat → Int32} {x : Int32} (h : kA q x = 0) : ∃ t, t < 10 ∧ x = nI t ∧ th q t = true ∧ tn' x = t := by
  unfold kA at h
  by_cases e : tkI q x = false
  · rw [if_pos e] at h; omega
  · exact tkI_of (by simpa using e)
theorem kB_0 {q : Nat → Int32} {x : Int32} (h : kB q x = 0) : ∃ t, t < 10 ∧ x = nI t ∧ th q t = true ∧ q (32 + 6 * t + 4) = 2 ∧ tn' x = t := by
  unfold kB at h
  by_cases e : tkI q x = false
  · rw [if_pos e] at h; omega
  · rw [if_neg e] at h
    obtain ⟨t, t1, t2, t3, t4⟩ := tkI_of (by simpa using e)
    by_cases e2 : stt q x = 2
    · refine ⟨t, t1, t2, t3, ?_, t4⟩
      unfold stt at e2
      rwa [t4] at e2
    · rw [if_neg e2] at h; omega
theorem kP_0 {q : Nat → Int32} {x : Int32} (h : kP q x = 0) : ∃ t, t < 10 ∧ x = nI t ∧ th q t = true ∧ q (32 + 6 * t + 4) = 1 ∧ tn' x = t := by
  unfold kP at h
  by_cases e : tkI q x = false
  · rw [if_pos e] at h; omega
  · rw [if_neg e] at h
    obtain ⟨t, t1, t2, t3, t4⟩ := tkI_of (by simpa using e)
    by_cases e2 : stt q x = 1
    · refine ⟨t, t1, t2, t3, ?_, t4⟩
      unfold stt at e2
      rwa [t4] at e2
    · rw [if_neg e2] at h; omega
theorem kD_0 {x : Int32} (h : kD x = 0) : ∃ c, 1 ≤ c ∧ c ≤ 99 ∧ x = nI c := by
  unfold kD at h
  by_cases e : inI x 1 99 = false
  · rw [if_pos e] at h; omega
  · exact inI_of1 (by simpa using e)
/-! what they do, and what they answer -/
def sC (w : Ac) (c : Int32) : Ac := ((crP w.1.1 (fq w.1.1) c, w.1.2.1, w.1.2.2), w.2)
def sQ (w : Ac) (x y : Int32) : Ac := (askA w.1 (tn' x) (tn' y), w.2)
def sL (w : Ac) (x y : Int32) : Ac := (seA (lgP w.1.1 (tn' x) (tn' y), w.1.2.1, w.1.2.2), w.2)
def sF (w : Ac) (x : Int32) : Ac := (seA (dsP w.1.1 (tn' x), w.1.2.1, w.1.2.2), w.2)
def sA (w : Ac) (x : Int32) : Ac := (seA (skA w.1 (tn' x)), w.2)
def sB (w : Ac) (x : Int32) : Ac := ((rvP w.1.1 (tn' x), w.1.2.1, w.1.2.2), w.2)
def sP (w : Ac) (x : Int32) : Ac := (prA w.1 (tn' x), w.2)
def sD (w : Ac) (x : Int32) : Ac := (dlL (tn' x) w).2
def hb' (q : Nat → Int32) (x : Int32) : Int32 := nI (cnt 16 (bt (q (32 + 6 * tn' x + 3))))
theorem wt_0 {q : Nat → Int32} {t : Nat} {v : Int32} (h : q (32 + 6 * t + 4) = v) (hv : v ≠ 1) : wt q t = false := by
  unfold wt
  rw [h]
  simp [hv]
/-- a state that may be -/
def WS (w : Ac) (B : Nat) : Prop := WA w.1 B ∧ Zq w.1.1
theorem WS_C {w : Ac} {B : Nat} {c : Int32} (hB : B < 2 ^ 31 - 1) (h : WS w B) (hk : kC w.1.1 c = 0) : WS (sC w c) (B + 1) := by
  obtain ⟨⟨n, h1, h2, rfl⟩, hf⟩ := kC_0 hk
  have hth : th w.1.1 (fq w.1.1) = false := by
    have h9 := ff_c (fun t => !th w.1.1 t) 10 0 (by unfold fq at hf; omega)
    unfold fq
    simpa using h9
  exact ⟨WQ_cr hB hf hth h1 h2 h.1, Zq_cr hf h.2⟩
theorem WS_Q {w : Ac} {B : Nat} {x y : Int32} (h : WS w B) (hk : kQ w.1.1 x y = 0) : WS (sQ w x y) B := by
  obtain ⟨t, r, t1, r1, -, -, t3, t4, t5, r5⟩ := kQ_0 hk
  unfold sQ
  rw [t5, r5]
  have hwt := wt_0 t4 (by decide)
  exact ⟨WA_ask h.1 t1 t3 hwt r1, Zq_ask h.1 t1 t3 hwt r1 h.2⟩
theorem WS_L {w : Ac} {B : Nat} {x y : Int32} (h : WS w B) (hk : kL w.1.1 x y = 0) : WS (sL w x y) B := by
  obtain ⟨t, r, t1, r1, -, -, t3, t4, t5, r5⟩ := kL_0 hk
  unfold sL
  rw [t5, r5]
  exact ⟨WQ_stl (WQ_lg t1 h.1), Zq_se (B := B) (s := (lgP w.1.1 t r, w.1.2.1, w.1.2.2)) (WQ_lg t1 h.1) (Zq_dt t1 (lgP_dt _ _ _) h.2)⟩
theorem WS_F {w : Ac} {B : Nat} {x : Int32} (h : WS w B) (hk : kF w.1.1 x = 0) : WS (sF w x) B := by
  obtain ⟨t, t1, -, t3, t4, t5⟩ := kF_0 hk
  unfold sF
  rw [t5]
  have hwt := wt_0 t4 (by decide)
  exact ⟨WQ_stl (WQ_ds t1 hwt h.1), Zq_se (B := B) (s := (dsP w.1.1 t, w.1.2.1, w.1.2.2)) (WQ_ds t1 hwt h.1) (Zq_dt t1 (dsP_dt _ _) h.2)⟩
theorem WS_A {w : Ac} {B : Nat} {x : Int32} (h : WS w B) (hk : kA w.1.1 x = 0) : WS (sA w x) B := by
  obtain ⟨t, t1, -, t3, t5⟩ := kA_0 hk
  unfold sA
  rw [t5]
  exact ⟨WQ_stl (WQ_sk t1 t3 h.1), Zq_se (B := B) (s := skA w.1 t) (WQ_sk t1 t3 h.1) (Zq_sk t1 h.2)⟩
theorem WS_B {w : Ac} {B : Nat} {x : Int32} (h : WS w B) (hk : kB w.1.1 x = 0) : WS (sB w x) B := by
  obtain ⟨t, t1, -, t3, t4, t5⟩ := kB_0 hk
  unfold sB
  rw [t5]
  exact ⟨WQ_rv t1 t3 (wt_0 t4 (by decide)) h.1, Zq_dt t1 (rvP_dt _ _) h.2⟩
theorem WS_P {w : Ac} {B : Nat} {x : Int32} (h : WS w B) (hk : kP w.1.1 x = 0) : WS (sP w x) B := by
  obtain ⟨t, t1, -, t3, t4, t5⟩ := kP_0 hk
  unfold sP
  rw [t5]
  exact pr_ok h.1 t1 h.2
theorem WS_D {w : Ac} {B : Nat} {x : Int32} (hB31 : B < 2 ^ 31) (h : WS w B) : WS (sD w x) B := ⟨WA_dlL hB31 _ w h.1, Zq_dlL hB31 _ w h.1 h.2⟩
