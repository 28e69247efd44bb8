/-! what a state keeps -/
def TK (q : Nat → Int32) (S t : Nat) : Prop :=
  (th q t = false → q (32 + 6 * t + 3) = 0) ∧ (∀ i, nr q ≤ i → i < 32 → bt (q (32 + 6 * t + 3)) i = false) ∧
  (th q t = true → (∃ c, 1 ≤ c ∧ c ≤ 99 ∧ q (32 + 6 * t + 1) = nI c) ∧ (∃ a, a < S ∧ q (32 + 6 * t + 2) = nI a) ∧ (q (32 + 6 * t + 4) = 0 ∨ q (32 + 6 * t + 4) = 1 ∨ q (32 + 6 * t + 4) = 2)) ∧
  (wt q t = true → wan q t < nr q ∧ q (32 + 6 * t + 5) = nI (wan q t))
def WFs (q : Nat → Int32) : Prop := (q 17 = 0 ∨ q 17 = 1 ∨ q 17 = 2) ∧ (q 18 = 0 ∨ q 18 = 1 ∨ q 18 = 2) ∧ ∃ b, 1 ≤ b ∧ b ≤ 9 ∧ q 19 = nI b
/-- a message that may be -/
def MS (q : Nat → Int32) (k : Nat) : Prop :=
  (∃ t, t < 10 ∧ q (93 + 13 * k) = nI t) ∧ (∃ hp, q (93 + 13 * k + 1) = nI hp ∧ 1 ≤ mln q k ∧ q (93 + 13 * k + 2) = nI (mln q k) ∧ mln q k + hp ≤ 9) ∧ ∀ e, e < mln q k → ∃ u, u < 10 ∧ q (93 + 13 * k + 3 + e) = nI u
def WFm (q : Nat → Int32) : Prop := q 92 = nI (nm q) ∧ nm q ≤ 40 ∧ ∀ k, k < nm q → MS q k
def Ages (q : Nat → Int32) : Prop := ∀ k l, k < 10 → l < 10 → k ≠ l → th q k = true → th q l = true → q (32 + 6 * k + 2) ≠ q (32 + 6 * l + 2)
def LO (q : Nat → Int32) (L : List Nat) : Prop := L.Nodup ∧ ∀ t, t ∈ L ↔ t < 10 ∧ wt q t = true
def WQ (q : Nat → Int32) (L : List Nat) (B : Nat) : Prop :=
  WFr q ∧ (∃ S, S ≤ B ∧ q 20 = nI S ∧ ∀ t, t < 10 → TK q S t) ∧ Ages q ∧ LO q L ∧ WFs q ∧ WFm q
theorem WQ.t {q : Nat → Int32} {L : List Nat} {B : Nat} (h : WQ q L B) : WFt q := fun t ht => by
  obtain ⟨-, ⟨S, -, -, h3⟩, -⟩ := h
  exact ⟨(h3 t ht).1, (h3 t ht).2.1⟩
theorem WQ.w {q : Nat → Int32} {L : List Nat} {B : Nat} (h : WQ q L B) : WFw q := fun t ht hw => by
  obtain ⟨-, ⟨S, -, -, h3⟩, -⟩ := h
  exact (h3 t ht).2.2.2 hw
theorem WQ.len {q : Nat → Int32} {L : List Nat} {B : Nat} (h : WQ q L B) : L.length ≤ 10 := by
  have h1 := h.2.2.2.1
  have : L.length ≤ (List.range 10).length := h1.1.length_le_of_subset (fun t ht => by rw [List.mem_range]; exact ((h1.2 t).mp ht).1)
  simpa using this
theorem WQ.mono {q : Nat → Int32} {L : List Nat} {B C : Nat} (h : WQ q L B) (hBC : B ≤ C) : WQ q L C := by
  obtain ⟨h1, ⟨S, h2, h3⟩, h4⟩ := h
  exact ⟨h1, ⟨S, by omega, h3⟩, h4⟩
theorem TK_c {q q' : Nat → Int32} {S S' k : Nat} (e : ∀ w, w < 6 → q (32 + 6 * k + w) = q' (32 + 6 * k + w)) (en : nr q = nr q') (hS : S ≤ S') (h : TK q S k) : TK q' S' k := by
  have eth : th q k = th q' k := by unfold th; rw [show 32 + 6 * k = 32 + 6 * k + 0 from rfl, e 0 (by omega)]
  have ewt : wt q k = wt q' k := by unfold wt; rw [eth, e 4 (by omega)]
  have ewa : wan q k = wan q' k := by unfold wan; rw [e 5 (by omega)]
  unfold TK at h ⊢
  rw [eth, ewt, ewa, en, e 1 (by omega), e 2 (by omega), e 3 (by omega), e 4 (by omega), e 5 (by omega)] at h
  obtain ⟨h1, h2, h3, h4⟩ := h
  refine ⟨h1, h2, fun h5 => ?_, h4⟩
  obtain ⟨x1, ⟨a, x2, x3⟩, x4⟩ := h3 h5
  exact ⟨x1, ⟨a, by omega, x3⟩, x4⟩
theorem WFs_c {q q' : Nat → Int32} (e : ∀ j, 17 ≤ j → j < 20 → q j = q' j) (h : WFs q) : WFs q' := by
  unfold WFs at h ⊢
  rw [← e 17 (by omega) (by omega), ← e 18 (by omega) (by omega), ← e 19 (by omega) (by omega)]
  exact h
theorem MS_c {q q' : Nat → Int32} {k : Nat} (e : ∀ j, j < 13 → q (93 + 13 * k + j) = q' (93 + 13 * k + j)) (h : MS q k) : MS q' k := by
  have el : mln q k = mln q' k := by unfold mln; rw [e 2 (by omega)]
  obtain ⟨⟨t, h1, h2⟩, ⟨hp, h3, h4, h5, h6⟩, h7⟩ := h
  rw [el] at h4 h5 h6 h7
  refine ⟨⟨t, h1, ?_⟩, ⟨hp, ?_, h4, ?_, h6⟩, fun i hi => ?_⟩
  · rw [← h2]; exact (e 0 (by omega)).symm
  · rw [← h3]; exact (e 1 (by omega)).symm
  · rw [← h5]; exact (e 2 (by omega)).symm
  · obtain ⟨u, hu, h8⟩ := h7 i hi
    refine ⟨u, hu, ?_⟩
    rw [← h8, Nat.add_assoc]
    exact (e (3 + i) (by omega)).symm
theorem WFm_c {q q' : Nat → Int32} (e : ∀ j, 92 ≤ j → q j = q' j) (h : WFm q) : WFm q' := by
  have en : nm q = nm q' := by unfold nm; rw [e 92 (by omega)]
  obtain ⟨h1, h2, h3⟩ := h
  rw [en] at h1 h2 h3
  exact ⟨by rw [← e 92 (by omega)]; exact h1, h2, fun k hk => MS_c (fun j _ => e _ (by omega)) (h3 k hk)⟩
theorem Ages_c {q q' : Nat → Int32} (e : ∀ k, k < 10 → th q' k = true → th q k = true ∧ q' (32 + 6 * k + 2) = q (32 + 6 * k + 2)) (h : Ages q) : Ages q' := by
  intro k l hk hl hkl h1 h2
  obtain ⟨a1, a2⟩ := e k hk h1
  obtain ⟨b1, b2⟩ := e l hl h2
  rw [a2, b2]
  exact h k l hk hl hkl a1 b1
/-- a change of task t alone -/
theorem WQ_dt {q q' : Nat → Int32} {L L' : List Nat} {B t : Nat} (ht : t < 10) (h : WQ q L B) (hd : dt q q' t) (hT : ∀ S, TK q S t → TK q' S t) (hA : th q' t = true → th q t = true ∧ q' (32 + 6 * t + 2) = q (32 + 6 * t + 2)) (hL : LO q' L') : WQ q' L' B := by
  obtain ⟨h1, ⟨S, h2, h3, h4⟩, h5, h6, h7, h8⟩ := h
  refine ⟨sres_WFr (dt_sres hd) h1, ⟨S, h2, by rw [← hd 20 (by omega)]; exact h3, fun k hk => ?_⟩, Ages_c (fun k hk hkt => ?_) h5, hL, WFs_c (fun j _ _ => hd j (by omega)) h7, WFm_c (fun j _ => hd j (by omega)) h8⟩
  · by_cases e : k = t
    · subst e; exact hT S (h4 k hk)
    · exact TK_c (fun w hw => hd _ (by omega)) (sres_nr (dt_sres hd)) (Nat.le_refl _) (h4 k hk)
  · by_cases e : k = t
    · subst e; exact hA hkt
    · rw [dt_th hd e, ← hd (32 + 6 * k + 2) (by omega)]; exact ⟨hkt, rfl⟩
theorem WQ_ord {q q' : Nat → Int32} {L : List Nat} {B : Nat} (h : WQ q L B) (hn : nord q q') : WQ q' L B := by
  obtain ⟨h1, ⟨S, h2, h3, h4⟩, h5, h6, h7, h8⟩ := h
  refine ⟨WFr_nord hn h1, ⟨S, h2, by rw [← hn 20 (by omega)]; exact h3, fun k hk => TK_c (fun w hw => hn _ (by omega)) (nr_nord hn) (Nat.le_refl _) (h4 k hk)⟩, Ages_c (fun k hk hkt => ?_) h5, ⟨h6.1, fun t => by rw [h6.2 t, wt_nord hn]⟩, WFs_c (fun j _ _ => hn j (by omega)) h7, WFm_c (fun j _ => hn j (by omega)) h8⟩
  rw [th_nord hn, ← hn (32 + 6 * k + 2) (by omega)]; exact ⟨hkt, rfl⟩
theorem LO_same {q q' : Nat → Int32} {L : List Nat} (h : LO q L) (e : ∀ k, wt q' k = wt q k) : LO q' L := ⟨h.1, fun t => by rw [h.2 t, e t]⟩
theorem LO_fil {q q' : Nat → Int32} {L : List Nat} {t : Nat} (h : LO q L) (e : ∀ k, wt q' k = (wt q k && decide (k ≠ t))) : LO q' (L.filter (fun x => decide (x ≠ t))) := by
  refine ⟨h.1.filter _, fun k => ?_⟩
  rw [List.mem_filter, h.2 k, e k]
  simp [and_assoc]
theorem grP_dt (q : Nat → Int32) (t r : Nat) : dt q (grP q t r) t := fun j hj => by rw [grP_at, if_neg (by omega), if_neg (by omega)]
theorem grP_TK {q : Nat → Int32} {S t r : Nat} (hn : nr q ≤ 16) (hr : r < nr q) (hth : th q t = true) (h : TK q S t) : TK (grP q t r) S t := by
  obtain ⟨h1, h2, h3, h4⟩ := h
  have e3 : grP q t r (32 + 6 * t + 3) = q (32 + 6 * t + 3) ||| ((1 : Int32) <<< (nI r &&& 31)) := by rw [grP_at, if_neg (by omega), if_pos rfl]
  have e4 : grP q t r (32 + 6 * t + 4) = 0 := by rw [grP_at, if_pos rfl]
  refine ⟨fun h5 => ?_, fun i hi hi2 => ?_, fun _ => ?_, fun h5 => ?_⟩
  · rw [grP_th, hth] at h5; cases h5
  · rw [grP_nr] at hi
    rw [e3, b_or, h2 i hi hi2, bt_pow r (by omega)]
    simp; omega
  · obtain ⟨x1, x2, x3⟩ := h3 hth
    rw [e4, grP_at, if_neg (by omega), if_neg (by omega), grP_at, if_neg (by omega), if_neg (by omega)]
    exact ⟨x1, x2, Or.inl rfl⟩
  · rw [grP_wt] at h5; simp at h5
theorem WQ_gr {q : Nat → Int32} {L L' : List Nat} {B t r : Nat} (ht : t < 10) (hth : th q t = true) (hr : r < nr q) (h : WQ q L B) (hL : LO (grP q t r) L') : WQ (grP q t r) L' B :=
  WQ_dt ht h (grP_dt q t r) (fun S => grP_TK h.1.2.1 hr hth) (fun _ => ⟨hth, by rw [grP_at, if_neg (by omega), if_neg (by omega)]⟩) hL
theorem wt_F {q : Nat → Int32} {t : Nat} (h : wt q t = false) (k : Nat) : (wt q k && decide (k ≠ t)) = wt q k := by
  by_cases e : k = t
  · subst e; simp [h]
  · simp [e]
/-- a grant of a task that does not wait -/
theorem WQ_gr0 {q : Nat → Int32} {L : List Nat} {B t r : Nat} (ht : t < 10) (hth : th q t = true) (hwt : wt q t = false) (hr : r < nr q) (h : WQ q L B) : WQ (grP q t r) L B :=
  WQ_gr ht hth hr h (LO_same h.2.2.2.1 (fun k => by rw [grP_wt, wt_F hwt]))
theorem stl_WQ : ∀ (L K : List Nat) (q : Nat → Int32) (B : Nat), WQ q (K ++ L) B → WQ (stl L q).2.1 (K ++ (stl L q).1) B
  | [], K, q, B, h => h
  | t :: L, K, q, B, h => by
    have hm : t ∈ K ++ t :: L := by simp
    obtain ⟨ht, hw⟩ := (h.2.2.2.1.2 t).mp hm
    have hwan := h.w t ht hw
    unfold stl
    split
    · refine stl_WQ L K _ B (WQ_gr ht (wt_th hw) hwan.1 h ?_)
      have hnd := h.2.2.2.1.1
      have hnt : t ∉ K ++ L := by
        rw [List.nodup_append] at hnd
        obtain ⟨n1, n2, n3⟩ := hnd
        rw [List.nodup_cons] at n2
        intro hc
        rcases List.mem_append.mp hc with hc | hc
        · exact n3 t hc t List.mem_cons_self rfl
        · exact n2.1 hc
      refine ⟨List.Sublist.nodup (by simp) hnd, fun k => ?_⟩
      have h2 := h.2.2.2.1.2 k
      rw [grP_wt]
      by_cases e : k = t
      · subst e; simp; simpa using hnt
      · rw [List.mem_append, List.mem_cons] at h2
        rw [List.mem_append]
        simp only [e, false_or] at h2
        rw [h2]; simp [e]
    · have := stl_WQ L (K ++ [t]) q B (by simpa using h)
      simpa using this
theorem WQ_stl {q : Nat → Int32} {L : List Nat} {B : Nat} (h : WQ q L B) : WQ (stl L q).2.1 (stl L q).1 B := stl_WQ L [] q B h
theorem skP_dt (q : Nat → Int32) (t : Nat) : dt q (skP q t) t := fun j hj => by rw [skP_at, if_neg (by omega), if_neg (by omega)]
theorem WQ_sk {q : Nat → Int32} {L : List Nat} {B t : Nat} (ht : t < 10) (hth : th q t = true) (h : WQ q L B) : WQ (skP q t) (L.filter (fun x => decide (x ≠ t))) B := by
  refine WQ_dt ht h (skP_dt q t) (fun S hT => ?_) (fun _ => ⟨hth, by rw [skP_at, if_neg (by omega), if_neg (by omega)]⟩) (LO_fil h.2.2.2.1 (skP_wt q t))
  obtain ⟨h1, h2, h3, h4⟩ := hT
  have e3 : skP q t (32 + 6 * t + 3) = 0 := by rw [skP_at, if_neg (by omega), if_pos rfl]
  have e4 : skP q t (32 + 6 * t + 4) = 2 := by rw [skP_at, if_pos rfl]
  refine ⟨fun _ => e3, fun i _ _ => by rw [e3, b_0], fun _ => ?_, fun h5 => ?_⟩
  · obtain ⟨x1, x2, x3⟩ := h3 hth
    rw [e4, skP_at, if_neg (by omega), if_neg (by omega), skP_at, if_neg (by omega), if_neg (by omega)]
    exact ⟨x1, x2, Or.inr (Or.inr rfl)⟩
  · rw [skP_wt] at h5; simp at h5
theorem WQ_wq {q : Nat → Int32} {L : List Nat} {B t r : Nat} (ht : t < 10) (hth : th q t = true) (hwt : wt q t = false) (hr : r < nr q) (h : WQ q L B) : WQ (wqP q t r) (L ++ [t]) B := by
  have hn := h.1.2.1
  have hnr : nr (wqP q t r) = nr q := (sres_nr (dt_sres (wqP_dt q t r))).symm
  have h6 := h.2.2.2.1
  have e5 : wqP q t r (32 + 6 * t + 5) = nI r := by rw [wqP_at, if_pos rfl]
  refine WQ_dt ht h (wqP_dt q t r) (fun S hT => ?_) (fun _ => ⟨hth, by rw [wqP_at, if_neg (by omega), if_neg (by omega)]⟩) ⟨?_, fun k => ?_⟩
  · obtain ⟨h1, h2, h3, h4⟩ := hT
    have e3 : wqP q t r (32 + 6 * t + 3) = q (32 + 6 * t + 3) := by rw [wqP_at, if_neg (by omega), if_neg (by omega)]
    have e4 : wqP q t r (32 + 6 * t + 4) = 1 := by rw [wqP_at, if_neg (by omega), if_pos rfl]
    refine ⟨fun h5 => (by rw [wqP_th, hth] at h5; cases h5), fun i hi hi2 => by rw [e3]; exact h2 i (by rw [← hnr]; exact hi) hi2, fun _ => ?_, fun _ => ?_⟩
    · obtain ⟨x1, x2, x3⟩ := h3 hth
      rw [e4, wqP_at, if_neg (by omega), if_neg (by omega), wqP_at, if_neg (by omega), if_neg (by omega)]
      exact ⟨x1, x2, Or.inr (Or.inl rfl)⟩
    · have : wan (wqP q t r) t = r := by unfold wan; rw [e5, nI_clamp (by omega)]
      rw [this, e5, hnr]
      exact ⟨hr, rfl⟩
  · rw [List.nodup_append]
    refine ⟨h6.1, by simp, fun a ha b hb => ?_⟩
    rw [List.mem_singleton] at hb
    subst hb
    intro e
    subst e
    rw [((h6.2 a).mp ha).2] at hwt
    cases hwt
  · rw [List.mem_append, h6.2 k, List.mem_singleton, wqP_wt]
    by_cases e : k = t
    · subst e; simp [ht, hth]
    · simp [e]
theorem WQ_lg {q : Nat → Int32} {L : List Nat} {B t r : Nat} (ht : t < 10) (h : WQ q L B) : WQ (lgP q t r) L B := by
  have hnr : nr (lgP q t r) = nr q := (sres_nr (dt_sres (lgP_dt q t r))).symm
  refine WQ_dt ht h (lgP_dt q t r) (fun S hT => ?_) (fun h5 => ⟨by rw [← lgP_th q t r]; exact h5, by rw [lgP_at, if_neg (by omega)]⟩) (LO_same h.2.2.2.1 (lgP_wt q t r))
  obtain ⟨h1, h2, h3, h4⟩ := hT
  have e3 : lgP q t r (32 + 6 * t + 3) = q (32 + 6 * t + 3) &&& (((1 : Int32) <<< (nI r &&& 31)) ^^^ (-1)) := by rw [lgP_at, if_pos rfl]
  refine ⟨fun h5 => ?_, fun i hi hi2 => ?_, fun h5 => ?_, fun h5 => ?_⟩
  · rw [lgP_th] at h5
    rw [e3, h1 h5]
    exact b_ext (fun i _ => by rw [b_and, b_0]; rfl)
  · rw [hnr] at hi
    rw [e3, b_and, h2 i hi hi2]; rfl
  · rw [lgP_th] at h5
    rw [lgP_at, if_neg (by omega), lgP_at, if_neg (by omega), lgP_at, if_neg (by omega)]
    exact h3 h5
  · rw [lgP_wt] at h5
    have : wan (lgP q t r) t = wan q t := by unfold wan; rw [lgP_at, if_neg (by omega)]
    rw [this, hnr, lgP_at, if_neg (by omega)]
    exact h4 h5
theorem dsP_wt (q : Nat → Int32) (t k : Nat) : wt (dsP q t) k = (wt q k && decide (k ≠ t)) := by
  unfold wt
  rw [dsP_th, dsP_at, if_neg (by omega), if_neg (by omega)]
  cases th q k <;> simp [Bool.and_comm]
theorem WQ_ds {q : Nat → Int32} {L : List Nat} {B t : Nat} (ht : t < 10) (hwt : wt q t = false) (h : WQ q L B) : WQ (dsP q t) L B := by
  refine WQ_dt ht h (dsP_dt q t) (fun S hT => ?_) (fun h5 => by rw [dsP_th] at h5; simp at h5) (LO_same h.2.2.2.1 (fun k => by rw [dsP_wt, wt_F hwt]))
  have e3 : dsP q t (32 + 6 * t + 3) = 0 := by rw [dsP_at, if_pos rfl]
  refine ⟨fun _ => e3, fun i _ _ => by rw [e3, b_0], fun h5 => by rw [dsP_th] at h5; simp at h5, fun h5 => by rw [dsP_wt] at h5; simp at h5⟩
theorem WQ_rv {q : Nat → Int32} {L : List Nat} {B t : Nat} (ht : t < 10) (hth : th q t = true) (hwt : wt q t = false) (h : WQ q L B) : WQ (rvP q t) L B := by
  have hnr : nr (rvP q t) = nr q := (sres_nr (dt_sres (rvP_dt q t))).symm
  refine WQ_dt ht h (rvP_dt q t) (fun S hT => ?_) (fun h5 => ⟨hth, by rw [rvP_at, if_neg (by omega)]⟩) (LO_same h.2.2.2.1 (fun k => by rw [rvP_wt, wt_F hwt]))
  obtain ⟨h1, h2, h3, h4⟩ := hT
  have e3 : rvP q t (32 + 6 * t + 3) = q (32 + 6 * t + 3) := by rw [rvP_at, if_neg (by omega)]
  refine ⟨fun h5 => (by rw [rvP_th, hth] at h5; cases h5), fun i hi hi2 => by rw [e3]; exact h2 i (by rw [← hnr]; exact hi) hi2, fun h5 => ?_, fun h5 => by rw [rvP_wt] at h5; simp at h5⟩
  obtain ⟨x1, x2, x3⟩ := h3 hth
  rw [rvP_at, if_neg (by omega), rvP_at, if_neg (by omega), rvP_at, if_pos rfl]
  exact ⟨x1, x2, Or.inl rfl⟩
theorem WQ_cr {q : Nat → Int32} {L : List Nat} {B t c : Nat} (hB : B < 2 ^ 31 - 1) (ht : t < 10) (hth : th q t = false) (h1c : 1 ≤ c) (hc : c ≤ 99) (h : WQ q L B) : WQ (crP q t (nI c)) L (B + 1) := by
  obtain ⟨h1, ⟨S, h2, h3, h4⟩, h5, h6, h7, h8⟩ := h
  have hat : ∀ j, j ≠ 20 → crP q t (nI c) j = enP q t (nI c) j := fun j hj => by unfold crP; rw [upd_s, if_neg hj]
  have hat2 : ∀ j, j ≠ 20 → ¬ (32 + 6 * t ≤ j ∧ j < 38 + 6 * t) → q j = crP q t (nI c) j := fun j hj hj2 => by rw [hat j hj]; exact enP_dt q t (nI c) j hj2
  have hs : sres q (crP q t (nI c)) := fun j hj => hat2 j (by omega) (by omega)
  have hwtq : wt q t = false := by unfold wt; rw [hth]; rfl
  have hth' : ∀ k, th (crP q t (nI c)) k = (th q k || decide (k = t)) := fun k => by rw [← enP_th q t (nI c)]; unfold th; rw [hat _ (by omega)]
  have hwt' : ∀ k, wt (crP q t (nI c)) k = wt q k := fun k => by
    by_cases e : k = t
    · subst e; rw [hwtq]; unfold wt; rw [hat _ (by omega), enP_at, if_pos rfl]; simp
    · unfold wt; rw [hth' k, ← hat2 (32 + 6 * k + 4) (by omega) (by omega)]; simp [e]
  refine ⟨sres_WFr hs h1, ⟨S + 1, by omega, ?_, fun k hk => ?_⟩, ?_, LO_same h6 hwt', WFs_c (fun j _ _ => hat2 j (by omega) (by omega)) h7, WFm_c (fun j _ => hat2 j (by omega) (by omega)) h8⟩
  · unfold crP; rw [upd_k, h3, nI_1]
  · by_cases e : k = t
    · subst e
      have e3 : crP q k (nI c) (32 + 6 * k + 3) = 0 := by rw [hat _ (by omega), enP_at, if_neg (by omega), if_pos rfl]
      refine ⟨fun _ => e3, fun i _ _ => by rw [e3, b_0], fun _ => ⟨⟨c, h1c, hc, ?_⟩, ⟨S, by omega, ?_⟩, Or.inl ?_⟩, fun h9 => by rw [hwt', hwtq] at h9; cases h9⟩
      · rw [hat _ (by omega), enP_at, if_neg (by omega), if_neg (by omega), if_neg (by omega), if_pos rfl]
      · rw [hat _ (by omega), enP_at, if_neg (by omega), if_neg (by omega), if_pos rfl, h3]
      · rw [hat _ (by omega), enP_at, if_pos rfl]
    · exact TK_c (fun w hw => hat2 _ (by omega) (by omega)) (sres_nr hs) (by omega) (h4 k hk)
  · have hnew : crP q t (nI c) (32 + 6 * t + 2) = nI S := by rw [hat _ (by omega), enP_at, if_neg (by omega), if_neg (by omega), if_pos rfl, h3]
    have hold : ∀ k, k < 10 → k ≠ t → th (crP q t (nI c)) k = true → crP q t (nI c) (32 + 6 * k + 2) ≠ nI S := fun k hk e hkt => by
      rw [hth' k] at hkt
      simp only [e, decide_false, Bool.or_false] at hkt
      obtain ⟨-, ⟨a, ha, x⟩, -⟩ := (h4 k hk).2.2.1 hkt
      rw [← hat2 _ (by omega) (by omega), x]
      intro h9
      rw [nI_eqE (by omega) (by omega)] at h9
      omega
    intro k l hk hl hkl h9 h10
    by_cases e : k = t
    · subst e; rw [hnew]; exact (hold l hl (Ne.symm hkl) h10).symm
    · by_cases e2 : l = t
      · subst e2; rw [hnew]; exact hold k hk e h9
      · rw [← hat2 _ (by omega) (by omega), ← hat2 _ (by omega) (by omega)]
        rw [hth' k] at h9
        rw [hth' l] at h10
        simp only [e, e2, decide_false, Bool.or_false] at h9 h10
        exact h5 k l hk hl hkl h9 h10
