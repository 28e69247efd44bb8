theorem CB_set {h : AH} {a : Nat} {q : Nat → Int32} {L : List Nat} (hW : WFr q) (hC : CB h a q L) {j : Nat} (h1 : 10 ≤ j) (h2 : j < 14) (x : Int32) : CB (wI h a j x) a (upd q (j + 7) x) L := by
  obtain ⟨c0, c1, c2, c3, c4, c5⟩ := hC
  refine ⟨BO_c rfl rfl c0, RBr_s hW (fun b _ _ => iv_wI_ne _ _ _ (by omega)) (fun i hi => by rw [upd_s, if_neg (by omega)]) c1, RBt_c (iv_wI_k _ _ _ (by omega)) (fun b _ _ => iv_wI_ne _ _ _ (by omega)) (fun i _ _ => by rw [upd_s, if_neg (by omega)]) c2, RBo_c (iv_wI_k _ _ _ (by omega)) (iv_wI_ne _ _ _ (by omega)) c3, ?_, RBm_c (fun b _ _ => iv_wI_ne _ _ _ (by omega)) rfl (fun i _ => by rw [upd_s, if_neg (by omega)]) c5⟩
  obtain ⟨s1, s2, s3, s4⟩ := c4
  refine ⟨?_, ?_, ?_, ?_⟩ <;> simp only [iv_wI, if_true, upd_s]
  · by_cases e : j = 10
    · subst e; simp
    · rw [if_neg (by omega), if_neg (by omega)]; exact s1
  · by_cases e : j = 11
    · subst e; simp
    · rw [if_neg (by omega), if_neg (by omega)]; exact s2
  · by_cases e : j = 12
    · subst e; simp
    · rw [if_neg (by omega), if_neg (by omega)]; exact s3
  · by_cases e : j = 13
    · subst e; simp
    · rw [if_neg (by omega), if_neg (by omega)]; exact s4
theorem CB_push {h : AH} {a : Nat} {q : Nat → Int32} {L : List Nat} (hW : WFr q) (hC : CB h a q L) (t : Nat) : CB (wI (wI h (a + 15) L.length (nI t)) a 8 (nI (L.length + 1))) a q (L ++ [t]) := by
  obtain ⟨c0, c1, c2, c3, c4, c5⟩ := hC
  have e1 : ∀ b, a < b → b < a + 15 → iv (wI (wI h (a + 15) L.length (nI t)) a 8 (nI (L.length + 1))) b = iv h b := fun b _ _ => by rw [iv_wI_ne _ _ _ (by omega), iv_wI_ne _ _ _ (by omega)]
  have e2 : ∀ j, j ≠ 8 → iv (wI (wI h (a + 15) L.length (nI t)) a 8 (nI (L.length + 1))) a j = iv h a j := fun j hj => by rw [iv_wI_k _ _ _ hj, iv_wI_ne _ _ _ (by omega)]
  refine ⟨BO_c rfl rfl c0, RBr_s hW (fun b h1 h2 => e1 b h1 (by omega)) (fun i hi => rfl) c1, RBt_c (e2 9 (by omega)) (fun b _ _ => e1 b (by omega) (by omega)) (fun i _ _ => rfl) c2, ⟨?_, fun j x hj => ?_⟩, RBs_c (fun j _ _ => e2 j (by omega)) (fun _ _ _ => rfl) c4, RBm_c (fun b _ _ => e1 b (by omega) (by omega)) rfl (fun i _ => rfl) c5⟩
  · rw [iv_wI, if_pos rfl, if_pos rfl]; simp
  · rw [iv_wI_ne _ _ _ (by omega), iv_wI, if_pos rfl]
    by_cases e : j = L.length
    · subst e
      simp at hj
      rw [if_pos rfl, hj]
    · rw [if_neg e]
      have hl := (List.getElem?_eq_some_iff.mp hj).1
      simp at hl
      rw [List.getElem?_append_left (by omega)] at hj
      exact c3.2 j x hj
/-- a task begins to wait (but for the order) -/
def wqP (q : Nat → Int32) (t r : Nat) : Nat → Int32 := upd (upd q (32 + 6 * t + 4) 1) (32 + 6 * t + 5) (nI r)
theorem wqP_at (q : Nat → Int32) (t r j : Nat) : wqP q t r j = if j = 32 + 6 * t + 5 then nI r else if j = 32 + 6 * t + 4 then 1 else q j := rfl
theorem wqP_dt (q : Nat → Int32) (t r : Nat) : dt q (wqP q t r) t := fun j hj => by rw [wqP_at, if_neg (by omega), if_neg (by omega)]
theorem wqP_th (q : Nat → Int32) (t r k : Nat) : th (wqP q t r) k = th q k := by unfold th; rw [wqP_at, if_neg (by omega), if_neg (by omega)]
theorem wqP_wt (q : Nat → Int32) (t r k : Nat) : wt (wqP q t r) k = if k = t then th q t else wt q k := by
  unfold wt
  rw [wqP_th, wqP_at, if_neg (by omega)]
  by_cases e : k = t
  · subst e; simp
  · rw [if_neg (by omega), if_neg e]
theorem e0_queueUp {h : AH} {a : Nat} {q : Nat → Int32} {L : List Nat} (hW : WFr q) (hC : CB h a q L) (hL : L.length < 10) {t r : Nat} (ht : t < 10) (hth : th q t = true) (z : Nat) : ∃ h', fX0_queueUp a (nI t) (nI r) z h = some (z, h') ∧ Fr h h' a ∧ CB h' a (wqP q t r) (L ++ [t]) := by
  obtain ⟨hB, hR, hT, hO, -⟩ := id hC
  have x1 := e0_hasT hB hT ht hth z
  have h5 := (hT.2.1 t ht)
  have h8 := hO.1
  have hF : Fr h (wI (wI h (a + 12) t 1) (a + 14) t (nI r)) a := (Fr.w h _ _ (by omega) (by omega)).tr (Fr.w _ _ _ (by omega) (by omega))
  refine ⟨wI (wI (wI (wI h (a + 12) t 1) (a + 14) t (nI r)) (a + 15) L.length (nI t)) a 8 (nI (L.length + 1)), ?_, (hF.tr (Fr.w _ _ _ (by omega) (by omega))).tr (Fr.w _ _ _ (by omega) (by omega)), CB_push (sres_WFr (dt_sres (wqP_dt q t r)) hW) ?_ t⟩
  · obtain ⟨bk, b0, b1, b2, b3, b4, b5, b6, b7, fk, f0, f1, f2, mk0, m0, m1, m2, m3, kf0, kf1, kf2, lf0, lf1, lf2, km0, km1, km2, km3, lm0, lm1, lm2, lm3, kb2, kb3, kb4, kb5, kb6, kb7, lb2, lb3, lb4, lb5, lb6, lb7⟩ := id hB
    simp (disch := omega) only [fX0_queueUp, ↓brv_wI, ↓brv_wJ, ↓gd, ↓bl, ↓on, ↓xr, ↓reduceIte, if_true, if_false, kd_wI, ln_wI, rv_wI, iv_wI, jv_wI, kd_wJ, ln_wJ, rv_wJ, iv_wJ, nI_clamp, nI_leE, nI_ltE, nI_eqE, m1_ne, bit_0, bit_1, nI_negE, leN_F, leN_T, ltN_F, ltN_T, eqN_F, or_false, false_or, or_true, true_or, not_false_eq_true, not_true_eq_false, and_true, true_and, and_false, false_and, ↓bb3 x1, ne10, bk, ↓bb b0, ↓bb b1, ↓bb b2, ↓bb b3, ↓bb b4, ↓bb b5, ↓bb b6, ↓bb b7, fk, ↓bb f0, ↓bb f1, ↓bb f2, mk0, ↓bb m0, ↓bb m1, ↓bb m2, ↓bb m3, kf0, kf1, kf2, lf0, lf1, lf2, km0, km1, km2, km3, lm0, lm1, lm2, lm3, kb2, kb3, kb4, kb5, kb6, kb7, lb2, lb3, lb4, lb5, lb6, lb7, h8, li10, nI_1]
  · refine CB_one ht hW hC hF (wqP_dt q t r) (fun b h1 h2 => ⟨fun h3 => by rw [iv_wI_ne _ _ _ (by omega), iv_wI_ne _ _ _ (by omega)], fun k hk hkt => by rw [iv_wI_k _ _ _ hkt, iv_wI_k _ _ _ hkt]⟩) (fun j hj => by rw [iv_wI_ne _ _ _ (by omega), iv_wI_ne _ _ _ (by omega)]) (by rw [iv_wI_ne _ _ _ (by omega), iv_wI_ne _ _ _ (by omega)]) rfl ?_ ?_ ?_ ?_ ?_ ?_
    · rw [iv_wI_ne _ _ _ (by omega), iv_wI_ne _ _ _ (by omega), hT.1]; exact mk_congr (fun k _ => (wqP_th q t r k).symm)
    · rw [iv_wI_ne _ _ _ (by omega), iv_wI_ne _ _ _ (by omega), wqP_at, if_neg (by omega), if_neg (by omega)]; exact h5.1
    · rw [iv_wI_ne _ _ _ (by omega), iv_wI_ne _ _ _ (by omega), wqP_at, if_neg (by omega), if_neg (by omega)]; exact h5.2.1
    · rw [iv_wI_ne _ _ _ (by omega), iv_wI_ne _ _ _ (by omega), wqP_at, if_neg (by omega), if_neg (by omega)]; exact h5.2.2.1
    · rw [iv_wI_ne _ _ _ (by omega), iv_wI, if_pos rfl, if_pos rfl, wqP_at, if_neg (by omega), if_pos rfl]
    · intro _; rw [iv_wI, if_pos rfl, if_pos rfl, wqP_wt, if_pos rfl, hth, if_pos rfl, wqP_at, if_pos rfl]
/-- a new task (but for the serial) -/
def enP (q : Nat → Int32) (t : Nat) (c : Int32) : Nat → Int32 := upd (upd (upd (upd (upd q (32 + 6 * t + 0) 1) (32 + 6 * t + 1) c) (32 + 6 * t + 2) (q 20)) (32 + 6 * t + 3) 0) (32 + 6 * t + 4) 0
theorem enP_at (q : Nat → Int32) (t : Nat) (c : Int32) (j : Nat) : enP q t c j = if j = 32 + 6 * t + 4 then 0 else if j = 32 + 6 * t + 3 then 0 else if j = 32 + 6 * t + 2 then q 20 else if j = 32 + 6 * t + 1 then c else if j = 32 + 6 * t + 0 then 1 else q j := rfl
theorem enP_dt (q : Nat → Int32) (t : Nat) (c : Int32) : dt q (enP q t c) t := fun j hj => by rw [enP_at, if_neg (by omega), if_neg (by omega), if_neg (by omega), if_neg (by omega), if_neg (by omega)]
theorem enP_th (q : Nat → Int32) (t : Nat) (c : Int32) (k : Nat) : th (enP q t c) k = (th q k || decide (k = t)) := by
  unfold th
  rw [enP_at, if_neg (by omega), if_neg (by omega), if_neg (by omega), if_neg (by omega)]
  by_cases e : k = t
  · subst e; simp
  · rw [if_neg (by omega)]; simp [e]
theorem enP_wt (q : Nat → Int32) (t : Nat) (c : Int32) : wt (enP q t c) t = false := by
  unfold wt
  rw [enP_at, if_pos rfl]; simp
def crP (q : Nat → Int32) (t : Nat) (c : Int32) : Nat → Int32 := upd (enP q t c) 20 (q 20 + 1)
theorem e0_enroll {h : AH} {a : Nat} {q : Nat → Int32} {L : List Nat} (hW : WFr q) (hC : CB h a q L) (hf : ff (fun t => !th q t) 0 10 < 10) (c : Int32) (z : Nat) :
    ∃ h', fX0_enroll a c z h = some (nI (ff (fun t => !th q t) 0 10), z, h') ∧ Fr h h' a ∧ CB h' a (crP q (ff (fun t => !th q t) 0 10) c) L := by
  have x1 := e0_freeNumber hC.1 hC.2.2.1 z
  generalize ff (fun t => !th q t) 0 10 = t at x1 hf ⊢
  have e : fn t = nI t := by unfold fn; rw [if_neg (by omega)]
  rw [e] at x1
  obtain ⟨hB, hR, hT, hO, hS, -⟩ := id hC
  have h9 := hT.1
  have h13 := hS.2.2.2
  have hF : Fr h (wI (wI (wI (wI (wI (wI h a 9 (mk 10 (fun k => th q k || decide (k = t)))) (a + 10) t c) (a + 11) t (q 20)) (a + 12) t 0) (a + 13) t 0) (a + 14) t (-1)) a := (((((Fr.w h _ _ (by omega) (by omega)).tr (Fr.w _ _ _ (by omega) (by omega))).tr (Fr.w _ _ _ (by omega) (by omega))).tr (Fr.w _ _ _ (by omega) (by omega))).tr (Fr.w _ _ _ (by omega) (by omega))).tr (Fr.w _ _ _ (by omega) (by omega))
  refine ⟨wI (wI (wI (wI (wI (wI (wI h a 9 (mk 10 (fun k => th q k || decide (k = t)))) (a + 10) t c) (a + 11) t (q 20)) (a + 12) t 0) (a + 13) t 0) (a + 14) t (-1)) a 13 (q 20 + 1), ?_, hF.tr (Fr.w _ _ _ (by omega) (by omega)), CB_set (j := 13) (sres_WFr (dt_sres (enP_dt q t c)) hW) ?_ (by omega) (by omega) (q 20 + 1)⟩
  · obtain ⟨bk, b0, b1, b2, b3, b4, b5, b6, b7, fk, f0, f1, f2, mk0, m0, m1, m2, m3, kf0, kf1, kf2, lf0, lf1, lf2, km0, km1, km2, km3, lm0, lm1, lm2, lm3, kb2, kb3, kb4, kb5, kb6, kb7, lb2, lb3, lb4, lb5, lb6, lb7⟩ := id hB
    simp (disch := omega) only [fX0_enroll, ↓brv_wI, ↓brv_wJ, ↓gd, ↓bl, ↓on, ↓xr, ↓reduceIte, if_true, if_false, kd_wI, ln_wI, rv_wI, iv_wI, jv_wI, kd_wJ, ln_wJ, rv_wJ, iv_wJ, nI_clamp, nI_leE, nI_ltE, nI_eqE, m1_ne, bit_0, bit_1, nI_negE, leN_F, leN_T, ltN_F, ltN_T, eqN_F, or_false, false_or, or_true, true_or, not_false_eq_true, not_true_eq_false, and_true, true_and, and_false, false_and, ↓bb3 x1, bk, ↓bb b0, ↓bb b1, ↓bb b2, ↓bb b3, ↓bb b4, ↓bb b5, ↓bb b6, ↓bb b7, fk, ↓bb f0, ↓bb f1, ↓bb f2, mk0, ↓bb m0, ↓bb m1, ↓bb m2, ↓bb m3, kf0, kf1, kf2, lf0, lf1, lf2, km0, km1, km2, km3, lm0, lm1, lm2, lm3, kb2, kb3, kb4, kb5, kb6, kb7, lb2, lb3, lb4, lb5, lb6, lb7, h9, h13, mk_set hf]
  · refine CB_one hf hW hC hF (enP_dt q t c) (fun b h1 h2 => ⟨fun h3 => by simp (disch := omega) only [iv_wI_ne], fun k hk hkt => by rw [iv_wI_k _ _ _ hkt, iv_wI_k _ _ _ hkt, iv_wI_k _ _ _ hkt, iv_wI_k _ _ _ hkt, iv_wI_k _ _ _ hkt, iv_wI_ne _ _ _ (by omega)]⟩) (fun j hj => by simp (disch := omega) only [iv_wI_ne]; exact iv_wI_k _ _ _ hj) (by simp (disch := omega) only [iv_wI_ne]) rfl ?_ ?_ ?_ ?_ ?_ ?_
    · simp (disch := omega) only [iv_wI, eqN_F, if_false, if_true]; exact mk_congr (fun k _ => (enP_th q t c k).symm)
    · simp (disch := omega) only [iv_wI, eqN_F, if_false, if_true, enP_at]
    · simp (disch := omega) only [iv_wI, eqN_F, if_false, if_true, enP_at]
    · simp (disch := omega) only [iv_wI, eqN_F, if_false, if_true, enP_at]
    · simp (disch := omega) only [iv_wI, eqN_F, if_false, if_true, enP_at]
    · intro _; rw [enP_wt]; simp (disch := omega) only [iv_wI, eqN_F, if_false, if_true, Bool.false_eq_true]
/-! the wrappers -/
theorem w0_grant {h : AH} {a : Nat} {q : Nat → Int32} {L : List Nat} (hW : WFr q) (hC : CB h a q L) {t r : Nat} (ht : t < 10) (hth : th q t = true) (hr : r < nr q) (z : Nat) : ∃ h', fX0_grant a (nI t) (nI r) z h = some (z, h') ∧ Fr h h' a ∧ CB h' a (grP q t r) L := by
  obtain ⟨hB, hR, hT, hO, hS, hM⟩ := hC
  obtain ⟨h', v1, v2, v3, v4, v5, v6, v7, v8⟩ := e0_grant hB hW hR hT ht hth hr z
  refine ⟨h', v1, v2, BO_f v2 hB, v3, v4, RBo_c (by rw [v5]) v6 hO, RBs_c (fun j _ _ => by rw [v5]) (fun j _ _ => (grP_lo q t r (by omega)).symm) hS, RBm_c v7 (congrFun v8 _) (fun j hj => ?_) hM⟩
  rw [grP_at, if_neg (by omega), if_neg (by omega)]
theorem w0_strike {h : AH} {a : Nat} {q : Nat → Int32} {L : List Nat} (hW : WFr q) (hC : CB h a q L) (hL : L.length ≤ 10) (hL10 : ∀ x ∈ L, x < 10) {t : Nat} (ht : t < 10) (hth : th q t = true) (z : Nat) : ∃ h', fX0_strike a (nI t) z h = some (z, h') ∧ Fr h h' a ∧ CB h' a (skP q t) (L.filter (fun x => decide (x ≠ t))) := by
  obtain ⟨hB, hR, hT, hO, hS, hM⟩ := hC
  obtain ⟨h', v1, v2, v3, v4, v5, v6, v7, v8⟩ := e0_strike hB hW hR hT hL hL10 hO ht hth z
  refine ⟨h', v1, v2, BO_f v2 hB, v3, v4, v5, RBs_c (fun j _ _ => v6 j (by omega)) (fun j _ _ => by rw [skP_at, if_neg (by omega), if_neg (by omega)]) hS, RBm_c v7 (congrFun v8 _) (fun j hj => ?_) hM⟩
  rw [skP_at, if_neg (by omega), if_neg (by omega)]
theorem stl_out : ∀ (L : List Nat) (q : Nat → Int32), (∀ t ∈ L, t < 10) → ∀ j, j < 32 ∨ 92 ≤ j → (stl L q).2.1 j = q j
  | [], q, _, j, _ => rfl
  | t :: L, q, hL, j, hj => by
    have ht := hL t List.mem_cons_self
    unfold stl
    split
    · show (stl L (grP q t (wan q t))).2.1 j = q j
      rw [stl_out L _ (fun u hu => hL u (List.mem_cons_of_mem _ hu)) j hj, grP_at, if_neg (by omega), if_neg (by omega)]
    · exact stl_out L q (fun u hu => hL u (List.mem_cons_of_mem _ hu)) j hj
theorem w0_settle {h : AH} {a : Nat} {q : Nat → Int32} {L : List Nat} (hW : WFr q) (hF : WFt q) (hw : WFw q) (hC : CB h a q L) (hL : L.length ≤ 10) (hL10 : ∀ t ∈ L, t < 10 ∧ wt q t = true) (hnd : L.Nodup) (z : Nat) :
    ∃ h', fX0_settle a z h = some (nI (stl L q).2.2, z, h') ∧ Fr h h' a ∧ CB h' a (stl L q).2.1 (stl L q).1 := by
  obtain ⟨hB, hR, hT, hO, hS, hM⟩ := hC
  obtain ⟨h', v1, v2, v3, v4, v5, v6, v7, v8, v9⟩ := e0_stl_loop z L [] 0 0 q h fu hB hW hF hw hR hT (by rw [hO.1]; congr 1; omega) (by omega) (by simp) (fun j x hj => by simp at hj) (fun j x hj => by rw [Nat.zero_add]; exact hO.2 j x hj) hL10 hnd (by unfold fu; omega)
  refine ⟨h', ?_, v2, BO_f v2 hB, v3, v4, ⟨by rw [v5]; congr 1; simp, fun j x hj => v6 j x (by simpa using hj)⟩, RBs_c (fun j _ _ => v7 j (by omega)) (fun j _ _ => (stl_out L q (fun t ht => (hL10 t ht).1) j (by omega)).symm) hS, RBm_c v8 (congrFun v9 _) (fun j hj => (stl_out L q (fun t ht => (hL10 t ht).1) j (by omega)).symm) hM⟩
  rw [Nat.zero_add] at v1
  exact v1
