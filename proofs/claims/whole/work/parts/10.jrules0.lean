/-! reading and writing the abstract heap -/
theorem jR_at {g : JG} {z : Nat} {h : AH} {H : Heap} (hR : jR g z h H) {a ci : Nat} (hk : kd h a = ci + 1) (hci : ci < 10) : va_P (jD g) vwCl [(a, .inr (ci, jO (h.2.1 a) (h.2.2.1 a) (h.2.2.2 a) ci))] H := by
  intro q x hx
  have hz : q < 1 := (List.getElem?_eq_some_iff.mp hx).1
  rw [show q = 0 by omega] at hx
  cases hx
  have h1 := (hR.2.2 a (by rw [hk]; omega)).2
  rwa [show jc (jca g) h a = _ from jcr_o hk hci] at h1
theorem jR_el {g : JG} {z : Nat} {h : AH} {H : Heap} (hR : jR g z h H) {a : Nat} {x : va_E} (hk : kd h a ≠ 0) (hx : jc (jca g) h a = x) : va_P (jD g) vwCl [(a, x)] H := by
  intro q y hy
  have hz : q < 1 := (List.getElem?_eq_some_iff.mp hy).1
  rw [show q = 0 by omega] at hy
  cases hy
  rw [← hx]
  exact (hR.2.2 a hk).2
theorem jc_i {ca : Nat → ClassId} {h : AH} {a : Nat} (hk : kd h a = 13) : jc ca h a = .inl (ca 2, ln h a, .inl (iv h a)) := by
  have hk : (h.1 a).1 = 13 := hk
  unfold jc jcr
  rw [hk]
  rfl
theorem jc_b {ca : Nat → ClassId} {h : AH} {a : Nat} (hk : kd h a = 11) : jc ca h a = .inl (ca 0, ln h a, .inl (iv h a)) := by
  have hk : (h.1 a).1 = 11 := hk
  unfold jc jcr
  rw [hk]
  rfl
theorem jc_c {ca : Nat → ClassId} {h : AH} {a : Nat} (hk : kd h a = 12) : jc ca h a = .inl (ca 1, ln h a, .inl (iv h a)) := by
  have hk : (h.1 a).1 = 12 := hk
  unfold jc jcr
  rw [hk]
  rfl
theorem jc_l {ca : Nat → ClassId} {h : AH} {a : Nat} (hk : kd h a = 14) : jc ca h a = .inl (ca 3, ln h a, .inr (.inl (jv h a))) := by
  have hk : (h.1 a).1 = 14 := hk
  unfold jc jcr
  rw [hk]
  rfl
theorem jc_r {ca : Nat → ClassId} {h : AH} {a : Nat} (hk : kd h a = 15) : jc ca h a = .inl (ca 4, ln h a, .inr (.inr (.inr (.inr (rv h a))))) := by
  have hk : (h.1 a).1 = 15 := hk
  unfold jc jcr
  rw [hk]
  rfl
/-- one cell has changed -/
theorem jR_upd {g : JG} {z : Nat} {h h' : AH} {H H1 : Heap} {a : Nat} (hR : jR g z h H) (hz : H1.size = H.size) (oq : ∀ q : Nat, q ≠ a → H1[q]? = H[q]?) (e0 : h'.1 = h.1) (e1 : ∀ b, b ≠ a → h'.2.1 b = h.2.1 b ∧ h'.2.2.1 b = h.2.2.1 b ∧ h'.2.2.2 b = h.2.2.2 b) (hat : va_at (jD g) vwCl (a, jc (jca g) h' a) H1) : jR g z h' H1 := by
  refine ⟨hz.trans hR.1, hR.2.1, fun b hb => ?_⟩
  have hb' : kd h b ≠ 0 := by
    have := hb
    unfold kd at this ⊢
    rwa [e0] at this
  refine ⟨(hR.2.2 b hb').1, ?_⟩
  by_cases hab : b = a
  · subst hab
    exact hat
  · have h1 := (hR.2.2 b hb').2
    have e : jc (jca g) h' b = jc (jca g) h b := by
      obtain ⟨x1, x2, x3⟩ := e1 b hab
      unfold jc
      rw [e0, x1, x2, x3]
    rw [e]
    exact h1.kept (oq b hab)
theorem u2_self {α : Type} (f : Nat → Nat → α) (a k : Nat) (x : α) : u2 f a k x a = fun j => if j = k then x else f a j := by unfold u2; rw [if_pos rfl]
theorem u2_ne {α : Type} (f : Nat → Nat → α) {a b : Nat} (k : Nat) (x : α) (hb : b ≠ a) : u2 f a k x b = f b := by unfold u2; rw [if_neg hb]
theorem u1_self {α : Type} (f : Nat → α) (a : Nat) (r : α) : u1 f a r a = r := by unfold u1; rw [if_pos rfl]
theorem u1_ne {α : Type} (f : Nat → α) {a b : Nat} (r : α) (hb : b ≠ a) : u1 f a r b = f b := by unfold u1; rw [if_neg hb]
section JH
variable {g : JG} {M : JM} {QQ : JQ} {pc z k n : Nat} {lv : List (Option Value)} {st : List Value} {h : AH}
theorem J_get {ci fk idx a N : Nat} {C : String} {T : u_T} {v : Value} (d : decode (mC M) pc = .ok (.getfield idx, 3)) (hk : kd h a = ci + 1) (hci : ci < 10) (hc : vwCl[ci]? = some (C, T, N)) (hin : ∀ w ∈ u_ws C T N, w ∈ gtbl) (hfk : fk < N) (hlink : Cond.fieldLink (mO M) idx (T fk).1 (T fk).2.1 (T fk).2.2.1 ∈ gtbl)
    (hv : (jO (h.2.1 a) (h.2.2.1 a) (h.2.2.2 a) ci)[fk]? = some v) (kk : J g M QQ (pc + 3) lv (v :: st) z h k n) : J g M QQ pc lv (.ref a :: st) z h k n := by
  intro p e s m args below meth c H locs ls hS hR hF hl
  obtain ⟨hx, hb, hml, hr, hown, hlk, hnm, htb, hts, hK, hX, hB⟩ := id hS
  exact va_get hx hb hts hin hown hK (jR_at hR hk hci) 0 rfl hc fk hfk (hts _ hlink) (fun x hx => hx) hv d (kk p e s m args below meth c H locs ls hS hR hF hl)
theorem J_put {ci fk idx a N : Nat} {C : String} {T : u_T} {ty : FieldType} {v : Value} {h' : AH} (d : decode (mC M) pc = .ok (.putfield idx, 3)) (hk : kd h a = ci + 1) (hci : ci < 10) (hc : vwCl[ci]? = some (C, T, N)) (hin : ∀ w ∈ u_ws C T N, w ∈ gtbl) (tyf : Nat → FieldType) (hty : ∀ k, k < N → parseFieldDescriptor (T k).2.2.1 = some (tyf k)) (hnm : ∀ a, a < N → ∀ b, b < N → a ≠ b → (T a).2.1 ≠ (T b).2.1) (hfk : fk < N) (hlink : Cond.fieldLink (mO M) idx (T fk).1 (T fk).2.1 (T fk).2.2.1 ∈ gtbl)
    (hfin : (T fk).2.2.2 = false ∨ ((T fk).2.2.2 = true ∧ mN M = "<init>" ∧ (T fk).1 = mO M)) (hd : parseFieldDescriptor (T fk).2.2.1 = some ty) (hn : narrow ty v = v) (hfit : fits ty v = true) (hlen : fk < (jO (h.2.1 a) (h.2.2.1 a) (h.2.2.2 a) ci).length)
    (e0 : h'.1 = h.1) (e1 : ∀ b, b ≠ a → h'.2.1 b = h.2.1 b ∧ h'.2.2.1 b = h.2.2.1 b ∧ h'.2.2.2 b = h.2.2.2 b) (e2 : jO (h'.2.1 a) (h'.2.2.1 a) (h'.2.2.2 a) ci = (jO (h.2.1 a) (h.2.2.1 a) (h.2.2.2 a) ci).set fk v)
    (kk : J g M QQ (pc + 3) lv st z h' k n) : J g M QQ pc lv (v :: .ref a :: st) z h k n := by
  intro p e s m args below meth c H locs ls hS hR hF hl
  obtain ⟨hx, hb, hml, hr, hown, hlk, hname, htb, hts, hK, hX, hB⟩ := id hS
  have hP := jR_at hR hk hci
  have hap := va_apart (own := mO M) hts hin tyf hty hnm hK hc
  obtain ⟨r, h1, cell, q1, q2, q3, q4⟩ := hP 0 _ rfl
  have hr' : r = (C, T, N) := Option.some.inj (h1.symm.trans hc)
  subst hr'
  obtain ⟨hSl, hfc, kC, hkC, hkind⟩ := hK.1 ci _ hc
  obtain ⟨cf, kf, fi, f, hi, hsl⟩ := hSl fk hfk
  have hlay := hts _ (hin _ (u_in_lay hfk))
  unfold u_lay at hlay
  have hst := (u_facts hfc hkC (u_lays hts hin hfk) hi).1
  have ha : jB g ≤ a := (hR.2.2 a (by rw [hk]; omega)).1
  have fin : ∀ H' : Heap, H'[a]? = some (cell.setSlot (jD g |>.2 ci fk) v) → H'.size = H.size → (∀ q, q ≠ a → H'[q]? = H[q]?) → jR g z h' H' := by
    intro H' w1 w2 w3
    refine jR_upd hR w2 w3 e0 e1 ?_
    rw [show jc (jca g) h' a = .inr (ci, jO (h'.2.1 a) (h'.2.2.1 a) (h'.2.2.2 a) ci) from jcr_o (by rw [e0]; exact hk) hci, e2]
    exact ⟨_, hc, t_OB.to (V := updV (vp_V (jO (h.2.1 a) (h.2.2.1 a) (h.2.2.2 a) ci)) fk v) ⟨_, w1, q2, q3, t_set q4 hap hfk v⟩ (fun j _ => vp_updV_set hlen v j)⟩
  rcases hfin with hfin | ⟨hfin, hin2, hdecl⟩
  · rw [if_neg (by rw [hfin]; decide)] at hlay
    have h6 := u_store hfc hkC hkind hlay hi hd hn hfit
    refine W.putK hx hb (f := f) ⟨hown, hts _ hlink, ⟨_, _, _, hi⟩, hst⟩ (by rw [q2]; exact h6) q1 q3 (by rw [hsl]; exact k2_hasslot (q4 fk hfk)) rfl rfl d fun H' w1 w2 w3 => ?_
    rw [hsl] at w1 ⊢
    exact kk p e s m args below meth c H' _ ls hS (fin H' w1 w2 w3) (hF.put w2 w3 ha) hl
  · rw [if_pos hfin] at hlay
    have hcf : m.cls = cf := by
      obtain ⟨_, _, c', _, _, _, -, -, hf', -, -, -, hown2, -⟩ := Cond.laysFinal_spec hlay
      have e1 : c' = cf := by have := hi.symm.trans hf'; simp at this; exact this.1.symm
      rw [hdecl] at hown2
      rw [← e1]; exact Option.some.inj (hown.symm.trans hown2)
    have h6 := u_fits hfc hkC hkind (Or.inr hlay) hi hd hn hfit
    refine W.putFinK hx hb hown (hts _ hlink) hi hst hcf (hname.trans hin2) (by rw [q2]; exact h6) q1 q3 (by rw [hsl]; exact k2_hasslot (q4 fk hfk)) rfl rfl d fun H' w1 w2 w3 => ?_
    rw [hsl] at w1 ⊢
    exact kk p e s m args below meth c H' _ ls hS (fin H' w1 w2 w3) (hF.put w2 w3 ha) hl
theorem J_iaload {a : Nat} {i : Int32} (d : decode (mC M) pc = .ok (.iaload, 1)) (hk : kd h a = 13) (hin : vp_in i (ln h a)) (kk : J g M QQ (pc + 1) lv (.int (iv h a i.toNatClampNeg) :: st) z h k n) : J g M QQ pc lv (.int i :: .ref a :: st) z h k n := by
  intro p e s m args below meth c H locs ls hS hR hF hl
  obtain ⟨hx, hb, hml, hr, hown, hlk, hname, htb, hts, hK, hX, hB⟩ := id hS
  exact va_iald hx hb hK (jR_el hR (by omega) (jc_i hk)) 0 2 rfl rfl hin d (kk p e s m args below meth c H locs ls hS hR hF hl)
theorem J_baload {a : Nat} {i : Int32} (d : decode (mC M) pc = .ok (.baload, 1)) (hk : kd h a = 11) (hin : vp_in i (ln h a)) (kk : J g M QQ (pc + 1) lv (.int (iv h a i.toNatClampNeg) :: st) z h k n) : J g M QQ pc lv (.int i :: .ref a :: st) z h k n := by
  intro p e s m args below meth c H locs ls hS hR hF hl
  obtain ⟨hx, hb, hml, hr, hown, hlk, hname, htb, hts, hK, hX, hB⟩ := id hS
  exact va_bald hx hb hK (jR_el hR (by omega) (jc_b hk)) 0 0 rfl rfl hin d (kk p e s m args below meth c H locs ls hS hR hF hl)
theorem J_caload {a : Nat} {i : Int32} (d : decode (mC M) pc = .ok (.caload, 1)) (hk : kd h a = 12) (hin : vp_in i (ln h a)) (kk : J g M QQ (pc + 1) lv (.int (iv h a i.toNatClampNeg) :: st) z h k n) : J g M QQ pc lv (.int i :: .ref a :: st) z h k n := by
  intro p e s m args below meth c H locs ls hS hR hF hl
  obtain ⟨hx, hb, hml, hr, hown, hlk, hname, htb, hts, hK, hX, hB⟩ := id hS
  exact va_cald hx hb hK (jR_el hR (by omega) (jc_c hk)) 0 1 rfl rfl hin d (kk p e s m args below meth c H locs ls hS hR hF hl)
theorem J_laload {a : Nat} {i : Int32} (d : decode (mC M) pc = .ok (.laload, 1)) (hk : kd h a = 14) (hin : vp_in i (ln h a)) (kk : J g M QQ (pc + 1) lv (.long (jv h a i.toNatClampNeg) :: st) z h k n) : J g M QQ pc lv (.int i :: .ref a :: st) z h k n := by
  intro p e s m args below meth c H locs ls hS hR hF hl
  obtain ⟨hx, hb, hml, hr, hown, hlk, hname, htb, hts, hK, hX, hB⟩ := id hS
  exact va_lald hx hb hK (jR_el hR (by omega) (jc_l hk)) 0 3 rfl rfl hin d (kk p e s m args below meth c H locs ls hS hR hF hl)
theorem J_aaload {a : Nat} {i : Int32} (d : decode (mC M) pc = .ok (.aaload, 1)) (hk : kd h a = 15) (hin : vp_in i (ln h a)) (kk : J g M QQ (pc + 1) lv (va_rf (rv h a i.toNatClampNeg) :: st) z h k n) : J g M QQ pc lv (.int i :: .ref a :: st) z h k n := by
  intro p e s m args below meth c H locs ls hS hR hF hl
  obtain ⟨hx, hb, hml, hr, hown, hlk, hname, htb, hts, hK, hX, hB⟩ := id hS
  exact va_aldq hx hb hK (jR_el hR (by omega) (jc_r hk)) 0 4 (C := RX0) rfl rfl hin d (kk p e s m args below meth c H locs ls hS hR hF hl)
theorem J_arraylength {a : Nat} {v : Int32} (d : decode (mC M) pc = .ok (.arraylength, 1)) (hk : kd h a = 13) (hv : Int32.ofNat (ln h a) = v) (kk : J g M QQ (pc + 1) lv (.int v :: st) z h k n) : J g M QQ pc lv (.ref a :: st) z h k n := by
  intro p e s m args below meth c H locs ls hS hR hF hl
  obtain ⟨hx, hb, hml, hr, hown, hlk, hname, htb, hts, hK, hX, hB⟩ := id hS
  exact va_alen hx hb hK (jR_el hR (by omega) (jc_i hk)) 0 2 rfl rfl hv d (kk p e s m args below meth c H locs ls hS hR hF hl)
theorem J_iastore {a : Nat} {i x : Int32} (d : decode (mC M) pc = .ok (.iastore, 1)) (hk : kd h a = 13) (hin : vp_in i (ln h a)) (kk : J g M QQ (pc + 1) lv st z (wI h a i.toNatClampNeg x) k n) : J g M QQ pc lv (.int x :: .int i :: .ref a :: st) z h k n := by
  intro p e s m args below meth c H locs ls hS hR hF hl
  obtain ⟨hx, hb, hml, hr, hown, hlk, hname, htb, hts, hK, hX, hB⟩ := id hS
  have hP := jR_el hR (by omega) (jc_i (ca := jca g) hk)
  refine W.iast hx hb (hP 0 _ rfl) ((hK.2 2 _ rfl).1 (ln h a) (fun j => .int (iv h a j))) (fun q => by cases q) (by show ¬ (i < 0 ∨ (arrV _ _ _).slots.size ≤ _); rw [arrV_size]; exact hin) rfl rfl d fun H1 w1 w2 w3 => ?_
  refine kk p e s m args below meth c H1 _ ls hS (jR_upd hR w2 w3 rfl (fun b hb => ⟨u2_ne _ _ _ hb, rfl, rfl⟩) ?_) (hF.put w2 w3 (hR.2.2 a (by omega)).1) hl
  rw [jc_i (h := wI h a _ x) hk]
  show H1[a]? = some (vp_cell _ _)
  rw [w1, vp_cell_i, vp_cell_i, arrV_store]
  congr 2
  funext q
  show _ = Value.int (u2 h.2.1 a i.toNatClampNeg x a q)
  rw [u2_self]
  by_cases hq : q = i.toNatClampNeg
  · simp [updV, hq]
  · simp [updV, hq]
theorem J_lastore {a : Nat} {i : Int32} {x : Int64} (d : decode (mC M) pc = .ok (.lastore, 1)) (hk : kd h a = 14) (hin : vp_in i (ln h a)) (kk : J g M QQ (pc + 1) lv st z (wJ h a i.toNatClampNeg x) k n) : J g M QQ pc lv (.long x :: .int i :: .ref a :: st) z h k n := by
  intro p e s m args below meth c H locs ls hS hR hF hl
  obtain ⟨hx, hb, hml, hr, hown, hlk, hname, htb, hts, hK, hX, hB⟩ := id hS
  have hP := jR_el hR (by omega) (jc_l (ca := jca g) hk)
  refine W.last hx hb (hP 0 _ rfl) ((hK.2 3 _ rfl).1 (ln h a) (fun j => .long (jv h a j))) (fun q => by cases q) (by show ¬ (i < 0 ∨ (arrV _ _ _).slots.size ≤ _); rw [arrV_size]; exact hin) rfl rfl d fun H1 w1 w2 w3 => ?_
  refine kk p e s m args below meth c H1 _ ls hS (jR_upd hR w2 w3 rfl (fun b hb => ⟨rfl, u2_ne _ _ _ hb, rfl⟩) ?_) (hF.put w2 w3 (hR.2.2 a (by omega)).1) hl
  rw [jc_l (h := wJ h a _ x) hk]
  show H1[a]? = some (vp_cell _ _)
  rw [w1, vp_cell_l, vp_cell_l, arrV_store]
  congr 2
  funext q
  show _ = Value.long (u2 h.2.2.1 a i.toNatClampNeg x a q)
  rw [u2_self]
  by_cases hq : q = i.toNatClampNeg
  · simp [updV, hq]
  · simp [updV, hq]
theorem J_castore {a : Nat} {i x : Int32} (d : decode (mC M) pc = .ok (.castore, 1)) (hk : kd h a = 12) (hin : vp_in i (ln h a)) (kk : J g M QQ (pc + 1) lv st z (wI h a i.toNatClampNeg (vp_nar .char x)) k n) : J g M QQ pc lv (.int x :: .int i :: .ref a :: st) z h k n := by
  intro p e s m args below meth c H locs ls hS hR hF hl
  obtain ⟨hx, hb, hml, hr, hown, hlk, hname, htb, hts, hK, hX, hB⟩ := id hS
  have hP := jR_el hR (by omega) (jc_c (ca := jca g) hk)
  refine W.cast hx hb (hP 0 _ rfl) ((hK.2 1 _ rfl).1 (ln h a) (fun j => .int (iv h a j))) (fun q => by cases q) (by show ¬ (i < 0 ∨ (arrV _ _ _).slots.size ≤ _); rw [arrV_size]; exact hin) rfl rfl d fun H1 w1 w2 w3 => ?_
  refine kk p e s m args below meth c H1 _ ls hS (jR_upd hR w2 w3 rfl (fun b hb => ⟨u2_ne _ _ _ hb, rfl, rfl⟩) ?_) (hF.put w2 w3 (hR.2.2 a (by omega)).1) hl
  rw [jc_c (h := wI h a _ _) hk]
  show H1[a]? = some (vp_cell _ _)
  rw [w1, vp_cell_i, vp_cell_i, arrV_store]
  congr 2
  funext q
  show _ = Value.int (u2 h.2.1 a i.toNatClampNeg (vp_nar .char x) a q)
  rw [u2_self]
  by_cases hq : q = i.toNatClampNeg
  · subst hq
    simp [updV, vp_nar]
    try rfl
  · simp [updV, hq]
theorem J_bastore {a : Nat} {i x : Int32} (d : decode (mC M) pc = .ok (.bastore, 1)) (hk : kd h a = 11) (hin : vp_in i (ln h a)) (kk : J g M QQ (pc + 1) lv st z (wI h a i.toNatClampNeg (vp_nar .byte x)) k n) : J g M QQ pc lv (.int x :: .int i :: .ref a :: st) z h k n := by
  intro p e s m args below meth c H locs ls hS hR hF hl
  obtain ⟨hx, hb, hml, hr, hown, hlk, hname, htb, hts, hK, hX, hB⟩ := id hS
  have hP := jR_el hR (by omega) (jc_b (ca := jca g) hk)
  refine W.bast hx hb (hP 0 _ rfl) ((hK.2 0 _ rfl).1 (ln h a) (fun j => .int (iv h a j))) (fun q => by cases q) (by show ¬ (i < 0 ∨ (arrV _ _ _).slots.size ≤ _); rw [arrV_size]; exact hin) rfl rfl d fun H1 w1 w2 w3 => ?_
  refine kk p e s m args below meth c H1 _ ls hS (jR_upd hR w2 w3 rfl (fun b hb => ⟨u2_ne _ _ _ hb, rfl, rfl⟩) ?_) (hF.put w2 w3 (hR.2.2 a (by omega)).1) hl
  rw [jc_b (h := wI h a _ _) hk]
  show H1[a]? = some (vp_cell _ _)
  rw [w1, vp_cell_i, vp_cell_i, arrV_store]
  congr 2
  funext q
  show _ = Value.int (u2 h.2.1 a i.toNatClampNeg (vp_nar .byte x) a q)
  rw [u2_self]
  by_cases hq : q = i.toNatClampNeg
  · subst hq
    simp [updV, vp_nar]
    try rfl
  · simp [updV, hq]
theorem J_aastore {a : Nat} {i : Int32} {r : Option Nat} (d : decode (mC M) pc = .ok (.aastore, 1)) (hk : kd h a = 15) (hin : vp_in i (ln h a)) (hr : ∀ b, r = some b → kd h b = 1) (kk : J g M QQ (pc + 1) lv st z (wR h a i.toNatClampNeg r) k n) : J g M QQ pc lv (va_rf r :: .int i :: .ref a :: st) z h k n := by
  intro p e s m args below meth c H locs ls hS hR hF hl
  obtain ⟨hx, hb, hml, hrt, hown, hlk, hname, htb, hts, hK, hX, hB⟩ := id hS
  have hP := jR_el hR (by omega) (jc_r (ca := jca g) hk)
  have fin : ∀ H1 : Heap, H1[a]? = some ((vp_cell (jca g 4) (ln h a, .inr (.inr (.inr (.inr (rv h a)))))).setSlot i.toNatClampNeg (va_rf r)) → H1.size = H.size → (∀ q, q ≠ a → H1[q]? = H[q]?) → jR g z (wR h a i.toNatClampNeg r) H1 := by
    intro H1 w1 w2 w3
    refine jR_upd hR w2 w3 rfl (fun b hb => ⟨rfl, rfl, u2_ne _ _ _ hb⟩) ?_
    rw [jc_r (h := wR h a _ _) hk]
    show H1[a]? = some (vp_cell _ _)
    rw [w1, vp_cell_q, vp_cell_q, arrV_store]
    congr 2
    funext q
    show _ = va_rf (u2 h.2.2.2 a i.toNatClampNeg r a q)
    rw [u2_self]
    by_cases hq : q = i.toNatClampNeg
    · simp [updV, hq]
    · simp [updV, hq]
  cases r with
  | none =>
    refine va_WaastN (C := RX0) hx hb (hP 0 _ rfl) ((hK.2 4 _ rfl).1 (ln h a) (fun j => va_rf (rv h a j))) (fun h => by cases h) (by show ¬ (i < 0 ∨ (arrV _ _ _).slots.size ≤ _); rw [arrV_size]; exact hin) rfl rfl d fun H1 w1 w2 w3 => ?_
    exact kk p e s m args below meth c H1 _ ls hS (fin H1 w1 w2 w3) (hF.put w2 w3 (hR.2.2 a (by omega)).1) hl
  | some b =>
    have hlt : i.toNatClampNeg < ln h a := Nat.not_le.mp fun q => hin (Or.inr q)
    have h0 : ¬ i < 0 := fun q => hin (Or.inl q)
    obtain ⟨r', hr', cellV, g1, g2, g3, -⟩ := jR_at hR (ci := 0) (hr b rfl) (by omega) 0 _ rfl
    have hcls := (hK.1 0 _ rfl).2
    obtain ⟨kA, comp, k1, k2, k3, -⟩ := (hK.2 4 _ rfl).2
    have hcomp : comp = (jD g).1 0 := Option.some.inj (k3.symm.trans hcls.1)
    subst hcomp
    obtain ⟨kC, hkC, -⟩ := hcls.2
    refine W.aast hx hb (hP 0 _ rfl) (fun q h => by cases h) (fun h => by cases h) k1 k2 rfl hkC ⟨h0, by show _ < (arrV _ _ _).slots.size; rw [arrV_size]; exact hlt⟩ g1 (fun q h => by rw [g3] at h; cases h) (by rw [g2]; exact hkC) (by rw [g2]; exact va_assign hcls) rfl rfl d fun H1 w1 w2 w3 => ?_
    exact kk p e s m args below meth c H1 _ ls hS (fin H1 w1 w2 w3) (hF.put w2 w3 (hR.2.2 a (by omega)).1) hl
/-- a new cell -/
theorem jR_new {z : Nat} {h : AH} {H H1 : Heap} {kk ll : Nat} (hR : jR g z h H) (hz : H1.size = H.size + 1) (oq : ∀ q : Nat, q < H.size → H1[q]? = H[q]?) (hat : va_at (jD g) vwCl (z, jcr (jca g) (kk, ll) (fun _ => 0) (fun _ => 0) (fun _ => none)) H1) : jR g (z + 1) (wNew h z kk ll) H1 := by
  refine ⟨by rw [hz, hR.1], Nat.le_succ_of_le hR.2.1, fun b hb => ?_⟩
  by_cases hbz : b = z
  · subst hbz
    refine ⟨hR.2.1, ?_⟩
    show va_at _ _ (_, jcr (jca g) (u1 h.1 b (kk, ll) b) (u1 h.2.1 b _ b) (u1 h.2.2.1 b _ b) (u1 h.2.2.2 b _ b)) H1
    rw [u1_self, u1_self, u1_self, u1_self]
    exact hat
  · have hb' : kd h b ≠ 0 := by
      have h9 : (u1 h.1 z (kk, ll) b).1 ≠ 0 := hb
      rwa [u1_ne _ _ hbz] at h9
    obtain ⟨x1, x2⟩ := hR.2.2 b hb'
    refine ⟨x1, ?_⟩
    show va_at _ _ (_, jcr (jca g) (u1 h.1 z (kk, ll) b) (u1 h.2.1 z _ b) (u1 h.2.2.1 z _ b) (u1 h.2.2.2 z _ b)) H1
    rw [u1_ne _ _ hbz, u1_ne _ _ hbz, u1_ne _ _ hbz, u1_ne _ _ hbz]
    exact x2.kept (oq b x2.lt)
theorem J_new {ci idx N : Nat} {C : String} {T : u_T} (d : decode (mC M) pc = .ok (.new idx, 3)) (hci : ci < 10) (hc : vwCl[ci]? = some (C, T, N)) (hin : ∀ w ∈ u_ws C T N, w ∈ gtbl) (tyf : Nat → FieldType) (hty : ∀ k, k < N → parseFieldDescriptor (T k).2.2.1 = some (tyf k)) (hcl : Cond.classLink (mO M) idx C ∈ gtbl) (hins : Cond.instantiable C N ∈ gtbl) (hini : Cond.initialized C ∈ gtbl)
    (hfs : ∀ j, j < N → defaultValue (tyf j) = vp_V (jO (fun _ => 0) (fun _ => 0) (fun _ => none) ci) j) (hcells : k + 1 ≤ (mR M).cells) (hslots : n + N ≤ (mR M).slots) (kk : J g M QQ (pc + 3) lv (.ref z :: st) (z + 1) (wNew h z (ci + 1) 0) (k + 1) (n + N)) : J g M QQ pc lv st z h k n := by
  intro p e s m args below meth c H locs ls hS hR hF hl
  obtain ⟨hx, hb, hml, hrt, hown, hlk, hname, htb, hts, hK, hX, hB⟩ := id hS
  have hKn := hK.1 ci _ hc
  refine W.newcK hx hb hown (hts _ hcl) (hts _ hins) (hts _ hini) rfl d hcells hslots hKn.2.1 hR.1 fun H1 kC hkC e1 z1 o1 => ?_
  refine kk p e s m args below meth c H1 locs ls hS (jR_new hR (by rw [z1, hR.1]) (by rw [hR.1]; exact o1) ?_) ⟨Nat.le_trans hF.1 (by rw [z1, hR.1]; omega), fun x h1 h2 => (o1 x (by rw [← hR.1]; exact Nat.lt_of_lt_of_le h1 hF.1)).trans (hF.2.1 x h1 h2), hF.2.2⟩ hl
  rw [jcr_o rfl hci]
  exact ⟨_, hc, (u_born tyf hts hin hKn hkC e1 hty).to hfs⟩
theorem J_newarr {atype : ArrayType} {ty : FieldType} {m0 : Int32} {N t : Nat} {kk0 : Nat} (d : decode (mC M) pc = .ok (.newarray atype, 2)) (hty : newarray.typeOf atype = ty) (harr : Cond.arrayClass ty ∈ gtbl) (hn : ¬ m0 < 0) (hN : m0.toNatClampNeg = N) (hbytes : N * componentBytes ty ≤ 536870912) (ht : ∀ g : JG, (jT g)[t]? = some (jca g t, ty)) (hra : ∀ (U : State) (cA : ClassId), va_RA U cA ty → U.vm.findClass ("[" ++ ty.toString) = some cA)
    (hcell : ∀ (ca : Nat → ClassId), ∃ x : vp_A, jcr ca (kk0, N) (fun _ => 0) (fun _ => 0) (fun _ => none) = .inl (ca t, x) ∧ vp_cell (ca t) x = arrV (ca t) N (fun _ => defaultValue ty))
    (hcells : k + 1 ≤ (mR M).cells) (hslots : n + N ≤ (mR M).slots) (kk : J g M QQ (pc + 2) lv (.ref z :: st) (z + 1) (wNew h z kk0 N) (k + 1) (n + N)) : J g M QQ pc lv (.int m0 :: st) z h k n := by
  subst hty
  intro p e s m args below meth c H locs ls hS hR hF hl
  obtain ⟨hx, hb, hml, hrt, hown, hlk, hname, htb, hts, hK, hX, hB⟩ := id hS
  refine va_newaK hx hb (hts _ harr) rfl d rfl hn hN hbytes hcells hslots hR.1 fun H1 cA e1 z1 o1 hAr hNm => ?_
  have hcA : cA = jca g t := by
    have h1 := hra _ _ (hK.2 t _ (ht g)).2
    exact Option.some.inj (hNm.symm.trans h1)
  subst hcA
  refine kk p e s m args below meth c H1 locs ls hS (jR_new hR (by rw [z1, hR.1]) (by rw [hR.1]; exact o1) ?_) ⟨Nat.le_trans hF.1 (by rw [z1, hR.1]; omega), fun x h1 h2 => (o1 x (by rw [← hR.1]; exact Nat.lt_of_lt_of_le h1 hF.1)).trans (hF.2.1 x h1 h2), hF.2.2⟩ hl
  obtain ⟨x, x1, x2⟩ := hcell (jca g)
  rw [x1]
  show H1[z]? = some (vp_cell _ _)
  rw [x2]
  exact e1
end JH
