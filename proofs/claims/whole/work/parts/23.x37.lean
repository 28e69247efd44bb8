/-! decompiled methods and their walks (printed by gen/gen.py) -/
def lX3_dropOldest_9B  (q9 : Nat → Option Nat → Int32 → Nat → AH → Option (Nat × AH)) (a0 : Nat) (r1 : Option Nat) (x2 : Int32) (z : Nat) (h : AH) : Option (Nat × AH) :=
  (if 5 ≤ x2 then (gd (kd h a0 = 4) (Option.bind (rv h a0 0) (fun b3 => gd (kd h b3 = 15) (gd (¬ ((4 : Int32) < 0 ∨ ln h b3 ≤ Int32.toNatClampNeg 4)) (gd (okq h r1 = true) (bl (wR h b3 (Int32.toNatClampNeg 4) r1) (fun h7 => bl (wI h7 a0 1 4) (fun h9 => some (z, h9))))))))) else (gd (kd h a0 = 4) (Option.bind (rv h a0 0) (fun b11 => Option.bind (rv h a0 0) (fun b12 => gd (kd h b12 = 15) (gd (¬ ((x2 : Int32) < 0 ∨ ln h b12 ≤ Int32.toNatClampNeg x2)) (gd (kd h b11 = 15) (gd (¬ (((x2 - 1) : Int32) < 0 ∨ ln h b11 ≤ Int32.toNatClampNeg (x2 - 1))) (gd (okq h (rv h b12 (Int32.toNatClampNeg x2)) = true) (bl (wR h b11 (Int32.toNatClampNeg (x2 - 1)) (rv h b12 (Int32.toNatClampNeg x2))) (fun h18 => q9 a0 r1 (x2 + 1) z h18)))))))))))
def lX3_dropOldest_9  : Nat → Nat → Option Nat → Int32 → Nat → AH → Option (Nat × AH)
  | 0 => fun _ _ _ _ _ => none
  | fuel + 1 => lX3_dropOldest_9B  (lX3_dropOldest_9  fuel)
def fX3_dropOldest  (a0 : Nat) (z : Nat) (h : AH) : Option (Nat × AH) :=
  gd (kd h a0 = 4) (Option.bind (rv h a0 0) (fun b2 => gd (kd h b2 = 15) (gd (¬ ((0 : Int32) < 0 ∨ ln h b2 ≤ Int32.toNatClampNeg 0)) (lX3_dropOldest_9  fu a0 (rv h b2 (Int32.toNatClampNeg 0)) 1 z h))))
theorem wlX3_dropOldest_9 {g : JG} (hst : (jl g).stackTraces = false)   : ∀ (fuel : Nat) (a0 : Nat) (r1 : Option Nat) (x2 : Int32) (z : Nat) (h : AH) (o : Nat × AH), lX3_dropOldest_9  fuel a0 r1 x2 z h = some o → J g MX3_dropOldest (jN g (none, o.1, o.2) rmX3_dropOldest.cells rmX3_dropOldest.slots) 9 [some (.ref a0), some (va_rf r1), some (.int x2)] [] z h 0 0 := by
  intro fuel
  induction fuel with
  | zero => intro a0 r1 x2 z h o hf; cases hf
  | succ fuel ih =>
    intro a0 r1 x2 z h o hf
    have hq9 := ih
    have hf : lX3_dropOldest_9B  (lX3_dropOldest_9  fuel) a0 r1 x2 z h = some o := hf
    generalize lX3_dropOldest_9  fuel = q9 at hf hq9
    unfold lX3_dropOldest_9B at hf
    refine J_iload_n dX3_dropOldest_9 rfl rfl ?_
    refine J_iconst (v := 5) dX3_dropOldest_10 (by decide) ?_
    rcases br hf with ⟨c1, hf⟩ | ⟨c1, hf⟩
    · refine J_icmp_ge (tgt := 34) dX3_dropOldest_11 (by decide) (fun _ => ?_) (fun w => absurd c1 w)
      refine J_aload_n dX3_dropOldest_34 rfl rfl ?_
      obtain ⟨k2, hf⟩ := gds hf
      obtain ⟨b3, rb3, hf⟩ := rfs hf
      refine G_3_0 dX3_dropOldest_35 tk_223 k2 rb3 ?_
      refine J_iconst (v := 4) dX3_dropOldest_38 (by decide) ?_
      refine J_aload_nq dX3_dropOldest_39 rfl rfl ?_
      obtain ⟨k4, hf⟩ := gds hf
      obtain ⟨n5, hf⟩ := gds hf
      obtain ⟨q6, hf⟩ := gds hf
      refine J_aastore (r := r1) dX3_dropOldest_40 k4 n5 (okq_spec q6) ?_
      obtain ⟨h7, eh7, hf⟩ := bls hf
      refine J_h eh7 ?_
      refine J_aload_n dX3_dropOldest_41 rfl rfl ?_
      refine J_iconst (v := 4) dX3_dropOldest_42 (by decide) ?_
      have k8 : kd h7 a0 = 4 := by rw [eh7]; exact k2
      refine P_3_1 dX3_dropOldest_43 tk_224 k8 ?_
      obtain ⟨h9, eh9, hf⟩ := bls hf
      refine J_h eh9 ?_
      cases hf
      exact J_vretN dX3_dropOldest_46 rfl (by decide) (by decide)
    · refine J_icmp_ge (tgt := 34) dX3_dropOldest_11 (by decide) (fun w => absurd w c1) (fun _ => ?_)
      refine J_aload_n dX3_dropOldest_14 rfl rfl ?_
      obtain ⟨k10, hf⟩ := gds hf
      obtain ⟨b11, rb11, hf⟩ := rfs hf
      refine G_3_0 dX3_dropOldest_15 tk_223 k10 rb11 ?_
      refine J_iload_n dX3_dropOldest_18 rfl rfl ?_
      refine J_iconst (v := 1) dX3_dropOldest_19 (by decide) ?_
      refine J_isub dX3_dropOldest_20 ?_
      refine J_aload_n dX3_dropOldest_21 rfl rfl ?_
      obtain ⟨b12, rb12, hf⟩ := rfs hf
      refine G_3_0 dX3_dropOldest_22 tk_223 k10 rb12 ?_
      refine J_iload_n dX3_dropOldest_25 rfl rfl ?_
      obtain ⟨k13, hf⟩ := gds hf
      obtain ⟨n14, hf⟩ := gds hf
      refine J_aaload dX3_dropOldest_26 k13 n14 ?_
      obtain ⟨k15, hf⟩ := gds hf
      obtain ⟨n16, hf⟩ := gds hf
      obtain ⟨q17, hf⟩ := gds hf
      refine J_aastore (r := (rv h b12 (Int32.toNatClampNeg x2))) dX3_dropOldest_27 k15 n16 (okq_spec q17) ?_
      obtain ⟨h18, eh18, hf⟩ := bls hf
      refine J_h eh18 ?_
      refine S_iinc_2 (v := x2 + 1) dX3_dropOldest_28 (congrArg (fun w => x2 + w) (by decide)) (jNL_q _) (by decide) ?_
      refine J_goto (tgt := 9) dX3_dropOldest_31 (by decide) ?_
      refine J.sub (jsub_s (jsub_s (jsub_s (jsub_nil _)))) ?_
      exact hq9 _ _ _ _ _ _ hf
theorem wfX3_dropOldest {g : JG} (hst : (jl g).stackTraces = false)   {a0 : Nat} {z : Nat} {h : AH} {o : Nat × AH} (hf : fX3_dropOldest  a0 z h = some o) : J g MX3_dropOldest (jN g (none, o.1, o.2) rmX3_dropOldest.cells rmX3_dropOldest.slots) 0 [some (.ref a0), none, none] [] z h 0 0 := by
  unfold fX3_dropOldest at hf
  refine J_aload_n dX3_dropOldest_0 rfl rfl ?_
  obtain ⟨k1, hf⟩ := gds hf
  obtain ⟨b2, rb2, hf⟩ := rfs hf
  refine G_3_0 dX3_dropOldest_1 tk_223 k1 rb2 ?_
  refine J_iconst (v := 0) dX3_dropOldest_4 (by decide) ?_
  obtain ⟨k3, hf⟩ := gds hf
  obtain ⟨n4, hf⟩ := gds hf
  refine J_aaload dX3_dropOldest_5 k3 n4 ?_
  refine S_astore_nq_1 dX3_dropOldest_6 rfl (by decide) ?_
  refine J_iconst (v := 1) dX3_dropOldest_7 (by decide) ?_
  refine S_istore_n_2 dX3_dropOldest_8 (jNL_q _) (by decide) ?_
  refine J.sub (jsub_s (jsub_s (jsub_s (jsub_nil _)))) ?_
  exact wlX3_dropOldest_9 hst   _ _ _ _ _ _ _ hf
theorem mX3_dropOldest {g : JG} (hst : (jl g).stackTraces = false) {a0 : Nat} {z : Nat} {h : AH} {o : Nat × AH} (hf : fX3_dropOldest a0 z h = some o) : jMet g yX3_dropOldest (wj yX3_dropOldest cX3_dropOldest 3 none) rmX3_dropOldest [.ref a0] z h (none, o.1, o.2) :=
  jMet_mk (by decide) (Nat.le_of_ble_eq_true rfl) [some (.ref a0), none, none] rfl (wfX3_dropOldest hst hf)
def bX3_keep_44  (a0 : Nat) (a1 : Nat) (a2 : Nat) (z : Nat) (h : AH) : Option (Nat × AH) :=
  gd (kd h a2 = 1) (bd2 (fX0_copyFrom a2 a1 z h) (fun zo2 ho2h => gd (kd ho2h a0 = 4) (bl (wI ho2h a0 1 ((iv ho2h a0 1) + 1)) (fun h4 => some (zo2, h4)))))
def bX3_keep_12  (a0 : Nat) (a1 : Nat) (z : Nat) (h : AH) : Option (Nat × AH) :=
  gd (kd h a0 = 4) (Option.bind (rv h a0 0) (fun b2 => gd (kd h b2 = 15) (gd (¬ (((iv h a0 1) : Int32) < 0 ∨ ln h b2 ≤ Int32.toNatClampNeg (iv h a0 1))) (on (rv h b2 (Int32.toNatClampNeg (iv h a0 1))) (bl (wNew h z 1 0) (fun h7 => bd2 (fX0_init z (z + 1) h7) (fun zo9 ho9h => gd (kd ho9h a0 = 4) (Option.bind (rv ho9h a0 0) (fun b11 => gd (kd ho9h b11 = 15) (gd (¬ (((iv ho9h a0 1) : Int32) < 0 ∨ ln ho9h b11 ≤ Int32.toNatClampNeg (iv ho9h a0 1))) (gd (okq ho9h (some z) = true) (bl (wR ho9h b11 (Int32.toNatClampNeg (iv ho9h a0 1)) (some z)) (fun h15 => bX3_keep_44  a0 a1 z zo9 h15))))))))) (fun a5 => bX3_keep_44  a0 a1 a5 z h)))))
def fX3_keep  (a0 : Nat) (a1 : Nat) (z : Nat) (h : AH) : Option (Nat × AH) :=
  gd (kd h a0 = 4) ((if (iv h a0 1) < 5 then (bX3_keep_12  a0 a1 z h) else (bd2 (fX3_dropOldest a0 z h) (fun zo3 ho3h => bX3_keep_12  a0 a1 zo3 ho3h))))
theorem wbX3_keep_44 {g : JG} (hst : (jl g).stackTraces = false)   {a0 : Nat} {a1 : Nat} {a2 : Nat} {z : Nat} {h : AH} {o : Nat × AH} (hf : bX3_keep_44  a0 a1 a2 z h = some o) : J g MX3_keep (jN g (none, o.1, o.2) rmX3_keep.cells rmX3_keep.slots) 44 [some (.ref a0), some (.ref a1), some (.ref a2)] [] z h 16 292 := by
  unfold bX3_keep_44 at hf
  refine J_aload_n dX3_keep_44 rfl rfl ?_
  refine J_aload_n dX3_keep_45 rfl rfl ?_
  obtain ⟨k1, hf⟩ := gds hf
  obtain ⟨zo2, ho2h, ho2, hf⟩ := rfs2 hf
  refine CV1v dX3_keep_46 (mX0_copyFrom hst ho2) tk_581 iX0_copyFrom k1 (by decide) rfl ⟨by decide, by decide⟩ ⟨by decide, by decide⟩ (Nat.le_of_ble_eq_true rfl) ?_
  refine J_aload_n dX3_keep_49 rfl rfl ?_
  refine J_dup dX3_keep_50 rfl ?_
  obtain ⟨k3, hf⟩ := gds hf
  refine G_3_1 dX3_keep_51 tk_224 k3 ?_
  refine J_iconst (v := 1) dX3_keep_54 (by decide) ?_
  refine J_iadd dX3_keep_55 ?_
  refine P_3_1 dX3_keep_56 tk_224 k3 ?_
  obtain ⟨h4, eh4, hf⟩ := bls hf
  refine J_h eh4 ?_
  cases hf
  exact J_vretN dX3_keep_59 rfl (by decide) (by decide)
theorem wbX3_keep_12 {g : JG} (hst : (jl g).stackTraces = false)   {a0 : Nat} {a1 : Nat} {z : Nat} {h : AH} {o : Nat × AH} (hf : bX3_keep_12  a0 a1 z h = some o) : J g MX3_keep (jN g (none, o.1, o.2) rmX3_keep.cells rmX3_keep.slots) 12 [some (.ref a0), some (.ref a1), none] [] z h 0 0 := by
  unfold bX3_keep_12 at hf
  refine J_aload_n dX3_keep_12 rfl rfl ?_
  obtain ⟨k1, hf⟩ := gds hf
  obtain ⟨b2, rb2, hf⟩ := rfs hf
  refine G_3_0 dX3_keep_13 tk_223 k1 rb2 ?_
  refine J_aload_n dX3_keep_16 rfl rfl ?_
  refine G_3_1 dX3_keep_17 tk_224 k1 ?_
  obtain ⟨k3, hf⟩ := gds hf
  obtain ⟨n4, hf⟩ := gds hf
  refine J_aaload dX3_keep_20 k3 n4 ?_
  refine S_astore_nq_2 dX3_keep_21 rfl (by decide) ?_
  refine J_aload_nq dX3_keep_22 rfl rfl ?_
  rcases ons hf with ⟨c6, hf⟩ | ⟨a5, c6, hf⟩
  · rw [c6]
    refine J_ifnonnull (r := none) (tgt := 44) dX3_keep_23 (by decide) (fun _ => ?_) (fun w e => nomatch e)
    refine J_new (ci := 0) dX3_keep_26 (by decide) rfl inG0 tyX0 tyX0_ok tk_221 tk_28 tk_2 (by decide) (by decide) (by decide) ?_
    obtain ⟨h7, eh7, hf⟩ := bls hf
    refine J_h eh7 ?_
    have k8 : kd h7 z = 1 := by rw [eh7]; exact wNew_kd _ _ _ _
    refine J_dup dX3_keep_29 rfl ?_
    obtain ⟨zo9, ho9h, ho9, hf⟩ := rfs2 hf
    refine CIN0v dX3_keep_30 (mX0_init hst ho9) tl_580 iX0_init ⟨by decide, by decide⟩ ⟨by decide, by decide⟩ (Nat.le_of_ble_eq_true rfl) ?_
    refine S_astore_n_2 dX3_keep_33 rfl (by decide) ?_
    refine J_aload_n dX3_keep_34 rfl rfl ?_
    obtain ⟨k10, hf⟩ := gds hf
    obtain ⟨b11, rb11, hf⟩ := rfs hf
    refine G_3_0 dX3_keep_35 tk_223 k10 rb11 ?_
    refine J_aload_n dX3_keep_38 rfl rfl ?_
    refine G_3_1 dX3_keep_39 tk_224 k10 ?_
    refine J_aload_n dX3_keep_42 rfl rfl ?_
    obtain ⟨k12, hf⟩ := gds hf
    obtain ⟨n13, hf⟩ := gds hf
    obtain ⟨q14, hf⟩ := gds hf
    refine J_aastore (r := (some z)) dX3_keep_43 k12 n13 (okq_spec q14) ?_
    obtain ⟨h15, eh15, hf⟩ := bls hf
    refine J_h eh15 ?_
    refine J.sub (jsub_s (jsub_s (jsub_s (jsub_nil _)))) ?_
    refine J.widen (k' := 16) (n' := 292) (by decide) (by decide) ?_
    exact wbX3_keep_44 hst   hf
  · rw [c6]
    refine J_ifnonnull (r := some a5) (tgt := 44) dX3_keep_23 (by decide) (fun e => nomatch e) (fun _ _ => ?_)
    refine J.sub (jsub_s (jsub_s (jsub_s (jsub_nil _)))) ?_
    refine J.widen (k' := 16) (n' := 292) (by decide) (by decide) ?_
    exact wbX3_keep_44 hst   hf
theorem wfX3_keep {g : JG} (hst : (jl g).stackTraces = false)   {a0 : Nat} {a1 : Nat} {z : Nat} {h : AH} {o : Nat × AH} (hf : fX3_keep  a0 a1 z h = some o) : J g MX3_keep (jN g (none, o.1, o.2) rmX3_keep.cells rmX3_keep.slots) 0 [some (.ref a0), some (.ref a1), none] [] z h 0 0 := by
  unfold fX3_keep at hf
  refine J_aload_n dX3_keep_0 rfl rfl ?_
  obtain ⟨k1, hf⟩ := gds hf
  refine G_3_1 dX3_keep_1 tk_224 k1 ?_
  refine J_iconst (v := 5) dX3_keep_4 (by decide) ?_
  rcases br hf with ⟨c2, hf⟩ | ⟨c2, hf⟩
  · refine J_icmp_lt (tgt := 12) dX3_keep_5 (by decide) (fun _ => ?_) (fun w => absurd c2 w)
    refine J.sub (jsub_s (jsub_s (jsub_n (jsub_nil _)))) ?_
    refine J.widen (k' := 0) (n' := 0) (by decide) (by decide) ?_
    exact wbX3_keep_12 hst   hf
  · refine J_icmp_lt (tgt := 12) dX3_keep_5 (by decide) (fun w => absurd w c2) (fun _ => ?_)
    refine J_aload_n dX3_keep_8 rfl rfl ?_
    obtain ⟨zo3, ho3h, ho3, hf⟩ := rfs2 hf
    refine CV0v dX3_keep_9 (mX3_dropOldest hst ho3) tk_576 iX3_dropOldest k1 (by decide) rfl ⟨by decide, by decide⟩ ⟨by decide, by decide⟩ (Nat.le_of_ble_eq_true rfl) ?_
    refine J.sub (jsub_s (jsub_s (jsub_n (jsub_nil _)))) ?_
    refine J.widen (k' := 0) (n' := 0) (by decide) (by decide) ?_
    exact wbX3_keep_12 hst   hf
theorem mX3_keep {g : JG} (hst : (jl g).stackTraces = false) {a0 : Nat} {a1 : Nat} {z : Nat} {h : AH} {o : Nat × AH} (hf : fX3_keep a0 a1 z h = some o) : jMet g yX3_keep (wj yX3_keep cX3_keep 3 none) rmX3_keep [.ref a0, .ref a1] z h (none, o.1, o.2) :=
  jMet_mk (by decide) (Nat.le_of_ble_eq_true rfl) [some (.ref a0), some (.ref a1), none] rfl (wfX3_keep hst hf)
def bX7_read_131 (q100 : Nat → Int32 → Nat → AH → Option (Nat × AH)) (a0 : Nat) (x2 : Int32) (z : Nat) (h : AH) : Option (Nat × AH) :=
  q100 a0 (x2 + 1) z h
def lX7_read_100B  (q100 : Nat → Int32 → Nat → AH → Option (Nat × AH)) (a0 : Nat) (x2 : Int32) (z : Nat) (h : AH) : Option (Nat × AH) :=
  (if 10 ≤ x2 then (some (z, h)) else (gd (kd h a0 = 8) (Option.bind (rv h a0 1) (fun b3 => gd (kd h b3 = 13) (gd (¬ ((x2 : Int32) < 0 ∨ ln h b3 ≤ Int32.toNatClampNeg x2)) (bd3 (fX8_inSet (iv h b3 (Int32.toNatClampNeg x2)) x2 z h) (fun vo6 zo6 ho6h => (if vo6 = 0 then (bX7_read_131 q100 a0 x2 zo6 ho6h) else (gd (kd ho6h a0 = 8) (bl (wI ho6h a0 2 ((iv ho6h a0 2) ||| (1 <<< (x2 &&& 31)))) (fun h9 => bX7_read_131 q100 a0 x2 zo6 h9)))))))))))
def lX7_read_100  : Nat → Nat → Int32 → Nat → AH → Option (Nat × AH)
  | 0 => fun _ _ _ _ => none
  | fuel + 1 => lX7_read_100B  (lX7_read_100  fuel)
def bX7_read_81 (q47 : Nat → Int32 → Int32 → Nat → AH → Option (Nat × AH)) (a0 : Nat) (x2 : Int32) (x3 : Int32) (z : Nat) (h : AH) : Option (Nat × AH) :=
  q47 a0 x2 (x3 + 1) z h
def lX7_read_47B (q39 : Nat → Int32 → Nat → AH → Option (Nat × AH)) (q47 : Nat → Int32 → Int32 → Nat → AH → Option (Nat × AH)) (a0 : Nat) (x2 : Int32) (x3 : Int32) (z : Nat) (h : AH) : Option (Nat × AH) :=
  (if 10 ≤ x3 then (q39 a0 (x2 + 1) z h) else (gd (kd h a0 = 8) (Option.bind (rv h a0 1) (fun b3 => gd (kd h b3 = 13) (gd (¬ ((x3 : Int32) < 0 ∨ ln h b3 ≤ Int32.toNatClampNeg x3)) (bd3 (fX8_inSet (iv h b3 (Int32.toNatClampNeg x3)) x2 z h) (fun vo6 zo6 ho6h => (if vo6 = 0 then (bX7_read_81 q47 a0 x2 x3 zo6 ho6h) else (gd (kd ho6h a0 = 8) (Option.bind (rv ho6h a0 1) (fun b9 => gd (kd ho6h b9 = 13) (gd (¬ ((x3 : Int32) < 0 ∨ ln ho6h b9 ≤ Int32.toNatClampNeg x3)) (Option.bind (rv ho6h a0 1) (fun b12 => gd (kd ho6h b12 = 13) (gd (¬ ((x2 : Int32) < 0 ∨ ln ho6h b12 ≤ Int32.toNatClampNeg x2)) (gd (¬ ((x3 : Int32) < 0 ∨ ln ho6h b9 ≤ Int32.toNatClampNeg x3)) (bl (wI ho6h b9 (Int32.toNatClampNeg x3) ((iv ho6h b9 (Int32.toNatClampNeg x3)) ||| (iv ho6h b12 (Int32.toNatClampNeg x2)))) (fun h16 => bX7_read_81 q47 a0 x2 x3 zo6 h16))))))))))))))))))
def lX7_read_47 (q39 : Nat → Int32 → Nat → AH → Option (Nat × AH)) : Nat → Nat → Int32 → Int32 → Nat → AH → Option (Nat × AH)
  | 0 => fun _ _ _ _ _ => none
  | fuel + 1 => lX7_read_47B q39 (lX7_read_47 q39 fuel)
def lX7_read_39B  (q39 : Nat → Int32 → Nat → AH → Option (Nat × AH)) (a0 : Nat) (x2 : Int32) (z : Nat) (h : AH) : Option (Nat × AH) :=
  (if 10 ≤ x2 then (gd (kd h a0 = 8) (bl (wI h a0 2 0) (fun h3 => lX7_read_100  fu a0 0 z h3))) else (lX7_read_47 q39 fu a0 x2 0 z h))
def lX7_read_39  : Nat → Nat → Int32 → Nat → AH → Option (Nat × AH)
  | 0 => fun _ _ _ _ => none
  | fuel + 1 => lX7_read_39B  (lX7_read_39  fuel)
def lX7_read_2B  (q2 : Nat → Nat → Int32 → Nat → AH → Option (Nat × AH)) (a0 : Nat) (a1 : Nat) (x2 : Int32) (z : Nat) (h : AH) : Option (Nat × AH) :=
  (if 10 ≤ x2 then (lX7_read_39  fu a0 0 z h) else (gd (kd h a0 = 8) (Option.bind (rv h a0 0) (fun b3 => gd (kd h a1 = 1) (bd3 (fX0_waitsFor a1 x2 z h) (fun vo5 zo5 ho5h => gd (kd ho5h b3 = 13) (gd (¬ ((x2 : Int32) < 0 ∨ ln ho5h b3 ≤ Int32.toNatClampNeg x2)) (bl (wI ho5h b3 (Int32.toNatClampNeg x2) vo5) (fun h8 => gd (kd h8 a0 = 8) (Option.bind (rv h8 a0 1) (fun b10 => Option.bind (rv h8 a0 0) (fun b11 => gd (kd h8 b11 = 13) (gd (¬ ((x2 : Int32) < 0 ∨ ln h8 b11 ≤ Int32.toNatClampNeg x2)) (gd (kd h8 b10 = 13) (gd (¬ ((x2 : Int32) < 0 ∨ ln h8 b10 ≤ Int32.toNatClampNeg x2)) (bl (wI h8 b10 (Int32.toNatClampNeg x2) (iv h8 b11 (Int32.toNatClampNeg x2))) (fun h16 => q2 a0 a1 (x2 + 1) zo5 h16)))))))))))))))))
def lX7_read_2  : Nat → Nat → Nat → Int32 → Nat → AH → Option (Nat × AH)
  | 0 => fun _ _ _ _ _ => none
  | fuel + 1 => lX7_read_2B  (lX7_read_2  fuel)
def fX7_read  (a0 : Nat) (a1 : Nat) (z : Nat) (h : AH) : Option (Nat × AH) :=
  lX7_read_2  fu a0 a1 0 z h
theorem wbX7_read_131 {g : JG} (hst : (jl g).stackTraces = false) (q100 : Nat → Int32 → Nat → AH → Option (Nat × AH)) (hq100 : ∀ (a0 : Nat) (x2 : Int32) (z : Nat) (h : AH) (o : Nat × AH), q100 a0 x2 z h = some o → J g MX7_read (jN g (none, o.1, o.2) rmX7_read.cells rmX7_read.slots) 100 [some (.ref a0), none, some (.int x2), none] [] z h 0 0) {a0 : Nat} {x2 : Int32} {z : Nat} {h : AH} {o : Nat × AH} (hf : bX7_read_131 q100 a0 x2 z h = some o) : J g MX7_read (jN g (none, o.1, o.2) rmX7_read.cells rmX7_read.slots) 131 [some (.ref a0), none, some (.int x2), none] [] z h 0 0 := by
  unfold bX7_read_131 at hf
  refine S_iinc_2 (v := x2 + 1) dX7_read_131 (congrArg (fun w => x2 + w) (by decide)) rfl (by decide) ?_
  refine J_goto (tgt := 100) dX7_read_134 (by decide) ?_
  refine J.sub (jsub_s (jsub_n (jsub_s (jsub_n (jsub_nil _))))) ?_
  exact hq100 _ _ _ _ _ hf
theorem wlX7_read_100 {g : JG} (hst : (jl g).stackTraces = false)   : ∀ (fuel : Nat) (a0 : Nat) (x2 : Int32) (z : Nat) (h : AH) (o : Nat × AH), lX7_read_100  fuel a0 x2 z h = some o → J g MX7_read (jN g (none, o.1, o.2) rmX7_read.cells rmX7_read.slots) 100 [some (.ref a0), none, some (.int x2), none] [] z h 0 0 := by
  intro fuel
  induction fuel with
  | zero => intro a0 x2 z h o hf; cases hf
  | succ fuel ih =>
    intro a0 x2 z h o hf
    have hq100 := ih
    have hf : lX7_read_100B  (lX7_read_100  fuel) a0 x2 z h = some o := hf
    generalize lX7_read_100  fuel = q100 at hf hq100
    unfold lX7_read_100B at hf
    refine J_iload_n dX7_read_100 rfl rfl ?_
    refine J_bipush (v := 10) dX7_read_101 (by decide) ?_
    rcases br hf with ⟨c1, hf⟩ | ⟨c1, hf⟩
    · refine J_icmp_ge (tgt := 137) dX7_read_103 (by decide) (fun _ => ?_) (fun w => absurd c1 w)
      cases hf
      exact J_vretN dX7_read_137 rfl (by decide) (by decide)
    · refine J_icmp_ge (tgt := 137) dX7_read_103 (by decide) (fun w => absurd w c1) (fun _ => ?_)
      refine J_aload_n dX7_read_106 rfl rfl ?_
      obtain ⟨k2, hf⟩ := gds hf
      obtain ⟨b3, rb3, hf⟩ := rfs hf
      refine G_7_1 dX7_read_107 tk_185 k2 rb3 ?_
      refine J_iload_n dX7_read_110 rfl rfl ?_
      obtain ⟨k4, hf⟩ := gds hf
      obtain ⟨n5, hf⟩ := gds hf
      refine J_iaload dX7_read_111 k4 n5 ?_
      refine J_iload_n dX7_read_112 rfl rfl ?_
      obtain ⟨vo6, zo6, ho6h, ho6, hf⟩ := rfs3 hf
      refine CSN2i dX7_read_113 (mX8_inSet hst ho6) tl_308 iX8_inSet ⟨by decide, by decide⟩ ⟨by decide, by decide⟩ (Nat.le_of_ble_eq_true rfl) ?_
      rcases br hf with ⟨c7, hf⟩ | ⟨c7, hf⟩
      · refine J_if_eq (tgt := 131) dX7_read_116 (by decide) (fun _ => ?_) (fun w => absurd c7 w)
        refine J.sub (jsub_s (jsub_n (jsub_s (jsub_n (jsub_nil _))))) ?_
        exact wbX7_read_131 hst _ hq100 hf
      · refine J_if_eq (tgt := 131) dX7_read_116 (by decide) (fun w => absurd w c7) (fun _ => ?_)
        refine J_aload_n dX7_read_119 rfl rfl ?_
        refine J_dup dX7_read_120 rfl ?_
        obtain ⟨k8, hf⟩ := gds hf
        refine G_7_2 dX7_read_121 tk_186 k8 ?_
        refine J_iconst (v := 1) dX7_read_124 (by decide) ?_
        refine J_iload_n dX7_read_125 rfl rfl ?_
        refine J_ishl dX7_read_126 ?_
        refine J_ior dX7_read_127 ?_
        refine P_7_2 dX7_read_128 tk_186 k8 ?_
        obtain ⟨h9, eh9, hf⟩ := bls hf
        refine J_h eh9 ?_
        refine J.sub (jsub_s (jsub_n (jsub_s (jsub_n (jsub_nil _))))) ?_
        exact wbX7_read_131 hst _ hq100 hf
theorem wbX7_read_81 {g : JG} (hst : (jl g).stackTraces = false) (q47 : Nat → Int32 → Int32 → Nat → AH → Option (Nat × AH)) (hq47 : ∀ (a0 : Nat) (x2 : Int32) (x3 : Int32) (z : Nat) (h : AH) (o : Nat × AH), q47 a0 x2 x3 z h = some o → J g MX7_read (jN g (none, o.1, o.2) rmX7_read.cells rmX7_read.slots) 47 [some (.ref a0), none, some (.int x2), some (.int x3)] [] z h 0 0) {a0 : Nat} {x2 : Int32} {x3 : Int32} {z : Nat} {h : AH} {o : Nat × AH} (hf : bX7_read_81 q47 a0 x2 x3 z h = some o) : J g MX7_read (jN g (none, o.1, o.2) rmX7_read.cells rmX7_read.slots) 81 [some (.ref a0), none, some (.int x2), some (.int x3)] [] z h 0 0 := by
  unfold bX7_read_81 at hf
  refine S_iinc_3 (v := x3 + 1) dX7_read_81 (congrArg (fun w => x3 + w) (by decide)) rfl (by decide) ?_
  refine J_goto (tgt := 47) dX7_read_84 (by decide) ?_
  refine J.sub (jsub_s (jsub_n (jsub_s (jsub_s (jsub_nil _))))) ?_
  exact hq47 _ _ _ _ _ _ hf
theorem wlX7_read_47 {g : JG} (hst : (jl g).stackTraces = false) (q39 : Nat → Int32 → Nat → AH → Option (Nat × AH)) (hq39 : ∀ (a0 : Nat) (x2 : Int32) (z : Nat) (h : AH) (o : Nat × AH), q39 a0 x2 z h = some o → J g MX7_read (jN g (none, o.1, o.2) rmX7_read.cells rmX7_read.slots) 39 [some (.ref a0), none, some (.int x2), none] [] z h 0 0) : ∀ (fuel : Nat) (a0 : Nat) (x2 : Int32) (x3 : Int32) (z : Nat) (h : AH) (o : Nat × AH), lX7_read_47 q39 fuel a0 x2 x3 z h = some o → J g MX7_read (jN g (none, o.1, o.2) rmX7_read.cells rmX7_read.slots) 47 [some (.ref a0), none, some (.int x2), some (.int x3)] [] z h 0 0 := by
  intro fuel
  induction fuel with
  | zero => intro a0 x2 x3 z h o hf; cases hf
  | succ fuel ih =>
    intro a0 x2 x3 z h o hf
    have hq47 := ih
    have hf : lX7_read_47B q39 (lX7_read_47 q39 fuel) a0 x2 x3 z h = some o := hf
    generalize lX7_read_47 q39 fuel = q47 at hf hq47
    unfold lX7_read_47B at hf
    refine J_iload_n dX7_read_47 rfl rfl ?_
    refine J_bipush (v := 10) dX7_read_48 (by decide) ?_
    rcases br hf with ⟨c1, hf⟩ | ⟨c1, hf⟩
    · refine J_icmp_ge (tgt := 87) dX7_read_50 (by decide) (fun _ => ?_) (fun w => absurd c1 w)
      refine S_iinc_2 (v := x2 + 1) dX7_read_87 (congrArg (fun w => x2 + w) (by decide)) rfl (by decide) ?_
      refine J_goto (tgt := 39) dX7_read_90 (by decide) ?_
      refine J.sub (jsub_s (jsub_n (jsub_s (jsub_n (jsub_nil _))))) ?_
      exact hq39 _ _ _ _ _ hf
    · refine J_icmp_ge (tgt := 87) dX7_read_50 (by decide) (fun w => absurd w c1) (fun _ => ?_)
      refine J_aload_n dX7_read_53 rfl rfl ?_
      obtain ⟨k2, hf⟩ := gds hf
      obtain ⟨b3, rb3, hf⟩ := rfs hf
      refine G_7_1 dX7_read_54 tk_185 k2 rb3 ?_
      refine J_iload_n dX7_read_57 rfl rfl ?_
      obtain ⟨k4, hf⟩ := gds hf
      obtain ⟨n5, hf⟩ := gds hf
      refine J_iaload dX7_read_58 k4 n5 ?_
      refine J_iload_n dX7_read_59 rfl rfl ?_
      obtain ⟨vo6, zo6, ho6h, ho6, hf⟩ := rfs3 hf
      refine CSN2i dX7_read_60 (mX8_inSet hst ho6) tl_308 iX8_inSet ⟨by decide, by decide⟩ ⟨by decide, by decide⟩ (Nat.le_of_ble_eq_true rfl) ?_
      rcases br hf with ⟨c7, hf⟩ | ⟨c7, hf⟩
      · refine J_if_eq (tgt := 81) dX7_read_63 (by decide) (fun _ => ?_) (fun w => absurd c7 w)
        refine J.sub (jsub_s (jsub_n (jsub_s (jsub_s (jsub_nil _))))) ?_
        exact wbX7_read_81 hst _ hq47 hf
      · refine J_if_eq (tgt := 81) dX7_read_63 (by decide) (fun w => absurd w c7) (fun _ => ?_)
        refine J_aload_n dX7_read_66 rfl rfl ?_
        obtain ⟨k8, hf⟩ := gds hf
        obtain ⟨b9, rb9, hf⟩ := rfs hf
        refine G_7_1 dX7_read_67 tk_185 k8 rb9 ?_
        refine J_iload_n dX7_read_70 rfl rfl ?_
        refine J_dup2 dX7_read_71 rfl rfl ?_
        obtain ⟨k10, hf⟩ := gds hf
        obtain ⟨n11, hf⟩ := gds hf
        refine J_iaload dX7_read_72 k10 n11 ?_
        refine J_aload_n dX7_read_73 rfl rfl ?_
        obtain ⟨b12, rb12, hf⟩ := rfs hf
        refine G_7_1 dX7_read_74 tk_185 k8 rb12 ?_
        refine J_iload_n dX7_read_77 rfl rfl ?_
        obtain ⟨k13, hf⟩ := gds hf
        obtain ⟨n14, hf⟩ := gds hf
        refine J_iaload dX7_read_78 k13 n14 ?_
        refine J_ior dX7_read_79 ?_
        obtain ⟨n15, hf⟩ := gds hf
        refine J_iastore dX7_read_80 k10 n15 ?_
        obtain ⟨h16, eh16, hf⟩ := bls hf
        refine J_h eh16 ?_
        refine J.sub (jsub_s (jsub_n (jsub_s (jsub_s (jsub_nil _))))) ?_
        exact wbX7_read_81 hst _ hq47 hf
theorem wlX7_read_39 {g : JG} (hst : (jl g).stackTraces = false)   : ∀ (fuel : Nat) (a0 : Nat) (x2 : Int32) (z : Nat) (h : AH) (o : Nat × AH), lX7_read_39  fuel a0 x2 z h = some o → J g MX7_read (jN g (none, o.1, o.2) rmX7_read.cells rmX7_read.slots) 39 [some (.ref a0), none, some (.int x2), none] [] z h 0 0 := by
  intro fuel
  induction fuel with
  | zero => intro a0 x2 z h o hf; cases hf
  | succ fuel ih =>
    intro a0 x2 z h o hf
    have hq39 := ih
    have hf : lX7_read_39B  (lX7_read_39  fuel) a0 x2 z h = some o := hf
    generalize lX7_read_39  fuel = q39 at hf hq39
    unfold lX7_read_39B at hf
    refine J_iload_n dX7_read_39 rfl rfl ?_
    refine J_bipush (v := 10) dX7_read_40 (by decide) ?_
    rcases br hf with ⟨c1, hf⟩ | ⟨c1, hf⟩
    · refine J_icmp_ge (tgt := 93) dX7_read_42 (by decide) (fun _ => ?_) (fun w => absurd c1 w)
      refine J_aload_n dX7_read_93 rfl rfl ?_
      refine J_iconst (v := 0) dX7_read_94 (by decide) ?_
      obtain ⟨k2, hf⟩ := gds hf
      refine P_7_2 dX7_read_95 tk_186 k2 ?_
      obtain ⟨h3, eh3, hf⟩ := bls hf
      refine J_h eh3 ?_
      refine J_iconst (v := 0) dX7_read_98 (by decide) ?_
      refine S_istore_n_2 dX7_read_99 rfl (by decide) ?_
      refine J.sub (jsub_s (jsub_n (jsub_s (jsub_n (jsub_nil _))))) ?_
      exact wlX7_read_100 hst   _ _ _ _ _ _ hf
    · refine J_icmp_ge (tgt := 93) dX7_read_42 (by decide) (fun w => absurd w c1) (fun _ => ?_)
      refine J_iconst (v := 0) dX7_read_45 (by decide) ?_
      refine S_istore_n_3 dX7_read_46 rfl (by decide) ?_
      refine J.sub (jsub_s (jsub_n (jsub_s (jsub_s (jsub_nil _))))) ?_
      exact wlX7_read_47 hst _ hq39 _ _ _ _ _ _ _ hf
theorem wlX7_read_2 {g : JG} (hst : (jl g).stackTraces = false)   : ∀ (fuel : Nat) (a0 : Nat) (a1 : Nat) (x2 : Int32) (z : Nat) (h : AH) (o : Nat × AH), lX7_read_2  fuel a0 a1 x2 z h = some o → J g MX7_read (jN g (none, o.1, o.2) rmX7_read.cells rmX7_read.slots) 2 [some (.ref a0), some (.ref a1), some (.int x2), none] [] z h 0 0 := by
  intro fuel
  induction fuel with
  | zero => intro a0 a1 x2 z h o hf; cases hf
  | succ fuel ih =>
    intro a0 a1 x2 z h o hf
    have hq2 := ih
    have hf : lX7_read_2B  (lX7_read_2  fuel) a0 a1 x2 z h = some o := hf
    generalize lX7_read_2  fuel = q2 at hf hq2
    unfold lX7_read_2B at hf
    refine J_iload_n dX7_read_2 rfl rfl ?_
    refine J_bipush (v := 10) dX7_read_3 (by decide) ?_
    rcases br hf with ⟨c1, hf⟩ | ⟨c1, hf⟩
    · refine J_icmp_ge (tgt := 37) dX7_read_5 (by decide) (fun _ => ?_) (fun w => absurd c1 w)
      refine J_iconst (v := 0) dX7_read_37 (by decide) ?_
      refine S_istore_n_2 dX7_read_38 rfl (by decide) ?_
      refine J.sub (jsub_s (jsub_n (jsub_s (jsub_n (jsub_nil _))))) ?_
      exact wlX7_read_39 hst   _ _ _ _ _ _ hf
    · refine J_icmp_ge (tgt := 37) dX7_read_5 (by decide) (fun w => absurd w c1) (fun _ => ?_)
      refine J_aload_n dX7_read_8 rfl rfl ?_
      obtain ⟨k2, hf⟩ := gds hf
      obtain ⟨b3, rb3, hf⟩ := rfs hf
      refine G_7_0 dX7_read_9 tk_184 k2 rb3 ?_
      refine J_iload_n dX7_read_12 rfl rfl ?_
      refine J_aload_n dX7_read_13 rfl rfl ?_
      refine J_iload_n dX7_read_14 rfl rfl ?_
      obtain ⟨k4, hf⟩ := gds hf
      obtain ⟨vo5, zo5, ho5h, ho5, hf⟩ := rfs3 hf
      refine CV1i dX7_read_15 (mX0_waitsFor hst ho5) tk_296 iX0_waitsFor k4 (by decide) rfl ⟨by decide, by decide⟩ ⟨by decide, by decide⟩ (Nat.le_of_ble_eq_true rfl) ?_
      obtain ⟨k6, hf⟩ := gds hf
      obtain ⟨n7, hf⟩ := gds hf
      refine J_iastore dX7_read_18 k6 n7 ?_
      obtain ⟨h8, eh8, hf⟩ := bls hf
      refine J_h eh8 ?_
      refine J_aload_n dX7_read_19 rfl rfl ?_
      obtain ⟨k9, hf⟩ := gds hf
      obtain ⟨b10, rb10, hf⟩ := rfs hf
      refine G_7_1 dX7_read_20 tk_185 k9 rb10 ?_
      refine J_iload_n dX7_read_23 rfl rfl ?_
      refine J_aload_n dX7_read_24 rfl rfl ?_
      obtain ⟨b11, rb11, hf⟩ := rfs hf
      refine G_7_0 dX7_read_25 tk_184 k9 rb11 ?_
      refine J_iload_n dX7_read_28 rfl rfl ?_
      obtain ⟨k12, hf⟩ := gds hf
      obtain ⟨n13, hf⟩ := gds hf
      refine J_iaload dX7_read_29 k12 n13 ?_
      obtain ⟨k14, hf⟩ := gds hf
      obtain ⟨n15, hf⟩ := gds hf
      refine J_iastore dX7_read_30 k14 n15 ?_
      obtain ⟨h16, eh16, hf⟩ := bls hf
      refine J_h eh16 ?_
      refine S_iinc_2 (v := x2 + 1) dX7_read_31 (congrArg (fun w => x2 + w) (by decide)) rfl (by decide) ?_
      refine J_goto (tgt := 2) dX7_read_34 (by decide) ?_
      refine J.sub (jsub_s (jsub_s (jsub_s (jsub_n (jsub_nil _))))) ?_
      exact hq2 _ _ _ _ _ _ hf
theorem wfX7_read {g : JG} (hst : (jl g).stackTraces = false)   {a0 : Nat} {a1 : Nat} {z : Nat} {h : AH} {o : Nat × AH} (hf : fX7_read  a0 a1 z h = some o) : J g MX7_read (jN g (none, o.1, o.2) rmX7_read.cells rmX7_read.slots) 0 [some (.ref a0), some (.ref a1), none, none] [] z h 0 0 := by
  unfold fX7_read at hf
  refine J_iconst (v := 0) dX7_read_0 (by decide) ?_
  refine S_istore_n_2 dX7_read_1 rfl (by decide) ?_
  refine J.sub (jsub_s (jsub_s (jsub_s (jsub_n (jsub_nil _))))) ?_
  exact wlX7_read_2 hst   _ _ _ _ _ _ _ hf
theorem mX7_read {g : JG} (hst : (jl g).stackTraces = false) {a0 : Nat} {a1 : Nat} {z : Nat} {h : AH} {o : Nat × AH} (hf : fX7_read a0 a1 z h = some o) : jMet g yX7_read (wj yX7_read cX7_read 4 none) rmX7_read [.ref a0, .ref a1] z h (none, o.1, o.2) :=
  jMet_mk (by decide) (Nat.le_of_ble_eq_true rfl) [some (.ref a0), some (.ref a1), none, none] rfl (wfX7_read hst hf)
def fX7_of  (a0 : Nat) (x1 : Int32) (z : Nat) (h : AH) : Option (Int32 × Nat × AH) :=
  (if x1 < 0 then (some (0, z, h)) else ((if 10 ≤ x1 then (some (0, z, h)) else (gd (kd h a0 = 8) (Option.bind (rv h a0 0) (fun b4 => gd (kd h b4 = 13) (gd (¬ ((x1 : Int32) < 0 ∨ ln h b4 ≤ Int32.toNatClampNeg x1)) (some ((iv h b4 (Int32.toNatClampNeg x1)), z, h)))))))))
theorem wfX7_of {g : JG} (hst : (jl g).stackTraces = false)   {a0 : Nat} {x1 : Int32} {z : Nat} {h : AH} {o : Int32 × Nat × AH} (hf : fX7_of  a0 x1 z h = some o) : J g MX7_of (jN g (some (.int o.1), o.2.1, o.2.2) rmX7_of.cells rmX7_of.slots) 0 [some (.ref a0), some (.int x1)] [] z h 0 0 := by
  unfold fX7_of at hf
  refine J_iload_n dX7_of_0 rfl rfl ?_
  rcases br hf with ⟨c1, hf⟩ | ⟨c1, hf⟩
  · refine J_if_lt (tgt := 19) dX7_of_1 (by decide) (fun _ => ?_) (fun w => absurd c1 w)
    refine J_iconst (v := 0) dX7_of_19 (by decide) ?_
    cases hf
    exact J_iretN dX7_of_20 rfl (by decide) (by decide)
  · refine J_if_lt (tgt := 19) dX7_of_1 (by decide) (fun w => absurd w c1) (fun _ => ?_)
    refine J_iload_n dX7_of_4 rfl rfl ?_
    refine J_bipush (v := 10) dX7_of_5 (by decide) ?_
    rcases br hf with ⟨c2, hf⟩ | ⟨c2, hf⟩
    · refine J_icmp_ge (tgt := 19) dX7_of_7 (by decide) (fun _ => ?_) (fun w => absurd c2 w)
      refine J_iconst (v := 0) dX7_of_19 (by decide) ?_
      cases hf
      exact J_iretN dX7_of_20 rfl (by decide) (by decide)
    · refine J_icmp_ge (tgt := 19) dX7_of_7 (by decide) (fun w => absurd w c2) (fun _ => ?_)
      refine J_aload_n dX7_of_10 rfl rfl ?_
      obtain ⟨k3, hf⟩ := gds hf
      obtain ⟨b4, rb4, hf⟩ := rfs hf
      refine G_7_0 dX7_of_11 tk_184 k3 rb4 ?_
      refine J_iload_n dX7_of_14 rfl rfl ?_
      obtain ⟨k5, hf⟩ := gds hf
      obtain ⟨n6, hf⟩ := gds hf
      refine J_iaload dX7_of_15 k5 n6 ?_
      refine J_goto (tgt := 20) dX7_of_16 (by decide) ?_
      cases hf
      exact J_iretN dX7_of_20 rfl (by decide) (by decide)
theorem mX7_of {g : JG} (hst : (jl g).stackTraces = false) {a0 : Nat} {x1 : Int32} {z : Nat} {h : AH} {o : Int32 × Nat × AH} (hf : fX7_of a0 x1 z h = some o) : jMet g yX7_of (wj yX7_of cX7_of 2 (some .int)) rmX7_of [.ref a0, .int x1] z h (some (.int o.1), o.2.1, o.2.2) :=
  jMet_mk (by decide) (Nat.le_of_ble_eq_true rfl) [some (.ref a0), some (.int x1)] rfl (wfX7_of hst hf)
def bX7_follow_30 (q3 : Nat → Int64 → Int32 → Int32 → Int32 → Nat → AH → Option (Int32 × Nat × AH)) (a0 : Nat) (y1 : Int64) (x3 : Int32) (x4 : Int32) (x5 : Int32) (s0 : Int32) (z : Nat) (h : AH) : Option (Int32 × Nat × AH) :=
  bd3 (fX4_taskAt y1 x5 z h) (fun vo1 zo1 ho1h => gd (kd ho1h a0 = 8) (bd3 (fX7_of a0 vo1 zo1 ho1h) (fun vo3 zo3 ho3h => bd3 (fX8_inSet vo3 s0 zo3 ho3h) (fun vo4 zo4 ho4h => (if vo4 = 0 then (some (0, zo4, ho4h)) else (q3 a0 y1 x3 x4 (x5 + 1) zo4 ho4h))))))
def lX7_follow_3B  (q3 : Nat → Int64 → Int32 → Int32 → Int32 → Nat → AH → Option (Int32 × Nat × AH)) (a0 : Nat) (y1 : Int64) (x3 : Int32) (x4 : Int32) (x5 : Int32) (z : Nat) (h : AH) : Option (Int32 × Nat × AH) :=
  (if x3 ≤ x5 then (some (1, z, h)) else ((if x3 ≤ (x5 + 1) then (bX7_follow_30 q3 a0 y1 x3 x4 x5 x4 z h) else (bd3 (fX4_taskAt y1 (x5 + 1) z h) (fun vo3 zo3 ho3h => bX7_follow_30 q3 a0 y1 x3 x4 x5 vo3 zo3 ho3h)))))
def lX7_follow_3  : Nat → Nat → Int64 → Int32 → Int32 → Int32 → Nat → AH → Option (Int32 × Nat × AH)
  | 0 => fun _ _ _ _ _ _ _ => none
  | fuel + 1 => lX7_follow_3B  (lX7_follow_3  fuel)
def fX7_follow  (a0 : Nat) (y1 : Int64) (x3 : Int32) (x4 : Int32) (z : Nat) (h : AH) : Option (Int32 × Nat × AH) :=
  lX7_follow_3  fu a0 y1 x3 x4 0 z h
theorem wbX7_follow_30 {g : JG} (hst : (jl g).stackTraces = false) (q3 : Nat → Int64 → Int32 → Int32 → Int32 → Nat → AH → Option (Int32 × Nat × AH)) (hq3 : ∀ (a0 : Nat) (y1 : Int64) (x3 : Int32) (x4 : Int32) (x5 : Int32) (z : Nat) (h : AH) (o : Int32 × Nat × AH), q3 a0 y1 x3 x4 x5 z h = some o → J g MX7_follow (jN g (some (.int o.1), o.2.1, o.2.2) rmX7_follow.cells rmX7_follow.slots) 3 [some (.ref a0), some (.long y1), none, some (.int x3), some (.int x4), some (.int x5), none] [] z h 0 0) {a0 : Nat} {y1 : Int64} {x3 : Int32} {x4 : Int32} {x5 : Int32} {s0 : Int32} {z : Nat} {h : AH} {o : Int32 × Nat × AH} (hf : bX7_follow_30 q3 a0 y1 x3 x4 x5 s0 z h = some o) : J g MX7_follow (jN g (some (.int o.1), o.2.1, o.2.2) rmX7_follow.cells rmX7_follow.slots) 30 [some (.ref a0), some (.long y1), none, some (.int x3), some (.int x4), some (.int x5), none] [.int s0] z h 0 0 := by
  unfold bX7_follow_30 at hf
  refine S_istore_6 dX7_follow_30 rfl (by decide) ?_
  refine J_aload_n dX7_follow_32 rfl rfl ?_
  refine J_lload_n dX7_follow_33 rfl rfl ?_
  refine J_iload dX7_follow_34 rfl ?_
  obtain ⟨vo1, zo1, ho1h, ho1, hf⟩ := rfs3 hf
  refine CS2i (host := "") dX7_follow_36 (mX4_taskAt hst ho1) tk_819 iX4_taskAt ⟨by decide, by decide⟩ ⟨by decide, by decide⟩ (Nat.le_of_ble_eq_true rfl) ?_
  obtain ⟨k2, hf⟩ := gds hf
  obtain ⟨vo3, zo3, ho3h, ho3, hf⟩ := rfs3 hf
  refine CV1i dX7_follow_39 (mX7_of hst ho3) tk_820 iX7_of k2 (by decide) rfl ⟨by decide, by decide⟩ ⟨by decide, by decide⟩ (Nat.le_of_ble_eq_true rfl) ?_
  refine J_iload dX7_follow_42 rfl ?_
  obtain ⟨vo4, zo4, ho4h, ho4, hf⟩ := rfs3 hf
  refine CSN2i dX7_follow_44 (mX8_inSet hst ho4) tl_308 iX8_inSet ⟨by decide, by decide⟩ ⟨by decide, by decide⟩ (Nat.le_of_ble_eq_true rfl) ?_
  rcases br hf with ⟨c5, hf⟩ | ⟨c5, hf⟩
  · refine J_if_ne (tgt := 52) dX7_follow_47 (by decide) (fun w => absurd c5 w) (fun _ => ?_)
    refine J_iconst (v := 0) dX7_follow_50 (by decide) ?_
    cases hf
    exact J_zretN dX7_follow_51 rfl (Or.inl rfl) (by decide) (by decide)
  · refine J_if_ne (tgt := 52) dX7_follow_47 (by decide) (fun _ => ?_) (fun w => absurd w c5)
    refine S_iinc_5 (v := x5 + 1) dX7_follow_52 (congrArg (fun w => x5 + w) (by decide)) rfl (by decide) ?_
    refine J_goto (tgt := 3) dX7_follow_55 (by decide) ?_
    refine J.sub (jsub_s (jsub_s (jsub_n (jsub_s (jsub_s (jsub_s (jsub_n (jsub_nil _)))))))) ?_
    exact hq3 _ _ _ _ _ _ _ _ hf
theorem wlX7_follow_3 {g : JG} (hst : (jl g).stackTraces = false)   : ∀ (fuel : Nat) (a0 : Nat) (y1 : Int64) (x3 : Int32) (x4 : Int32) (x5 : Int32) (z : Nat) (h : AH) (o : Int32 × Nat × AH), lX7_follow_3  fuel a0 y1 x3 x4 x5 z h = some o → J g MX7_follow (jN g (some (.int o.1), o.2.1, o.2.2) rmX7_follow.cells rmX7_follow.slots) 3 [some (.ref a0), some (.long y1), none, some (.int x3), some (.int x4), some (.int x5), none] [] z h 0 0 := by
  intro fuel
  induction fuel with
  | zero => intro a0 y1 x3 x4 x5 z h o hf; cases hf
  | succ fuel ih =>
    intro a0 y1 x3 x4 x5 z h o hf
    have hq3 := ih
    have hf : lX7_follow_3B  (lX7_follow_3  fuel) a0 y1 x3 x4 x5 z h = some o := hf
    generalize lX7_follow_3  fuel = q3 at hf hq3
    unfold lX7_follow_3B at hf
    refine J_iload dX7_follow_3 rfl ?_
    refine J_iload_n dX7_follow_5 rfl rfl ?_
    rcases br hf with ⟨c1, hf⟩ | ⟨c1, hf⟩
    · refine J_icmp_ge (tgt := 58) dX7_follow_6 (by decide) (fun _ => ?_) (fun w => absurd c1 w)
      refine J_iconst (v := 1) dX7_follow_58 (by decide) ?_
      cases hf
      exact J_zretN dX7_follow_59 rfl (Or.inr rfl) (by decide) (by decide)
    · refine J_icmp_ge (tgt := 58) dX7_follow_6 (by decide) (fun w => absurd w c1) (fun _ => ?_)
      refine J_iload dX7_follow_9 rfl ?_
      refine J_iconst (v := 1) dX7_follow_11 (by decide) ?_
      refine J_iadd dX7_follow_12 ?_
      refine J_iload_n dX7_follow_13 rfl rfl ?_
      rcases br hf with ⟨c2, hf⟩ | ⟨c2, hf⟩
      · refine J_icmp_ge (tgt := 28) dX7_follow_14 (by decide) (fun _ => ?_) (fun w => absurd c2 w)
        refine J_iload dX7_follow_28 rfl ?_
        refine J.sub (jsub_s (jsub_s (jsub_n (jsub_s (jsub_s (jsub_s (jsub_n (jsub_nil _)))))))) ?_
        exact wbX7_follow_30 hst _ hq3 hf
      · refine J_icmp_ge (tgt := 28) dX7_follow_14 (by decide) (fun w => absurd w c2) (fun _ => ?_)
        refine J_lload_n dX7_follow_17 rfl rfl ?_
        refine J_iload dX7_follow_18 rfl ?_
        refine J_iconst (v := 1) dX7_follow_20 (by decide) ?_
        refine J_iadd dX7_follow_21 ?_
        obtain ⟨vo3, zo3, ho3h, ho3, hf⟩ := rfs3 hf
        refine CS2i (host := "") dX7_follow_22 (mX4_taskAt hst ho3) tk_819 iX4_taskAt ⟨by decide, by decide⟩ ⟨by decide, by decide⟩ (Nat.le_of_ble_eq_true rfl) ?_
        refine J_goto (tgt := 30) dX7_follow_25 (by decide) ?_
        refine J.sub (jsub_s (jsub_s (jsub_n (jsub_s (jsub_s (jsub_s (jsub_n (jsub_nil _)))))))) ?_
        exact wbX7_follow_30 hst _ hq3 hf
theorem wfX7_follow {g : JG} (hst : (jl g).stackTraces = false)   {a0 : Nat} {y1 : Int64} {x3 : Int32} {x4 : Int32} {z : Nat} {h : AH} {o : Int32 × Nat × AH} (hf : fX7_follow  a0 y1 x3 x4 z h = some o) : J g MX7_follow (jN g (some (.int o.1), o.2.1, o.2.2) rmX7_follow.cells rmX7_follow.slots) 0 [some (.ref a0), some (.long y1), none, some (.int x3), some (.int x4), none, none] [] z h 0 0 := by
  unfold fX7_follow at hf
  refine J_iconst (v := 0) dX7_follow_0 (by decide) ?_
  refine S_istore_5 dX7_follow_1 rfl (by decide) ?_
  refine J.sub (jsub_s (jsub_s (jsub_n (jsub_s (jsub_s (jsub_s (jsub_n (jsub_nil _)))))))) ?_
  exact wlX7_follow_3 hst   _ _ _ _ _ _ _ _ _ hf
theorem mX7_follow {g : JG} (hst : (jl g).stackTraces = false) {a0 : Nat} {y1 : Int64} {x3 : Int32} {x4 : Int32} {z : Nat} {h : AH} {o : Int32 × Nat × AH} (hf : fX7_follow a0 y1 x3 x4 z h = some o) : jMet g yX7_follow (wj yX7_follow cX7_follow 7 (some .boolean)) rmX7_follow [.ref a0, .long y1, .int x3, .int x4] z h (some (.int o.1), o.2.1, o.2.2) :=
  jMet_mk (by decide) (Nat.le_of_ble_eq_true rfl) [some (.ref a0), some (.long y1), none, some (.int x3), some (.int x4), none, none] rfl (wfX7_follow hst hf)
def fX7_init  (a0 : Nat) (z : Nat) (h : AH) : Option (Nat × AH) :=
  bl (wNew h z 13 10) (fun h1 => gd (kd h1 a0 = 8) (bl (wR h1 a0 0 (some z)) (fun h4 => bl (wNew h4 (z + 1) 13 10) (fun h5 => gd (kd h5 a0 = 8) (bl (wR h5 a0 1 (some (z + 1))) (fun h8 => some (((z + 1) + 1), h8)))))))
theorem wfX7_init {g : JG} (hst : (jl g).stackTraces = false)   {a0 : Nat} {z : Nat} {h : AH} {o : Nat × AH} (hf : fX7_init  a0 z h = some o) : J g MX7_init (jN g (none, o.1, o.2) rmX7_init.cells rmX7_init.slots) 0 [some (.ref a0)] [] z h 0 0 := by
  unfold fX7_init at hf
  refine J_aload_n dX7_init_0 rfl rfl ?_
  refine J_objInit dX7_init_1 tk_183 tk_25 tk_26 (by decide) (Nat.le_of_ble_eq_true rfl) ?_
  refine J_aload_n dX7_init_4 rfl rfl ?_
  refine J_bipush (v := 10) dX7_init_5 (by decide) ?_
  refine J_newarr (ty := .int) (N := 10) (t := 2) (kk0 := 13) dX7_init_7 rfl tk_58 (by decide) (by decide) (by decide) (fun _ => rfl) (fun _ _ hh => hh) (fun ca => ⟨_, rfl, rfl⟩) (by decide) (by decide) ?_
  obtain ⟨h1, eh1, hf⟩ := bls hf
  refine J_h eh1 ?_
  have k2 : kd h1 z = 13 := by rw [eh1]; exact wNew_kd _ _ _ _
  obtain ⟨k3, hf⟩ := gds hf
  refine P_7_0 dX7_init_9 tk_184 k3 rfl rfl ?_
  obtain ⟨h4, eh4, hf⟩ := bls hf
  refine J_h eh4 ?_
  refine J_aload_n dX7_init_12 rfl rfl ?_
  refine J_bipush (v := 10) dX7_init_13 (by decide) ?_
  refine J_newarr (ty := .int) (N := 10) (t := 2) (kk0 := 13) dX7_init_15 rfl tk_58 (by decide) (by decide) (by decide) (fun _ => rfl) (fun _ _ hh => hh) (fun ca => ⟨_, rfl, rfl⟩) (by decide) (by decide) ?_
  obtain ⟨h5, eh5, hf⟩ := bls hf
  refine J_h eh5 ?_
  have k6 : kd h5 (z + 1) = 13 := by rw [eh5]; exact wNew_kd _ _ _ _
  obtain ⟨k7, hf⟩ := gds hf
  refine P_7_1 dX7_init_17 tk_185 k7 rfl rfl ?_
  obtain ⟨h8, eh8, hf⟩ := bls hf
  refine J_h eh8 ?_
  cases hf
  exact J_vretN dX7_init_20 rfl (by decide) (by decide)
theorem mX7_init {g : JG} (hst : (jl g).stackTraces = false) {a0 : Nat} {z : Nat} {h : AH} {o : Nat × AH} (hf : fX7_init a0 z h = some o) : jMet g yX7_init (wj yX7_init cX7_init 1 none) rmX7_init [.ref a0] z h (none, o.1, o.2) :=
  jMet_mk (by decide) (Nat.le_of_ble_eq_true rfl) [some (.ref a0)] rfl (wfX7_init hst hf)
def fX3_init  (a0 : Nat) (z : Nat) (h : AH) : Option (Nat × AH) :=
  bl (wNew h z 15 5) (fun h1 => gd (kd h1 a0 = 4) (bl (wR h1 a0 0 (some z)) (fun h4 => some ((z + 1), h4))))
theorem wfX3_init {g : JG} (hst : (jl g).stackTraces = false)   {a0 : Nat} {z : Nat} {h : AH} {o : Nat × AH} (hf : fX3_init  a0 z h = some o) : J g MX3_init (jN g (none, o.1, o.2) rmX3_init.cells rmX3_init.slots) 0 [some (.ref a0)] [] z h 0 0 := by
  unfold fX3_init at hf
  refine J_aload_n dX3_init_0 rfl rfl ?_
  refine J_objInit dX3_init_1 tk_220 tk_25 tk_26 (by decide) (Nat.le_of_ble_eq_true rfl) ?_
  refine J_aload_n dX3_init_4 rfl rfl ?_
  refine J_iconst (v := 5) dX3_init_5 (by decide) ?_
  refine J_anew (N := 5) dX3_init_6 tk_221 (by decide) (by decide) (by decide) (by decide) (by decide) ?_
  obtain ⟨h1, eh1, hf⟩ := bls hf
  refine J_h eh1 ?_
  have k2 : kd h1 z = 15 := by rw [eh1]; exact wNew_kd _ _ _ _
  obtain ⟨k3, hf⟩ := gds hf
  refine P_3_0 dX3_init_9 tk_223 k3 rfl rfl ?_
  obtain ⟨h4, eh4, hf⟩ := bls hf
  refine J_h eh4 ?_
  cases hf
  exact J_vretN dX3_init_12 rfl (by decide) (by decide)
theorem mX3_init {g : JG} (hst : (jl g).stackTraces = false) {a0 : Nat} {z : Nat} {h : AH} {o : Nat × AH} (hf : fX3_init a0 z h = some o) : jMet g yX3_init (wj yX3_init cX3_init 1 none) rmX3_init [.ref a0] z h (none, o.1, o.2) :=
  jMet_mk (by decide) (Nat.le_of_ble_eq_true rfl) [some (.ref a0)] rfl (wfX3_init hst hf)
def bX7_leadingToRings_30 (q4 : Nat → Int32 → Int32 → Nat → AH → Option (Int32 × Nat × AH)) (a0 : Nat) (x1 : Int32) (x2 : Int32) (z : Nat) (h : AH) : Option (Int32 × Nat × AH) :=
  q4 a0 x1 (x2 + 1) z h
def lX7_leadingToRings_4B  (q4 : Nat → Int32 → Int32 → Nat → AH → Option (Int32 × Nat × AH)) (a0 : Nat) (x1 : Int32) (x2 : Int32) (z : Nat) (h : AH) : Option (Int32 × Nat × AH) :=
  (if 10 ≤ x2 then (some (x1, z, h)) else (gd (kd h a0 = 8) (Option.bind (rv h a0 1) (fun b3 => gd (kd h b3 = 13) (gd (¬ ((x2 : Int32) < 0 ∨ ln h b3 ≤ Int32.toNatClampNeg x2)) ((if ((iv h b3 (Int32.toNatClampNeg x2)) &&& (iv h a0 2)) = 0 then (bX7_leadingToRings_30 q4 a0 x1 x2 z h) else (bl ((x1 ||| (1 <<< (x2 &&& 31)))) (fun v7 => bX7_leadingToRings_30 q4 a0 v7 x2 z h)))))))))
def lX7_leadingToRings_4  : Nat → Nat → Int32 → Int32 → Nat → AH → Option (Int32 × Nat × AH)
  | 0 => fun _ _ _ _ _ => none
  | fuel + 1 => lX7_leadingToRings_4B  (lX7_leadingToRings_4  fuel)
def fX7_leadingToRings  (a0 : Nat) (z : Nat) (h : AH) : Option (Int32 × Nat × AH) :=
  lX7_leadingToRings_4  fu a0 0 0 z h
theorem wbX7_leadingToRings_30 {g : JG} (hst : (jl g).stackTraces = false) (q4 : Nat → Int32 → Int32 → Nat → AH → Option (Int32 × Nat × AH)) (hq4 : ∀ (a0 : Nat) (x1 : Int32) (x2 : Int32) (z : Nat) (h : AH) (o : Int32 × Nat × AH), q4 a0 x1 x2 z h = some o → J g MX7_leadingToRings (jN g (some (.int o.1), o.2.1, o.2.2) rmX7_leadingToRings.cells rmX7_leadingToRings.slots) 4 [some (.ref a0), some (.int x1), some (.int x2)] [] z h 0 0) {a0 : Nat} {x1 : Int32} {x2 : Int32} {z : Nat} {h : AH} {o : Int32 × Nat × AH} (hf : bX7_leadingToRings_30 q4 a0 x1 x2 z h = some o) : J g MX7_leadingToRings (jN g (some (.int o.1), o.2.1, o.2.2) rmX7_leadingToRings.cells rmX7_leadingToRings.slots) 30 [some (.ref a0), some (.int x1), some (.int x2)] [] z h 0 0 := by
  unfold bX7_leadingToRings_30 at hf
  refine S_iinc_2 (v := x2 + 1) dX7_leadingToRings_30 (congrArg (fun w => x2 + w) (by decide)) rfl (by decide) ?_
  refine J_goto (tgt := 4) dX7_leadingToRings_33 (by decide) ?_
  refine J.sub (jsub_s (jsub_s (jsub_s (jsub_nil _)))) ?_
  exact hq4 _ _ _ _ _ _ hf
theorem wlX7_leadingToRings_4 {g : JG} (hst : (jl g).stackTraces = false)   : ∀ (fuel : Nat) (a0 : Nat) (x1 : Int32) (x2 : Int32) (z : Nat) (h : AH) (o : Int32 × Nat × AH), lX7_leadingToRings_4  fuel a0 x1 x2 z h = some o → J g MX7_leadingToRings (jN g (some (.int o.1), o.2.1, o.2.2) rmX7_leadingToRings.cells rmX7_leadingToRings.slots) 4 [some (.ref a0), some (.int x1), some (.int x2)] [] z h 0 0 := by
  intro fuel
  induction fuel with
  | zero => intro a0 x1 x2 z h o hf; cases hf
  | succ fuel ih =>
    intro a0 x1 x2 z h o hf
    have hq4 := ih
    have hf : lX7_leadingToRings_4B  (lX7_leadingToRings_4  fuel) a0 x1 x2 z h = some o := hf
    generalize lX7_leadingToRings_4  fuel = q4 at hf hq4
    unfold lX7_leadingToRings_4B at hf
    refine J_iload_n dX7_leadingToRings_4 rfl rfl ?_
    refine J_bipush (v := 10) dX7_leadingToRings_5 (by decide) ?_
    rcases br hf with ⟨c1, hf⟩ | ⟨c1, hf⟩
    · refine J_icmp_ge (tgt := 36) dX7_leadingToRings_7 (by decide) (fun _ => ?_) (fun w => absurd c1 w)
      refine J_iload_n dX7_leadingToRings_36 rfl rfl ?_
      cases hf
      exact J_iretN dX7_leadingToRings_37 rfl (by decide) (by decide)
    · refine J_icmp_ge (tgt := 36) dX7_leadingToRings_7 (by decide) (fun w => absurd w c1) (fun _ => ?_)
      refine J_aload_n dX7_leadingToRings_10 rfl rfl ?_
      obtain ⟨k2, hf⟩ := gds hf
      obtain ⟨b3, rb3, hf⟩ := rfs hf
      refine G_7_1 dX7_leadingToRings_11 tk_185 k2 rb3 ?_
      refine J_iload_n dX7_leadingToRings_14 rfl rfl ?_
      obtain ⟨k4, hf⟩ := gds hf
      obtain ⟨n5, hf⟩ := gds hf
      refine J_iaload dX7_leadingToRings_15 k4 n5 ?_
      refine J_aload_n dX7_leadingToRings_16 rfl rfl ?_
      refine G_7_2 dX7_leadingToRings_17 tk_186 k2 ?_
      refine J_iand dX7_leadingToRings_20 ?_
      rcases br hf with ⟨c6, hf⟩ | ⟨c6, hf⟩
      · refine J_if_eq (tgt := 30) dX7_leadingToRings_21 (by decide) (fun _ => ?_) (fun w => absurd c6 w)
        refine J.sub (jsub_s (jsub_s (jsub_s (jsub_nil _)))) ?_
        exact wbX7_leadingToRings_30 hst _ hq4 hf
      · refine J_if_eq (tgt := 30) dX7_leadingToRings_21 (by decide) (fun w => absurd w c6) (fun _ => ?_)
        refine J_iload_n dX7_leadingToRings_24 rfl rfl ?_
        refine J_iconst (v := 1) dX7_leadingToRings_25 (by decide) ?_
        refine J_iload_n dX7_leadingToRings_26 rfl rfl ?_
        refine J_ishl dX7_leadingToRings_27 ?_
        refine J_ior dX7_leadingToRings_28 ?_
        obtain ⟨v7, ev7, hf⟩ := bls hf
        refine J_i ev7 ?_
        refine S_istore_n_1 dX7_leadingToRings_29 rfl (by decide) ?_
        refine J.sub (jsub_s (jsub_s (jsub_s (jsub_nil _)))) ?_
        exact wbX7_leadingToRings_30 hst _ hq4 hf
theorem wfX7_leadingToRings {g : JG} (hst : (jl g).stackTraces = false)   {a0 : Nat} {z : Nat} {h : AH} {o : Int32 × Nat × AH} (hf : fX7_leadingToRings  a0 z h = some o) : J g MX7_leadingToRings (jN g (some (.int o.1), o.2.1, o.2.2) rmX7_leadingToRings.cells rmX7_leadingToRings.slots) 0 [some (.ref a0), none, none] [] z h 0 0 := by
  unfold fX7_leadingToRings at hf
  refine J_iconst (v := 0) dX7_leadingToRings_0 (by decide) ?_
  refine S_istore_n_1 dX7_leadingToRings_1 rfl (by decide) ?_
  refine J_iconst (v := 0) dX7_leadingToRings_2 (by decide) ?_
  refine S_istore_n_2 dX7_leadingToRings_3 rfl (by decide) ?_
  refine J.sub (jsub_s (jsub_s (jsub_s (jsub_nil _)))) ?_
  exact wlX7_leadingToRings_4 hst   _ _ _ _ _ _ _ hf
theorem mX7_leadingToRings {g : JG} (hst : (jl g).stackTraces = false) {a0 : Nat} {z : Nat} {h : AH} {o : Int32 × Nat × AH} (hf : fX7_leadingToRings a0 z h = some o) : jMet g yX7_leadingToRings (wj yX7_leadingToRings cX7_leadingToRings 3 (some .int)) rmX7_leadingToRings [.ref a0] z h (some (.int o.1), o.2.1, o.2.2) :=
  jMet_mk (by decide) (Nat.le_of_ble_eq_true rfl) [some (.ref a0), none, none] rfl (wfX7_leadingToRings hst hf)
def bX7_shortestRing_58 (q30 : Nat → Int32 → Int32 → Int32 → Int32 → Int32 → Nat → AH → Option (Int32 × Nat × AH)) (a0 : Nat) (x1 : Int32) (x2 : Int32) (x3 : Int32) (x4 : Int32) (x5 : Int32) (z : Nat) (h : AH) : Option (Int32 × Nat × AH) :=
  q30 a0 x1 x2 x3 x4 (x5 + 1) z h
def lX7_shortestRing_30B (q8 : Nat → Int32 → Int32 → Int32 → Nat → AH → Option (Int32 × Nat × AH)) (q30 : Nat → Int32 → Int32 → Int32 → Int32 → Int32 → Nat → AH → Option (Int32 × Nat × AH)) (a0 : Nat) (x1 : Int32) (x2 : Int32) (x3 : Int32) (x4 : Int32) (x5 : Int32) (z : Nat) (h : AH) : Option (Int32 × Nat × AH) :=
  (if 10 ≤ x5 then (q8 a0 x1 x4 (x3 + 1) z h) else (bd3 (fX8_inSet x2 x5 z h) (fun vo2 zo2 ho2h => (if vo2 = 0 then (bX7_shortestRing_58 q30 a0 x1 x2 x3 x4 x5 zo2 ho2h) else (gd (kd ho2h a0 = 8) (Option.bind (rv ho2h a0 0) (fun b5 => gd (kd ho2h b5 = 13) (gd (¬ ((x5 : Int32) < 0 ∨ ln ho2h b5 ≤ Int32.toNatClampNeg x5)) (bl ((x4 ||| (iv ho2h b5 (Int32.toNatClampNeg x5)))) (fun v8 => bX7_shortestRing_58 q30 a0 x1 x2 x3 v8 x5 zo2 ho2h))))))))))
def lX7_shortestRing_30 (q8 : Nat → Int32 → Int32 → Int32 → Nat → AH → Option (Int32 × Nat × AH)) : Nat → Nat → Int32 → Int32 → Int32 → Int32 → Int32 → Nat → AH → Option (Int32 × Nat × AH)
  | 0 => fun _ _ _ _ _ _ _ _ => none
  | fuel + 1 => lX7_shortestRing_30B q8 (lX7_shortestRing_30 q8 fuel)
def lX7_shortestRing_8B  (q8 : Nat → Int32 → Int32 → Int32 → Nat → AH → Option (Int32 × Nat × AH)) (a0 : Nat) (x1 : Int32) (x2 : Int32) (x3 : Int32) (z : Nat) (h : AH) : Option (Int32 × Nat × AH) :=
  (if 10 < x3 then (some ((-1), z, h)) else (bd3 (fX8_inSet x2 x1 z h) (fun vo2 zo2 ho2h => (if vo2 = 0 then (lX7_shortestRing_30 q8 fu a0 x1 x2 x3 0 0 zo2 ho2h) else (some (x3, zo2, ho2h))))))
def lX7_shortestRing_8  : Nat → Nat → Int32 → Int32 → Int32 → Nat → AH → Option (Int32 × Nat × AH)
  | 0 => fun _ _ _ _ _ _ => none
  | fuel + 1 => lX7_shortestRing_8B  (lX7_shortestRing_8  fuel)
def fX7_shortestRing  (a0 : Nat) (x1 : Int32) (z : Nat) (h : AH) : Option (Int32 × Nat × AH) :=
  gd (kd h a0 = 8) (bd3 (fX7_of a0 x1 z h) (fun vo2 zo2 ho2h => lX7_shortestRing_8  fu a0 x1 vo2 1 zo2 ho2h))
theorem wbX7_shortestRing_58 {g : JG} (hst : (jl g).stackTraces = false) (q30 : Nat → Int32 → Int32 → Int32 → Int32 → Int32 → Nat → AH → Option (Int32 × Nat × AH)) (hq30 : ∀ (a0 : Nat) (x1 : Int32) (x2 : Int32) (x3 : Int32) (x4 : Int32) (x5 : Int32) (z : Nat) (h : AH) (o : Int32 × Nat × AH), q30 a0 x1 x2 x3 x4 x5 z h = some o → J g MX7_shortestRing (jN g (some (.int o.1), o.2.1, o.2.2) rmX7_shortestRing.cells rmX7_shortestRing.slots) 30 [some (.ref a0), some (.int x1), some (.int x2), some (.int x3), some (.int x4), some (.int x5)] [] z h 0 0) {a0 : Nat} {x1 : Int32} {x2 : Int32} {x3 : Int32} {x4 : Int32} {x5 : Int32} {z : Nat} {h : AH} {o : Int32 × Nat × AH} (hf : bX7_shortestRing_58 q30 a0 x1 x2 x3 x4 x5 z h = some o) : J g MX7_shortestRing (jN g (some (.int o.1), o.2.1, o.2.2) rmX7_shortestRing.cells rmX7_shortestRing.slots) 58 [some (.ref a0), some (.int x1), some (.int x2), some (.int x3), some (.int x4), some (.int x5)] [] z h 0 0 := by
  unfold bX7_shortestRing_58 at hf
  refine S_iinc_5 (v := x5 + 1) dX7_shortestRing_58 (congrArg (fun w => x5 + w) (by decide)) rfl (by decide) ?_
  refine J_goto (tgt := 30) dX7_shortestRing_61 (by decide) ?_
  refine J.sub (jsub_s (jsub_s (jsub_s (jsub_s (jsub_s (jsub_s (jsub_nil _))))))) ?_
  exact hq30 _ _ _ _ _ _ _ _ _ hf
theorem wlX7_shortestRing_30 {g : JG} (hst : (jl g).stackTraces = false) (q8 : Nat → Int32 → Int32 → Int32 → Nat → AH → Option (Int32 × Nat × AH)) (hq8 : ∀ (a0 : Nat) (x1 : Int32) (x2 : Int32) (x3 : Int32) (z : Nat) (h : AH) (o : Int32 × Nat × AH), q8 a0 x1 x2 x3 z h = some o → J g MX7_shortestRing (jN g (some (.int o.1), o.2.1, o.2.2) rmX7_shortestRing.cells rmX7_shortestRing.slots) 8 [some (.ref a0), some (.int x1), some (.int x2), some (.int x3), none, none] [] z h 0 0) : ∀ (fuel : Nat) (a0 : Nat) (x1 : Int32) (x2 : Int32) (x3 : Int32) (x4 : Int32) (x5 : Int32) (z : Nat) (h : AH) (o : Int32 × Nat × AH), lX7_shortestRing_30 q8 fuel a0 x1 x2 x3 x4 x5 z h = some o → J g MX7_shortestRing (jN g (some (.int o.1), o.2.1, o.2.2) rmX7_shortestRing.cells rmX7_shortestRing.slots) 30 [some (.ref a0), some (.int x1), some (.int x2), some (.int x3), some (.int x4), some (.int x5)] [] z h 0 0 := by
  intro fuel
  induction fuel with
  | zero => intro a0 x1 x2 x3 x4 x5 z h o hf; cases hf
  | succ fuel ih =>
    intro a0 x1 x2 x3 x4 x5 z h o hf
    have hq30 := ih
    have hf : lX7_shortestRing_30B q8 (lX7_shortestRing_30 q8 fuel) a0 x1 x2 x3 x4 x5 z h = some o := hf
    generalize lX7_shortestRing_30 q8 fuel = q30 at hf hq30
    unfold lX7_shortestRing_30B at hf
    refine J_iload dX7_shortestRing_30 rfl ?_
    refine J_bipush (v := 10) dX7_shortestRing_32 (by decide) ?_
    rcases br hf with ⟨c1, hf⟩ | ⟨c1, hf⟩
    · refine J_icmp_ge (tgt := 64) dX7_shortestRing_34 (by decide) (fun _ => ?_) (fun w => absurd c1 w)
      refine J_iload dX7_shortestRing_64 rfl ?_
      refine S_istore_n_2 dX7_shortestRing_66 rfl (by decide) ?_
      refine S_iinc_3 (v := x3 + 1) dX7_shortestRing_67 (congrArg (fun w => x3 + w) (by decide)) rfl (by decide) ?_
      refine J_goto (tgt := 8) dX7_shortestRing_70 (by decide) ?_
      refine J.sub (jsub_s (jsub_s (jsub_s (jsub_s (jsub_n (jsub_n (jsub_nil _))))))) ?_
      exact hq8 _ _ _ _ _ _ _ hf
    · refine J_icmp_ge (tgt := 64) dX7_shortestRing_34 (by decide) (fun w => absurd w c1) (fun _ => ?_)
      refine J_iload_n dX7_shortestRing_37 rfl rfl ?_
      refine J_iload dX7_shortestRing_38 rfl ?_
      obtain ⟨vo2, zo2, ho2h, ho2, hf⟩ := rfs3 hf
      refine CSN2i dX7_shortestRing_40 (mX8_inSet hst ho2) tl_308 iX8_inSet ⟨by decide, by decide⟩ ⟨by decide, by decide⟩ (Nat.le_of_ble_eq_true rfl) ?_
      rcases br hf with ⟨c3, hf⟩ | ⟨c3, hf⟩
      · refine J_if_eq (tgt := 58) dX7_shortestRing_43 (by decide) (fun _ => ?_) (fun w => absurd c3 w)
        refine J.sub (jsub_s (jsub_s (jsub_s (jsub_s (jsub_s (jsub_s (jsub_nil _))))))) ?_
        exact wbX7_shortestRing_58 hst _ hq30 hf
      · refine J_if_eq (tgt := 58) dX7_shortestRing_43 (by decide) (fun w => absurd w c3) (fun _ => ?_)
        refine J_iload dX7_shortestRing_46 rfl ?_
        refine J_aload_n dX7_shortestRing_48 rfl rfl ?_
        obtain ⟨k4, hf⟩ := gds hf
        obtain ⟨b5, rb5, hf⟩ := rfs hf
        refine G_7_0 dX7_shortestRing_49 tk_184 k4 rb5 ?_
        refine J_iload dX7_shortestRing_52 rfl ?_
        obtain ⟨k6, hf⟩ := gds hf
        obtain ⟨n7, hf⟩ := gds hf
        refine J_iaload dX7_shortestRing_54 k6 n7 ?_
        refine J_ior dX7_shortestRing_55 ?_
        obtain ⟨v8, ev8, hf⟩ := bls hf
        refine J_i ev8 ?_
        refine S_istore_4 dX7_shortestRing_56 rfl (by decide) ?_
        refine J.sub (jsub_s (jsub_s (jsub_s (jsub_s (jsub_s (jsub_s (jsub_nil _))))))) ?_
        exact wbX7_shortestRing_58 hst _ hq30 hf
theorem wlX7_shortestRing_8 {g : JG} (hst : (jl g).stackTraces = false)   : ∀ (fuel : Nat) (a0 : Nat) (x1 : Int32) (x2 : Int32) (x3 : Int32) (z : Nat) (h : AH) (o : Int32 × Nat × AH), lX7_shortestRing_8  fuel a0 x1 x2 x3 z h = some o → J g MX7_shortestRing (jN g (some (.int o.1), o.2.1, o.2.2) rmX7_shortestRing.cells rmX7_shortestRing.slots) 8 [some (.ref a0), some (.int x1), some (.int x2), some (.int x3), none, none] [] z h 0 0 := by
  intro fuel
  induction fuel with
  | zero => intro a0 x1 x2 x3 z h o hf; cases hf
  | succ fuel ih =>
    intro a0 x1 x2 x3 z h o hf
    have hq8 := ih
    have hf : lX7_shortestRing_8B  (lX7_shortestRing_8  fuel) a0 x1 x2 x3 z h = some o := hf
    generalize lX7_shortestRing_8  fuel = q8 at hf hq8
    unfold lX7_shortestRing_8B at hf
    refine J_iload_n dX7_shortestRing_8 rfl rfl ?_
    refine J_bipush (v := 10) dX7_shortestRing_9 (by decide) ?_
    rcases br hf with ⟨c1, hf⟩ | ⟨c1, hf⟩
    · refine J_icmp_gt (tgt := 73) dX7_shortestRing_11 (by decide) (fun _ => ?_) (fun w => absurd c1 w)
      refine J_iconst (v := (-1)) dX7_shortestRing_73 (by decide) ?_
      cases hf
      exact J_iretN dX7_shortestRing_74 rfl (by decide) (by decide)
    · refine J_icmp_gt (tgt := 73) dX7_shortestRing_11 (by decide) (fun w => absurd w c1) (fun _ => ?_)
      refine J_iload_n dX7_shortestRing_14 rfl rfl ?_
      refine J_iload_n dX7_shortestRing_15 rfl rfl ?_
      obtain ⟨vo2, zo2, ho2h, ho2, hf⟩ := rfs3 hf
      refine CSN2i dX7_shortestRing_16 (mX8_inSet hst ho2) tl_308 iX8_inSet ⟨by decide, by decide⟩ ⟨by decide, by decide⟩ (Nat.le_of_ble_eq_true rfl) ?_
      rcases br hf with ⟨c3, hf⟩ | ⟨c3, hf⟩
      · refine J_if_eq (tgt := 24) dX7_shortestRing_19 (by decide) (fun _ => ?_) (fun w => absurd c3 w)
        refine J_iconst (v := 0) dX7_shortestRing_24 (by decide) ?_
        refine S_istore_4 dX7_shortestRing_25 rfl (by decide) ?_
        refine J_iconst (v := 0) dX7_shortestRing_27 (by decide) ?_
        refine S_istore_5 dX7_shortestRing_28 rfl (by decide) ?_
        refine J.sub (jsub_s (jsub_s (jsub_s (jsub_s (jsub_s (jsub_s (jsub_nil _))))))) ?_
        exact wlX7_shortestRing_30 hst _ hq8 _ _ _ _ _ _ _ _ _ _ hf
      · refine J_if_eq (tgt := 24) dX7_shortestRing_19 (by decide) (fun w => absurd w c3) (fun _ => ?_)
        refine J_iload_n dX7_shortestRing_22 rfl rfl ?_
        cases hf
        exact J_iretN dX7_shortestRing_23 rfl (by decide) (by decide)
theorem wfX7_shortestRing {g : JG} (hst : (jl g).stackTraces = false)   {a0 : Nat} {x1 : Int32} {z : Nat} {h : AH} {o : Int32 × Nat × AH} (hf : fX7_shortestRing  a0 x1 z h = some o) : J g MX7_shortestRing (jN g (some (.int o.1), o.2.1, o.2.2) rmX7_shortestRing.cells rmX7_shortestRing.slots) 0 [some (.ref a0), some (.int x1), none, none, none, none] [] z h 0 0 := by
  unfold fX7_shortestRing at hf
  refine J_aload_n dX7_shortestRing_0 rfl rfl ?_
  refine J_iload_n dX7_shortestRing_1 rfl rfl ?_
  obtain ⟨k1, hf⟩ := gds hf
  obtain ⟨vo2, zo2, ho2h, ho2, hf⟩ := rfs3 hf
  refine CV1i dX7_shortestRing_2 (mX7_of hst ho2) tk_820 iX7_of k1 (by decide) rfl ⟨by decide, by decide⟩ ⟨by decide, by decide⟩ (Nat.le_of_ble_eq_true rfl) ?_
  refine S_istore_n_2 dX7_shortestRing_5 rfl (by decide) ?_
  refine J_iconst (v := 1) dX7_shortestRing_6 (by decide) ?_
  refine S_istore_n_3 dX7_shortestRing_7 rfl (by decide) ?_
  refine J.sub (jsub_s (jsub_s (jsub_s (jsub_s (jsub_n (jsub_n (jsub_nil _))))))) ?_
  exact wlX7_shortestRing_8 hst   _ _ _ _ _ _ _ _ hf
theorem mX7_shortestRing {g : JG} (hst : (jl g).stackTraces = false) {a0 : Nat} {x1 : Int32} {z : Nat} {h : AH} {o : Int32 × Nat × AH} (hf : fX7_shortestRing a0 x1 z h = some o) : jMet g yX7_shortestRing (wj yX7_shortestRing cX7_shortestRing 6 (some .int)) rmX7_shortestRing [.ref a0, .int x1] z h (some (.int o.1), o.2.1, o.2.2) :=
  jMet_mk (by decide) (Nat.le_of_ble_eq_true rfl) [some (.ref a0), some (.int x1), none, none, none, none] rfl (wfX7_shortestRing hst hf)
def bX7_extend_42 (q3 : Nat → Int32 → Int32 → Int32 → Int32 → Nat → AH → Option (Nat × AH)) (a1 : Nat) (x2 : Int32) (x3 : Int32) (x4 : Int32) (x5 : Int32) (z : Nat) (h : AH) : Option (Nat × AH) :=
  q3 a1 x2 x3 x4 (x5 + 1) z h
def lX7_extend_3B  (q3 : Nat → Int32 → Int32 → Int32 → Int32 → Nat → AH → Option (Nat × AH)) (a1 : Nat) (x2 : Int32) (x3 : Int32) (x4 : Int32) (x5 : Int32) (z : Nat) (h : AH) : Option (Nat × AH) :=
  (if 9 ≤ x5 then (some (z, h)) else (bd3 (fX8_inSet (x3 &&& (x2 ^^^ (-1))) x5 z h) (fun vo2 zo2 ho2h => (if vo2 = 0 then (bX7_extend_42 q3 a1 x2 x3 x4 x5 zo2 ho2h) else (gd (kd ho2h a1 = 13) (gd (¬ (((((x2 ||| (1 <<< (x5 &&& 31))) * 9) + x5) : Int32) < 0 ∨ ln ho2h a1 ≤ Int32.toNatClampNeg (((x2 ||| (1 <<< (x5 &&& 31))) * 9) + x5))) (gd (¬ (((((x2 ||| (1 <<< (x5 &&& 31))) * 9) + x5) : Int32) < 0 ∨ ln ho2h a1 ≤ Int32.toNatClampNeg (((x2 ||| (1 <<< (x5 &&& 31))) * 9) + x5))) (bl (wI ho2h a1 (Int32.toNatClampNeg (((x2 ||| (1 <<< (x5 &&& 31))) * 9) + x5)) ((iv ho2h a1 (Int32.toNatClampNeg (((x2 ||| (1 <<< (x5 &&& 31))) * 9) + x5))) + x4)) (fun h7 => bX7_extend_42 q3 a1 x2 x3 x4 x5 zo2 h7)))))))))
def lX7_extend_3  : Nat → Nat → Int32 → Int32 → Int32 → Int32 → Nat → AH → Option (Nat × AH)
  | 0 => fun _ _ _ _ _ _ _ => none
  | fuel + 1 => lX7_extend_3B  (lX7_extend_3  fuel)
def fX7_extend  (a0 : Nat) (a1 : Nat) (x2 : Int32) (x3 : Int32) (x4 : Int32) (z : Nat) (h : AH) : Option (Nat × AH) :=
  lX7_extend_3  fu a1 x2 x3 x4 0 z h
theorem wbX7_extend_42 {g : JG} (hst : (jl g).stackTraces = false) (q3 : Nat → Int32 → Int32 → Int32 → Int32 → Nat → AH → Option (Nat × AH)) (hq3 : ∀ (a1 : Nat) (x2 : Int32) (x3 : Int32) (x4 : Int32) (x5 : Int32) (z : Nat) (h : AH) (o : Nat × AH), q3 a1 x2 x3 x4 x5 z h = some o → J g MX7_extend (jN g (none, o.1, o.2) rmX7_extend.cells rmX7_extend.slots) 3 [none, some (.ref a1), some (.int x2), some (.int x3), some (.int x4), some (.int x5)] [] z h 0 0) {a1 : Nat} {x2 : Int32} {x3 : Int32} {x4 : Int32} {x5 : Int32} {z : Nat} {h : AH} {o : Nat × AH} (hf : bX7_extend_42 q3 a1 x2 x3 x4 x5 z h = some o) : J g MX7_extend (jN g (none, o.1, o.2) rmX7_extend.cells rmX7_extend.slots) 42 [none, some (.ref a1), some (.int x2), some (.int x3), some (.int x4), some (.int x5)] [] z h 0 0 := by
  unfold bX7_extend_42 at hf
  refine S_iinc_5 (v := x5 + 1) dX7_extend_42 (congrArg (fun w => x5 + w) (by decide)) rfl (by decide) ?_
  refine J_goto (tgt := 3) dX7_extend_45 (by decide) ?_
  refine J.sub (jsub_n (jsub_s (jsub_s (jsub_s (jsub_s (jsub_s (jsub_nil _))))))) ?_
  exact hq3 _ _ _ _ _ _ _ _ hf
theorem wlX7_extend_3 {g : JG} (hst : (jl g).stackTraces = false)   : ∀ (fuel : Nat) (a1 : Nat) (x2 : Int32) (x3 : Int32) (x4 : Int32) (x5 : Int32) (z : Nat) (h : AH) (o : Nat × AH), lX7_extend_3  fuel a1 x2 x3 x4 x5 z h = some o → J g MX7_extend (jN g (none, o.1, o.2) rmX7_extend.cells rmX7_extend.slots) 3 [none, some (.ref a1), some (.int x2), some (.int x3), some (.int x4), some (.int x5)] [] z h 0 0 := by
  intro fuel
  induction fuel with
  | zero => intro a1 x2 x3 x4 x5 z h o hf; cases hf
  | succ fuel ih =>
    intro a1 x2 x3 x4 x5 z h o hf
    have hq3 := ih
    have hf : lX7_extend_3B  (lX7_extend_3  fuel) a1 x2 x3 x4 x5 z h = some o := hf
    generalize lX7_extend_3  fuel = q3 at hf hq3
    unfold lX7_extend_3B at hf
    refine J_iload dX7_extend_3 rfl ?_
    refine J_bipush (v := 9) dX7_extend_5 (by decide) ?_
    rcases br hf with ⟨c1, hf⟩ | ⟨c1, hf⟩
    · refine J_icmp_ge (tgt := 48) dX7_extend_7 (by decide) (fun _ => ?_) (fun w => absurd c1 w)
      cases hf
      exact J_vretN dX7_extend_48 rfl (by decide) (by decide)
    · refine J_icmp_ge (tgt := 48) dX7_extend_7 (by decide) (fun w => absurd w c1) (fun _ => ?_)
      refine J_iload_n dX7_extend_10 rfl rfl ?_
      refine J_iload_n dX7_extend_11 rfl rfl ?_
      refine J_iconst (v := (-1)) dX7_extend_12 (by decide) ?_
      refine J_ixor dX7_extend_13 ?_
      refine J_iand dX7_extend_14 ?_
      refine J_iload dX7_extend_15 rfl ?_
      obtain ⟨vo2, zo2, ho2h, ho2, hf⟩ := rfs3 hf
      refine CSN2i dX7_extend_17 (mX8_inSet hst ho2) tl_308 iX8_inSet ⟨by decide, by decide⟩ ⟨by decide, by decide⟩ (Nat.le_of_ble_eq_true rfl) ?_
      rcases br hf with ⟨c3, hf⟩ | ⟨c3, hf⟩
      · refine J_if_eq (tgt := 42) dX7_extend_20 (by decide) (fun _ => ?_) (fun w => absurd c3 w)
        refine J.sub (jsub_n (jsub_s (jsub_s (jsub_s (jsub_s (jsub_s (jsub_nil _))))))) ?_
        exact wbX7_extend_42 hst _ hq3 hf
      · refine J_if_eq (tgt := 42) dX7_extend_20 (by decide) (fun w => absurd w c3) (fun _ => ?_)
        refine J_aload_n dX7_extend_23 rfl rfl ?_
        refine J_iload_n dX7_extend_24 rfl rfl ?_
        refine J_iconst (v := 1) dX7_extend_25 (by decide) ?_
        refine J_iload dX7_extend_26 rfl ?_
        refine J_ishl dX7_extend_28 ?_
        refine J_ior dX7_extend_29 ?_
        refine J_bipush (v := 9) dX7_extend_30 (by decide) ?_
        refine J_imul dX7_extend_32 ?_
        refine J_iload dX7_extend_33 rfl ?_
        refine J_iadd dX7_extend_35 ?_
        refine J_dup2 dX7_extend_36 rfl rfl ?_
        obtain ⟨k4, hf⟩ := gds hf
        obtain ⟨n5, hf⟩ := gds hf
        refine J_iaload dX7_extend_37 k4 n5 ?_
        refine J_iload dX7_extend_38 rfl ?_
        refine J_iadd dX7_extend_40 ?_
        obtain ⟨n6, hf⟩ := gds hf
        refine J_iastore dX7_extend_41 k4 n6 ?_
        obtain ⟨h7, eh7, hf⟩ := bls hf
        refine J_h eh7 ?_
        refine J.sub (jsub_n (jsub_s (jsub_s (jsub_s (jsub_s (jsub_s (jsub_nil _))))))) ?_
        exact wbX7_extend_42 hst _ hq3 hf
theorem wfX7_extend {g : JG} (hst : (jl g).stackTraces = false)   {a0 : Nat} {a1 : Nat} {x2 : Int32} {x3 : Int32} {x4 : Int32} {z : Nat} {h : AH} {o : Nat × AH} (hf : fX7_extend  a0 a1 x2 x3 x4 z h = some o) : J g MX7_extend (jN g (none, o.1, o.2) rmX7_extend.cells rmX7_extend.slots) 0 [some (.ref a0), some (.ref a1), some (.int x2), some (.int x3), some (.int x4), none] [] z h 0 0 := by
  unfold fX7_extend at hf
  refine J_iconst (v := 0) dX7_extend_0 (by decide) ?_
  refine S_istore_5 dX7_extend_1 rfl (by decide) ?_
  refine J.sub (jsub_n (jsub_s (jsub_s (jsub_s (jsub_s (jsub_s (jsub_nil _))))))) ?_
  exact wlX7_extend_3 hst   _ _ _ _ _ _ _ _ _ hf
theorem mX7_extend {g : JG} (hst : (jl g).stackTraces = false) {a0 : Nat} {a1 : Nat} {x2 : Int32} {x3 : Int32} {x4 : Int32} {z : Nat} {h : AH} {o : Nat × AH} (hf : fX7_extend a0 a1 x2 x3 x4 z h = some o) : jMet g yX7_extend (wj yX7_extend cX7_extend 6 none) rmX7_extend [.ref a0, .ref a1, .int x2, .int x3, .int x4] z h (none, o.1, o.2) :=
  jMet_mk (by decide) (Nat.le_of_ble_eq_true rfl) [some (.ref a0), some (.ref a1), some (.int x2), some (.int x3), some (.int x4), none] rfl (wfX7_extend hst hf)
def bX7_ringsFrom_137 (q68 : Nat → Int32 → Nat → Int32 → Int32 → Int32 → Int32 → Int32 → Nat → AH → Option (Int32 × Nat × AH)) (a0 : Nat) (x1 : Int32) (a2 : Nat) (x3 : Int32) (x4 : Int32) (x5 : Int32) (x6 : Int32) (x7 : Int32) (z : Nat) (h : AH) : Option (Int32 × Nat × AH) :=
  q68 a0 x1 a2 x3 x4 x5 x6 (x7 + 1) z h
def bX7_ringsFrom_120 (q68 : Nat → Int32 → Nat → Int32 → Int32 → Int32 → Int32 → Int32 → Nat → AH → Option (Int32 × Nat × AH)) (a0 : Nat) (x1 : Int32) (a2 : Nat) (x3 : Int32) (x4 : Int32) (x6 : Int32) (x7 : Int32) (x8 : Int32) (x9 : Int32) (s0 : Int32) (s1 : Int32) (z : Nat) (h : AH) : Option (Int32 × Nat × AH) :=
  bl ((s0 + s1)) (fun v1 => gd (kd h a0 = 8) (bd2 (fX7_extend a0 a2 x6 (x9 >>> (x4 &&& 31)) x8 z h) (fun zo3 ho3h => bX7_ringsFrom_137 q68 a0 x1 a2 x3 x4 v1 x6 x7 zo3 ho3h)))
def lX7_ringsFrom_68B (q57 : Nat → Int32 → Nat → Int32 → Int32 → Int32 → Int32 → Nat → AH → Option (Int32 × Nat × AH)) (q68 : Nat → Int32 → Nat → Int32 → Int32 → Int32 → Int32 → Int32 → Nat → AH → Option (Int32 × Nat × AH)) (a0 : Nat) (x1 : Int32) (a2 : Nat) (x3 : Int32) (x4 : Int32) (x5 : Int32) (x6 : Int32) (x7 : Int32) (z : Nat) (h : AH) : Option (Int32 × Nat × AH) :=
  (if x3 ≤ x7 then (q57 a0 x1 a2 x3 x4 x5 (x6 + 1) z h) else (gd (kd h a2 = 13) (gd (¬ ((((x6 * 9) + x7) : Int32) < 0 ∨ ln h a2 ≤ Int32.toNatClampNeg ((x6 * 9) + x7))) (bl ((iv h a2 (Int32.toNatClampNeg ((x6 * 9) + x7)))) (fun v4 => (if v4 = 0 then (bX7_ringsFrom_137 q68 a0 x1 a2 x3 x4 x5 x6 x7 z h) else (gd (kd h a0 = 8) (Option.bind (rv h a0 0) (fun b7 => gd (kd h b7 = 13) (gd (¬ (((x4 + x7) : Int32) < 0 ∨ ln h b7 ≤ Int32.toNatClampNeg (x4 + x7))) (bl ((iv h b7 (Int32.toNatClampNeg (x4 + x7)))) (fun v10 => bd3 (fX8_inSet v10 x1 z h) (fun vo11 zo11 ho11h => (if vo11 = 0 then (bX7_ringsFrom_120 q68 a0 x1 a2 x3 x4 x6 x7 v4 v10 x5 0 zo11 ho11h) else (bX7_ringsFrom_120 q68 a0 x1 a2 x3 x4 x6 x7 v4 v10 x5 v4 zo11 ho11h)))))))))))))))
def lX7_ringsFrom_68 (q57 : Nat → Int32 → Nat → Int32 → Int32 → Int32 → Int32 → Nat → AH → Option (Int32 × Nat × AH)) : Nat → Nat → Int32 → Nat → Int32 → Int32 → Int32 → Int32 → Int32 → Nat → AH → Option (Int32 × Nat × AH)
  | 0 => fun _ _ _ _ _ _ _ _ _ _ => none
  | fuel + 1 => lX7_ringsFrom_68B q57 (lX7_ringsFrom_68 q57 fuel)
def lX7_ringsFrom_57B  (q57 : Nat → Int32 → Nat → Int32 → Int32 → Int32 → Int32 → Nat → AH → Option (Int32 × Nat × AH)) (a0 : Nat) (x1 : Int32) (a2 : Nat) (x3 : Int32) (x4 : Int32) (x5 : Int32) (x6 : Int32) (z : Nat) (h : AH) : Option (Int32 × Nat × AH) :=
  (if (1 <<< (x3 &&& 31)) ≤ x6 then (some (x5, z, h)) else (lX7_ringsFrom_68 q57 fu a0 x1 a2 x3 x4 x5 x6 0 z h))
def lX7_ringsFrom_57  : Nat → Nat → Int32 → Nat → Int32 → Int32 → Int32 → Int32 → Nat → AH → Option (Int32 × Nat × AH)
  | 0 => fun _ _ _ _ _ _ _ _ _ => none
  | fuel + 1 => lX7_ringsFrom_57B  (lX7_ringsFrom_57  fuel)
def lX7_ringsFrom_13B  (q13 : Nat → Int32 → Nat → Int32 → Int32 → Int32 → Nat → AH → Option (Int32 × Nat × AH)) (a0 : Nat) (x1 : Int32) (a2 : Nat) (x3 : Int32) (x4 : Int32) (x5 : Int32) (z : Nat) (h : AH) : Option (Int32 × Nat × AH) :=
  (if ((1 <<< (x3 &&& 31)) * 9) ≤ x5 then (gd (kd h a0 = 8) (Option.bind (rv h a0 0) (fun b3 => gd (kd h b3 = 13) (gd (¬ ((x1 : Int32) < 0 ∨ ln h b3 ≤ Int32.toNatClampNeg x1)) (bd2 (fX7_extend a0 a2 0 ((iv h b3 (Int32.toNatClampNeg x1)) >>> (x4 &&& 31)) 1 z h) (fun zo6 ho6h => lX7_ringsFrom_57  fu a0 x1 a2 x3 x4 0 1 zo6 ho6h)))))) else (gd (kd h a2 = 13) (gd (¬ ((x5 : Int32) < 0 ∨ ln h a2 ≤ Int32.toNatClampNeg x5)) (bl (wI h a2 (Int32.toNatClampNeg x5) 0) (fun h9 => q13 a0 x1 a2 x3 x4 (x5 + 1) z h9)))))
def lX7_ringsFrom_13  : Nat → Nat → Int32 → Nat → Int32 → Int32 → Int32 → Nat → AH → Option (Int32 × Nat × AH)
  | 0 => fun _ _ _ _ _ _ _ _ => none
  | fuel + 1 => lX7_ringsFrom_13B  (lX7_ringsFrom_13  fuel)
def fX7_ringsFrom  (a0 : Nat) (x1 : Int32) (a2 : Nat) (z : Nat) (h : AH) : Option (Int32 × Nat × AH) :=
  bl ((9 - x1)) (fun v1 => bl ((x1 + 1)) (fun v2 => lX7_ringsFrom_13  fu a0 x1 a2 v1 v2 0 z h))
theorem wbX7_ringsFrom_137 {g : JG} (hst : (jl g).stackTraces = false) (q68 : Nat → Int32 → Nat → Int32 → Int32 → Int32 → Int32 → Int32 → Nat → AH → Option (Int32 × Nat × AH)) (hq68 : ∀ (a0 : Nat) (x1 : Int32) (a2 : Nat) (x3 : Int32) (x4 : Int32) (x5 : Int32) (x6 : Int32) (x7 : Int32) (z : Nat) (h : AH) (o : Int32 × Nat × AH), q68 a0 x1 a2 x3 x4 x5 x6 x7 z h = some o → J g MX7_ringsFrom (jN g (some (.int o.1), o.2.1, o.2.2) rmX7_ringsFrom.cells rmX7_ringsFrom.slots) 68 [some (.ref a0), some (.int x1), some (.ref a2), some (.int x3), some (.int x4), some (.int x5), some (.int x6), some (.int x7), none, none] [] z h 0 0) {a0 : Nat} {x1 : Int32} {a2 : Nat} {x3 : Int32} {x4 : Int32} {x5 : Int32} {x6 : Int32} {x7 : Int32} {z : Nat} {h : AH} {o : Int32 × Nat × AH} (hf : bX7_ringsFrom_137 q68 a0 x1 a2 x3 x4 x5 x6 x7 z h = some o) : J g MX7_ringsFrom (jN g (some (.int o.1), o.2.1, o.2.2) rmX7_ringsFrom.cells rmX7_ringsFrom.slots) 137 [some (.ref a0), some (.int x1), some (.ref a2), some (.int x3), some (.int x4), some (.int x5), some (.int x6), some (.int x7), none, none] [] z h 0 0 := by
  unfold bX7_ringsFrom_137 at hf
  refine S_iinc_7 (v := x7 + 1) dX7_ringsFrom_137 (congrArg (fun w => x7 + w) (by decide)) rfl (by decide) ?_
  refine J_goto (tgt := 68) dX7_ringsFrom_140 (by decide) ?_
  refine J.sub (jsub_s (jsub_s (jsub_s (jsub_s (jsub_s (jsub_s (jsub_s (jsub_s (jsub_n (jsub_n (jsub_nil _))))))))))) ?_
  exact hq68 _ _ _ _ _ _ _ _ _ _ _ hf
theorem wbX7_ringsFrom_120 {g : JG} (hst : (jl g).stackTraces = false) (q68 : Nat → Int32 → Nat → Int32 → Int32 → Int32 → Int32 → Int32 → Nat → AH → Option (Int32 × Nat × AH)) (hq68 : ∀ (a0 : Nat) (x1 : Int32) (a2 : Nat) (x3 : Int32) (x4 : Int32) (x5 : Int32) (x6 : Int32) (x7 : Int32) (z : Nat) (h : AH) (o : Int32 × Nat × AH), q68 a0 x1 a2 x3 x4 x5 x6 x7 z h = some o → J g MX7_ringsFrom (jN g (some (.int o.1), o.2.1, o.2.2) rmX7_ringsFrom.cells rmX7_ringsFrom.slots) 68 [some (.ref a0), some (.int x1), some (.ref a2), some (.int x3), some (.int x4), some (.int x5), some (.int x6), some (.int x7), none, none] [] z h 0 0) {a0 : Nat} {x1 : Int32} {a2 : Nat} {x3 : Int32} {x4 : Int32} {x6 : Int32} {x7 : Int32} {x8 : Int32} {x9 : Int32} {s0 : Int32} {s1 : Int32} {z : Nat} {h : AH} {o : Int32 × Nat × AH} (hf : bX7_ringsFrom_120 q68 a0 x1 a2 x3 x4 x6 x7 x8 x9 s0 s1 z h = some o) : J g MX7_ringsFrom (jN g (some (.int o.1), o.2.1, o.2.2) rmX7_ringsFrom.cells rmX7_ringsFrom.slots) 120 [some (.ref a0), some (.int x1), some (.ref a2), some (.int x3), some (.int x4), none, some (.int x6), some (.int x7), some (.int x8), some (.int x9)] [.int s1, .int s0] z h 0 0 := by
  unfold bX7_ringsFrom_120 at hf
  refine J_iadd dX7_ringsFrom_120 ?_
  obtain ⟨v1, ev1, hf⟩ := bls hf
  refine J_i ev1 ?_
  refine S_istore_5 dX7_ringsFrom_121 rfl (by decide) ?_
  refine J_aload_n dX7_ringsFrom_123 rfl rfl ?_
  refine J_aload_n dX7_ringsFrom_124 rfl rfl ?_
  refine J_iload dX7_ringsFrom_125 rfl ?_
  refine J_iload dX7_ringsFrom_127 rfl ?_
  refine J_iload dX7_ringsFrom_129 rfl ?_
  refine J_ishr dX7_ringsFrom_131 ?_
  refine J_iload dX7_ringsFrom_132 rfl ?_
  obtain ⟨k2, hf⟩ := gds hf
  obtain ⟨zo3, ho3h, ho3, hf⟩ := rfs2 hf
  refine CV4v dX7_ringsFrom_134 (mX7_extend hst ho3) tk_331 iX7_extend k2 (by decide) rfl ⟨by decide, by decide⟩ ⟨by decide, by decide⟩ (Nat.le_of_ble_eq_true rfl) ?_
  refine J.sub (jsub_s (jsub_s (jsub_s (jsub_s (jsub_s (jsub_s (jsub_s (jsub_s (jsub_n (jsub_n (jsub_nil _))))))))))) ?_
  exact wbX7_ringsFrom_137 hst _ hq68 hf
theorem wlX7_ringsFrom_68 {g : JG} (hst : (jl g).stackTraces = false) (q57 : Nat → Int32 → Nat → Int32 → Int32 → Int32 → Int32 → Nat → AH → Option (Int32 × Nat × AH)) (hq57 : ∀ (a0 : Nat) (x1 : Int32) (a2 : Nat) (x3 : Int32) (x4 : Int32) (x5 : Int32) (x6 : Int32) (z : Nat) (h : AH) (o : Int32 × Nat × AH), q57 a0 x1 a2 x3 x4 x5 x6 z h = some o → J g MX7_ringsFrom (jN g (some (.int o.1), o.2.1, o.2.2) rmX7_ringsFrom.cells rmX7_ringsFrom.slots) 57 [some (.ref a0), some (.int x1), some (.ref a2), some (.int x3), some (.int x4), some (.int x5), some (.int x6), none, none, none] [] z h 0 0) : ∀ (fuel : Nat) (a0 : Nat) (x1 : Int32) (a2 : Nat) (x3 : Int32) (x4 : Int32) (x5 : Int32) (x6 : Int32) (x7 : Int32) (z : Nat) (h : AH) (o : Int32 × Nat × AH), lX7_ringsFrom_68 q57 fuel a0 x1 a2 x3 x4 x5 x6 x7 z h = some o → J g MX7_ringsFrom (jN g (some (.int o.1), o.2.1, o.2.2) rmX7_ringsFrom.cells rmX7_ringsFrom.slots) 68 [some (.ref a0), some (.int x1), some (.ref a2), some (.int x3), some (.int x4), some (.int x5), some (.int x6), some (.int x7), none, none] [] z h 0 0 := by
  intro fuel
  induction fuel with
  | zero => intro a0 x1 a2 x3 x4 x5 x6 x7 z h o hf; cases hf
  | succ fuel ih =>
    intro a0 x1 a2 x3 x4 x5 x6 x7 z h o hf
    have hq68 := ih
    have hf : lX7_ringsFrom_68B q57 (lX7_ringsFrom_68 q57 fuel) a0 x1 a2 x3 x4 x5 x6 x7 z h = some o := hf
    generalize lX7_ringsFrom_68 q57 fuel = q68 at hf hq68
    unfold lX7_ringsFrom_68B at hf
    refine J_iload dX7_ringsFrom_68 rfl ?_
    refine J_iload_n dX7_ringsFrom_70 rfl rfl ?_
    rcases br hf with ⟨c1, hf⟩ | ⟨c1, hf⟩
    · refine J_icmp_ge (tgt := 143) dX7_ringsFrom_71 (by decide) (fun _ => ?_) (fun w => absurd c1 w)
      refine S_iinc_6 (v := x6 + 1) dX7_ringsFrom_143 (congrArg (fun w => x6 + w) (by decide)) rfl (by decide) ?_
      refine J_goto (tgt := 57) dX7_ringsFrom_146 (by decide) ?_
      refine J.sub (jsub_s (jsub_s (jsub_s (jsub_s (jsub_s (jsub_s (jsub_s (jsub_n (jsub_n (jsub_n (jsub_nil _))))))))))) ?_
      exact hq57 _ _ _ _ _ _ _ _ _ _ hf
    · refine J_icmp_ge (tgt := 143) dX7_ringsFrom_71 (by decide) (fun w => absurd w c1) (fun _ => ?_)
      refine J_aload_n dX7_ringsFrom_74 rfl rfl ?_
      refine J_iload dX7_ringsFrom_75 rfl ?_
      refine J_bipush (v := 9) dX7_ringsFrom_77 (by decide) ?_
      refine J_imul dX7_ringsFrom_79 ?_
      refine J_iload dX7_ringsFrom_80 rfl ?_
      refine J_iadd dX7_ringsFrom_82 ?_
      obtain ⟨k2, hf⟩ := gds hf
      obtain ⟨n3, hf⟩ := gds hf
      refine J_iaload dX7_ringsFrom_83 k2 n3 ?_
      obtain ⟨v4, ev4, hf⟩ := bls hf
      refine J_i ev4 ?_
      refine S_istore_8 dX7_ringsFrom_84 rfl (by decide) ?_
      refine J_iload dX7_ringsFrom_86 rfl ?_
      rcases br hf with ⟨c5, hf⟩ | ⟨c5, hf⟩
      · refine J_if_eq (tgt := 137) dX7_ringsFrom_88 (by decide) (fun _ => ?_) (fun w => absurd c5 w)
        refine J.sub (jsub_s (jsub_s (jsub_s (jsub_s (jsub_s (jsub_s (jsub_s (jsub_s (jsub_n (jsub_n (jsub_nil _))))))))))) ?_
        exact wbX7_ringsFrom_137 hst _ hq68 hf
      · refine J_if_eq (tgt := 137) dX7_ringsFrom_88 (by decide) (fun w => absurd w c5) (fun _ => ?_)
        refine J_aload_n dX7_ringsFrom_91 rfl rfl ?_
        obtain ⟨k6, hf⟩ := gds hf
        obtain ⟨b7, rb7, hf⟩ := rfs hf
        refine G_7_0 dX7_ringsFrom_92 tk_184 k6 rb7 ?_
        refine J_iload dX7_ringsFrom_95 rfl ?_
        refine J_iload dX7_ringsFrom_97 rfl ?_
        refine J_iadd dX7_ringsFrom_99 ?_
        obtain ⟨k8, hf⟩ := gds hf
        obtain ⟨n9, hf⟩ := gds hf
        refine J_iaload dX7_ringsFrom_100 k8 n9 ?_
        obtain ⟨v10, ev10, hf⟩ := bls hf
        refine J_i ev10 ?_
        refine S_istore_9 dX7_ringsFrom_101 rfl (by decide) ?_
        refine J_iload dX7_ringsFrom_103 rfl ?_
        refine J_iload dX7_ringsFrom_105 rfl ?_
        refine J_iload_n dX7_ringsFrom_107 rfl rfl ?_
        obtain ⟨vo11, zo11, ho11h, ho11, hf⟩ := rfs3 hf
        refine CSN2i dX7_ringsFrom_108 (mX8_inSet hst ho11) tl_308 iX8_inSet ⟨by decide, by decide⟩ ⟨by decide, by decide⟩ (Nat.le_of_ble_eq_true rfl) ?_
        rcases br hf with ⟨c12, hf⟩ | ⟨c12, hf⟩
        · refine J_if_eq (tgt := 119) dX7_ringsFrom_111 (by decide) (fun _ => ?_) (fun w => absurd c12 w)
          refine J_iconst (v := 0) dX7_ringsFrom_119 (by decide) ?_
          refine J.sub (jsub_s (jsub_s (jsub_s (jsub_s (jsub_s (jsub_n (jsub_s (jsub_s (jsub_s (jsub_s (jsub_nil _))))))))))) ?_
          exact wbX7_ringsFrom_120 hst _ hq68 hf
        · refine J_if_eq (tgt := 119) dX7_ringsFrom_111 (by decide) (fun w => absurd w c12) (fun _ => ?_)
          refine J_iload dX7_ringsFrom_114 rfl ?_
          refine J_goto (tgt := 120) dX7_ringsFrom_116 (by decide) ?_
          refine J.sub (jsub_s (jsub_s (jsub_s (jsub_s (jsub_s (jsub_n (jsub_s (jsub_s (jsub_s (jsub_s (jsub_nil _))))))))))) ?_
          exact wbX7_ringsFrom_120 hst _ hq68 hf
theorem wlX7_ringsFrom_57 {g : JG} (hst : (jl g).stackTraces = false)   : ∀ (fuel : Nat) (a0 : Nat) (x1 : Int32) (a2 : Nat) (x3 : Int32) (x4 : Int32) (x5 : Int32) (x6 : Int32) (z : Nat) (h : AH) (o : Int32 × Nat × AH), lX7_ringsFrom_57  fuel a0 x1 a2 x3 x4 x5 x6 z h = some o → J g MX7_ringsFrom (jN g (some (.int o.1), o.2.1, o.2.2) rmX7_ringsFrom.cells rmX7_ringsFrom.slots) 57 [some (.ref a0), some (.int x1), some (.ref a2), some (.int x3), some (.int x4), some (.int x5), some (.int x6), none, none, none] [] z h 0 0 := by
  intro fuel
  induction fuel with
  | zero => intro a0 x1 a2 x3 x4 x5 x6 z h o hf; cases hf
  | succ fuel ih =>
    intro a0 x1 a2 x3 x4 x5 x6 z h o hf
    have hq57 := ih
    have hf : lX7_ringsFrom_57B  (lX7_ringsFrom_57  fuel) a0 x1 a2 x3 x4 x5 x6 z h = some o := hf
    generalize lX7_ringsFrom_57  fuel = q57 at hf hq57
    unfold lX7_ringsFrom_57B at hf
    refine J_iload dX7_ringsFrom_57 rfl ?_
    refine J_iconst (v := 1) dX7_ringsFrom_59 (by decide) ?_
    refine J_iload_n dX7_ringsFrom_60 rfl rfl ?_
    refine J_ishl dX7_ringsFrom_61 ?_
    rcases br hf with ⟨c1, hf⟩ | ⟨c1, hf⟩
    · refine J_icmp_ge (tgt := 149) dX7_ringsFrom_62 (by decide) (fun _ => ?_) (fun w => absurd c1 w)
      refine J_iload dX7_ringsFrom_149 rfl ?_
      cases hf
      exact J_iretN dX7_ringsFrom_151 rfl (by decide) (by decide)
    · refine J_icmp_ge (tgt := 149) dX7_ringsFrom_62 (by decide) (fun w => absurd w c1) (fun _ => ?_)
      refine J_iconst (v := 0) dX7_ringsFrom_65 (by decide) ?_
      refine S_istore_7 dX7_ringsFrom_66 rfl (by decide) ?_
      refine J.sub (jsub_s (jsub_s (jsub_s (jsub_s (jsub_s (jsub_s (jsub_s (jsub_s (jsub_n (jsub_n (jsub_nil _))))))))))) ?_
      exact wlX7_ringsFrom_68 hst _ hq57 _ _ _ _ _ _ _ _ _ _ _ _ hf
theorem wlX7_ringsFrom_13 {g : JG} (hst : (jl g).stackTraces = false)   : ∀ (fuel : Nat) (a0 : Nat) (x1 : Int32) (a2 : Nat) (x3 : Int32) (x4 : Int32) (x5 : Int32) (z : Nat) (h : AH) (o : Int32 × Nat × AH), lX7_ringsFrom_13  fuel a0 x1 a2 x3 x4 x5 z h = some o → J g MX7_ringsFrom (jN g (some (.int o.1), o.2.1, o.2.2) rmX7_ringsFrom.cells rmX7_ringsFrom.slots) 13 [some (.ref a0), some (.int x1), some (.ref a2), some (.int x3), some (.int x4), some (.int x5), none, none, none, none] [] z h 0 0 := by
  intro fuel
  induction fuel with
  | zero => intro a0 x1 a2 x3 x4 x5 z h o hf; cases hf
  | succ fuel ih =>
    intro a0 x1 a2 x3 x4 x5 z h o hf
    have hq13 := ih
    have hf : lX7_ringsFrom_13B  (lX7_ringsFrom_13  fuel) a0 x1 a2 x3 x4 x5 z h = some o := hf
    generalize lX7_ringsFrom_13  fuel = q13 at hf hq13
    unfold lX7_ringsFrom_13B at hf
    refine J_iload dX7_ringsFrom_13 rfl ?_
    refine J_iconst (v := 1) dX7_ringsFrom_15 (by decide) ?_
    refine J_iload_n dX7_ringsFrom_16 rfl rfl ?_
    refine J_ishl dX7_ringsFrom_17 ?_
    refine J_bipush (v := 9) dX7_ringsFrom_18 (by decide) ?_
    refine J_imul dX7_ringsFrom_20 ?_
    rcases br hf with ⟨c1, hf⟩ | ⟨c1, hf⟩
    · refine J_icmp_ge (tgt := 35) dX7_ringsFrom_21 (by decide) (fun _ => ?_) (fun w => absurd c1 w)
      refine J_aload_n dX7_ringsFrom_35 rfl rfl ?_
      refine J_aload_n dX7_ringsFrom_36 rfl rfl ?_
      refine J_iconst (v := 0) dX7_ringsFrom_37 (by decide) ?_
      refine J_aload_n dX7_ringsFrom_38 rfl rfl ?_
      obtain ⟨k2, hf⟩ := gds hf
      obtain ⟨b3, rb3, hf⟩ := rfs hf
      refine G_7_0 dX7_ringsFrom_39 tk_184 k2 rb3 ?_
      refine J_iload_n dX7_ringsFrom_42 rfl rfl ?_
      obtain ⟨k4, hf⟩ := gds hf
      obtain ⟨n5, hf⟩ := gds hf
      refine J_iaload dX7_ringsFrom_43 k4 n5 ?_
      refine J_iload dX7_ringsFrom_44 rfl ?_
      refine J_ishr dX7_ringsFrom_46 ?_
      refine J_iconst (v := 1) dX7_ringsFrom_47 (by decide) ?_
      obtain ⟨zo6, ho6h, ho6, hf⟩ := rfs2 hf
      refine CV4v dX7_ringsFrom_48 (mX7_extend hst ho6) tk_331 iX7_extend k2 (by decide) rfl ⟨by decide, by decide⟩ ⟨by decide, by decide⟩ (Nat.le_of_ble_eq_true rfl) ?_
      refine J_iconst (v := 0) dX7_ringsFrom_51 (by decide) ?_
      refine S_istore_5 dX7_ringsFrom_52 rfl (by decide) ?_
      refine J_iconst (v := 1) dX7_ringsFrom_54 (by decide) ?_
      refine S_istore_6 dX7_ringsFrom_55 rfl (by decide) ?_
      refine J.sub (jsub_s (jsub_s (jsub_s (jsub_s (jsub_s (jsub_s (jsub_s (jsub_n (jsub_n (jsub_n (jsub_nil _))))))))))) ?_
      exact wlX7_ringsFrom_57 hst   _ _ _ _ _ _ _ _ _ _ _ hf
    · refine J_icmp_ge (tgt := 35) dX7_ringsFrom_21 (by decide) (fun w => absurd w c1) (fun _ => ?_)
      refine J_aload_n dX7_ringsFrom_24 rfl rfl ?_
      refine J_iload dX7_ringsFrom_25 rfl ?_
      refine J_iconst (v := 0) dX7_ringsFrom_27 (by decide) ?_
      obtain ⟨k7, hf⟩ := gds hf
      obtain ⟨n8, hf⟩ := gds hf
      refine J_iastore dX7_ringsFrom_28 k7 n8 ?_
      obtain ⟨h9, eh9, hf⟩ := bls hf
      refine J_h eh9 ?_
      refine S_iinc_5 (v := x5 + 1) dX7_ringsFrom_29 (congrArg (fun w => x5 + w) (by decide)) rfl (by decide) ?_
      refine J_goto (tgt := 13) dX7_ringsFrom_32 (by decide) ?_
      refine J.sub (jsub_s (jsub_s (jsub_s (jsub_s (jsub_s (jsub_s (jsub_n (jsub_n (jsub_n (jsub_n (jsub_nil _))))))))))) ?_
      exact hq13 _ _ _ _ _ _ _ _ _ hf
theorem wfX7_ringsFrom {g : JG} (hst : (jl g).stackTraces = false)   {a0 : Nat} {x1 : Int32} {a2 : Nat} {z : Nat} {h : AH} {o : Int32 × Nat × AH} (hf : fX7_ringsFrom  a0 x1 a2 z h = some o) : J g MX7_ringsFrom (jN g (some (.int o.1), o.2.1, o.2.2) rmX7_ringsFrom.cells rmX7_ringsFrom.slots) 0 [some (.ref a0), some (.int x1), some (.ref a2), none, none, none, none, none, none, none] [] z h 0 0 := by
  unfold fX7_ringsFrom at hf
  refine J_bipush (v := 9) dX7_ringsFrom_0 (by decide) ?_
  refine J_iload_n dX7_ringsFrom_2 rfl rfl ?_
  refine J_isub dX7_ringsFrom_3 ?_
  obtain ⟨v1, ev1, hf⟩ := bls hf
  refine J_i ev1 ?_
  refine S_istore_n_3 dX7_ringsFrom_4 rfl (by decide) ?_
  refine J_iload_n dX7_ringsFrom_5 rfl rfl ?_
  refine J_iconst (v := 1) dX7_ringsFrom_6 (by decide) ?_
  refine J_iadd dX7_ringsFrom_7 ?_
  obtain ⟨v2, ev2, hf⟩ := bls hf
  refine J_i ev2 ?_
  refine S_istore_4 dX7_ringsFrom_8 rfl (by decide) ?_
  refine J_iconst (v := 0) dX7_ringsFrom_10 (by decide) ?_
  refine S_istore_5 dX7_ringsFrom_11 rfl (by decide) ?_
  refine J.sub (jsub_s (jsub_s (jsub_s (jsub_s (jsub_s (jsub_s (jsub_n (jsub_n (jsub_n (jsub_n (jsub_nil _))))))))))) ?_
  exact wlX7_ringsFrom_13 hst   _ _ _ _ _ _ _ _ _ _ hf
theorem mX7_ringsFrom {g : JG} (hst : (jl g).stackTraces = false) {a0 : Nat} {x1 : Int32} {a2 : Nat} {z : Nat} {h : AH} {o : Int32 × Nat × AH} (hf : fX7_ringsFrom a0 x1 a2 z h = some o) : jMet g yX7_ringsFrom (wj yX7_ringsFrom cX7_ringsFrom 10 (some .int)) rmX7_ringsFrom [.ref a0, .int x1, .ref a2] z h (some (.int o.1), o.2.1, o.2.2) :=
  jMet_mk (by decide) (Nat.le_of_ble_eq_true rfl) [some (.ref a0), some (.int x1), some (.ref a2), none, none, none, none, none, none, none] rfl (wfX7_ringsFrom hst hf)
def bX7_countRings_59 (q33 : Nat → Nat → Int32 → Int32 → Nat → AH → Option (Int32 × Nat × AH)) (a0 : Nat) (a1 : Nat) (x2 : Int32) (x3 : Int32) (z : Nat) (h : AH) : Option (Int32 × Nat × AH) :=
  q33 a0 a1 x2 (x3 + 1) z h
def lX7_countRings_33B  (q33 : Nat → Nat → Int32 → Int32 → Nat → AH → Option (Int32 × Nat × AH)) (a0 : Nat) (a1 : Nat) (x2 : Int32) (x3 : Int32) (z : Nat) (h : AH) : Option (Int32 × Nat × AH) :=
  (if 10 ≤ x3 then (some (x2, z, h)) else (gd (kd h a0 = 8) (bd3 (fX8_inSet (iv h a0 2) x3 z h) (fun vo3 zo3 ho3h => (if vo3 = 0 then (bX7_countRings_59 q33 a0 a1 x2 x3 zo3 ho3h) else (gd (kd ho3h a0 = 8) (bd3 (fX7_ringsFrom a0 x3 a1 zo3 ho3h) (fun vo6 zo6 ho6h => bl ((x2 + vo6)) (fun v7 => bX7_countRings_59 q33 a0 a1 v7 x3 zo6 ho6h)))))))))
def lX7_countRings_33  : Nat → Nat → Nat → Int32 → Int32 → Nat → AH → Option (Int32 × Nat × AH)
  | 0 => fun _ _ _ _ _ _ => none
  | fuel + 1 => lX7_countRings_33B  (lX7_countRings_33  fuel)
def bX7_countRings_29  (a0 : Nat) (a1 : Nat) (z : Nat) (h : AH) : Option (Int32 × Nat × AH) :=
  lX7_countRings_33  fu a0 a1 0 0 z h
def fX7_countRings  (a0 : Nat) (z : Nat) (h : AH) : Option (Int32 × Nat × AH) :=
  gd (kd h a0 = 8) ((if (iv h a0 2) = 0 then (some (0, z, h)) else (on (rv h a0 3) (bl (wNew h z 13 4608) (fun h5 => gd (kd h5 a0 = 8) (bl (wR h5 a0 3 (some z)) (fun h8 => bX7_countRings_29  a0 z (z + 1) h8)))) (fun a3 => bX7_countRings_29  a0 a3 z h))))
theorem wbX7_countRings_59 {g : JG} (hst : (jl g).stackTraces = false) (q33 : Nat → Nat → Int32 → Int32 → Nat → AH → Option (Int32 × Nat × AH)) (hq33 : ∀ (a0 : Nat) (a1 : Nat) (x2 : Int32) (x3 : Int32) (z : Nat) (h : AH) (o : Int32 × Nat × AH), q33 a0 a1 x2 x3 z h = some o → J g MX7_countRings (jN g (some (.int o.1), o.2.1, o.2.2) rmX7_countRings.cells rmX7_countRings.slots) 33 [some (.ref a0), some (.ref a1), some (.int x2), some (.int x3)] [] z h 1 4608) {a0 : Nat} {a1 : Nat} {x2 : Int32} {x3 : Int32} {z : Nat} {h : AH} {o : Int32 × Nat × AH} (hf : bX7_countRings_59 q33 a0 a1 x2 x3 z h = some o) : J g MX7_countRings (jN g (some (.int o.1), o.2.1, o.2.2) rmX7_countRings.cells rmX7_countRings.slots) 59 [some (.ref a0), some (.ref a1), some (.int x2), some (.int x3)] [] z h 1 4608 := by
  unfold bX7_countRings_59 at hf
  refine S_iinc_3 (v := x3 + 1) dX7_countRings_59 (congrArg (fun w => x3 + w) (by decide)) rfl (by decide) ?_
  refine J_goto (tgt := 33) dX7_countRings_62 (by decide) ?_
  refine J.sub (jsub_s (jsub_s (jsub_s (jsub_s (jsub_nil _))))) ?_
  refine J.widen (k' := 1) (n' := 4608) (by decide) (by decide) ?_
  exact hq33 _ _ _ _ _ _ _ hf
theorem wlX7_countRings_33 {g : JG} (hst : (jl g).stackTraces = false)   : ∀ (fuel : Nat) (a0 : Nat) (a1 : Nat) (x2 : Int32) (x3 : Int32) (z : Nat) (h : AH) (o : Int32 × Nat × AH), lX7_countRings_33  fuel a0 a1 x2 x3 z h = some o → J g MX7_countRings (jN g (some (.int o.1), o.2.1, o.2.2) rmX7_countRings.cells rmX7_countRings.slots) 33 [some (.ref a0), some (.ref a1), some (.int x2), some (.int x3)] [] z h 1 4608 := by
  intro fuel
  induction fuel with
  | zero => intro a0 a1 x2 x3 z h o hf; cases hf
  | succ fuel ih =>
    intro a0 a1 x2 x3 z h o hf
    have hq33 := ih
    have hf : lX7_countRings_33B  (lX7_countRings_33  fuel) a0 a1 x2 x3 z h = some o := hf
    generalize lX7_countRings_33  fuel = q33 at hf hq33
    unfold lX7_countRings_33B at hf
    refine J_iload_n dX7_countRings_33 rfl rfl ?_
    refine J_bipush (v := 10) dX7_countRings_34 (by decide) ?_
    rcases br hf with ⟨c1, hf⟩ | ⟨c1, hf⟩
    · refine J_icmp_ge (tgt := 65) dX7_countRings_36 (by decide) (fun _ => ?_) (fun w => absurd c1 w)
      refine J_iload_n dX7_countRings_65 rfl rfl ?_
      cases hf
      exact J_iretN dX7_countRings_66 rfl (by decide) (by decide)
    · refine J_icmp_ge (tgt := 65) dX7_countRings_36 (by decide) (fun w => absurd w c1) (fun _ => ?_)
      refine J_aload_n dX7_countRings_39 rfl rfl ?_
      obtain ⟨k2, hf⟩ := gds hf
      refine G_7_2 dX7_countRings_40 tk_186 k2 ?_
      refine J_iload_n dX7_countRings_43 rfl rfl ?_
      obtain ⟨vo3, zo3, ho3h, ho3, hf⟩ := rfs3 hf
      refine CSN2i dX7_countRings_44 (mX8_inSet hst ho3) tl_308 iX8_inSet ⟨by decide, by decide⟩ ⟨by decide, by decide⟩ (Nat.le_of_ble_eq_true rfl) ?_
      rcases br hf with ⟨c4, hf⟩ | ⟨c4, hf⟩
      · refine J_if_eq (tgt := 59) dX7_countRings_47 (by decide) (fun _ => ?_) (fun w => absurd c4 w)
        refine J.sub (jsub_s (jsub_s (jsub_s (jsub_s (jsub_nil _))))) ?_
        refine J.widen (k' := 1) (n' := 4608) (by decide) (by decide) ?_
        exact wbX7_countRings_59 hst _ hq33 hf
      · refine J_if_eq (tgt := 59) dX7_countRings_47 (by decide) (fun w => absurd w c4) (fun _ => ?_)
        refine J_iload_n dX7_countRings_50 rfl rfl ?_
        refine J_aload_n dX7_countRings_51 rfl rfl ?_
        refine J_iload_n dX7_countRings_52 rfl rfl ?_
        refine J_aload_n dX7_countRings_53 rfl rfl ?_
        obtain ⟨k5, hf⟩ := gds hf
        obtain ⟨vo6, zo6, ho6h, ho6, hf⟩ := rfs3 hf
        refine CV2i dX7_countRings_54 (mX7_ringsFrom hst ho6) tk_327 iX7_ringsFrom k5 (by decide) rfl ⟨by decide, by decide⟩ ⟨by decide, by decide⟩ (Nat.le_of_ble_eq_true rfl) ?_
        refine J_iadd dX7_countRings_57 ?_
        obtain ⟨v7, ev7, hf⟩ := bls hf
        refine J_i ev7 ?_
        refine S_istore_n_2 dX7_countRings_58 rfl (by decide) ?_
        refine J.sub (jsub_s (jsub_s (jsub_s (jsub_s (jsub_nil _))))) ?_
        refine J.widen (k' := 1) (n' := 4608) (by decide) (by decide) ?_
        exact wbX7_countRings_59 hst _ hq33 hf
theorem wbX7_countRings_29 {g : JG} (hst : (jl g).stackTraces = false)   {a0 : Nat} {a1 : Nat} {z : Nat} {h : AH} {o : Int32 × Nat × AH} (hf : bX7_countRings_29  a0 a1 z h = some o) : J g MX7_countRings (jN g (some (.int o.1), o.2.1, o.2.2) rmX7_countRings.cells rmX7_countRings.slots) 29 [some (.ref a0), some (.ref a1), none, none] [] z h 1 4608 := by
  unfold bX7_countRings_29 at hf
  refine J_iconst (v := 0) dX7_countRings_29 (by decide) ?_
  refine S_istore_n_2 dX7_countRings_30 rfl (by decide) ?_
  refine J_iconst (v := 0) dX7_countRings_31 (by decide) ?_
  refine S_istore_n_3 dX7_countRings_32 rfl (by decide) ?_
  refine J.sub (jsub_s (jsub_s (jsub_s (jsub_s (jsub_nil _))))) ?_
  refine J.widen (k' := 1) (n' := 4608) (by decide) (by decide) ?_
  exact wlX7_countRings_33 hst   _ _ _ _ _ _ _ _ hf
theorem wfX7_countRings {g : JG} (hst : (jl g).stackTraces = false)   {a0 : Nat} {z : Nat} {h : AH} {o : Int32 × Nat × AH} (hf : fX7_countRings  a0 z h = some o) : J g MX7_countRings (jN g (some (.int o.1), o.2.1, o.2.2) rmX7_countRings.cells rmX7_countRings.slots) 0 [some (.ref a0), none, none, none] [] z h 0 0 := by
  unfold fX7_countRings at hf
  refine J_aload_n dX7_countRings_0 rfl rfl ?_
  obtain ⟨k1, hf⟩ := gds hf
  refine G_7_2 dX7_countRings_1 tk_186 k1 ?_
  rcases br hf with ⟨c2, hf⟩ | ⟨c2, hf⟩
  · refine J_if_ne (tgt := 9) dX7_countRings_4 (by decide) (fun w => absurd c2 w) (fun _ => ?_)
    refine J_iconst (v := 0) dX7_countRings_7 (by decide) ?_
    cases hf
    exact J_iretN dX7_countRings_8 rfl (by decide) (by decide)
  · refine J_if_ne (tgt := 9) dX7_countRings_4 (by decide) (fun _ => ?_) (fun w => absurd w c2)
    refine J_aload_n dX7_countRings_9 rfl rfl ?_
    refine Gq_7_3 dX7_countRings_10 tk_189 k1 ?_
    refine S_astore_nq_1 dX7_countRings_13 rfl (by decide) ?_
    refine J_aload_nq dX7_countRings_14 rfl rfl ?_
    rcases ons hf with ⟨c4, hf⟩ | ⟨a3, c4, hf⟩
    · rw [c4]
      refine J_ifnonnull (r := none) (tgt := 29) dX7_countRings_15 (by decide) (fun _ => ?_) (fun w e => nomatch e)
      refine J_sipush (v := 4608) dX7_countRings_18 (by decide) ?_
      refine J_newarr (ty := .int) (N := 4608) (t := 2) (kk0 := 13) dX7_countRings_21 rfl tk_58 (by decide) (by decide) (by decide) (fun _ => rfl) (fun _ _ hh => hh) (fun ca => ⟨_, rfl, rfl⟩) (by decide) (by decide) ?_
      obtain ⟨h5, eh5, hf⟩ := bls hf
      refine J_h eh5 ?_
      have k6 : kd h5 z = 13 := by rw [eh5]; exact wNew_kd _ _ _ _
      refine S_astore_n_1 dX7_countRings_23 rfl (by decide) ?_
      refine J_aload_n dX7_countRings_24 rfl rfl ?_
      refine J_aload_n dX7_countRings_25 rfl rfl ?_
      obtain ⟨k7, hf⟩ := gds hf
      refine P_7_3 dX7_countRings_26 tk_189 k7 ?_
      obtain ⟨h8, eh8, hf⟩ := bls hf
      refine J_h eh8 ?_
      refine J.sub (jsub_s (jsub_s (jsub_n (jsub_n (jsub_nil _))))) ?_
      refine J.widen (k' := 1) (n' := 4608) (by decide) (by decide) ?_
      exact wbX7_countRings_29 hst   hf
    · rw [c4]
      refine J_ifnonnull (r := some a3) (tgt := 29) dX7_countRings_15 (by decide) (fun e => nomatch e) (fun _ _ => ?_)
      refine J.sub (jsub_s (jsub_s (jsub_n (jsub_n (jsub_nil _))))) ?_
      refine J.widen (k' := 1) (n' := 4608) (by decide) (by decide) ?_
      exact wbX7_countRings_29 hst   hf
theorem mX7_countRings {g : JG} (hst : (jl g).stackTraces = false) {a0 : Nat} {z : Nat} {h : AH} {o : Int32 × Nat × AH} (hf : fX7_countRings a0 z h = some o) : jMet g yX7_countRings (wj yX7_countRings cX7_countRings 4 (some .int)) rmX7_countRings [.ref a0] z h (some (.int o.1), o.2.1, o.2.2) :=
  jMet_mk (by decide) (Nat.le_of_ble_eq_true rfl) [some (.ref a0), none, none, none] rfl (wfX7_countRings hst hf)
def bX7_costOf_35 (q5 : Int32 → Nat → Int32 → Int32 → Nat → AH → Option (Int32 × Nat × AH)) (x1 : Int32) (a2 : Nat) (x3 : Int32) (x4 : Int32) (z : Nat) (h : AH) : Option (Int32 × Nat × AH) :=
  q5 x1 a2 x3 (x4 + 1) z h
def lX7_costOf_5B  (q5 : Int32 → Nat → Int32 → Int32 → Nat → AH → Option (Int32 × Nat × AH)) (x1 : Int32) (a2 : Nat) (x3 : Int32) (x4 : Int32) (z : Nat) (h : AH) : Option (Int32 × Nat × AH) :=
  (if 10 ≤ x4 then (some (x3, z, h)) else (gd (kd h a2 = 13) ((if (Int32.ofNat (ln h a2)) ≤ x4 then (some (x3, z, h)) else (bd3 (fX8_inSet x1 x4 z h) (fun vo4 zo4 ho4h => (if vo4 = 0 then (bX7_costOf_35 q5 x1 a2 x3 x4 zo4 ho4h) else (gd (kd ho4h a2 = 13) (gd (¬ ((x4 : Int32) < 0 ∨ ln ho4h a2 ≤ Int32.toNatClampNeg x4)) (bl ((x3 + (iv ho4h a2 (Int32.toNatClampNeg x4)))) (fun v8 => bX7_costOf_35 q5 x1 a2 v8 x4 zo4 ho4h)))))))))))
def lX7_costOf_5  : Nat → Int32 → Nat → Int32 → Int32 → Nat → AH → Option (Int32 × Nat × AH)
  | 0 => fun _ _ _ _ _ _ => none
  | fuel + 1 => lX7_costOf_5B  (lX7_costOf_5  fuel)
def fX7_costOf  (a0 : Nat) (x1 : Int32) (a2 : Nat) (z : Nat) (h : AH) : Option (Int32 × Nat × AH) :=
  lX7_costOf_5  fu x1 a2 0 0 z h
theorem wbX7_costOf_35 {g : JG} (hst : (jl g).stackTraces = false) (q5 : Int32 → Nat → Int32 → Int32 → Nat → AH → Option (Int32 × Nat × AH)) (hq5 : ∀ (x1 : Int32) (a2 : Nat) (x3 : Int32) (x4 : Int32) (z : Nat) (h : AH) (o : Int32 × Nat × AH), q5 x1 a2 x3 x4 z h = some o → J g MX7_costOf (jN g (some (.int o.1), o.2.1, o.2.2) rmX7_costOf.cells rmX7_costOf.slots) 5 [none, some (.int x1), some (.ref a2), some (.int x3), some (.int x4)] [] z h 0 0) {x1 : Int32} {a2 : Nat} {x3 : Int32} {x4 : Int32} {z : Nat} {h : AH} {o : Int32 × Nat × AH} (hf : bX7_costOf_35 q5 x1 a2 x3 x4 z h = some o) : J g MX7_costOf (jN g (some (.int o.1), o.2.1, o.2.2) rmX7_costOf.cells rmX7_costOf.slots) 35 [none, some (.int x1), some (.ref a2), some (.int x3), some (.int x4)] [] z h 0 0 := by
  unfold bX7_costOf_35 at hf
  refine S_iinc_4 (v := x4 + 1) dX7_costOf_35 (congrArg (fun w => x4 + w) (by decide)) rfl (by decide) ?_
  refine J_goto (tgt := 5) dX7_costOf_38 (by decide) ?_
  refine J.sub (jsub_n (jsub_s (jsub_s (jsub_s (jsub_s (jsub_nil _)))))) ?_
  exact hq5 _ _ _ _ _ _ _ hf
theorem wlX7_costOf_5 {g : JG} (hst : (jl g).stackTraces = false)   : ∀ (fuel : Nat) (x1 : Int32) (a2 : Nat) (x3 : Int32) (x4 : Int32) (z : Nat) (h : AH) (o : Int32 × Nat × AH), lX7_costOf_5  fuel x1 a2 x3 x4 z h = some o → J g MX7_costOf (jN g (some (.int o.1), o.2.1, o.2.2) rmX7_costOf.cells rmX7_costOf.slots) 5 [none, some (.int x1), some (.ref a2), some (.int x3), some (.int x4)] [] z h 0 0 := by
  intro fuel
  induction fuel with
  | zero => intro x1 a2 x3 x4 z h o hf; cases hf
  | succ fuel ih =>
    intro x1 a2 x3 x4 z h o hf
    have hq5 := ih
    have hf : lX7_costOf_5B  (lX7_costOf_5  fuel) x1 a2 x3 x4 z h = some o := hf
    generalize lX7_costOf_5  fuel = q5 at hf hq5
    unfold lX7_costOf_5B at hf
    refine J_iload dX7_costOf_5 rfl ?_
    refine J_bipush (v := 10) dX7_costOf_7 (by decide) ?_
    rcases br hf with ⟨c1, hf⟩ | ⟨c1, hf⟩
    · refine J_icmp_ge (tgt := 41) dX7_costOf_9 (by decide) (fun _ => ?_) (fun w => absurd c1 w)
      refine J_iload_n dX7_costOf_41 rfl rfl ?_
      cases hf
      exact J_iretN dX7_costOf_42 rfl (by decide) (by decide)
    · refine J_icmp_ge (tgt := 41) dX7_costOf_9 (by decide) (fun w => absurd w c1) (fun _ => ?_)
      refine J_iload dX7_costOf_12 rfl ?_
      refine J_aload_n dX7_costOf_14 rfl rfl ?_
      obtain ⟨k2, hf⟩ := gds hf
      refine J_arraylength dX7_costOf_15 k2 rfl ?_
      rcases br hf with ⟨c3, hf⟩ | ⟨c3, hf⟩
      · refine J_icmp_ge (tgt := 41) dX7_costOf_16 (by decide) (fun _ => ?_) (fun w => absurd c3 w)
        refine J_iload_n dX7_costOf_41 rfl rfl ?_
        cases hf
        exact J_iretN dX7_costOf_42 rfl (by decide) (by decide)
      · refine J_icmp_ge (tgt := 41) dX7_costOf_16 (by decide) (fun w => absurd w c3) (fun _ => ?_)
        refine J_iload_n dX7_costOf_19 rfl rfl ?_
        refine J_iload dX7_costOf_20 rfl ?_
        obtain ⟨vo4, zo4, ho4h, ho4, hf⟩ := rfs3 hf
        refine CSN2i dX7_costOf_22 (mX8_inSet hst ho4) tl_308 iX8_inSet ⟨by decide, by decide⟩ ⟨by decide, by decide⟩ (Nat.le_of_ble_eq_true rfl) ?_
        rcases br hf with ⟨c5, hf⟩ | ⟨c5, hf⟩
        · refine J_if_eq (tgt := 35) dX7_costOf_25 (by decide) (fun _ => ?_) (fun w => absurd c5 w)
          refine J.sub (jsub_n (jsub_s (jsub_s (jsub_s (jsub_s (jsub_nil _)))))) ?_
          exact wbX7_costOf_35 hst _ hq5 hf
        · refine J_if_eq (tgt := 35) dX7_costOf_25 (by decide) (fun w => absurd w c5) (fun _ => ?_)
          refine J_iload_n dX7_costOf_28 rfl rfl ?_
          refine J_aload_n dX7_costOf_29 rfl rfl ?_
          refine J_iload dX7_costOf_30 rfl ?_
          obtain ⟨k6, hf⟩ := gds hf
          obtain ⟨n7, hf⟩ := gds hf
          refine J_iaload dX7_costOf_32 k6 n7 ?_
          refine J_iadd dX7_costOf_33 ?_
          obtain ⟨v8, ev8, hf⟩ := bls hf
          refine J_i ev8 ?_
          refine S_istore_n_3 dX7_costOf_34 rfl (by decide) ?_
          refine J.sub (jsub_n (jsub_s (jsub_s (jsub_s (jsub_s (jsub_nil _)))))) ?_
          exact wbX7_costOf_35 hst _ hq5 hf
theorem wfX7_costOf {g : JG} (hst : (jl g).stackTraces = false)   {a0 : Nat} {x1 : Int32} {a2 : Nat} {z : Nat} {h : AH} {o : Int32 × Nat × AH} (hf : fX7_costOf  a0 x1 a2 z h = some o) : J g MX7_costOf (jN g (some (.int o.1), o.2.1, o.2.2) rmX7_costOf.cells rmX7_costOf.slots) 0 [some (.ref a0), some (.int x1), some (.ref a2), none, none] [] z h 0 0 := by
  unfold fX7_costOf at hf
  refine J_iconst (v := 0) dX7_costOf_0 (by decide) ?_
  refine S_istore_n_3 dX7_costOf_1 rfl (by decide) ?_
  refine J_iconst (v := 0) dX7_costOf_2 (by decide) ?_
  refine S_istore_4 dX7_costOf_3 rfl (by decide) ?_
  refine J.sub (jsub_n (jsub_s (jsub_s (jsub_s (jsub_s (jsub_nil _)))))) ?_
  exact wlX7_costOf_5 hst   _ _ _ _ _ _ _ _ hf
theorem mX7_costOf {g : JG} (hst : (jl g).stackTraces = false) {a0 : Nat} {x1 : Int32} {a2 : Nat} {z : Nat} {h : AH} {o : Int32 × Nat × AH} (hf : fX7_costOf a0 x1 a2 z h = some o) : jMet g yX7_costOf (wj yX7_costOf cX7_costOf 5 (some .int)) rmX7_costOf [.ref a0, .int x1, .ref a2] z h (some (.int o.1), o.2.1, o.2.2) :=
  jMet_mk (by decide) (Nat.le_of_ble_eq_true rfl) [some (.ref a0), some (.int x1), some (.ref a2), none, none] rfl (wfX7_costOf hst hf)
def bX7_isRingFree_77  (x2 : Int32) (z : Nat) (h : AH) : Option (Int32 × Nat × AH) :=
  (if x2 = 0 then (some (1, z, h)) else (some (0, z, h)))
def bX7_isRingFree_57 (q20 : Nat → Int32 → Int32 → Int32 → Int32 → Nat → AH → Option (Int32 × Nat × AH)) (a0 : Nat) (x2 : Int32) (x3 : Int32) (x4 : Int32) (x5 : Int32) (z : Nat) (h : AH) : Option (Int32 × Nat × AH) :=
  q20 a0 x2 x3 x4 (x5 + 1) z h
def lX7_isRingFree_20B (q4 : Nat → Int32 → Int32 → Nat → AH → Option (Int32 × Nat × AH)) (q20 : Nat → Int32 → Int32 → Int32 → Int32 → Nat → AH → Option (Int32 × Nat × AH)) (a0 : Nat) (x2 : Int32) (x3 : Int32) (x4 : Int32) (x5 : Int32) (z : Nat) (h : AH) : Option (Int32 × Nat × AH) :=
  (if 10 ≤ x5 then ((if x2 = x4 then (some (0, z, h)) else (q4 a0 x2 (x3 + 1) z h))) else (bd3 (fX8_inSet x2 x5 z h) (fun vo3 zo3 ho3h => (if vo3 = 0 then (bX7_isRingFree_57 q20 a0 x2 x3 x4 x5 zo3 ho3h) else (gd (kd ho3h a0 = 8) (Option.bind (rv ho3h a0 0) (fun b6 => gd (kd ho3h b6 = 13) (gd (¬ ((x5 : Int32) < 0 ∨ ln ho3h b6 ≤ Int32.toNatClampNeg x5)) ((if ((iv ho3h b6 (Int32.toNatClampNeg x5)) &&& x2) = 0 then (bl ((x2 &&& ((1 <<< (x5 &&& 31)) ^^^ (-1)))) (fun v10 => bX7_isRingFree_57 q20 a0 v10 x3 x4 x5 zo3 ho3h)) else (bX7_isRingFree_57 q20 a0 x2 x3 x4 x5 zo3 ho3h)))))))))))
def lX7_isRingFree_20 (q4 : Nat → Int32 → Int32 → Nat → AH → Option (Int32 × Nat × AH)) : Nat → Nat → Int32 → Int32 → Int32 → Int32 → Nat → AH → Option (Int32 × Nat × AH)
  | 0 => fun _ _ _ _ _ _ _ => none
  | fuel + 1 => lX7_isRingFree_20B q4 (lX7_isRingFree_20 q4 fuel)
def lX7_isRingFree_4B  (q4 : Nat → Int32 → Int32 → Nat → AH → Option (Int32 × Nat × AH)) (a0 : Nat) (x2 : Int32) (x3 : Int32) (z : Nat) (h : AH) : Option (Int32 × Nat × AH) :=
  (if 10 ≤ x3 then (bX7_isRingFree_77  x2 z h) else ((if x2 = 0 then (bX7_isRingFree_77  x2 z h) else (lX7_isRingFree_20 q4 fu a0 x2 x3 x2 0 z h))))
def lX7_isRingFree_4  : Nat → Nat → Int32 → Int32 → Nat → AH → Option (Int32 × Nat × AH)
  | 0 => fun _ _ _ _ _ => none
  | fuel + 1 => lX7_isRingFree_4B  (lX7_isRingFree_4  fuel)
def fX7_isRingFree  (a0 : Nat) (x1 : Int32) (z : Nat) (h : AH) : Option (Int32 × Nat × AH) :=
  lX7_isRingFree_4  fu a0 x1 0 z h
theorem wbX7_isRingFree_77 {g : JG} (hst : (jl g).stackTraces = false)   {x2 : Int32} {z : Nat} {h : AH} {o : Int32 × Nat × AH} (hf : bX7_isRingFree_77  x2 z h = some o) : J g MX7_isRingFree (jN g (some (.int o.1), o.2.1, o.2.2) rmX7_isRingFree.cells rmX7_isRingFree.slots) 77 [none, none, some (.int x2), none, none, none] [] z h 0 0 := by
  unfold bX7_isRingFree_77 at hf
  refine J_iload_n dX7_isRingFree_77 rfl rfl ?_
  rcases br hf with ⟨c1, hf⟩ | ⟨c1, hf⟩
  · refine J_if_ne (tgt := 85) dX7_isRingFree_78 (by decide) (fun w => absurd c1 w) (fun _ => ?_)
    refine J_iconst (v := 1) dX7_isRingFree_81 (by decide) ?_
    refine J_goto (tgt := 86) dX7_isRingFree_82 (by decide) ?_
    cases hf
    exact J_zretN dX7_isRingFree_86 rfl (Or.inr rfl) (by decide) (by decide)
  · refine J_if_ne (tgt := 85) dX7_isRingFree_78 (by decide) (fun _ => ?_) (fun w => absurd w c1)
    refine J_iconst (v := 0) dX7_isRingFree_85 (by decide) ?_
    cases hf
    exact J_zretN dX7_isRingFree_86 rfl (Or.inl rfl) (by decide) (by decide)
theorem wbX7_isRingFree_57 {g : JG} (hst : (jl g).stackTraces = false) (q20 : Nat → Int32 → Int32 → Int32 → Int32 → Nat → AH → Option (Int32 × Nat × AH)) (hq20 : ∀ (a0 : Nat) (x2 : Int32) (x3 : Int32) (x4 : Int32) (x5 : Int32) (z : Nat) (h : AH) (o : Int32 × Nat × AH), q20 a0 x2 x3 x4 x5 z h = some o → J g MX7_isRingFree (jN g (some (.int o.1), o.2.1, o.2.2) rmX7_isRingFree.cells rmX7_isRingFree.slots) 20 [some (.ref a0), none, some (.int x2), some (.int x3), some (.int x4), some (.int x5)] [] z h 0 0) {a0 : Nat} {x2 : Int32} {x3 : Int32} {x4 : Int32} {x5 : Int32} {z : Nat} {h : AH} {o : Int32 × Nat × AH} (hf : bX7_isRingFree_57 q20 a0 x2 x3 x4 x5 z h = some o) : J g MX7_isRingFree (jN g (some (.int o.1), o.2.1, o.2.2) rmX7_isRingFree.cells rmX7_isRingFree.slots) 57 [some (.ref a0), none, some (.int x2), some (.int x3), some (.int x4), some (.int x5)] [] z h 0 0 := by
  unfold bX7_isRingFree_57 at hf
  refine S_iinc_5 (v := x5 + 1) dX7_isRingFree_57 (congrArg (fun w => x5 + w) (by decide)) rfl (by decide) ?_
  refine J_goto (tgt := 20) dX7_isRingFree_60 (by decide) ?_
  refine J.sub (jsub_s (jsub_n (jsub_s (jsub_s (jsub_s (jsub_s (jsub_nil _))))))) ?_
  exact hq20 _ _ _ _ _ _ _ _ hf
theorem wlX7_isRingFree_20 {g : JG} (hst : (jl g).stackTraces = false) (q4 : Nat → Int32 → Int32 → Nat → AH → Option (Int32 × Nat × AH)) (hq4 : ∀ (a0 : Nat) (x2 : Int32) (x3 : Int32) (z : Nat) (h : AH) (o : Int32 × Nat × AH), q4 a0 x2 x3 z h = some o → J g MX7_isRingFree (jN g (some (.int o.1), o.2.1, o.2.2) rmX7_isRingFree.cells rmX7_isRingFree.slots) 4 [some (.ref a0), none, some (.int x2), some (.int x3), none, none] [] z h 0 0) : ∀ (fuel : Nat) (a0 : Nat) (x2 : Int32) (x3 : Int32) (x4 : Int32) (x5 : Int32) (z : Nat) (h : AH) (o : Int32 × Nat × AH), lX7_isRingFree_20 q4 fuel a0 x2 x3 x4 x5 z h = some o → J g MX7_isRingFree (jN g (some (.int o.1), o.2.1, o.2.2) rmX7_isRingFree.cells rmX7_isRingFree.slots) 20 [some (.ref a0), none, some (.int x2), some (.int x3), some (.int x4), some (.int x5)] [] z h 0 0 := by
  intro fuel
  induction fuel with
  | zero => intro a0 x2 x3 x4 x5 z h o hf; cases hf
  | succ fuel ih =>
    intro a0 x2 x3 x4 x5 z h o hf
    have hq20 := ih
    have hf : lX7_isRingFree_20B q4 (lX7_isRingFree_20 q4 fuel) a0 x2 x3 x4 x5 z h = some o := hf
    generalize lX7_isRingFree_20 q4 fuel = q20 at hf hq20
    unfold lX7_isRingFree_20B at hf
    refine J_iload dX7_isRingFree_20 rfl ?_
    refine J_bipush (v := 10) dX7_isRingFree_22 (by decide) ?_
    rcases br hf with ⟨c1, hf⟩ | ⟨c1, hf⟩
    · refine J_icmp_ge (tgt := 63) dX7_isRingFree_24 (by decide) (fun _ => ?_) (fun w => absurd c1 w)
      refine J_iload_n dX7_isRingFree_63 rfl rfl ?_
      refine J_iload dX7_isRingFree_64 rfl ?_
      rcases br hf with ⟨c2, hf⟩ | ⟨c2, hf⟩
      · refine J_icmp_ne (tgt := 71) dX7_isRingFree_66 (by decide) (fun w => absurd c2 w) (fun _ => ?_)
        refine J_iconst (v := 0) dX7_isRingFree_69 (by decide) ?_
        cases hf
        exact J_zretN dX7_isRingFree_70 rfl (Or.inl rfl) (by decide) (by decide)
      · refine J_icmp_ne (tgt := 71) dX7_isRingFree_66 (by decide) (fun _ => ?_) (fun w => absurd w c2)
        refine S_iinc_3 (v := x3 + 1) dX7_isRingFree_71 (congrArg (fun w => x3 + w) (by decide)) rfl (by decide) ?_
        refine J_goto (tgt := 4) dX7_isRingFree_74 (by decide) ?_
        refine J.sub (jsub_s (jsub_n (jsub_s (jsub_s (jsub_n (jsub_n (jsub_nil _))))))) ?_
        exact hq4 _ _ _ _ _ _ hf
    · refine J_icmp_ge (tgt := 63) dX7_isRingFree_24 (by decide) (fun w => absurd w c1) (fun _ => ?_)
      refine J_iload_n dX7_isRingFree_27 rfl rfl ?_
      refine J_iload dX7_isRingFree_28 rfl ?_
      obtain ⟨vo3, zo3, ho3h, ho3, hf⟩ := rfs3 hf
      refine CSN2i dX7_isRingFree_30 (mX8_inSet hst ho3) tl_308 iX8_inSet ⟨by decide, by decide⟩ ⟨by decide, by decide⟩ (Nat.le_of_ble_eq_true rfl) ?_
      rcases br hf with ⟨c4, hf⟩ | ⟨c4, hf⟩
      · refine J_if_eq (tgt := 57) dX7_isRingFree_33 (by decide) (fun _ => ?_) (fun w => absurd c4 w)
        refine J.sub (jsub_s (jsub_n (jsub_s (jsub_s (jsub_s (jsub_s (jsub_nil _))))))) ?_
        exact wbX7_isRingFree_57 hst _ hq20 hf
      · refine J_if_eq (tgt := 57) dX7_isRingFree_33 (by decide) (fun w => absurd w c4) (fun _ => ?_)
        refine J_aload_n dX7_isRingFree_36 rfl rfl ?_
        obtain ⟨k5, hf⟩ := gds hf
        obtain ⟨b6, rb6, hf⟩ := rfs hf
        refine G_7_0 dX7_isRingFree_37 tk_184 k5 rb6 ?_
        refine J_iload dX7_isRingFree_40 rfl ?_
        obtain ⟨k7, hf⟩ := gds hf
        obtain ⟨n8, hf⟩ := gds hf
        refine J_iaload dX7_isRingFree_42 k7 n8 ?_
        refine J_iload_n dX7_isRingFree_43 rfl rfl ?_
        refine J_iand dX7_isRingFree_44 ?_
        rcases br hf with ⟨c9, hf⟩ | ⟨c9, hf⟩
        · refine J_if_ne (tgt := 57) dX7_isRingFree_45 (by decide) (fun w => absurd c9 w) (fun _ => ?_)
          refine J_iload_n dX7_isRingFree_48 rfl rfl ?_
          refine J_iconst (v := 1) dX7_isRingFree_49 (by decide) ?_
          refine J_iload dX7_isRingFree_50 rfl ?_
          refine J_ishl dX7_isRingFree_52 ?_
          refine J_iconst (v := (-1)) dX7_isRingFree_53 (by decide) ?_
          refine J_ixor dX7_isRingFree_54 ?_
          refine J_iand dX7_isRingFree_55 ?_
          obtain ⟨v10, ev10, hf⟩ := bls hf
          refine J_i ev10 ?_
          refine S_istore_n_2 dX7_isRingFree_56 rfl (by decide) ?_
          refine J.sub (jsub_s (jsub_n (jsub_s (jsub_s (jsub_s (jsub_s (jsub_nil _))))))) ?_
          exact wbX7_isRingFree_57 hst _ hq20 hf
        · refine J_if_ne (tgt := 57) dX7_isRingFree_45 (by decide) (fun _ => ?_) (fun w => absurd w c9)
          refine J.sub (jsub_s (jsub_n (jsub_s (jsub_s (jsub_s (jsub_s (jsub_nil _))))))) ?_
          exact wbX7_isRingFree_57 hst _ hq20 hf
theorem wlX7_isRingFree_4 {g : JG} (hst : (jl g).stackTraces = false)   : ∀ (fuel : Nat) (a0 : Nat) (x2 : Int32) (x3 : Int32) (z : Nat) (h : AH) (o : Int32 × Nat × AH), lX7_isRingFree_4  fuel a0 x2 x3 z h = some o → J g MX7_isRingFree (jN g (some (.int o.1), o.2.1, o.2.2) rmX7_isRingFree.cells rmX7_isRingFree.slots) 4 [some (.ref a0), none, some (.int x2), some (.int x3), none, none] [] z h 0 0 := by
  intro fuel
  induction fuel with
  | zero => intro a0 x2 x3 z h o hf; cases hf
  | succ fuel ih =>
    intro a0 x2 x3 z h o hf
    have hq4 := ih
    have hf : lX7_isRingFree_4B  (lX7_isRingFree_4  fuel) a0 x2 x3 z h = some o := hf
    generalize lX7_isRingFree_4  fuel = q4 at hf hq4
    unfold lX7_isRingFree_4B at hf
    refine J_iload_n dX7_isRingFree_4 rfl rfl ?_
    refine J_bipush (v := 10) dX7_isRingFree_5 (by decide) ?_
    rcases br hf with ⟨c1, hf⟩ | ⟨c1, hf⟩
    · refine J_icmp_ge (tgt := 77) dX7_isRingFree_7 (by decide) (fun _ => ?_) (fun w => absurd c1 w)
      refine J.sub (jsub_n (jsub_n (jsub_s (jsub_n (jsub_n (jsub_n (jsub_nil _))))))) ?_
      exact wbX7_isRingFree_77 hst   hf
    · refine J_icmp_ge (tgt := 77) dX7_isRingFree_7 (by decide) (fun w => absurd w c1) (fun _ => ?_)
      refine J_iload_n dX7_isRingFree_10 rfl rfl ?_
      rcases br hf with ⟨c2, hf⟩ | ⟨c2, hf⟩
      · refine J_if_eq (tgt := 77) dX7_isRingFree_11 (by decide) (fun _ => ?_) (fun w => absurd c2 w)
        refine J.sub (jsub_n (jsub_n (jsub_s (jsub_n (jsub_n (jsub_n (jsub_nil _))))))) ?_
        exact wbX7_isRingFree_77 hst   hf
      · refine J_if_eq (tgt := 77) dX7_isRingFree_11 (by decide) (fun w => absurd w c2) (fun _ => ?_)
        refine J_iload_n dX7_isRingFree_14 rfl rfl ?_
        refine S_istore_4 dX7_isRingFree_15 rfl (by decide) ?_
        refine J_iconst (v := 0) dX7_isRingFree_17 (by decide) ?_
        refine S_istore_5 dX7_isRingFree_18 rfl (by decide) ?_
        refine J.sub (jsub_s (jsub_n (jsub_s (jsub_s (jsub_s (jsub_s (jsub_nil _))))))) ?_
        exact wlX7_isRingFree_20 hst _ hq4 _ _ _ _ _ _ _ _ _ hf
theorem wfX7_isRingFree {g : JG} (hst : (jl g).stackTraces = false)   {a0 : Nat} {x1 : Int32} {z : Nat} {h : AH} {o : Int32 × Nat × AH} (hf : fX7_isRingFree  a0 x1 z h = some o) : J g MX7_isRingFree (jN g (some (.int o.1), o.2.1, o.2.2) rmX7_isRingFree.cells rmX7_isRingFree.slots) 0 [some (.ref a0), some (.int x1), none, none, none, none] [] z h 0 0 := by
  unfold fX7_isRingFree at hf
  refine J_iload_n dX7_isRingFree_0 rfl rfl ?_
  refine S_istore_n_2 dX7_isRingFree_1 rfl (by decide) ?_
  refine J_iconst (v := 0) dX7_isRingFree_2 (by decide) ?_
  refine S_istore_n_3 dX7_isRingFree_3 rfl (by decide) ?_
  refine J.sub (jsub_s (jsub_n (jsub_s (jsub_s (jsub_n (jsub_n (jsub_nil _))))))) ?_
  exact wlX7_isRingFree_4 hst   _ _ _ _ _ _ _ hf
theorem mX7_isRingFree {g : JG} (hst : (jl g).stackTraces = false) {a0 : Nat} {x1 : Int32} {z : Nat} {h : AH} {o : Int32 × Nat × AH} (hf : fX7_isRingFree a0 x1 z h = some o) : jMet g yX7_isRingFree (wj yX7_isRingFree cX7_isRingFree 6 (some .boolean)) rmX7_isRingFree [.ref a0, .int x1] z h (some (.int o.1), o.2.1, o.2.2) :=
  jMet_mk (by decide) (Nat.le_of_ble_eq_true rfl) [some (.ref a0), some (.int x1), none, none, none, none] rfl (wfX7_isRingFree hst hf)
def bX7_leastVictims_106 (q18 : Nat → Nat → Int32 → Int32 → Int32 → Nat → AH → Option (Int32 × Nat × AH)) (a0 : Nat) (a1 : Nat) (x2 : Int32) (x3 : Int32) (x4 : Int32) (z : Nat) (h : AH) : Option (Int32 × Nat × AH) :=
  q18 a0 a1 x2 x3 (x4 + 1) z h
def bX7_leastVictims_77 (q18 : Nat → Nat → Int32 → Int32 → Int32 → Nat → AH → Option (Int32 × Nat × AH)) (a0 : Nat) (a1 : Nat) (x2 : Int32) (x3 : Int32) (x4 : Int32) (x5 : Int32) (s0 : Int32) (z : Nat) (h : AH) : Option (Int32 × Nat × AH) :=
  (if s0 = 0 then (bX7_leastVictims_106 q18 a0 a1 x2 x3 x4 z h) else (gd (kd h a0 = 8) (bd3 (fX7_isRingFree a0 ((iv h a0 2) &&& (x4 ^^^ (-1))) z h) (fun vo3 zo3 ho3h => (if vo3 = 0 then (bX7_leastVictims_106 q18 a0 a1 x2 x3 x4 zo3 ho3h) else (bX7_leastVictims_106 q18 a0 a1 x4 x5 x4 zo3 ho3h))))))
def bX7_leastVictims_76 (q18 : Nat → Nat → Int32 → Int32 → Int32 → Nat → AH → Option (Int32 × Nat × AH)) (a0 : Nat) (a1 : Nat) (x2 : Int32) (x3 : Int32) (x4 : Int32) (x5 : Int32) (z : Nat) (h : AH) : Option (Int32 × Nat × AH) :=
  bX7_leastVictims_77 q18 a0 a1 x2 x3 x4 x5 0 z h
def bX7_leastVictims_72 (q18 : Nat → Nat → Int32 → Int32 → Int32 → Nat → AH → Option (Int32 × Nat × AH)) (a0 : Nat) (a1 : Nat) (x2 : Int32) (x3 : Int32) (x4 : Int32) (x5 : Int32) (z : Nat) (h : AH) : Option (Int32 × Nat × AH) :=
  bX7_leastVictims_77 q18 a0 a1 x2 x3 x4 x5 1 z h
def lX7_leastVictims_18B  (q18 : Nat → Nat → Int32 → Int32 → Int32 → Nat → AH → Option (Int32 × Nat × AH)) (a0 : Nat) (a1 : Nat) (x2 : Int32) (x3 : Int32) (x4 : Int32) (z : Nat) (h : AH) : Option (Int32 × Nat × AH) :=
  gd (kd h a0 = 8) ((if (iv h a0 2) ≤ x4 then (some (x2, z, h)) else ((if (x4 &&& ((iv h a0 2) ^^^ (-1))) = 0 then (bd3 (fX7_costOf a0 x4 a1 z h) (fun vo4 zo4 ho4h => (if vo4 < x3 then (bX7_leastVictims_72 q18 a0 a1 x2 x3 x4 vo4 zo4 ho4h) else ((if vo4 = x3 then (bd3 (fJ6_bitCount_0f7a4 x4 zo4 ho4h) (fun vo7 zo7 ho7h => bd3 (fJ6_bitCount_0f7a4 x2 zo7 ho7h) (fun vo8 zo8 ho8h => (if vo8 ≤ vo7 then (bX7_leastVictims_76 q18 a0 a1 x2 x3 x4 vo4 zo8 ho8h) else (bX7_leastVictims_72 q18 a0 a1 x2 x3 x4 vo4 zo8 ho8h))))) else (bX7_leastVictims_76 q18 a0 a1 x2 x3 x4 vo4 zo4 ho4h)))))) else (bX7_leastVictims_106 q18 a0 a1 x2 x3 x4 z h)))))
def lX7_leastVictims_18  : Nat → Nat → Nat → Int32 → Int32 → Int32 → Nat → AH → Option (Int32 × Nat × AH)
  | 0 => fun _ _ _ _ _ _ _ => none
  | fuel + 1 => lX7_leastVictims_18B  (lX7_leastVictims_18  fuel)
def fX7_leastVictims  (a0 : Nat) (a1 : Nat) (z : Nat) (h : AH) : Option (Int32 × Nat × AH) :=
  gd (kd h a0 = 8) (bl ((iv h a0 2)) (fun v2 => bd3 (fX7_costOf a0 (iv h a0 2) a1 z h) (fun vo3 zo3 ho3h => lX7_leastVictims_18  fu a0 a1 v2 vo3 1 zo3 ho3h)))
theorem wbX7_leastVictims_106 {g : JG} (hst : (jl g).stackTraces = false) (q18 : Nat → Nat → Int32 → Int32 → Int32 → Nat → AH → Option (Int32 × Nat × AH)) (hq18 : ∀ (a0 : Nat) (a1 : Nat) (x2 : Int32) (x3 : Int32) (x4 : Int32) (z : Nat) (h : AH) (o : Int32 × Nat × AH), q18 a0 a1 x2 x3 x4 z h = some o → J g MX7_leastVictims (jN g (some (.int o.1), o.2.1, o.2.2) rmX7_leastVictims.cells rmX7_leastVictims.slots) 18 [some (.ref a0), some (.ref a1), some (.int x2), some (.int x3), some (.int x4), none, none] [] z h 0 0) {a0 : Nat} {a1 : Nat} {x2 : Int32} {x3 : Int32} {x4 : Int32} {z : Nat} {h : AH} {o : Int32 × Nat × AH} (hf : bX7_leastVictims_106 q18 a0 a1 x2 x3 x4 z h = some o) : J g MX7_leastVictims (jN g (some (.int o.1), o.2.1, o.2.2) rmX7_leastVictims.cells rmX7_leastVictims.slots) 106 [some (.ref a0), some (.ref a1), some (.int x2), some (.int x3), some (.int x4), none, none] [] z h 0 0 := by
  unfold bX7_leastVictims_106 at hf
  refine S_iinc_4 (v := x4 + 1) dX7_leastVictims_106 (congrArg (fun w => x4 + w) (by decide)) rfl (by decide) ?_
  refine J_goto (tgt := 18) dX7_leastVictims_109 (by decide) ?_
  refine J.sub (jsub_s (jsub_s (jsub_s (jsub_s (jsub_s (jsub_n (jsub_n (jsub_nil _)))))))) ?_
  exact hq18 _ _ _ _ _ _ _ _ hf
theorem wbX7_leastVictims_77 {g : JG} (hst : (jl g).stackTraces = false) (q18 : Nat → Nat → Int32 → Int32 → Int32 → Nat → AH → Option (Int32 × Nat × AH)) (hq18 : ∀ (a0 : Nat) (a1 : Nat) (x2 : Int32) (x3 : Int32) (x4 : Int32) (z : Nat) (h : AH) (o : Int32 × Nat × AH), q18 a0 a1 x2 x3 x4 z h = some o → J g MX7_leastVictims (jN g (some (.int o.1), o.2.1, o.2.2) rmX7_leastVictims.cells rmX7_leastVictims.slots) 18 [some (.ref a0), some (.ref a1), some (.int x2), some (.int x3), some (.int x4), none, none] [] z h 0 0) {a0 : Nat} {a1 : Nat} {x2 : Int32} {x3 : Int32} {x4 : Int32} {x5 : Int32} {s0 : Int32} {z : Nat} {h : AH} {o : Int32 × Nat × AH} (hf : bX7_leastVictims_77 q18 a0 a1 x2 x3 x4 x5 s0 z h = some o) : J g MX7_leastVictims (jN g (some (.int o.1), o.2.1, o.2.2) rmX7_leastVictims.cells rmX7_leastVictims.slots) 77 [some (.ref a0), some (.ref a1), some (.int x2), some (.int x3), some (.int x4), some (.int x5), none] [.int s0] z h 0 0 := by
  unfold bX7_leastVictims_77 at hf
  refine S_istore_6 dX7_leastVictims_77 rfl (by decide) ?_
  refine J_iload dX7_leastVictims_79 rfl ?_
  rcases br hf with ⟨c1, hf⟩ | ⟨c1, hf⟩
  · refine J_if_eq (tgt := 106) dX7_leastVictims_81 (by decide) (fun _ => ?_) (fun w => absurd c1 w)
    refine J.sub (jsub_s (jsub_s (jsub_s (jsub_s (jsub_s (jsub_n (jsub_n (jsub_nil _)))))))) ?_
    exact wbX7_leastVictims_106 hst _ hq18 hf
  · refine J_if_eq (tgt := 106) dX7_leastVictims_81 (by decide) (fun w => absurd w c1) (fun _ => ?_)
    refine J_aload_n dX7_leastVictims_84 rfl rfl ?_
    refine J_aload_n dX7_leastVictims_85 rfl rfl ?_
    obtain ⟨k2, hf⟩ := gds hf
    refine G_7_2 dX7_leastVictims_86 tk_186 k2 ?_
    refine J_iload dX7_leastVictims_89 rfl ?_
    refine J_iconst (v := (-1)) dX7_leastVictims_91 (by decide) ?_
    refine J_ixor dX7_leastVictims_92 ?_
    refine J_iand dX7_leastVictims_93 ?_
    obtain ⟨vo3, zo3, ho3h, ho3, hf⟩ := rfs3 hf
    refine CV1i dX7_leastVictims_94 (mX7_isRingFree hst ho3) tk_353 iX7_isRingFree k2 (by decide) rfl ⟨by decide, by decide⟩ ⟨by decide, by decide⟩ (Nat.le_of_ble_eq_true rfl) ?_
    rcases br hf with ⟨c4, hf⟩ | ⟨c4, hf⟩
    · refine J_if_eq (tgt := 106) dX7_leastVictims_97 (by decide) (fun _ => ?_) (fun w => absurd c4 w)
      refine J.sub (jsub_s (jsub_s (jsub_s (jsub_s (jsub_s (jsub_n (jsub_n (jsub_nil _)))))))) ?_
      exact wbX7_leastVictims_106 hst _ hq18 hf
    · refine J_if_eq (tgt := 106) dX7_leastVictims_97 (by decide) (fun w => absurd w c4) (fun _ => ?_)
      refine J_iload dX7_leastVictims_100 rfl ?_
      refine S_istore_n_2 dX7_leastVictims_102 rfl (by decide) ?_
      refine J_iload dX7_leastVictims_103 rfl ?_
      refine S_istore_n_3 dX7_leastVictims_105 rfl (by decide) ?_
      refine J.sub (jsub_s (jsub_s (jsub_s (jsub_s (jsub_s (jsub_n (jsub_n (jsub_nil _)))))))) ?_
      exact wbX7_leastVictims_106 hst _ hq18 hf
theorem wbX7_leastVictims_76 {g : JG} (hst : (jl g).stackTraces = false) (q18 : Nat → Nat → Int32 → Int32 → Int32 → Nat → AH → Option (Int32 × Nat × AH)) (hq18 : ∀ (a0 : Nat) (a1 : Nat) (x2 : Int32) (x3 : Int32) (x4 : Int32) (z : Nat) (h : AH) (o : Int32 × Nat × AH), q18 a0 a1 x2 x3 x4 z h = some o → J g MX7_leastVictims (jN g (some (.int o.1), o.2.1, o.2.2) rmX7_leastVictims.cells rmX7_leastVictims.slots) 18 [some (.ref a0), some (.ref a1), some (.int x2), some (.int x3), some (.int x4), none, none] [] z h 0 0) {a0 : Nat} {a1 : Nat} {x2 : Int32} {x3 : Int32} {x4 : Int32} {x5 : Int32} {z : Nat} {h : AH} {o : Int32 × Nat × AH} (hf : bX7_leastVictims_76 q18 a0 a1 x2 x3 x4 x5 z h = some o) : J g MX7_leastVictims (jN g (some (.int o.1), o.2.1, o.2.2) rmX7_leastVictims.cells rmX7_leastVictims.slots) 76 [some (.ref a0), some (.ref a1), some (.int x2), some (.int x3), some (.int x4), some (.int x5), none] [] z h 0 0 := by
  unfold bX7_leastVictims_76 at hf
  refine J_iconst (v := 0) dX7_leastVictims_76 (by decide) ?_
  refine J.sub (jsub_s (jsub_s (jsub_s (jsub_s (jsub_s (jsub_s (jsub_n (jsub_nil _)))))))) ?_
  exact wbX7_leastVictims_77 hst _ hq18 hf
theorem wbX7_leastVictims_72 {g : JG} (hst : (jl g).stackTraces = false) (q18 : Nat → Nat → Int32 → Int32 → Int32 → Nat → AH → Option (Int32 × Nat × AH)) (hq18 : ∀ (a0 : Nat) (a1 : Nat) (x2 : Int32) (x3 : Int32) (x4 : Int32) (z : Nat) (h : AH) (o : Int32 × Nat × AH), q18 a0 a1 x2 x3 x4 z h = some o → J g MX7_leastVictims (jN g (some (.int o.1), o.2.1, o.2.2) rmX7_leastVictims.cells rmX7_leastVictims.slots) 18 [some (.ref a0), some (.ref a1), some (.int x2), some (.int x3), some (.int x4), none, none] [] z h 0 0) {a0 : Nat} {a1 : Nat} {x2 : Int32} {x3 : Int32} {x4 : Int32} {x5 : Int32} {z : Nat} {h : AH} {o : Int32 × Nat × AH} (hf : bX7_leastVictims_72 q18 a0 a1 x2 x3 x4 x5 z h = some o) : J g MX7_leastVictims (jN g (some (.int o.1), o.2.1, o.2.2) rmX7_leastVictims.cells rmX7_leastVictims.slots) 72 [some (.ref a0), some (.ref a1), some (.int x2), some (.int x3), some (.int x4), some (.int x5), none] [] z h 0 0 := by
  unfold bX7_leastVictims_72 at hf
  refine J_iconst (v := 1) dX7_leastVictims_72 (by decide) ?_
  refine J_goto (tgt := 77) dX7_leastVictims_73 (by decide) ?_
  refine J.sub (jsub_s (jsub_s (jsub_s (jsub_s (jsub_s (jsub_s (jsub_n (jsub_nil _)))))))) ?_
  exact wbX7_leastVictims_77 hst _ hq18 hf
theorem wlX7_leastVictims_18 {g : JG} (hst : (jl g).stackTraces = false)   : ∀ (fuel : Nat) (a0 : Nat) (a1 : Nat) (x2 : Int32) (x3 : Int32) (x4 : Int32) (z : Nat) (h : AH) (o : Int32 × Nat × AH), lX7_leastVictims_18  fuel a0 a1 x2 x3 x4 z h = some o → J g MX7_leastVictims (jN g (some (.int o.1), o.2.1, o.2.2) rmX7_leastVictims.cells rmX7_leastVictims.slots) 18 [some (.ref a0), some (.ref a1), some (.int x2), some (.int x3), some (.int x4), none, none] [] z h 0 0 := by
  intro fuel
  induction fuel with
  | zero => intro a0 a1 x2 x3 x4 z h o hf; cases hf
  | succ fuel ih =>
    intro a0 a1 x2 x3 x4 z h o hf
    have hq18 := ih
    have hf : lX7_leastVictims_18B  (lX7_leastVictims_18  fuel) a0 a1 x2 x3 x4 z h = some o := hf
    generalize lX7_leastVictims_18  fuel = q18 at hf hq18
    unfold lX7_leastVictims_18B at hf
    refine J_iload dX7_leastVictims_18 rfl ?_
    refine J_aload_n dX7_leastVictims_20 rfl rfl ?_
    obtain ⟨k1, hf⟩ := gds hf
    refine G_7_2 dX7_leastVictims_21 tk_186 k1 ?_
    rcases br hf with ⟨c2, hf⟩ | ⟨c2, hf⟩
    · refine J_icmp_ge (tgt := 112) dX7_leastVictims_24 (by decide) (fun _ => ?_) (fun w => absurd c2 w)
      refine J_iload_n dX7_leastVictims_112 rfl rfl ?_
      cases hf
      exact J_iretN dX7_leastVictims_113 rfl (by decide) (by decide)
    · refine J_icmp_ge (tgt := 112) dX7_leastVictims_24 (by decide) (fun w => absurd w c2) (fun _ => ?_)
      refine J_iload dX7_leastVictims_27 rfl ?_
      refine J_aload_n dX7_leastVictims_29 rfl rfl ?_
      refine G_7_2 dX7_leastVictims_30 tk_186 k1 ?_
      refine J_iconst (v := (-1)) dX7_leastVictims_33 (by decide) ?_
      refine J_ixor dX7_leastVictims_34 ?_
      refine J_iand dX7_leastVictims_35 ?_
      rcases br hf with ⟨c3, hf⟩ | ⟨c3, hf⟩
      · refine J_if_ne (tgt := 106) dX7_leastVictims_36 (by decide) (fun w => absurd c3 w) (fun _ => ?_)
        refine J_aload_n dX7_leastVictims_39 rfl rfl ?_
        refine J_iload dX7_leastVictims_40 rfl ?_
        refine J_aload_n dX7_leastVictims_42 rfl rfl ?_
        obtain ⟨vo4, zo4, ho4h, ho4, hf⟩ := rfs3 hf
        refine CV2i dX7_leastVictims_43 (mX7_costOf hst ho4) tk_343 iX7_costOf k1 (by decide) rfl ⟨by decide, by decide⟩ ⟨by decide, by decide⟩ (Nat.le_of_ble_eq_true rfl) ?_
        refine S_istore_5 dX7_leastVictims_46 rfl (by decide) ?_
        refine J_iload dX7_leastVictims_48 rfl ?_
        refine J_iload_n dX7_leastVictims_50 rfl rfl ?_
        rcases br hf with ⟨c5, hf⟩ | ⟨c5, hf⟩
        · refine J_icmp_lt (tgt := 72) dX7_leastVictims_51 (by decide) (fun _ => ?_) (fun w => absurd c5 w)
          refine J.sub (jsub_s (jsub_s (jsub_s (jsub_s (jsub_s (jsub_s (jsub_n (jsub_nil _)))))))) ?_
          exact wbX7_leastVictims_72 hst _ hq18 hf
        · refine J_icmp_lt (tgt := 72) dX7_leastVictims_51 (by decide) (fun w => absurd w c5) (fun _ => ?_)
          refine J_iload dX7_leastVictims_54 rfl ?_
          refine J_iload_n dX7_leastVictims_56 rfl rfl ?_
          rcases br hf with ⟨c6, hf⟩ | ⟨c6, hf⟩
          · refine J_icmp_ne (tgt := 76) dX7_leastVictims_57 (by decide) (fun w => absurd c6 w) (fun _ => ?_)
            refine J_iload dX7_leastVictims_60 rfl ?_
            obtain ⟨vo7, zo7, ho7h, ho7, hf⟩ := rfs3 hf
            refine CS1i (host := "") dX7_leastVictims_62 (mJ6_bitCount_0f7a4 hst ho7) tk_347 iJ6_bitCount_0f7a4 ⟨by decide, by decide⟩ ⟨by decide, by decide⟩ (Nat.le_of_ble_eq_true rfl) ?_
            refine J_iload_n dX7_leastVictims_65 rfl rfl ?_
            obtain ⟨vo8, zo8, ho8h, ho8, hf⟩ := rfs3 hf
            refine CS1i (host := "") dX7_leastVictims_66 (mJ6_bitCount_0f7a4 hst ho8) tk_347 iJ6_bitCount_0f7a4 ⟨by decide, by decide⟩ ⟨by decide, by decide⟩ (Nat.le_of_ble_eq_true rfl) ?_
            rcases br hf with ⟨c9, hf⟩ | ⟨c9, hf⟩
            · refine J_icmp_ge (tgt := 76) dX7_leastVictims_69 (by decide) (fun _ => ?_) (fun w => absurd c9 w)
              refine J.sub (jsub_s (jsub_s (jsub_s (jsub_s (jsub_s (jsub_s (jsub_n (jsub_nil _)))))))) ?_
              exact wbX7_leastVictims_76 hst _ hq18 hf
            · refine J_icmp_ge (tgt := 76) dX7_leastVictims_69 (by decide) (fun w => absurd w c9) (fun _ => ?_)
              refine J.sub (jsub_s (jsub_s (jsub_s (jsub_s (jsub_s (jsub_s (jsub_n (jsub_nil _)))))))) ?_
              exact wbX7_leastVictims_72 hst _ hq18 hf
          · refine J_icmp_ne (tgt := 76) dX7_leastVictims_57 (by decide) (fun _ => ?_) (fun w => absurd w c6)
            refine J.sub (jsub_s (jsub_s (jsub_s (jsub_s (jsub_s (jsub_s (jsub_n (jsub_nil _)))))))) ?_
            exact wbX7_leastVictims_76 hst _ hq18 hf
      · refine J_if_ne (tgt := 106) dX7_leastVictims_36 (by decide) (fun _ => ?_) (fun w => absurd w c3)
        refine J.sub (jsub_s (jsub_s (jsub_s (jsub_s (jsub_s (jsub_n (jsub_n (jsub_nil _)))))))) ?_
        exact wbX7_leastVictims_106 hst _ hq18 hf
theorem wfX7_leastVictims {g : JG} (hst : (jl g).stackTraces = false)   {a0 : Nat} {a1 : Nat} {z : Nat} {h : AH} {o : Int32 × Nat × AH} (hf : fX7_leastVictims  a0 a1 z h = some o) : J g MX7_leastVictims (jN g (some (.int o.1), o.2.1, o.2.2) rmX7_leastVictims.cells rmX7_leastVictims.slots) 0 [some (.ref a0), some (.ref a1), none, none, none, none, none] [] z h 0 0 := by
  unfold fX7_leastVictims at hf
  refine J_aload_n dX7_leastVictims_0 rfl rfl ?_
  obtain ⟨k1, hf⟩ := gds hf
  refine G_7_2 dX7_leastVictims_1 tk_186 k1 ?_
  obtain ⟨v2, ev2, hf⟩ := bls hf
  refine J_i ev2 ?_
  refine S_istore_n_2 dX7_leastVictims_4 rfl (by decide) ?_
  refine J_aload_n dX7_leastVictims_5 rfl rfl ?_
  refine J_aload_n dX7_leastVictims_6 rfl rfl ?_
  refine G_7_2 dX7_leastVictims_7 tk_186 k1 ?_
  refine J_aload_n dX7_leastVictims_10 rfl rfl ?_
  obtain ⟨vo3, zo3, ho3h, ho3, hf⟩ := rfs3 hf
  refine CV2i dX7_leastVictims_11 (mX7_costOf hst ho3) tk_343 iX7_costOf k1 (by decide) rfl ⟨by decide, by decide⟩ ⟨by decide, by decide⟩ (Nat.le_of_ble_eq_true rfl) ?_
  refine S_istore_n_3 dX7_leastVictims_14 rfl (by decide) ?_
  refine J_iconst (v := 1) dX7_leastVictims_15 (by decide) ?_
  refine S_istore_4 dX7_leastVictims_16 rfl (by decide) ?_
  refine J.sub (jsub_s (jsub_s (jsub_s (jsub_s (jsub_s (jsub_n (jsub_n (jsub_nil _)))))))) ?_
  exact wlX7_leastVictims_18 hst   _ _ _ _ _ _ _ _ _ hf
theorem mX7_leastVictims {g : JG} (hst : (jl g).stackTraces = false) {a0 : Nat} {a1 : Nat} {z : Nat} {h : AH} {o : Int32 × Nat × AH} (hf : fX7_leastVictims a0 a1 z h = some o) : jMet g yX7_leastVictims (wj yX7_leastVictims cX7_leastVictims 7 (some .int)) rmX7_leastVictims [.ref a0, .ref a1] z h (some (.int o.1), o.2.1, o.2.2) :=
  jMet_mk (by decide) (Nat.le_of_ble_eq_true rfl) [some (.ref a0), some (.ref a1), none, none, none, none, none] rfl (wfX7_leastVictims hst hf)
def fX3_bringBack  (a0 : Nat) (a1 : Nat) (z : Nat) (h : AH) : Option (Nat × AH) :=
  gd (kd h a0 = 4) ((if (iv h a0 1) ≤ 0 then (some (z, h)) else ((if 5 < (iv h a0 1) then (some (z, h)) else (bl (wI h a0 1 ((iv h a0 1) - 1)) (fun h4 => Option.bind (rv h4 a0 0) (fun b6 => gd (kd h4 b6 = 15) (gd (¬ (((iv h4 a0 1) : Int32) < 0 ∨ ln h4 b6 ≤ Int32.toNatClampNeg (iv h4 a0 1))) (on (rv h4 b6 (Int32.toNatClampNeg (iv h4 a0 1))) (some (z, h4)) (fun a9 => gd (kd h4 a1 = 1) (bd2 (fX0_copyFrom a1 a9 z h4) (fun zo12 ho12h => some (zo12, ho12h)))))))))))))
theorem wfX3_bringBack {g : JG} (hst : (jl g).stackTraces = false)   {a0 : Nat} {a1 : Nat} {z : Nat} {h : AH} {o : Nat × AH} (hf : fX3_bringBack  a0 a1 z h = some o) : J g MX3_bringBack (jN g (none, o.1, o.2) rmX3_bringBack.cells rmX3_bringBack.slots) 0 [some (.ref a0), some (.ref a1), none] [] z h 0 0 := by
  unfold fX3_bringBack at hf
  refine J_aload_n dX3_bringBack_0 rfl rfl ?_
  obtain ⟨k1, hf⟩ := gds hf
  refine G_3_1 dX3_bringBack_1 tk_224 k1 ?_
  rcases br hf with ⟨c2, hf⟩ | ⟨c2, hf⟩
  · refine J_if_le (tgt := 44) dX3_bringBack_4 (by decide) (fun _ => ?_) (fun w => absurd c2 w)
    cases hf
    exact J_vretN dX3_bringBack_44 rfl (by decide) (by decide)
  · refine J_if_le (tgt := 44) dX3_bringBack_4 (by decide) (fun w => absurd w c2) (fun _ => ?_)
    refine J_aload_n dX3_bringBack_7 rfl rfl ?_
    refine G_3_1 dX3_bringBack_8 tk_224 k1 ?_
    refine J_iconst (v := 5) dX3_bringBack_11 (by decide) ?_
    rcases br hf with ⟨c3, hf⟩ | ⟨c3, hf⟩
    · refine J_icmp_gt (tgt := 44) dX3_bringBack_12 (by decide) (fun _ => ?_) (fun w => absurd c3 w)
      cases hf
      exact J_vretN dX3_bringBack_44 rfl (by decide) (by decide)
    · refine J_icmp_gt (tgt := 44) dX3_bringBack_12 (by decide) (fun w => absurd w c3) (fun _ => ?_)
      refine J_aload_n dX3_bringBack_15 rfl rfl ?_
      refine J_dup dX3_bringBack_16 rfl ?_
      refine G_3_1 dX3_bringBack_17 tk_224 k1 ?_
      refine J_iconst (v := 1) dX3_bringBack_20 (by decide) ?_
      refine J_isub dX3_bringBack_21 ?_
      refine P_3_1 dX3_bringBack_22 tk_224 k1 ?_
      obtain ⟨h4, eh4, hf⟩ := bls hf
      refine J_h eh4 ?_
      refine J_aload_n dX3_bringBack_25 rfl rfl ?_
      have k5 : kd h4 a0 = 4 := by rw [eh4]; exact k1
      obtain ⟨b6, rb6, hf⟩ := rfs hf
      refine G_3_0 dX3_bringBack_26 tk_223 k5 rb6 ?_
      refine J_aload_n dX3_bringBack_29 rfl rfl ?_
      refine G_3_1 dX3_bringBack_30 tk_224 k5 ?_
      obtain ⟨k7, hf⟩ := gds hf
      obtain ⟨n8, hf⟩ := gds hf
      refine J_aaload dX3_bringBack_33 k7 n8 ?_
      refine S_astore_nq_2 dX3_bringBack_34 rfl (by decide) ?_
      refine J_aload_nq dX3_bringBack_35 rfl rfl ?_
      rcases ons hf with ⟨c10, hf⟩ | ⟨a9, c10, hf⟩
      · rw [c10]
        refine J_ifnull (r := none) (tgt := 44) dX3_bringBack_36 (by decide) (fun _ => ?_) (fun w e => nomatch e)
        cases hf
        exact J_vretN dX3_bringBack_44 rfl (by decide) (by decide)
      · rw [c10]
        refine J_ifnull (r := some a9) (tgt := 44) dX3_bringBack_36 (by decide) (fun e => nomatch e) (fun _ _ => ?_)
        refine J_aload_n dX3_bringBack_39 rfl rfl ?_
        refine J_aload_n dX3_bringBack_40 rfl rfl ?_
        obtain ⟨k11, hf⟩ := gds hf
        obtain ⟨zo12, ho12h, ho12, hf⟩ := rfs2 hf
        refine CV1v dX3_bringBack_41 (mX0_copyFrom hst ho12) tk_581 iX0_copyFrom k11 (by decide) rfl ⟨by decide, by decide⟩ ⟨by decide, by decide⟩ (Nat.le_of_ble_eq_true rfl) ?_
        cases hf
        exact J_vretN dX3_bringBack_44 rfl (by decide) (by decide)
theorem mX3_bringBack {g : JG} (hst : (jl g).stackTraces = false) {a0 : Nat} {a1 : Nat} {z : Nat} {h : AH} {o : Nat × AH} (hf : fX3_bringBack a0 a1 z h = some o) : jMet g yX3_bringBack (wj yX3_bringBack cX3_bringBack 3 none) rmX3_bringBack [.ref a0, .ref a1] z h (none, o.1, o.2) :=
  jMet_mk (by decide) (Nat.le_of_ble_eq_true rfl) [some (.ref a0), some (.ref a1), none] rfl (wfX3_bringBack hst hf)
